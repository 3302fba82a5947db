/-! places that a call names -/
def zix (a : Int32) (n : Nat) : Option Nat := if a < 0 then none else if a.toNatClampNeg < n then some a.toNatClampNeg else none
theorem ix_some {a : Int32} {n j : Nat} (h : zix a n = some j) : a = nI j ∧ j < n ∧ j < 2 ^ 31 := by
  unfold zix at h
  split at h
  · cases h
  · rename_i q
    split at h
    · rename_i q2
      cases h
      obtain ⟨k, hk, rfl⟩ := nI_of q
      rw [nI_clamp hk] at q2 ⊢
      exact ⟨rfl, q2, hk⟩
    · cases h
theorem ix_none {a : Int32} {n : Nat} (h : zix a n = none) : a < 0 ∨ ∃ j, a = nI j ∧ j < 2 ^ 31 ∧ n ≤ j := by
  unfold zix at h
  split at h
  · rename_i q; exact Or.inl q
  · rename_i q
    obtain ⟨k, hk, rfl⟩ := nI_of q
    rw [nI_clamp hk] at h
    split at h
    · cases h
    · exact Or.inr ⟨k, rfl, hk, by omega⟩
theorem ix_nI {j n : Nat} (hj : j < 2 ^ 31) : zix (nI j) n = if j < n then some j else none := by
  unfold zix; rw [if_neg (nI_pos hj), nI_clamp hj]
section
variable {S : zM} {w : zWs} {T U : Nat}
theorem m_in0 (a : Int32) {n : Nat} (hn : n < 2 ^ 31) : f_Mo_in a 0 (nI n - 1) S = some (if (zix a n).isSome then 1 else 0, S) := by
  by_cases q : a < 0
  · have : zix a n = none := by unfold zix; rw [if_pos q]
    rw [this]
    simp [f_Mo_in, q]
  · obtain ⟨j, hj, rfl⟩ := nI_of q
    rw [ix_nI hj]
    by_cases q2 : j < n
    · have e : nI n - 1 = nI (n - 1) := pk_sub (b := 1) (by omega)
      have l : nI j ≤ nI (n - 1) := (nI_leI (by omega) (by omega)).2 (by omega)
      simp [f_Mo_in, q, e, l, q2]
    · have l : ¬ nI j ≤ nI n - 1 := by
        cases n with
        | zero =>
          have := (nn_lem (i := j) (m := 1) hj (by omega) (by omega)).1
          have e : nI 0 - 1 = -nI 1 := by decide
          rw [e]; exact this
        | succ n =>
          rw [nI_pred, nI_leI (by omega) (by omega)]; omega
      simp [f_Mo_in, q, l, q2]
theorem m_inK (a : Int32) {k : Nat} (hk : k < 2 ^ 31) : f_Mo_in a 0 (nI k) S = some (if (zix a (k + 1)).isSome then 1 else 0, S) := by
  by_cases q : a < 0
  · have : zix a (k + 1) = none := by unfold zix; rw [if_pos q]
    rw [this]
    simp [f_Mo_in, q]
  · obtain ⟨j, hj, rfl⟩ := nI_of q
    rw [ix_nI hj]
    by_cases q2 : j < k + 1
    · have l : nI j ≤ nI k := (nI_leI hj hk).2 (by omega)
      simp [f_Mo_in, q, l, q2]
    · have l : ¬ nI j ≤ nI k := by rw [nI_leI hj hk]; omega
      simp [f_Mo_in, q, l, q2]
theorem cl_ns (h : cMn S w T U) (ho : okW w) : f_Cl_noScript 1 S = some (if (wSc w).2.2.length = 0 then 1 else 0, S) := by
  have hS := h.2.2.1.1
  have h3 := ho.2.2.2.2.2.2.2.2.1
  have r10 := h.1.2.2.2.2.2.2.2.2.2.2.2.2.2.2.2.2.2.1
  have v := hS.2.2.2.1
  by_cases q : (wSc w).2.2.length = 0
  · have q' : nI (wSc w).2.2.length = 0 := by rw [q]; rfl
    simp [f_Cl_noScript, -Prod.exists, -Prod.forall, ↓bb_gf, ↓bb_gr, ↓bb_len, ↓bb_ga, ↓bb_gl, ↓bb_go, ↓bb_pf, ↓bb_pz, ↓bb_pr, ↓bb_pa, ↓bb_pb, ↓bb_pl, ↓bb_po, ↓bb_cl, ↓bb_some, ↓bb_RI, ↓bb_RJ, mm_hI, mm_hJ, mm_hR, mm_nI, mm_nJ, mm_nR, mm_sI, mm_sJ, mm_sR, mm_RI, mm_RJ, mm_IJ, mm_IR, mm_JI, mm_JR, mm_II, mm_JJ, mm_RR, h.1.1, ↓bS r10, hS.1.1, v, q', q]
    rfl
  · have q' : ¬ nI (wSc w).2.2.length = 0 := nI_ne0 (by omega) (by omega)
    simp [f_Cl_noScript, -Prod.exists, -Prod.forall, ↓bb_gf, ↓bb_gr, ↓bb_len, ↓bb_ga, ↓bb_gl, ↓bb_go, ↓bb_pf, ↓bb_pz, ↓bb_pr, ↓bb_pa, ↓bb_pb, ↓bb_pl, ↓bb_po, ↓bb_cl, ↓bb_some, ↓bb_RI, ↓bb_RJ, mm_hI, mm_hJ, mm_hR, mm_nI, mm_nJ, mm_nR, mm_sI, mm_sJ, mm_sR, mm_RI, mm_RJ, mm_IJ, mm_IR, mm_JI, mm_JR, mm_II, mm_JJ, mm_RR, h.1.1, ↓bS r10, hS.1.1, v, q', q]
theorem cl_pa (h : cMn S w T U) (a : Int32) : f_Script_passAt T a S = some ((zix a (wSc w).2.2.length).map (aPs T), S) := by
  rw [scr_passAt h.2.2.1.1]
  unfold zix
  split
  · rfl
  · split <;> rfl
/-- a rule by pass and number -/
def zix2 (w : zWs) (a b : Int32) : Option (Nat × Nat) := match zix a (wSc w).2.2.length with
  | none => none
  | some p => match zix b (zpa_ (wSc w).2.2 p).2.length with
    | none => none
    | some i => some (p, i)
theorem ix2_some {a b : Int32} {p i : Nat} (h : zix2 w a b = some (p, i)) : zix a (wSc w).2.2.length = some p ∧ zix b (zpa_ (wSc w).2.2 p).2.length = some i ∧ a = nI p ∧ b = nI i ∧ p < (wSc w).2.2.length ∧ i < (zpa_ (wSc w).2.2 p).2.length := by
  unfold zix2 at h
  split at h
  · cases h
  · rename_i q e
    split at h
    · cases h
    · rename_i r e2
      cases h
      have x := ix_some e
      have y := ix_some e2
      exact ⟨e, e2, x.1, y.1, x.2.1, y.2.1⟩
theorem cl_ra (h : cMn S w T U) (a b : Int32) : f_Script_ruleAt T a b S = some ((zix2 w a b).map (fun q => aPs T q.1 + 16 + 5 * q.2), S) := by
  rw [scr_ruleAt h.2.2.1.1]
  unfold zix2
  by_cases q1 : a < 0
  · have : zix a (wSc w).2.2.length = none := by unfold zix; rw [if_pos q1]
    rw [this, if_pos q1]; rfl
  · rw [if_neg q1]
    by_cases q2 : a.toNatClampNeg < (wSc w).2.2.length
    · have : zix a (wSc w).2.2.length = some a.toNatClampNeg := by unfold zix; rw [if_neg q1, if_pos q2]
      rw [this, if_pos q2]
      simp only
      by_cases q3 : b < 0
      · have : zix b (zpa_ (wSc w).2.2 a.toNatClampNeg).2.length = none := by unfold zix; rw [if_pos q3]
        rw [this, if_pos q3]; rfl
      · rw [if_neg q3]
        by_cases q4 : b.toNatClampNeg < (zpa_ (wSc w).2.2 a.toNatClampNeg).2.length
        · have : zix b (zpa_ (wSc w).2.2 a.toNatClampNeg).2.length = some b.toNatClampNeg := by unfold zix; rw [if_neg q3, if_pos q4]
          rw [this, if_pos q4]; rfl
        · have : zix b (zpa_ (wSc w).2.2 a.toNatClampNeg).2.length = none := by unfold zix; rw [if_neg q3, if_neg q4]
          rw [this, if_neg q4]; rfl
    · have : zix a (wSc w).2.2.length = none := by unfold zix; rw [if_neg q1, if_neg q2]
      rw [this, if_neg q2]; rfl
theorem mo_isPass (h : mCo S w) (ho : okW w) (a : Int32) : f_Mo_isPass 408 a S = some (if (zix a (wSc w).2.2.length).isSome then 1 else 0, S) := by
  have h3 := ho.2.2.2.2.2.2.2.2.1
  have v8 := h.2.1.2.2.1
  have v9 := h.2.1.2.2.2.1
  have i0 := m_in0 (S := S) a (n := (wSc w).2.2.length) (by omega)
  by_cases q : (wSc w).2.2.length = 0
  · rw [if_pos q] at v9
    have : zix a (wSc w).2.2.length = none := by
      rw [q]; unfold zix; split
      · rfl
      · rfl
    rw [this]
    simp [f_Mo_isPass, -Prod.exists, -Prod.forall, ↓bb_gf, ↓bb_gr, ↓bb_len, ↓bb_ga, ↓bb_gl, ↓bb_go, ↓bb_pf, ↓bb_pz, ↓bb_pr, ↓bb_pa, ↓bb_pb, ↓bb_pl, ↓bb_po, ↓bb_cl, ↓bb_some, ↓bb_RI, ↓bb_RJ, mm_hI, mm_hJ, mm_hR, mm_nI, mm_nJ, mm_nR, mm_sI, mm_sJ, mm_sR, mm_RI, mm_RJ, mm_IJ, mm_IR, mm_JI, mm_JR, mm_II, mm_JJ, mm_RR, h.1.1, v9]
  · rw [if_neg q] at v9
    cases e : zix a (wSc w).2.2.length with
    | none =>
      rw [e] at i0
      simp only [Option.isSome_none, Bool.false_eq_true, if_false] at i0
      simp [f_Mo_isPass, -Prod.exists, -Prod.forall, ↓bb_gf, ↓bb_gr, ↓bb_len, ↓bb_ga, ↓bb_gl, ↓bb_go, ↓bb_pf, ↓bb_pz, ↓bb_pr, ↓bb_pa, ↓bb_pb, ↓bb_pl, ↓bb_po, ↓bb_cl, ↓bb_some, ↓bb_RI, ↓bb_RJ, mm_hI, mm_hJ, mm_hR, mm_nI, mm_nJ, mm_nR, mm_sI, mm_sJ, mm_sR, mm_RI, mm_RJ, mm_IJ, mm_IR, mm_JI, mm_JR, mm_II, mm_JJ, mm_RR, h.1.1, v9, v8, ↓bS i0]
    | some p =>
      rw [e] at i0
      simp only [Option.isSome_some, if_true] at i0
      simp [f_Mo_isPass, -Prod.exists, -Prod.forall, ↓bb_gf, ↓bb_gr, ↓bb_len, ↓bb_ga, ↓bb_gl, ↓bb_go, ↓bb_pf, ↓bb_pz, ↓bb_pr, ↓bb_pa, ↓bb_pb, ↓bb_pl, ↓bb_po, ↓bb_cl, ↓bb_some, ↓bb_RI, ↓bb_RJ, mm_hI, mm_hJ, mm_hR, mm_nI, mm_nJ, mm_nR, mm_sI, mm_sJ, mm_sR, mm_RI, mm_RJ, mm_IJ, mm_IR, mm_JI, mm_JR, mm_II, mm_JJ, mm_RR, h.1.1, v9, v8, ↓bS i0]
theorem mo_isRule (h : mCo S w) (ho : okW w) (a b : Int32) : f_Mo_isRule 408 a b S = some (if (zix2 w a b).isSome then 1 else 0, S) := by
  have h3 := ho.2.2.2.2.2.2.2.2.1
  have ip := mo_isPass h ho a
  cases e : zix a (wSc w).2.2.length with
  | none =>
    rw [e] at ip
    simp only [Option.isSome_none, Bool.false_eq_true, if_false] at ip
    have : zix2 w a b = none := by unfold zix2; rw [e]
    rw [this]
    simp [f_Mo_isRule, -Prod.exists, -Prod.forall, ↓bb_gf, ↓bb_gr, ↓bb_len, ↓bb_ga, ↓bb_gl, ↓bb_go, ↓bb_pf, ↓bb_pz, ↓bb_pr, ↓bb_pa, ↓bb_pb, ↓bb_pl, ↓bb_po, ↓bb_cl, ↓bb_some, ↓bb_RI, ↓bb_RJ, mm_hI, mm_hJ, mm_hR, mm_nI, mm_nJ, mm_nR, mm_sI, mm_sJ, mm_sR, mm_RI, mm_RJ, mm_IJ, mm_IR, mm_JI, mm_JR, mm_II, mm_JJ, mm_RR, h.1.1, ↓bS ip]
  | some p =>
    rw [e] at ip
    simp only [Option.isSome_some, if_true] at ip
    obtain ⟨rfl, hp, _⟩ := ix_some e
    have r8 := (ps_w h.2.1.2.2.2.2.2.2.2.2.2.2.2.2 hp).1
    have z : zinb (nI p) 3 = true := (nn_in (by omega)).2 (by omega)
    have c : (nI p).toNatClampNeg = p := nI_clamp (by omega)
    have v := h.2.1.2.2.2.2.2.1 p (by omega)
    have i0 := m_in0 (S := S) b (n := (zpa_ (wSc w).2.2 p).2.length) (by omega)
    cases e2 : zix b (zpa_ (wSc w).2.2 p).2.length with
    | none =>
      rw [e2] at i0
      simp only [Option.isSome_none, Bool.false_eq_true, if_false] at i0
      have : zix2 w (nI p) b = none := by unfold zix2; rw [e]; simp only; rw [e2]
      rw [this]
      simp [f_Mo_isRule, -Prod.exists, -Prod.forall, ↓bb_gf, ↓bb_gr, ↓bb_len, ↓bb_ga, ↓bb_gl, ↓bb_go, ↓bb_pf, ↓bb_pz, ↓bb_pr, ↓bb_pa, ↓bb_pb, ↓bb_pl, ↓bb_po, ↓bb_cl, ↓bb_some, ↓bb_RI, ↓bb_RJ, mm_hI, mm_hJ, mm_hR, mm_nI, mm_nJ, mm_nR, mm_sI, mm_sJ, mm_sR, mm_RI, mm_RJ, mm_IJ, mm_IR, mm_JI, mm_JR, mm_II, mm_JJ, mm_RR, h.1.1, ↓bS ip, ↓bS (mo_ruleMany h.1), mh_ruleMany h.1, z, c, v, ↓bS i0]
    | some i =>
      rw [e2] at i0
      simp only [Option.isSome_some, if_true] at i0
      have : zix2 w (nI p) b = some (p, i) := by unfold zix2; rw [e]; simp only; rw [e2]
      rw [this]
      simp [f_Mo_isRule, -Prod.exists, -Prod.forall, ↓bb_gf, ↓bb_gr, ↓bb_len, ↓bb_ga, ↓bb_gl, ↓bb_go, ↓bb_pf, ↓bb_pz, ↓bb_pr, ↓bb_pa, ↓bb_pb, ↓bb_pl, ↓bb_po, ↓bb_cl, ↓bb_some, ↓bb_RI, ↓bb_RJ, mm_hI, mm_hJ, mm_hR, mm_nI, mm_nJ, mm_nR, mm_sI, mm_sJ, mm_sR, mm_RI, mm_RJ, mm_IJ, mm_IR, mm_JI, mm_JR, mm_II, mm_JJ, mm_RR, h.1.1, ↓bS ip, ↓bS (mo_ruleMany h.1), mh_ruleMany h.1, z, c, v, ↓bS i0]
end
/-! the first calls -/
theorem hk_tr {β : Type} {sp : zWs → β × zWs} (h : ∀ w, okW w → ∃ t, t < 8 ∧ (sp w).2 = sTr w t) : zHk sp := fun S w ho _ => by
  obtain ⟨t, ht, e⟩ := h w ho
  rw [e]; exact okW_tr ho ht
theorem hk_id {β : Type} {sp : zWs → β × zWs} (h : ∀ w, (sp w).2 = w) : zHk sp := fun S w ho _ => by rw [h w]; exact ho
theorem ko_refl (S : zM) : zko S S := fun b _ => ⟨rfl, fun j => ⟨rfl, rfl, rfl⟩⟩
theorem rm_refl (S : zM) : zrm S S := Or.inl ⟨rfl, rfl, rfl⟩
/-- the reference: a call that puts 'thrown' to 0 alone -/
theorem mo_th0 {S : zM} {w : zWs} (h : pMo S w) : pMo (zwI S 408 0 0) w ∧ zfr wMo S (zwI S 408 0 0) :=
  mo_keep (W := fun b j => b = 408 ∧ j = 0) h (fr_wI _ _ ⟨rfl, rfl⟩) (fun b j q => by unfold wMs; omega) (by omega) (by omega)
def sp_fault (w : zWs) : Int32 × zWs := (nI (wFa w), w)
theorem hc_fault : zHc (f_Cl_fault 1) sp_fault := fun S w h ho => by
  obtain ⟨T, U, hm, hs, ht⟩ := h
  exact ⟨S, by simp [f_Cl_fault, -Prod.exists, -Prod.forall, ↓bb_gf, ↓bb_gr, ↓bb_len, ↓bb_ga, ↓bb_gl, ↓bb_go, ↓bb_pf, ↓bb_pz, ↓bb_pr, ↓bb_pa, ↓bb_pb, ↓bb_pl, ↓bb_po, ↓bb_cl, ↓bb_some, ↓bb_RI, ↓bb_RJ, mm_hI, mm_hJ, mm_hR, mm_nI, mm_nJ, mm_nR, mm_sI, mm_sJ, mm_sR, mm_RI, mm_RJ, mm_IJ, mm_IR, mm_JI, mm_JR, mm_II, mm_JJ, mm_RR, hm.1.1, hm.2.1.2.2.2.2.1, sp_fault], ⟨T, U, hm, hs, ht⟩, ko_refl S, rm_refl S⟩
theorem hm_fault : zHm (f_Mo_fault 408) sp_fault := fun S w h ho => by
  obtain ⟨a, b⟩ := mo_th0 h
  exact ⟨_, by simp [f_Mo_fault, -Prod.exists, -Prod.forall, ↓bb_gf, ↓bb_gr, ↓bb_len, ↓bb_ga, ↓bb_gl, ↓bb_go, ↓bb_pf, ↓bb_pz, ↓bb_pr, ↓bb_pa, ↓bb_pb, ↓bb_pl, ↓bb_po, ↓bb_cl, ↓bb_some, ↓bb_RI, ↓bb_RJ, mm_hI, mm_hJ, mm_hR, mm_nI, mm_nJ, mm_nR, mm_sI, mm_sJ, mm_sR, mm_RI, mm_RJ, mm_IJ, mm_IR, mm_JI, mm_JR, mm_II, mm_JJ, mm_RR, h.1.1.1, h.1.2.2.2.2.1, sp_fault], a, b⟩
def sp_trouble (w : zWs) : Int32 × zWs := (nI (wTr w), w)
theorem hc_trouble : zHc (f_Cl_trouble 1) sp_trouble := fun S w h ho => by
  obtain ⟨T, U, hm, hs, ht⟩ := h
  exact ⟨S, by simp [f_Cl_trouble, -Prod.exists, -Prod.forall, ↓bb_gf, ↓bb_gr, ↓bb_len, ↓bb_ga, ↓bb_gl, ↓bb_go, ↓bb_pf, ↓bb_pz, ↓bb_pr, ↓bb_pa, ↓bb_pb, ↓bb_pl, ↓bb_po, ↓bb_cl, ↓bb_some, ↓bb_RI, ↓bb_RJ, mm_hI, mm_hJ, mm_hR, mm_nI, mm_nJ, mm_nR, mm_sI, mm_sJ, mm_sR, mm_RI, mm_RJ, mm_IJ, mm_IR, mm_JI, mm_JR, mm_II, mm_JJ, mm_RR, hm.1.1, ht, sp_trouble], ⟨T, U, hm, hs, ht⟩, ko_refl S, rm_refl S⟩
theorem hm_trouble : zHm (f_Mo_trouble 408) sp_trouble := fun S w h ho => by
  obtain ⟨a, b⟩ := mo_th0 h
  exact ⟨_, by simp [f_Mo_trouble, -Prod.exists, -Prod.forall, ↓bb_gf, ↓bb_gr, ↓bb_len, ↓bb_ga, ↓bb_gl, ↓bb_go, ↓bb_pf, ↓bb_pz, ↓bb_pr, ↓bb_pa, ↓bb_pb, ↓bb_pl, ↓bb_po, ↓bb_cl, ↓bb_some, ↓bb_RI, ↓bb_RJ, mm_hI, mm_hJ, mm_hR, mm_nI, mm_nJ, mm_nR, mm_sI, mm_sJ, mm_sR, mm_RI, mm_RJ, mm_IJ, mm_IR, mm_JI, mm_JR, mm_II, mm_JJ, mm_RR, h.1.1.1, h.2.1, sp_trouble], a, b⟩
def sp_where (w : zWs) : Int32 × zWs := (if wTr w = 4 then nI (wPl w) else -1, w)
theorem hc_where : zHc (f_Cl_where 1) sp_where := fun S w h ho => by
  obtain ⟨T, U, hm, hs, ht⟩ := h
  have t8 := ho.2.2.2.2.2.2.1
  refine ⟨S, ?_, ⟨T, U, hm, hs, ht⟩, ko_refl S, rm_refl S⟩
  by_cases q : wTr w = 4
  · have q' : nI (wTr w) = 4 := by rw [q]; rfl
    simp [f_Cl_where, -Prod.exists, -Prod.forall, ↓bb_gf, ↓bb_gr, ↓bb_len, ↓bb_ga, ↓bb_gl, ↓bb_go, ↓bb_pf, ↓bb_pz, ↓bb_pr, ↓bb_pa, ↓bb_pb, ↓bb_pl, ↓bb_po, ↓bb_cl, ↓bb_some, ↓bb_RI, ↓bb_RJ, mm_hI, mm_hJ, mm_hR, mm_nI, mm_nJ, mm_nR, mm_sI, mm_sJ, mm_sR, mm_RI, mm_RJ, mm_IJ, mm_IR, mm_JI, mm_JR, mm_II, mm_JJ, mm_RR, hm.1.1, ht, q', hm.2.1.2.2.2.2.2.1, sp_where, q]
    intro x; exact absurd rfl x
  · have q' : ¬ nI (wTr w) = 4 := fun x => q ((nI_eq (b := 4) (by omega) (by omega)).1 x)
    simp [f_Cl_where, -Prod.exists, -Prod.forall, ↓bb_gf, ↓bb_gr, ↓bb_len, ↓bb_ga, ↓bb_gl, ↓bb_go, ↓bb_pf, ↓bb_pz, ↓bb_pr, ↓bb_pa, ↓bb_pb, ↓bb_pl, ↓bb_po, ↓bb_cl, ↓bb_some, ↓bb_RI, ↓bb_RJ, mm_hI, mm_hJ, mm_hR, mm_nI, mm_nJ, mm_nR, mm_sI, mm_sJ, mm_sR, mm_RI, mm_RJ, mm_IJ, mm_IR, mm_JI, mm_JR, mm_II, mm_JJ, mm_RR, hm.1.1, ht, q', sp_where, q]
theorem hm_where : zHm (f_Mo_where 408) sp_where := fun S w h ho => by
  obtain ⟨a, b⟩ := mo_th0 h
  have t8 := ho.2.2.2.2.2.2.1
  refine ⟨_, ?_, a, b⟩
  by_cases q : wTr w = 4
  · have q' : nI (wTr w) = 4 := by rw [q]; rfl
    have v := h.2.2 q
    simp [f_Mo_where, -Prod.exists, -Prod.forall, ↓bb_gf, ↓bb_gr, ↓bb_len, ↓bb_ga, ↓bb_gl, ↓bb_go, ↓bb_pf, ↓bb_pz, ↓bb_pr, ↓bb_pa, ↓bb_pb, ↓bb_pl, ↓bb_po, ↓bb_cl, ↓bb_some, ↓bb_RI, ↓bb_RJ, mm_hI, mm_hJ, mm_hR, mm_nI, mm_nJ, mm_nR, mm_sI, mm_sJ, mm_sR, mm_RI, mm_RJ, mm_IJ, mm_IR, mm_JI, mm_JR, mm_II, mm_JJ, mm_RR, h.1.1.1, h.2.1, q', v, sp_where, q]
    intro x; exact absurd rfl x
  · have q' : ¬ nI (wTr w) = 4 := fun x => q ((nI_eq (b := 4) (by omega) (by omega)).1 x)
    simp [f_Mo_where, -Prod.exists, -Prod.forall, ↓bb_gf, ↓bb_gr, ↓bb_len, ↓bb_ga, ↓bb_gl, ↓bb_go, ↓bb_pf, ↓bb_pz, ↓bb_pr, ↓bb_pa, ↓bb_pb, ↓bb_pl, ↓bb_po, ↓bb_cl, ↓bb_some, ↓bb_RI, ↓bb_RJ, mm_hI, mm_hJ, mm_hR, mm_nI, mm_nJ, mm_nR, mm_sI, mm_sJ, mm_sR, mm_RI, mm_RJ, mm_IJ, mm_IR, mm_JI, mm_JR, mm_II, mm_JJ, mm_RR, h.1.1.1, h.2.1, q', sp_where, q]
def sp_size (a : Int32) (w : zWs) : Int32 × zWs := (if a = 0 then nI (wTp w).length else if a = 1 then nI (wAc w).length else if a = 2 then (match wCa w with | some c => nI c.1.length | none => 0) else -1, w)
theorem hc_size (a : Int32) : zHc (f_Cl_size 1 a) (sp_size a) := fun S w h ho => by
  obtain ⟨T, U, hm, hs, ht⟩ := h
  refine ⟨S, ?_, ⟨T, U, hm, hs, ht⟩, ko_refl S, rm_refl S⟩
  have r9 := hm.1.2.2.2.2.2.2.2.2.2.2.2.2.2.1
  have r2 := hm.1.2.2.2.2.2.1
  by_cases q0 : a = 0
  · simp [f_Cl_size, -Prod.exists, -Prod.forall, ↓bb_gf, ↓bb_gr, ↓bb_len, ↓bb_ga, ↓bb_gl, ↓bb_go, ↓bb_pf, ↓bb_pz, ↓bb_pr, ↓bb_pa, ↓bb_pb, ↓bb_pl, ↓bb_po, ↓bb_cl, ↓bb_some, ↓bb_RI, ↓bb_RJ, mm_hI, mm_hJ, mm_hR, mm_nI, mm_nJ, mm_nR, mm_sI, mm_sJ, mm_sR, mm_RI, mm_RJ, mm_IJ, mm_IR, mm_JI, mm_JR, mm_II, mm_JJ, mm_RR, hm.1.1, hm.2.1.1, sp_size, q0]
  · by_cases q1 : a = 1
    · simp [f_Cl_size, -Prod.exists, -Prod.forall, ↓bb_gf, ↓bb_gr, ↓bb_len, ↓bb_ga, ↓bb_gl, ↓bb_go, ↓bb_pf, ↓bb_pz, ↓bb_pr, ↓bb_pa, ↓bb_pb, ↓bb_pl, ↓bb_po, ↓bb_cl, ↓bb_some, ↓bb_RI, ↓bb_RJ, mm_hI, mm_hJ, mm_hR, mm_nI, mm_nJ, mm_nR, mm_sI, mm_sJ, mm_sR, mm_RI, mm_RJ, mm_IJ, mm_IR, mm_JI, mm_JR, mm_II, mm_JJ, mm_RR, hm.1.1, ↓bS r9, hm.1.2.2.2.2.2.2.2.2.2.2.2.2.2.2.1, hm.2.1.2.2.1, sp_size, q1]
    · by_cases q2 : a = 2
      · have v := hm.2.1.2.2.2.2.2.2
        cases e : wCa w with
        | none =>
          rw [e] at v
          simp only [Option.isSome_none, Bool.false_eq_true, if_false] at v
          simp [f_Cl_size, -Prod.exists, -Prod.forall, ↓bb_gf, ↓bb_gr, ↓bb_len, ↓bb_ga, ↓bb_gl, ↓bb_go, ↓bb_pf, ↓bb_pz, ↓bb_pr, ↓bb_pa, ↓bb_pb, ↓bb_pl, ↓bb_po, ↓bb_cl, ↓bb_some, ↓bb_RI, ↓bb_RJ, mm_hI, mm_hJ, mm_hR, mm_nI, mm_nJ, mm_nR, mm_sI, mm_sJ, mm_sR, mm_RI, mm_RJ, mm_IJ, mm_IR, mm_JI, mm_JR, mm_II, mm_JJ, mm_RR, hm.1.1, sp_size, q2, v, e]
        | some c =>
          rw [e] at v
          simp only [Option.isSome_some, if_true] at v
          obtain ⟨x, y, hx, hc⟩ := hm.2.2.2.1
          have hr := (hc c e).1
          have r3 : zR S 5 3 = some x := hx.1.2.2.2.2.2.2.2.2.1
          have l : zI S x 1 = nI c.1.length := hr.2.2.2.2.2.1
          simp [f_Cl_size, -Prod.exists, -Prod.forall, ↓bb_gf, ↓bb_gr, ↓bb_len, ↓bb_ga, ↓bb_gl, ↓bb_go, ↓bb_pf, ↓bb_pz, ↓bb_pr, ↓bb_pa, ↓bb_pb, ↓bb_pl, ↓bb_po, ↓bb_cl, ↓bb_some, ↓bb_RI, ↓bb_RJ, mm_hI, mm_hJ, mm_hR, mm_nI, mm_nJ, mm_nR, mm_sI, mm_sJ, mm_sR, mm_RI, mm_RJ, mm_IJ, mm_IR, mm_JI, mm_JR, mm_II, mm_JJ, mm_RR, hm.1.1, sp_size, q2, v, e, ↓bS r2, hx.1.1, ↓bS r3, hr.1, l]
      · simp [f_Cl_size, sp_size, q0, q1, q2]
theorem hm_size (a : Int32) : zHm (f_Mo_size 408 a) (sp_size a) := fun S w h ho => by
  obtain ⟨a1, b1⟩ := mo_th0 h
  refine ⟨_, ?_, a1, b1⟩
  by_cases q0 : a = 0
  · simp [f_Mo_size, -Prod.exists, -Prod.forall, ↓bb_gf, ↓bb_gr, ↓bb_len, ↓bb_ga, ↓bb_gl, ↓bb_go, ↓bb_pf, ↓bb_pz, ↓bb_pr, ↓bb_pa, ↓bb_pb, ↓bb_pl, ↓bb_po, ↓bb_cl, ↓bb_some, ↓bb_RI, ↓bb_RJ, mm_hI, mm_hJ, mm_hR, mm_nI, mm_nJ, mm_nR, mm_sI, mm_sJ, mm_sR, mm_RI, mm_RJ, mm_IJ, mm_IR, mm_JI, mm_JR, mm_II, mm_JJ, mm_RR, h.1.1.1, h.1.2.2.1, sp_size, q0]
  · by_cases q1 : a = 1
    · simp [f_Mo_size, -Prod.exists, -Prod.forall, ↓bb_gf, ↓bb_gr, ↓bb_len, ↓bb_ga, ↓bb_gl, ↓bb_go, ↓bb_pf, ↓bb_pz, ↓bb_pr, ↓bb_pa, ↓bb_pb, ↓bb_pl, ↓bb_po, ↓bb_cl, ↓bb_some, ↓bb_RI, ↓bb_RJ, mm_hI, mm_hJ, mm_hR, mm_nI, mm_nJ, mm_nR, mm_sI, mm_sJ, mm_sR, mm_RI, mm_RJ, mm_IJ, mm_IR, mm_JI, mm_JR, mm_II, mm_JJ, mm_RR, h.1.1.1, h.1.2.2.2.2.2.1, sp_size, q1]
    · by_cases q2 : a = 2
      · have v := h.1.2.2.2.2.2.2.2.1
        cases e : wCa w with
        | none =>
          rw [e] at v
          simp only [Option.isSome_none, Bool.false_eq_true, if_false] at v
          simp [f_Mo_size, -Prod.exists, -Prod.forall, ↓bb_gf, ↓bb_gr, ↓bb_len, ↓bb_ga, ↓bb_gl, ↓bb_go, ↓bb_pf, ↓bb_pz, ↓bb_pr, ↓bb_pa, ↓bb_pb, ↓bb_pl, ↓bb_po, ↓bb_cl, ↓bb_some, ↓bb_RI, ↓bb_RJ, mm_hI, mm_hJ, mm_hR, mm_nI, mm_nJ, mm_nR, mm_sI, mm_sJ, mm_sR, mm_RI, mm_RJ, mm_IJ, mm_IR, mm_JI, mm_JR, mm_II, mm_JJ, mm_RR, h.1.1.1, sp_size, q2, v, e]
        | some c =>
          rw [e] at v
          simp only [Option.isSome_some, if_true] at v
          have l := (h.1.2.2.2.2.2.2.2.2 c e).1
          simp [f_Mo_size, -Prod.exists, -Prod.forall, ↓bb_gf, ↓bb_gr, ↓bb_len, ↓bb_ga, ↓bb_gl, ↓bb_go, ↓bb_pf, ↓bb_pz, ↓bb_pr, ↓bb_pa, ↓bb_pb, ↓bb_pl, ↓bb_po, ↓bb_cl, ↓bb_some, ↓bb_RI, ↓bb_RJ, mm_hI, mm_hJ, mm_hR, mm_nI, mm_nJ, mm_nR, mm_sI, mm_sJ, mm_sR, mm_RI, mm_RJ, mm_IJ, mm_IR, mm_JI, mm_JR, mm_II, mm_JJ, mm_RR, h.1.1.1, sp_size, q2, v, e, l]
      · simp [f_Mo_size, -Prod.exists, -Prod.forall, ↓bb_gf, ↓bb_gr, ↓bb_len, ↓bb_ga, ↓bb_gl, ↓bb_go, ↓bb_pf, ↓bb_pz, ↓bb_pr, ↓bb_pa, ↓bb_pb, ↓bb_pl, ↓bb_po, ↓bb_cl, ↓bb_some, ↓bb_RI, ↓bb_RJ, mm_hI, mm_hJ, mm_hR, mm_nI, mm_nJ, mm_nR, mm_sI, mm_sJ, mm_sR, mm_RI, mm_RJ, mm_IJ, mm_IR, mm_JI, mm_JR, mm_II, mm_JJ, mm_RR, h.1.1.1, sp_size, q0, q1, q2]
