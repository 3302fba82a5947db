/-! the beginnings of a pass are one list -/
theorem ln_at {nd : List (List Nat)} {t : List Nat} (h : t ∈ nd) : ln nd (nd.idxOf t) = t := by
  have k := List.idxOf_lt_length_iff.2 h
  unfold ln
  rw [List.getD_eq_getElem?_getD, List.getElem?_eq_getElem k]
  simp
theorem nd_one {rs : List zRu} {nd nd' : List (List Nat)} (hw : wRs rs) (h : wNd rs false nd) (h' : wNd rs false nd') : nd = nd' := by
  have mem : ∀ t, t ∈ nd ↔ t ∈ nd' := fun t => by rw [h.2.2.2.2.1 t, h'.2.2.2.2.1 t]
  have key : ∀ (a b : List (List Nat)), wNd rs false a → wNd rs false b → (∀ t, t ∈ a ↔ t ∈ b) → ∀ i, (∀ j, j < i → ln a j = ln b j) → i < a.length → i < b.length → zcd (ln b i) ≤ zcd (ln a i) := by
    intro a b ha hb hm i hj h1 h2
    have m1 : ln a i ∈ b := (hm _).1 (by simp [ln, h1])
    have k1 : b.idxOf (ln a i) < b.length := List.idxOf_lt_length_iff.2 m1
    have e1 : ln b (b.idxOf (ln a i)) = ln a i := ln_at m1
    rcases Nat.lt_or_ge (b.idxOf (ln a i)) i with q | q
    · have := hj _ q
      rw [e1] at this
      have x := ln_idx_ ha.2.2.2.1 (i := b.idxOf (ln a i)) (by omega)
      have y := ln_idx_ ha.2.2.2.1 h1
      rw [this, y] at x
      omega
    · rcases Nat.eq_or_lt_of_le q with q2 | q2
      · have e3 : ln b i = ln a i := by rw [← q2] at e1; exact e1
        rw [e3]; exact Nat.le_refl _
      · have := nd_mono hw hb q2 k1
        rw [e1] at this; omega
  have same : ∀ n i, i < n → i < nd.length → i < nd'.length → ln nd i = ln nd' i := by
    intro n
    induction n with
    | zero => intro i hi; omega
    | succ n ih =>
      intro i hi h1 h2
      by_cases q : i < n
      · exact ih i q h1 h2
      · have hin : i = n := by omega
        subst hin
        have a := key nd nd' h h' mem i (fun j hj => ih j hj (by omega) (by omega)) h1 h2
        have b := key nd' nd h' h (fun t => (mem t).symm) i (fun j hj => (ih j hj (by omega) (by omega)).symm) h2 h1
        exact cd_inj2 (nd_c3 hw h (by simp [ln, h1])) (nd_c3 hw h' (by simp [ln, h2])) (by omega)
  have len : ∀ (a b : List (List Nat)), wNd rs false a → wNd rs false b → (∀ t, t ∈ a ↔ t ∈ b) → (∀ i, i < a.length → i < b.length → ln a i = ln b i) → b.length ≤ a.length := by
    intro a b ha hb hm hs
    refine Classical.byContradiction (fun q => ?_)
    have hlt : a.length < b.length := by omega
    have m1 : ln b a.length ∈ a := (hm _).2 (by simp [ln, hlt])
    have k1 : a.idxOf (ln b a.length) < a.length := List.idxOf_lt_length_iff.2 m1
    have e1 : ln a (a.idxOf (ln b a.length)) = ln b a.length := ln_at m1
    have e2 := hs _ k1 (by omega)
    rw [e1] at e2
    have x := ln_idx_ hb.2.2.2.1 hlt
    have y := ln_idx_ hb.2.2.2.1 (i := a.idxOf (ln b a.length)) (by omega)
    rw [← e2, x] at y
    omega
  have hl : nd.length = nd'.length := by
    have a := len nd nd' h h' mem (fun i h1 h2 => same (i + 1) i (by omega) h1 h2)
    have b := len nd' nd h' h (fun t => (mem t).symm) (fun i h1 h2 => (same (i + 1) i (by omega) h2 h1).symm)
    omega
  refine List.ext_getElem hl (fun i h1 h2 => ?_)
  have := same (i + 1) i (by omega) h1 h2
  simpa [ln, h1, h2] using this
noncomputable def zND (rs : List zRu) : List (List Nat) := Classical.epsilon (fun nd => wNd rs false nd)
theorem nd_is {rs : List zRu} {nd : List (List Nat)} (h : wNd rs false nd) : wNd rs false (zND rs) := Classical.epsilon_spec (p := fun nd => wNd rs false nd) ⟨nd, h⟩
/-! what is told of the script -/
section
variable {S : zM} {w : zWs} {T U : Nat}
theorem r_told (h : cMn S w T U) : zR S 1 10 = some T := h.1.2.2.2.2.2.2.2.2.2.2.2.2.2.2.2.2.2.1
theorem told_ns {a : Int32} (q : (wSc w).2.2.length = 0) : zix a (wSc w).2.2.length = none := by
  rw [q]; unfold zix; split <;> rfl
end
def sp_about (a : Int32) (w : zWs) : Int32 × zWs := if (wSc w).2.2.length = 0 then zrf w 1 else if a = 0 then zan w (nI (wSc w).1) else if a = 1 then zan w (nI (wSc w).2.1.length) else if a = 2 then zan w (nI (wSc w).2.2.length) else if a = 3 then zan w (nI (zmany (wSc w).2.2)) else zrf w 1
theorem hc_about (a : Int32) : zHc (f_Cl_about 1 a) (sp_about a) := fun S w h ho => by
  obtain ⟨T, U, hm, hs, ht⟩ := h
  have ns := cl_ns hm ho
  have r10 := r_told hm
  have hS := hm.2.2.1.1
  have h1 := hm.1.1
  obtain ⟨e0, e1⟩ := hc_same hm hs 0
  obtain ⟨f0, f1⟩ := hc_same hm hs 1
  unfold sp_about
  by_cases q : (wSc w).2.2.length = 0
  · rw [if_pos q] at ns
    rw [if_pos q]
    exact ⟨_, by simp [f_Cl_about, -Prod.exists, -Prod.forall, ↓bb_gf, ↓bb_gr, ↓bb_len, ↓bb_ga, ↓bb_gl, ↓bb_go, ↓bb_pf, ↓bb_pz, ↓bb_pr, ↓bb_pa, ↓bb_pb, ↓bb_pl, ↓bb_po, ↓bb_cl, ↓bb_some, ↓bb_RI, ↓bb_RJ, mm_hI, mm_hJ, mm_hR, mm_nI, mm_nJ, mm_nR, mm_sI, mm_sJ, mm_sR, mm_RI, mm_RJ, mm_IJ, mm_IR, mm_JI, mm_JR, mm_II, mm_JJ, mm_RR, h1, ↓bS ns, ↓bS (cl_refuse h1 1), zrf] <;> rfl, f0, f1⟩
  · rw [if_neg q] at ns
    rw [if_neg q]
    by_cases q0 : a = 0
    · rw [if_pos q0]
      exact ⟨_, by simp [f_Cl_about, -Prod.exists, -Prod.forall, ↓bb_gf, ↓bb_gr, ↓bb_len, ↓bb_ga, ↓bb_gl, ↓bb_go, ↓bb_pf, ↓bb_pz, ↓bb_pr, ↓bb_pa, ↓bb_pb, ↓bb_pl, ↓bb_po, ↓bb_cl, ↓bb_some, ↓bb_RI, ↓bb_RJ, mm_hI, mm_hJ, mm_hR, mm_nI, mm_nJ, mm_nR, mm_sI, mm_sJ, mm_sR, mm_RI, mm_RJ, mm_IJ, mm_IR, mm_JI, mm_JR, mm_II, mm_JJ, mm_RR, h1, ↓bS ns, q0, ↓bS r10, hS.1.1, hS.2.1, ↓bS (cl_answer h1 _), zan] <;> rfl, e0, e1⟩
    · rw [if_neg q0]
      by_cases q1 : a = 1
      · rw [if_pos q1]
        exact ⟨_, by simp [f_Cl_about, -Prod.exists, -Prod.forall, ↓bb_gf, ↓bb_gr, ↓bb_len, ↓bb_ga, ↓bb_gl, ↓bb_go, ↓bb_pf, ↓bb_pz, ↓bb_pr, ↓bb_pa, ↓bb_pb, ↓bb_pl, ↓bb_po, ↓bb_cl, ↓bb_some, ↓bb_RI, ↓bb_RJ, mm_hI, mm_hJ, mm_hR, mm_nI, mm_nJ, mm_nR, mm_sI, mm_sJ, mm_sR, mm_RI, mm_RJ, mm_IJ, mm_IR, mm_JI, mm_JR, mm_II, mm_JJ, mm_RR, h1, ↓bS ns, q1, ↓bS r10, hS.1.1, hS.2.2.1, ↓bS (cl_answer h1 _), zan] <;> rfl, e0, e1⟩
      · rw [if_neg q1]
        by_cases q2 : a = 2
        · rw [if_pos q2]
          exact ⟨_, by simp [f_Cl_about, -Prod.exists, -Prod.forall, ↓bb_gf, ↓bb_gr, ↓bb_len, ↓bb_ga, ↓bb_gl, ↓bb_go, ↓bb_pf, ↓bb_pz, ↓bb_pr, ↓bb_pa, ↓bb_pb, ↓bb_pl, ↓bb_po, ↓bb_cl, ↓bb_some, ↓bb_RI, ↓bb_RJ, mm_hI, mm_hJ, mm_hR, mm_nI, mm_nJ, mm_nR, mm_sI, mm_sJ, mm_sR, mm_RI, mm_RJ, mm_IJ, mm_IR, mm_JI, mm_JR, mm_II, mm_JJ, mm_RR, h1, ↓bS ns, q2, ↓bS r10, hS.1.1, hS.2.2.2.1, ↓bS (cl_answer h1 _), zan] <;> rfl, e0, e1⟩
        · rw [if_neg q2]
          by_cases q3 : a = 3
          · rw [if_pos q3]
            have rc := ruleCount hS.1 hS.2.2.2.1 hS.2.2.2.2.2.2.2.2.2 (fun p hp => ⟨(hS.2.2.2.2.2.1 p hp).1.1, (hS.2.2.2.2.2.1 p hp).2.1⟩)
            exact ⟨_, by simp [f_Cl_about, -Prod.exists, -Prod.forall, ↓bb_gf, ↓bb_gr, ↓bb_len, ↓bb_ga, ↓bb_gl, ↓bb_go, ↓bb_pf, ↓bb_pz, ↓bb_pr, ↓bb_pa, ↓bb_pb, ↓bb_pl, ↓bb_po, ↓bb_cl, ↓bb_some, ↓bb_RI, ↓bb_RJ, mm_hI, mm_hJ, mm_hR, mm_nI, mm_nJ, mm_nR, mm_sI, mm_sJ, mm_sR, mm_RI, mm_RJ, mm_IJ, mm_IR, mm_JI, mm_JR, mm_II, mm_JJ, mm_RR, h1, ↓bS ns, q3, ↓bS r10, hS.1.1, ↓bS rc, ↓bS (cl_answer h1 _), zan] <;> rfl, e0, e1⟩
          · rw [if_neg q3]
            exact ⟨_, by simp [f_Cl_about, -Prod.exists, -Prod.forall, ↓bb_gf, ↓bb_gr, ↓bb_len, ↓bb_ga, ↓bb_gl, ↓bb_go, ↓bb_pf, ↓bb_pz, ↓bb_pr, ↓bb_pa, ↓bb_pb, ↓bb_pl, ↓bb_po, ↓bb_cl, ↓bb_some, ↓bb_RI, ↓bb_RJ, mm_hI, mm_hJ, mm_hR, mm_nI, mm_nJ, mm_nR, mm_sI, mm_sJ, mm_sR, mm_RI, mm_RJ, mm_IJ, mm_IR, mm_JI, mm_JR, mm_II, mm_JJ, mm_RR, h1, ↓bS ns, q0, q1, q2, q3, ↓bS (cl_refuse h1 1), zrf] <;> rfl, f0, f1⟩
theorem many3 (ps : List zPs) (h : ps.length ≤ 3) : zmany ps = (zpa_ ps 0).2.length + (zpa_ ps 1).2.length + (zpa_ ps 2).2.length := by
  match ps, h with
  | [], _ => rfl
  | [a], _ => simp [zmany, zpa_]
  | [a, b], _ => simp [zmany, zpa_]
  | [a, b, c], _ => simp [zmany, zpa_]; omega
  | _ :: _ :: _ :: _ :: _, h => simp at h
theorem hm_about (a : Int32) : zHm (f_Mo_about 408 a) (sp_about a) := fun S w h ho => by
  obtain ⟨e0, e1, e2⟩ := mo_fresh h
  obtain ⟨n0, n1, n2⟩ := mo_no e1 (n := 1) (by omega)
  have n0' : f_Mo_no 408 1 (zfs S) = _ := n0
  have hc := e1.1
  have h8 := h.1.1.1
  have g8 := hc.1.1
  have v9 : zI (zfs S) 408 9 = (if (wSc w).2.2.length = 0 then 0 else 1) := hc.2.1.2.2.2.1
  unfold sp_about
  by_cases q : (wSc w).2.2.length = 0
  · rw [if_pos q] at v9
    rw [if_pos q]
    exact ⟨_, by simp [f_Mo_about, -Prod.exists, -Prod.forall, ↓bb_gf, ↓bb_gr, ↓bb_len, ↓bb_ga, ↓bb_gl, ↓bb_go, ↓bb_pf, ↓bb_pz, ↓bb_pr, ↓bb_pa, ↓bb_pb, ↓bb_pl, ↓bb_po, ↓bb_cl, ↓bb_some, ↓bb_RI, ↓bb_RJ, mm_hI, mm_hJ, mm_hR, mm_nI, mm_nJ, mm_nR, mm_sI, mm_sJ, mm_sR, mm_RI, mm_RJ, mm_IJ, mm_IR, mm_JI, mm_JR, mm_II, mm_JJ, mm_RR, h8, ↓bS e0, g8, v9, ↓bS n0', zrf] <;> rfl, n1, fr_trans e2 n2⟩
  · rw [if_neg q] at v9
    rw [if_neg q]
    by_cases q0 : a = 0
    · rw [if_pos q0]
      have v : zI (zfs S) 408 6 = nI (wSc w).1 := hc.2.1.1
      exact ⟨_, by simp [f_Mo_about, -Prod.exists, -Prod.forall, ↓bb_gf, ↓bb_gr, ↓bb_len, ↓bb_ga, ↓bb_gl, ↓bb_go, ↓bb_pf, ↓bb_pz, ↓bb_pr, ↓bb_pa, ↓bb_pb, ↓bb_pl, ↓bb_po, ↓bb_cl, ↓bb_some, ↓bb_RI, ↓bb_RJ, mm_hI, mm_hJ, mm_hR, mm_nI, mm_nJ, mm_nR, mm_sI, mm_sJ, mm_sR, mm_RI, mm_RJ, mm_IJ, mm_IR, mm_JI, mm_JR, mm_II, mm_JJ, mm_RR, h8, ↓bS e0, g8, v9, q0, v, zan] <;> rfl, e1, e2⟩
    · rw [if_neg q0]
      by_cases q1 : a = 1
      · rw [if_pos q1]
        have v : zI (zfs S) 408 7 = nI (wSc w).2.1.length := hc.2.1.2.1
        exact ⟨_, by simp [f_Mo_about, -Prod.exists, -Prod.forall, ↓bb_gf, ↓bb_gr, ↓bb_len, ↓bb_ga, ↓bb_gl, ↓bb_go, ↓bb_pf, ↓bb_pz, ↓bb_pr, ↓bb_pa, ↓bb_pb, ↓bb_pl, ↓bb_po, ↓bb_cl, ↓bb_some, ↓bb_RI, ↓bb_RJ, mm_hI, mm_hJ, mm_hR, mm_nI, mm_nJ, mm_nR, mm_sI, mm_sJ, mm_sR, mm_RI, mm_RJ, mm_IJ, mm_IR, mm_JI, mm_JR, mm_II, mm_JJ, mm_RR, h8, ↓bS e0, g8, v9, q1, v, zan] <;> rfl, e1, e2⟩
      · rw [if_neg q1]
        by_cases q2 : a = 2
        · rw [if_pos q2]
          have v : zI (zfs S) 408 8 = nI (wSc w).2.2.length := hc.2.1.2.2.1
          exact ⟨_, by simp [f_Mo_about, -Prod.exists, -Prod.forall, ↓bb_gf, ↓bb_gr, ↓bb_len, ↓bb_ga, ↓bb_gl, ↓bb_go, ↓bb_pf, ↓bb_pz, ↓bb_pr, ↓bb_pa, ↓bb_pb, ↓bb_pl, ↓bb_po, ↓bb_cl, ↓bb_some, ↓bb_RI, ↓bb_RJ, mm_hI, mm_hJ, mm_hR, mm_nI, mm_nJ, mm_nR, mm_sI, mm_sJ, mm_sR, mm_RI, mm_RJ, mm_IJ, mm_IR, mm_JI, mm_JR, mm_II, mm_JJ, mm_RR, h8, ↓bS e0, g8, v9, q2, v, zan] <;> rfl, e1, e2⟩
        · rw [if_neg q2]
          by_cases q3 : a = 3
          · rw [if_pos q3]
            have x6 : ∀ p, p < 3 → zI (zfs S) (408 + 3) p = nI (zpa_ (wSc w).2.2 p).2.length := hc.2.1.2.2.2.2.2.1
            have z0 : zinb (0 : Int32) 3 = true := by decide
            have z1 : zinb (1 : Int32) 3 = true := by decide
            have z2 : zinb (2 : Int32) 3 = true := by decide
            have c0 : (0 : Int32).toNatClampNeg = 0 := by decide
            have c1 : (1 : Int32).toNatClampNeg = 1 := by decide
            have c2 : (2 : Int32).toNatClampNeg = 2 := by decide
            have m3 := many3 (wSc w).2.2 ho.2.2.2.2.2.2.2.2.1
            have v0 := x6 0 (by omega)
            have v1 := x6 1 (by omega)
            have v2 := x6 2 (by omega)
            have ra : f_Mo_ruleAll 408 (zfs S) = some (nI (zmany (wSc w).2.2), zfs S) := by
              rw [m3]
              simp [f_Mo_ruleAll, -Prod.exists, -Prod.forall, ↓bb_gf, ↓bb_gr, ↓bb_len, ↓bb_ga, ↓bb_gl, ↓bb_go, ↓bb_pf, ↓bb_pz, ↓bb_pr, ↓bb_pa, ↓bb_pb, ↓bb_pl, ↓bb_po, ↓bb_cl, ↓bb_some, ↓bb_RI, ↓bb_RJ, mm_hI, mm_hJ, mm_hR, mm_nI, mm_nJ, mm_nR, mm_sI, mm_sJ, mm_sR, mm_RI, mm_RJ, mm_IJ, mm_IR, mm_JI, mm_JR, mm_II, mm_JJ, mm_RR, g8, ↓bS (mo_ruleMany hc.1), mh_ruleMany hc.1, z0, z1, z2, c0, c1, c2, v0, v1, v2, nI_add]
            exact ⟨_, by simp [f_Mo_about, -Prod.exists, -Prod.forall, ↓bb_gf, ↓bb_gr, ↓bb_len, ↓bb_ga, ↓bb_gl, ↓bb_go, ↓bb_pf, ↓bb_pz, ↓bb_pr, ↓bb_pa, ↓bb_pb, ↓bb_pl, ↓bb_po, ↓bb_cl, ↓bb_some, ↓bb_RI, ↓bb_RJ, mm_hI, mm_hJ, mm_hR, mm_nI, mm_nJ, mm_nR, mm_sI, mm_sJ, mm_sR, mm_RI, mm_RJ, mm_IJ, mm_IR, mm_JI, mm_JR, mm_II, mm_JJ, mm_RR, h8, ↓bS e0, g8, v9, q3, ↓bS ra, zan] <;> rfl, e1, e2⟩
          · rw [if_neg q3]
            exact ⟨_, by simp [f_Mo_about, -Prod.exists, -Prod.forall, ↓bb_gf, ↓bb_gr, ↓bb_len, ↓bb_ga, ↓bb_gl, ↓bb_go, ↓bb_pf, ↓bb_pz, ↓bb_pr, ↓bb_pa, ↓bb_pb, ↓bb_pl, ↓bb_po, ↓bb_cl, ↓bb_some, ↓bb_RI, ↓bb_RJ, mm_hI, mm_hJ, mm_hR, mm_nI, mm_nJ, mm_nR, mm_sI, mm_sJ, mm_sR, mm_RI, mm_RJ, mm_IJ, mm_IR, mm_JI, mm_JR, mm_II, mm_JJ, mm_RR, h8, ↓bS e0, g8, v9, q0, q1, q2, q3, ↓bS n0', zrf] <;> rfl, n1, fr_trans e2 n2⟩
theorem hk_about (a : Int32) : zHk (sp_about a) := hk_tr (fun w ho => by
  unfold sp_about
  split
  · exact ⟨1, by omega, rfl⟩
  · split
    · exact ⟨0, by omega, rfl⟩
    · split
      · exact ⟨0, by omega, rfl⟩
      · split
        · exact ⟨0, by omega, rfl⟩
        · split
          · exact ⟨0, by omega, rfl⟩
          · exact ⟨1, by omega, rfl⟩)
