/-! what was carried last -/
section
variable {S : zM} {w : zWs} {T U : Nat}
theorem r_lat (h : cMn S w T U) : zR S 1 2 = some 5 := h.1.2.2.2.2.2.1
theorem r_hel (h : cMn S w T U) : zR S 1 3 = some 19 := h.1.2.2.2.2.2.2.1
theorem r_tk2 (h : cMn S w T U) : zR S 1 5 = some 35 := h.1.2.2.2.2.2.2.2.2.1
theorem r_cam (h : cMn S w T U) : zR S 1 6 = some 37 := h.1.2.2.2.2.2.2.2.2.2.1
theorem r_chg (h : cMn S w T U) : zR S 1 7 = some 39 ∧ zh S 39 = (100, 61) := ⟨h.1.2.2.2.2.2.2.2.2.2.2.1, h.1.2.2.2.2.2.2.2.2.2.2.2.1⟩
theorem v_car (h : cMn S w T U) : zI S 1 17 = (if (wCa w).isSome then 1 else 0) := h.2.1.2.2.2.2.2.2
theorem cl_lat (h : cMn S w T U) {c : zCa} (hc : wCa w = some c) : zh S 5 = (1, 0) ∧ ∃ x y, aCar S 5 x y ∧ zR S 5 3 = some x ∧ pRow S x 60 c.1 ∧ pSv S 5 c.2.2.2 ∧ ∀ q, q < 3 → q < (wSc w).2.2.length → pRow S (13 + 2 * q) 60 (c.2.1 q) ∧ zI S 7 q = nI (c.2.2.1 q) := by
  obtain ⟨x, y, a, b⟩ := h.2.2.2.1
  obtain ⟨b1, b2, b3⟩ := b c hc
  exact ⟨a.1.1, x, y, a, a.1.2.2.2.2.2.2.2.2.1, b1, b2, b3⟩
end
def sp_out (k : Int32) (w : zWs) : Int32 × zWs := match wCa w with
  | none => zrf w 1
  | some c => zLt c.1 k w
theorem hk_out (k : Int32) : zHk (sp_out k) := hk_tr (fun w ho => by
  unfold sp_out
  cases wCa w with
  | none => exact ⟨1, by omega, rfl⟩
  | some c => exact lt_tr _ _ _)
theorem hc_out (k : Int32) : zHc (f_Cl_out 1 k) (sp_out k) := fun S w h ho => by
  obtain ⟨T, U, hm, hs, ht⟩ := h; have h1 := hm.1.1; have r10 := r_told hm; have hS := hm.2.2.1.1; obtain ⟨e0, e1⟩ := hc_same hm hs 0; obtain ⟨f0, f1⟩ := hc_same hm hs 1; have h3 := ho.2.2.2.2.2.2.2.2.1
  have v := v_car hm
  unfold sp_out
  cases e : wCa w with
  | none =>
    rw [e] at v
    simp only [Option.isSome_none, Bool.false_eq_true, if_false] at v
    exact ⟨_, by simp [f_Cl_out, -Prod.exists, -Prod.forall, ↓bb_gf, ↓bb_gr, ↓bb_len, ↓bb_ga, ↓bb_gl, ↓bb_go, ↓bb_pf, ↓bb_pz, ↓bb_pr, ↓bb_pa, ↓bb_pb, ↓bb_pl, ↓bb_po, ↓bb_cl, ↓bb_some, ↓bb_RI, ↓bb_RJ, mm_hI, mm_hJ, mm_hR, mm_nI, mm_nJ, mm_nR, mm_sI, mm_sJ, mm_sR, mm_RI, mm_RJ, mm_IJ, mm_IR, mm_JI, mm_JR, mm_II, mm_JJ, mm_RR, h1, v, ↓bS (cl_refuse h1 1), zrf] <;> rfl, f0, f1⟩
  | some c =>
    rw [e] at v
    simp only [Option.isSome_some, if_true] at v
    obtain ⟨l1, x, y, l2, l3, l4, l5, l6⟩ := cl_lat hm e
    obtain ⟨S', r1, r2⟩ := cl_letter hm hs l4 k
    exact ⟨S', by simp [f_Cl_out, -Prod.exists, -Prod.forall, ↓bb_gf, ↓bb_gr, ↓bb_len, ↓bb_ga, ↓bb_gl, ↓bb_go, ↓bb_pf, ↓bb_pz, ↓bb_pr, ↓bb_pa, ↓bb_pb, ↓bb_pl, ↓bb_po, ↓bb_cl, ↓bb_some, ↓bb_RI, ↓bb_RJ, mm_hI, mm_hJ, mm_hR, mm_nI, mm_nJ, mm_nR, mm_sI, mm_sJ, mm_sR, mm_RI, mm_RJ, mm_IJ, mm_IR, mm_JI, mm_JR, mm_II, mm_JJ, mm_RR, h1, v, ↓bS (r_lat hm), l1, ↓bS l3, ↓bS r1] <;> rfl, r2⟩
/-- the reference: a letter of one of its rows -/
theorem mo_lt {S : zM} {w : zWs} {b o N n : Nat} {xs : List Nat} (h : pMo S (sTr w 0)) (hb : zh S b = (100, N)) (hn : xs.length ≤ n) (hN : o + n ≤ N) (hN2 : N < 1000) (hv : ∀ k, k < xs.length → zI S b (o + k) = nI (lg xs k)) (k : Int32) {f : zM → Option (Int32 × zM)} (hb0 : b ≠ 0)
    (hf : f S = Option.bind (f_Mo_in k 0 (nI xs.length - 1) S) (fun p => if p.1 = 0 then Option.bind (zcl p.2 12 408 (f_Mo_no 408 1 p.2)) (fun q => some (q.1, q.2)) else Option.bind (zga p.2 100 b (nI o + k)) (fun x => some (x, p.2)))) : ∃ S', f S = some ((zLt xs k w).1, S') ∧ pMo S' (zLt xs k w).2 ∧ zfr wMo S S' := by
  have ik := m_in0 (S := S) k (n := xs.length) (by omega)
  obtain ⟨m0, m1, m2⟩ := mo_no h (n := 1) (by omega)
  have m0' : f_Mo_no 408 1 S = some (-1, zwI S 408 1 (nI 1)) := m0
  rw [hf]
  unfold zLt
  cases e : zix k xs.length with
  | none =>
    rw [e] at ik
    simp only [Option.isSome_none, Bool.false_eq_true, if_false] at ik
    exact ⟨_, by simp [-Prod.exists, -Prod.forall, ↓bb_gf, ↓bb_gr, ↓bb_len, ↓bb_ga, ↓bb_gl, ↓bb_go, ↓bb_pf, ↓bb_pz, ↓bb_pr, ↓bb_pa, ↓bb_pb, ↓bb_pl, ↓bb_po, ↓bb_cl, ↓bb_some, ↓bb_RI, ↓bb_RJ, mm_hI, mm_hJ, mm_hR, mm_nI, mm_nJ, mm_nR, mm_sI, mm_sJ, mm_sR, mm_RI, mm_RJ, mm_IJ, mm_IR, mm_JI, mm_JR, mm_II, mm_JJ, mm_RR, ↓bS ik, h.1.1.1, ↓bS m0', zrf] <;> rfl, m1, m2⟩
  | some j =>
    rw [e] at ik
    simp only [Option.isSome_some, if_true] at ik
    obtain ⟨rfl, hj, hj2⟩ := ix_some e
    have z : zinb (nI (o + j)) N = true := (nn_in (by omega)).2 (by omega)
    have c : (nI (o + j)).toNatClampNeg = o + j := nI_clamp (by omega)
    exact ⟨_, by simp [-Prod.exists, -Prod.forall, ↓bb_gf, ↓bb_gr, ↓bb_len, ↓bb_ga, ↓bb_gl, ↓bb_go, ↓bb_pf, ↓bb_pz, ↓bb_pr, ↓bb_pa, ↓bb_pb, ↓bb_pl, ↓bb_po, ↓bb_cl, ↓bb_some, ↓bb_RI, ↓bb_RJ, mm_hI, mm_hJ, mm_hR, mm_nI, mm_nJ, mm_nR, mm_sI, mm_sJ, mm_sR, mm_RI, mm_RJ, mm_IJ, mm_IR, mm_JI, mm_JR, mm_II, mm_JJ, mm_RR, ↓bS ik, hb, nI_add, z, c, hv j hj, zan] <;> rfl, h, fr_refl _ _⟩
theorem hm_out (k : Int32) : zHm (f_Mo_out 408 k) (sp_out k) := fun S w h ho => by
  obtain ⟨e0, e1, e2⟩ := mo_fresh h; obtain ⟨n0, n1, n2⟩ := mo_no e1 (n := 1) (by omega); have n0' : f_Mo_no 408 1 (zfs S) = some (-1, zwI (zfs S) 408 1 (nI 1)) := n0; have hc := e1.1; have h8 := h.1.1.1; have g8 := hc.1.1; have h3 := ho.2.2.2.2.2.2.2.2.1; have ho' : okW (sTr w 0) := okW_tr ho (by omega)
  have v : zI (zfs S) 408 48 = (if (wCa w).isSome then 1 else 0) := hc.2.2.2.2.2.2.2.1
  unfold sp_out
  cases e : wCa w with
  | none =>
    rw [e] at v
    simp only [Option.isSome_none, Bool.false_eq_true, if_false] at v
    exact ⟨_, by simp [f_Mo_out, -Prod.exists, -Prod.forall, ↓bb_gf, ↓bb_gr, ↓bb_len, ↓bb_ga, ↓bb_gl, ↓bb_go, ↓bb_pf, ↓bb_pz, ↓bb_pr, ↓bb_pa, ↓bb_pb, ↓bb_pl, ↓bb_po, ↓bb_cl, ↓bb_some, ↓bb_RI, ↓bb_RJ, mm_hI, mm_hJ, mm_hR, mm_nI, mm_nJ, mm_nR, mm_sI, mm_sJ, mm_sR, mm_RI, mm_RJ, mm_IJ, mm_IR, mm_JI, mm_JR, mm_II, mm_JJ, mm_RR, h8, ↓bS e0, g8, v, ↓bS n0', zrf] <;> rfl, n1, fr_trans e2 n2⟩
  | some c =>
    rw [e] at v
    simp only [Option.isSome_some, if_true] at v
    obtain ⟨b1, b2, b3, b4⟩ := hc.2.2.2.2.2.2.2.2 c e
    have l60 := (ho.2.2.2.2.2.1 c e).2.1
    have z0 : (nI 0 : Int32) + k = k := by have : nI 0 = (0 : Int32) := rfl; rw [this]; exact Int32.zero_add k
    obtain ⟨S', r1, r2, r3⟩ := mo_lt (w := w) (b := 433) (o := 0) (N := 60) (n := 60) (xs := c.1) e1 (mh_out hc.1) l60 (by omega) (by omega) (fun k hk => by rw [Nat.zero_add]; exact b2 k hk) k (f := fun S1 => Option.bind (f_Mo_in k 0 (nI c.1.length - 1) S1) (fun p => if p.1 = 0 then Option.bind (zcl p.2 12 408 (f_Mo_no 408 1 p.2)) (fun q => some (q.1, q.2)) else Option.bind (zga p.2 100 433 k) (fun x => some (x, p.2)))) (by omega) (by simp only [z0])
    refine ⟨S', ?_, r2, fr_trans e2 r3⟩
    rw [← r1]
    have ik := m_in0 (S := zfs S) k (n := c.1.length) (by omega)
    simp [f_Mo_out, -Prod.exists, -Prod.forall, ↓bb_gf, ↓bb_gr, ↓bb_len, ↓bb_ga, ↓bb_gl, ↓bb_go, ↓bb_pf, ↓bb_pz, ↓bb_pr, ↓bb_pa, ↓bb_pb, ↓bb_pl, ↓bb_po, ↓bb_cl, ↓bb_some, ↓bb_RI, ↓bb_RJ, mm_hI, mm_hJ, mm_hR, mm_nI, mm_nJ, mm_nR, mm_sI, mm_sJ, mm_sR, mm_RI, mm_RJ, mm_IJ, mm_IR, mm_JI, mm_JR, mm_II, mm_JJ, mm_RR, h8, ↓bS e0, g8, v, b1, ↓bS ik, ↓bS (mo_out hc.1)]
def sp_behind (p : Int32) (w : zWs) : Int32 × zWs := match wCa w with
  | none => zrf w 1
  | some c => match zix p (wSc w).2.2.length with
    | none => zrf w 1
    | some q => zan w (nI (c.2.1 q).length)
def sp_outOf (p k : Int32) (w : zWs) : Int32 × zWs := match wCa w with
  | none => zrf w 1
  | some c => match zix p (wSc w).2.2.length with
    | none => zrf w 1
    | some q => zLt (c.2.1 q) k w
def sp_rounds (p : Int32) (w : zWs) : Int32 × zWs := match wCa w with
  | none => zrf w 1
  | some c => match zix p (wSc w).2.2.length with
    | none => zrf w 1
    | some q => zan w (nI (c.2.2.1 q))
def sp_served (p i : Int32) (w : zWs) : Int32 × zWs := match wCa w with
  | none => zrf w 1
  | some c => match zix2 w p i with
    | none => zrf w 1
    | some q => zan w (nI (c.2.2.2.count (8 * q.1 + q.2)))
theorem hk_behind (p : Int32) : zHk (sp_behind p) := hk_tr (fun w ho => by
  unfold sp_behind
  cases wCa w with
  | none => exact ⟨1, by omega, rfl⟩
  | some c =>
    simp only
    cases zix p (wSc w).2.2.length with
    | none => exact ⟨1, by omega, rfl⟩
    | some q => exact ⟨0, by omega, rfl⟩)
theorem hk_outOf (p k : Int32) : zHk (sp_outOf p k) := hk_tr (fun w ho => by
  unfold sp_outOf
  cases wCa w with
  | none => exact ⟨1, by omega, rfl⟩
  | some c =>
    simp only
    cases zix p (wSc w).2.2.length with
    | none => exact ⟨1, by omega, rfl⟩
    | some q => exact lt_tr _ _ _)
theorem hk_rounds (p : Int32) : zHk (sp_rounds p) := hk_tr (fun w ho => by
  unfold sp_rounds
  cases wCa w with
  | none => exact ⟨1, by omega, rfl⟩
  | some c =>
    simp only
    cases zix p (wSc w).2.2.length with
    | none => exact ⟨1, by omega, rfl⟩
    | some q => exact ⟨0, by omega, rfl⟩)
theorem hk_served (p i : Int32) : zHk (sp_served p i) := hk_tr (fun w ho => by
  unfold sp_served
  cases wCa w with
  | none => exact ⟨1, by omega, rfl⟩
  | some c =>
    simp only
    cases zix2 w p i with
    | none => exact ⟨1, by omega, rfl⟩
    | some q => exact ⟨0, by omega, rfl⟩)
theorem cl_cb {S : zM} {w : zWs} {T U : Nat} (hm : cMn S w T U) (ho : okW w) (p : Int32) : f_Cl_carriedBehind 1 p S = some (if (wCa w).isSome then (zix p (wSc w).2.2.length).map (fun q => 13 + 2 * q) else none, S) := by
  have h1 := hm.1.1
  have v := v_car hm
  have hS := hm.2.2.1.1
  have h3 := ho.2.2.2.2.2.2.2.2.1
  cases e : wCa w with
  | none =>
    rw [e] at v
    simp only [Option.isSome_none, Bool.false_eq_true, if_false] at v
    simp [f_Cl_carriedBehind, -Prod.exists, -Prod.forall, ↓bb_gf, ↓bb_gr, ↓bb_len, ↓bb_ga, ↓bb_gl, ↓bb_go, ↓bb_pf, ↓bb_pz, ↓bb_pr, ↓bb_pa, ↓bb_pb, ↓bb_pl, ↓bb_po, ↓bb_cl, ↓bb_some, ↓bb_RI, ↓bb_RJ, mm_hI, mm_hJ, mm_hR, mm_nI, mm_nJ, mm_nR, mm_sI, mm_sJ, mm_sR, mm_RI, mm_RJ, mm_IJ, mm_IR, mm_JI, mm_JR, mm_II, mm_JJ, mm_RR, h1, v]
  | some c =>
    rw [e] at v
    simp only [Option.isSome_some, if_true] at v
    obtain ⟨l1, x, y, l2, l3, l4, l5, l6⟩ := cl_lat hm e
    have pa := cl_pa hm p
    cases ep : zix p (wSc w).2.2.length with
    | none =>
      rw [ep] at pa
      simp only [Option.map_none] at pa
      simp [f_Cl_carriedBehind, -Prod.exists, -Prod.forall, ↓bb_gf, ↓bb_gr, ↓bb_len, ↓bb_ga, ↓bb_gl, ↓bb_go, ↓bb_pf, ↓bb_pz, ↓bb_pr, ↓bb_pa, ↓bb_pb, ↓bb_pl, ↓bb_po, ↓bb_cl, ↓bb_some, ↓bb_RI, ↓bb_RJ, mm_hI, mm_hJ, mm_hR, mm_nI, mm_nJ, mm_nR, mm_sI, mm_sJ, mm_sR, mm_RI, mm_RJ, mm_IJ, mm_IR, mm_JI, mm_JR, mm_II, mm_JJ, mm_RR, h1, v, ↓bS (r_told hm), hS.1.1, ↓bS pa]
    | some q =>
      rw [ep] at pa
      simp only [Option.map_some] at pa
      obtain ⟨rfl, hq, _⟩ := ix_some ep
      have cb := car_behind l2.1 (p := q) (by omega)
      simp [f_Cl_carriedBehind, -Prod.exists, -Prod.forall, ↓bb_gf, ↓bb_gr, ↓bb_len, ↓bb_ga, ↓bb_gl, ↓bb_go, ↓bb_pf, ↓bb_pz, ↓bb_pr, ↓bb_pa, ↓bb_pb, ↓bb_pl, ↓bb_po, ↓bb_cl, ↓bb_some, ↓bb_RI, ↓bb_RJ, mm_hI, mm_hJ, mm_hR, mm_nI, mm_nJ, mm_nR, mm_sI, mm_sJ, mm_sR, mm_RI, mm_RJ, mm_IJ, mm_IR, mm_JI, mm_JR, mm_II, mm_JJ, mm_RR, h1, v, ↓bS (r_told hm), hS.1.1, ↓bS pa, ↓bS (r_lat hm), l1, ↓bS cb]
theorem hc_behind (p : Int32) : zHc (f_Cl_behind 1 p) (sp_behind p) := fun S w h ho => by
  obtain ⟨T, U, hm, hs, ht⟩ := h; have h1 := hm.1.1; have r10 := r_told hm; have hS := hm.2.2.1.1; obtain ⟨e0, e1⟩ := hc_same hm hs 0; obtain ⟨f0, f1⟩ := hc_same hm hs 1; have h3 := ho.2.2.2.2.2.2.2.2.1
  have cb := cl_cb hm ho p
  unfold sp_behind
  cases e : wCa w with
  | none =>
    rw [e] at cb
    simp only [Option.isSome_none, Bool.false_eq_true, if_false] at cb
    exact ⟨_, by simp [f_Cl_behind, -Prod.exists, -Prod.forall, ↓bb_gf, ↓bb_gr, ↓bb_len, ↓bb_ga, ↓bb_gl, ↓bb_go, ↓bb_pf, ↓bb_pz, ↓bb_pr, ↓bb_pa, ↓bb_pb, ↓bb_pl, ↓bb_po, ↓bb_cl, ↓bb_some, ↓bb_RI, ↓bb_RJ, mm_hI, mm_hJ, mm_hR, mm_nI, mm_nJ, mm_nR, mm_sI, mm_sJ, mm_sR, mm_RI, mm_RJ, mm_IJ, mm_IR, mm_JI, mm_JR, mm_II, mm_JJ, mm_RR, h1, ↓bS cb, ↓bS (cl_refuse h1 1), zrf] <;> rfl, f0, f1⟩
  | some c =>
    rw [e] at cb
    simp only [Option.isSome_some, if_true] at cb
    obtain ⟨l1, x, y, l2, l3, l4, l5, l6⟩ := cl_lat hm e
    simp only
    cases ep : zix p (wSc w).2.2.length with
    | none =>
      rw [ep] at cb
      simp only [Option.map_none] at cb
      exact ⟨_, by simp [f_Cl_behind, -Prod.exists, -Prod.forall, ↓bb_gf, ↓bb_gr, ↓bb_len, ↓bb_ga, ↓bb_gl, ↓bb_go, ↓bb_pf, ↓bb_pz, ↓bb_pr, ↓bb_pa, ↓bb_pb, ↓bb_pl, ↓bb_po, ↓bb_cl, ↓bb_some, ↓bb_RI, ↓bb_RJ, mm_hI, mm_hJ, mm_hR, mm_nI, mm_nJ, mm_nR, mm_sI, mm_sJ, mm_sR, mm_RI, mm_RJ, mm_IJ, mm_IR, mm_JI, mm_JR, mm_II, mm_JJ, mm_RR, h1, ↓bS cb, ↓bS (cl_refuse h1 1), zrf] <;> rfl, f0, f1⟩
    | some q =>
      rw [ep] at cb
      simp only [Option.map_some] at cb
      obtain ⟨rfl, hq, _⟩ := ix_some ep
      have r := (l6 q (by omega) hq).1
      exact ⟨_, by simp [f_Cl_behind, -Prod.exists, -Prod.forall, ↓bb_gf, ↓bb_gr, ↓bb_len, ↓bb_ga, ↓bb_gl, ↓bb_go, ↓bb_pf, ↓bb_pz, ↓bb_pr, ↓bb_pa, ↓bb_pb, ↓bb_pl, ↓bb_po, ↓bb_cl, ↓bb_some, ↓bb_RI, ↓bb_RJ, mm_hI, mm_hJ, mm_hR, mm_nI, mm_nJ, mm_nR, mm_sI, mm_sJ, mm_sR, mm_RI, mm_RJ, mm_IJ, mm_IR, mm_JI, mm_JR, mm_II, mm_JJ, mm_RR, h1, ↓bS cb, r.1, r.2.2.2.2.2.1, ↓bS (cl_answer h1 _), zan] <;> rfl, e0, e1⟩
theorem hc_outOf (p k : Int32) : zHc (f_Cl_outOf 1 p k) (sp_outOf p k) := fun S w h ho => by
  obtain ⟨T, U, hm, hs, ht⟩ := h; have h1 := hm.1.1; have r10 := r_told hm; have hS := hm.2.2.1.1; obtain ⟨e0, e1⟩ := hc_same hm hs 0; obtain ⟨f0, f1⟩ := hc_same hm hs 1; have h3 := ho.2.2.2.2.2.2.2.2.1
  have cb := cl_cb hm ho p
  unfold sp_outOf
  cases e : wCa w with
  | none =>
    rw [e] at cb
    simp only [Option.isSome_none, Bool.false_eq_true, if_false] at cb
    exact ⟨_, by simp [f_Cl_outOf, -Prod.exists, -Prod.forall, ↓bb_gf, ↓bb_gr, ↓bb_len, ↓bb_ga, ↓bb_gl, ↓bb_go, ↓bb_pf, ↓bb_pz, ↓bb_pr, ↓bb_pa, ↓bb_pb, ↓bb_pl, ↓bb_po, ↓bb_cl, ↓bb_some, ↓bb_RI, ↓bb_RJ, mm_hI, mm_hJ, mm_hR, mm_nI, mm_nJ, mm_nR, mm_sI, mm_sJ, mm_sR, mm_RI, mm_RJ, mm_IJ, mm_IR, mm_JI, mm_JR, mm_II, mm_JJ, mm_RR, h1, ↓bS cb, ↓bS (cl_refuse h1 1), zrf] <;> rfl, f0, f1⟩
  | some c =>
    rw [e] at cb
    simp only [Option.isSome_some, if_true] at cb
    obtain ⟨l1, x, y, l2, l3, l4, l5, l6⟩ := cl_lat hm e
    simp only
    cases ep : zix p (wSc w).2.2.length with
    | none =>
      rw [ep] at cb
      simp only [Option.map_none] at cb
      exact ⟨_, by simp [f_Cl_outOf, -Prod.exists, -Prod.forall, ↓bb_gf, ↓bb_gr, ↓bb_len, ↓bb_ga, ↓bb_gl, ↓bb_go, ↓bb_pf, ↓bb_pz, ↓bb_pr, ↓bb_pa, ↓bb_pb, ↓bb_pl, ↓bb_po, ↓bb_cl, ↓bb_some, ↓bb_RI, ↓bb_RJ, mm_hI, mm_hJ, mm_hR, mm_nI, mm_nJ, mm_nR, mm_sI, mm_sJ, mm_sR, mm_RI, mm_RJ, mm_IJ, mm_IR, mm_JI, mm_JR, mm_II, mm_JJ, mm_RR, h1, ↓bS cb, ↓bS (cl_refuse h1 1), zrf] <;> rfl, f0, f1⟩
    | some q =>
      rw [ep] at cb
      simp only [Option.map_some] at cb
      obtain ⟨rfl, hq, _⟩ := ix_some ep
      have r := (l6 q (by omega) hq).1
      obtain ⟨S', r1, r2⟩ := cl_letter hm hs r k
      exact ⟨S', by simp [f_Cl_outOf, -Prod.exists, -Prod.forall, ↓bb_gf, ↓bb_gr, ↓bb_len, ↓bb_ga, ↓bb_gl, ↓bb_go, ↓bb_pf, ↓bb_pz, ↓bb_pr, ↓bb_pa, ↓bb_pb, ↓bb_pl, ↓bb_po, ↓bb_cl, ↓bb_some, ↓bb_RI, ↓bb_RJ, mm_hI, mm_hJ, mm_hR, mm_nI, mm_nJ, mm_nR, mm_sI, mm_sJ, mm_sR, mm_RI, mm_RJ, mm_IJ, mm_IR, mm_JI, mm_JR, mm_II, mm_JJ, mm_RR, h1, ↓bS cb, ↓bS r1] <;> rfl, r2⟩
theorem hc_rounds (p : Int32) : zHc (f_Cl_rounds 1 p) (sp_rounds p) := fun S w h ho => by
  obtain ⟨T, U, hm, hs, ht⟩ := h; have h1 := hm.1.1; have r10 := r_told hm; have hS := hm.2.2.1.1; obtain ⟨e0, e1⟩ := hc_same hm hs 0; obtain ⟨f0, f1⟩ := hc_same hm hs 1; have h3 := ho.2.2.2.2.2.2.2.2.1
  have cb := cl_cb hm ho p
  unfold sp_rounds
  cases e : wCa w with
  | none =>
    rw [e] at cb
    simp only [Option.isSome_none, Bool.false_eq_true, if_false] at cb
    exact ⟨_, by simp [f_Cl_rounds, -Prod.exists, -Prod.forall, ↓bb_gf, ↓bb_gr, ↓bb_len, ↓bb_ga, ↓bb_gl, ↓bb_go, ↓bb_pf, ↓bb_pz, ↓bb_pr, ↓bb_pa, ↓bb_pb, ↓bb_pl, ↓bb_po, ↓bb_cl, ↓bb_some, ↓bb_RI, ↓bb_RJ, mm_hI, mm_hJ, mm_hR, mm_nI, mm_nJ, mm_nR, mm_sI, mm_sJ, mm_sR, mm_RI, mm_RJ, mm_IJ, mm_IR, mm_JI, mm_JR, mm_II, mm_JJ, mm_RR, h1, ↓bS cb, ↓bS (cl_refuse h1 1), zrf] <;> rfl, f0, f1⟩
  | some c =>
    rw [e] at cb
    simp only [Option.isSome_some, if_true] at cb
    obtain ⟨l1, x, y, l2, l3, l4, l5, l6⟩ := cl_lat hm e
    simp only
    cases ep : zix p (wSc w).2.2.length with
    | none =>
      rw [ep] at cb
      simp only [Option.map_none] at cb
      exact ⟨_, by simp [f_Cl_rounds, -Prod.exists, -Prod.forall, ↓bb_gf, ↓bb_gr, ↓bb_len, ↓bb_ga, ↓bb_gl, ↓bb_go, ↓bb_pf, ↓bb_pz, ↓bb_pr, ↓bb_pa, ↓bb_pb, ↓bb_pl, ↓bb_po, ↓bb_cl, ↓bb_some, ↓bb_RI, ↓bb_RJ, mm_hI, mm_hJ, mm_hR, mm_nI, mm_nJ, mm_nR, mm_sI, mm_sJ, mm_sR, mm_RI, mm_RJ, mm_IJ, mm_IR, mm_JI, mm_JR, mm_II, mm_JJ, mm_RR, h1, ↓bS cb, ↓bS (cl_refuse h1 1), zrf] <;> rfl, f0, f1⟩
    | some q =>
      rw [ep] at cb
      simp only [Option.map_some] at cb
      obtain ⟨rfl, hq, hq2⟩ := ix_some ep
      have r := (l6 q (by omega) hq).2
      have r1 : zR S 5 1 = some 7 := l2.1.2.2.2.2.1
      have r2 : zh S 7 = (100, 3) := l2.1.2.2.2.2.2.1
      have l0 : ¬ nI q < 0 := nI_pos hq2
      have l3' : nI q < 3 := (nI_ltI (b := 3) hq2 (by omega)).2 (by omega)
      have z : zinb (nI q) 3 = true := (nn_in hq2).2 (by omega)
      have cl : (nI q).toNatClampNeg = q := nI_clamp hq2
      have ro : f_Carrier_roundsOf 5 (nI q) S = some (nI (c.2.2.1 q), S) := by simp [f_Carrier_roundsOf, -Prod.exists, -Prod.forall, ↓bb_gf, ↓bb_gr, ↓bb_len, ↓bb_ga, ↓bb_gl, ↓bb_go, ↓bb_pf, ↓bb_pz, ↓bb_pr, ↓bb_pa, ↓bb_pb, ↓bb_pl, ↓bb_po, ↓bb_cl, ↓bb_some, ↓bb_RI, ↓bb_RJ, mm_hI, mm_hJ, mm_hR, mm_nI, mm_nJ, mm_nR, mm_sI, mm_sJ, mm_sR, mm_RI, mm_RJ, mm_IJ, mm_IR, mm_JI, mm_JR, mm_II, mm_JJ, mm_RR, l0, l3', l1, ↓bS r1, r2, z, cl, r]
      exact ⟨_, by simp [f_Cl_rounds, -Prod.exists, -Prod.forall, ↓bb_gf, ↓bb_gr, ↓bb_len, ↓bb_ga, ↓bb_gl, ↓bb_go, ↓bb_pf, ↓bb_pz, ↓bb_pr, ↓bb_pa, ↓bb_pb, ↓bb_pl, ↓bb_po, ↓bb_cl, ↓bb_some, ↓bb_RI, ↓bb_RJ, mm_hI, mm_hJ, mm_hR, mm_nI, mm_nJ, mm_nR, mm_sI, mm_sJ, mm_sR, mm_RI, mm_RJ, mm_IJ, mm_IR, mm_JI, mm_JR, mm_II, mm_JJ, mm_RR, h1, ↓bS cb, ↓bS (r_lat hm), l1, ↓bS ro, ↓bS (cl_answer h1 _), zan] <;> rfl, e0, e1⟩
theorem hc_served (p i : Int32) : zHc (f_Cl_served 1 p i) (sp_served p i) := fun S w h ho => by
  obtain ⟨T, U, hm, hs, ht⟩ := h; have h1 := hm.1.1; have r10 := r_told hm; have hS := hm.2.2.1.1; obtain ⟨e0, e1⟩ := hc_same hm hs 0; obtain ⟨f0, f1⟩ := hc_same hm hs 1; have h3 := ho.2.2.2.2.2.2.2.2.1
  have v := v_car hm
  have ra := cl_ra hm p i
  unfold sp_served
  cases e : wCa w with
  | none =>
    rw [e] at v
    simp only [Option.isSome_none, Bool.false_eq_true, if_false] at v
    exact ⟨_, by simp [f_Cl_served, -Prod.exists, -Prod.forall, ↓bb_gf, ↓bb_gr, ↓bb_len, ↓bb_ga, ↓bb_gl, ↓bb_go, ↓bb_pf, ↓bb_pz, ↓bb_pr, ↓bb_pa, ↓bb_pb, ↓bb_pl, ↓bb_po, ↓bb_cl, ↓bb_some, ↓bb_RI, ↓bb_RJ, mm_hI, mm_hJ, mm_hR, mm_nI, mm_nJ, mm_nR, mm_sI, mm_sJ, mm_sR, mm_RI, mm_RJ, mm_IJ, mm_IR, mm_JI, mm_JR, mm_II, mm_JJ, mm_RR, h1, v, ↓bS (cl_refuse h1 1), zrf] <;> rfl, f0, f1⟩
  | some c =>
    rw [e] at v
    simp only [Option.isSome_some, if_true] at v
    obtain ⟨l1, x, y, l2, l3, l4, l5, l6⟩ := cl_lat hm e
    simp only
    cases ep : zix2 w p i with
    | none =>
      rw [ep] at ra
      simp only [Option.map_none] at ra
      exact ⟨_, by simp [f_Cl_served, -Prod.exists, -Prod.forall, ↓bb_gf, ↓bb_gr, ↓bb_len, ↓bb_ga, ↓bb_gl, ↓bb_go, ↓bb_pf, ↓bb_pz, ↓bb_pr, ↓bb_pa, ↓bb_pb, ↓bb_pl, ↓bb_po, ↓bb_cl, ↓bb_some, ↓bb_RI, ↓bb_RJ, mm_hI, mm_hJ, mm_hR, mm_nI, mm_nJ, mm_nR, mm_sI, mm_sJ, mm_sR, mm_RI, mm_RJ, mm_IJ, mm_IR, mm_JI, mm_JR, mm_II, mm_JJ, mm_RR, h1, v, ↓bS r10, hS.1.1, ↓bS ra, ↓bS (cl_refuse h1 1), zrf] <;> rfl, f0, f1⟩
    | some q =>
      obtain ⟨q, k⟩ := q
      rw [ep] at ra
      simp only [Option.map_some] at ra
      obtain ⟨_, _, rfl, rfl, hq, hk⟩ := ix2_some ep
      have k8 := (ps_w hS.2.2.2.2.2.2.2.2.2 hq).1
      have r1 : zR S 5 2 = some 8 := l2.1.2.2.2.2.2.2.1
      have r2 : zh S 8 = (100, 24) := l2.1.2.2.2.2.2.2.2.1
      have b0 : ¬ nI q < 0 := nI_pos (by omega)
      have b3 : nI q < 3 := (nI_ltI (b := 3) (by omega) (by omega)).2 (by omega)
      have c0 : ¬ nI k < 0 := nI_pos (by omega)
      have c8 : nI k < 8 := (nI_ltI (b := 8) (by omega) (by omega)).2 (by omega)
      have m8 : nI q * (8 : Int32) = nI (8 * q) := by rw [Int32.mul_comm]; exact pk_mul 8 _
      have z : zinb (nI (8 * q + k)) 24 = true := (nn_in (by omega)).2 (by omega)
      have cl : (nI (8 * q + k)).toNatClampNeg = 8 * q + k := nI_clamp (by omega)
      have vv : zI S 8 (8 * q + k) = nI (c.2.2.2.count (8 * q + k)) := l5.1 _ (by omega)
      have so : f_Carrier_servedBy 5 (nI q) (nI k) S = some (nI (c.2.2.2.count (8 * q + k)), S) := by simp [f_Carrier_servedBy, -Prod.exists, -Prod.forall, ↓bb_gf, ↓bb_gr, ↓bb_len, ↓bb_ga, ↓bb_gl, ↓bb_go, ↓bb_pf, ↓bb_pz, ↓bb_pr, ↓bb_pa, ↓bb_pb, ↓bb_pl, ↓bb_po, ↓bb_cl, ↓bb_some, ↓bb_RI, ↓bb_RJ, mm_hI, mm_hJ, mm_hR, mm_nI, mm_nJ, mm_nR, mm_sI, mm_sJ, mm_sR, mm_RI, mm_RJ, mm_IJ, mm_IR, mm_JI, mm_JR, mm_II, mm_JJ, mm_RR, b0, b3, c0, c8, l1, ↓bS r1, r2, m8, nI_add, z, cl, vv]
      exact ⟨_, by simp [f_Cl_served, -Prod.exists, -Prod.forall, ↓bb_gf, ↓bb_gr, ↓bb_len, ↓bb_ga, ↓bb_gl, ↓bb_go, ↓bb_pf, ↓bb_pz, ↓bb_pr, ↓bb_pa, ↓bb_pb, ↓bb_pl, ↓bb_po, ↓bb_cl, ↓bb_some, ↓bb_RI, ↓bb_RJ, mm_hI, mm_hJ, mm_hR, mm_nI, mm_nJ, mm_nR, mm_sI, mm_sJ, mm_sR, mm_RI, mm_RJ, mm_IJ, mm_IR, mm_JI, mm_JR, mm_II, mm_JJ, mm_RR, h1, v, ↓bS r10, hS.1.1, ↓bS ra, ↓bS (r_lat hm), l1, ↓bS so, ↓bS (cl_answer h1 _), zan] <;> rfl, e0, e1⟩
theorem hm_behind (p : Int32) : zHm (f_Mo_behind 408 p) (sp_behind p) := fun S w h ho => by
  obtain ⟨e0, e1, e2⟩ := mo_fresh h; obtain ⟨n0, n1, n2⟩ := mo_no e1 (n := 1) (by omega); have n0' : f_Mo_no 408 1 (zfs S) = some (-1, zwI (zfs S) 408 1 (nI 1)) := n0; have hc := e1.1; have h8 := h.1.1.1; have g8 := hc.1.1; have h3 := ho.2.2.2.2.2.2.2.2.1; have ho' : okW (sTr w 0) := okW_tr ho (by omega)
  have v : zI (zfs S) 408 48 = (if (wCa w).isSome then 1 else 0) := hc.2.2.2.2.2.2.2.1
  have ip : f_Mo_isPass 408 p (zfs S) = some (if (zix p (wSc w).2.2.length).isSome then 1 else 0, zfs S) := mo_isPass hc ho' p
  unfold sp_behind
  cases e : wCa w with
  | none =>
    rw [e] at v
    simp only [Option.isSome_none, Bool.false_eq_true, if_false] at v
    exact ⟨_, by simp [f_Mo_behind, -Prod.exists, -Prod.forall, ↓bb_gf, ↓bb_gr, ↓bb_len, ↓bb_ga, ↓bb_gl, ↓bb_go, ↓bb_pf, ↓bb_pz, ↓bb_pr, ↓bb_pa, ↓bb_pb, ↓bb_pl, ↓bb_po, ↓bb_cl, ↓bb_some, ↓bb_RI, ↓bb_RJ, mm_hI, mm_hJ, mm_hR, mm_nI, mm_nJ, mm_nR, mm_sI, mm_sJ, mm_sR, mm_RI, mm_RJ, mm_IJ, mm_IR, mm_JI, mm_JR, mm_II, mm_JJ, mm_RR, h8, ↓bS e0, g8, v, ↓bS n0', zrf] <;> rfl, n1, fr_trans e2 n2⟩
  | some c =>
    rw [e] at v
    simp only [Option.isSome_some, if_true] at v
    obtain ⟨b1, b2, b3, b4⟩ := hc.2.2.2.2.2.2.2.2 c e
    simp only
    cases ep : zix p (wSc w).2.2.length with
    | none =>
      rw [ep] at ip
      simp only [Option.isSome_none, Bool.false_eq_true, if_false] at ip
      exact ⟨_, by simp [f_Mo_behind, -Prod.exists, -Prod.forall, ↓bb_gf, ↓bb_gr, ↓bb_len, ↓bb_ga, ↓bb_gl, ↓bb_go, ↓bb_pf, ↓bb_pz, ↓bb_pr, ↓bb_pa, ↓bb_pb, ↓bb_pl, ↓bb_po, ↓bb_cl, ↓bb_some, ↓bb_RI, ↓bb_RJ, mm_hI, mm_hJ, mm_hR, mm_nI, mm_nJ, mm_nR, mm_sI, mm_sJ, mm_sR, mm_RI, mm_RJ, mm_IJ, mm_IR, mm_JI, mm_JR, mm_II, mm_JJ, mm_RR, h8, ↓bS e0, g8, v, ↓bS ip, ↓bS n0', zrf] <;> rfl, n1, fr_trans e2 n2⟩
    | some q =>
      rw [ep] at ip
      simp only [Option.isSome_some, if_true] at ip
      obtain ⟨rfl, hq, hq2⟩ := ix_some ep
      obtain ⟨c1, c2, c3⟩ := b4 q (by omega) hq
      have z : zinb (nI q) 3 = true := (nn_in hq2).2 (by omega)
      have cl : (nI q).toNatClampNeg = q := nI_clamp hq2
      exact ⟨_, by simp [f_Mo_behind, -Prod.exists, -Prod.forall, ↓bb_gf, ↓bb_gr, ↓bb_len, ↓bb_ga, ↓bb_gl, ↓bb_go, ↓bb_pf, ↓bb_pz, ↓bb_pr, ↓bb_pa, ↓bb_pb, ↓bb_pl, ↓bb_po, ↓bb_cl, ↓bb_some, ↓bb_RI, ↓bb_RJ, mm_hI, mm_hJ, mm_hR, mm_nI, mm_nJ, mm_nR, mm_sI, mm_sJ, mm_sR, mm_RI, mm_RJ, mm_IJ, mm_IR, mm_JI, mm_JR, mm_II, mm_JJ, mm_RR, h8, ↓bS e0, g8, v, ↓bS ip, ↓bS (mo_carriedLong hc.1), mh_carriedLong hc.1, z, cl, c2, zan] <;> rfl, e1, e2⟩
theorem hm_rounds (p : Int32) : zHm (f_Mo_rounds 408 p) (sp_rounds p) := fun S w h ho => by
  obtain ⟨e0, e1, e2⟩ := mo_fresh h; obtain ⟨n0, n1, n2⟩ := mo_no e1 (n := 1) (by omega); have n0' : f_Mo_no 408 1 (zfs S) = some (-1, zwI (zfs S) 408 1 (nI 1)) := n0; have hc := e1.1; have h8 := h.1.1.1; have g8 := hc.1.1; have h3 := ho.2.2.2.2.2.2.2.2.1; have ho' : okW (sTr w 0) := okW_tr ho (by omega)
  have v : zI (zfs S) 408 48 = (if (wCa w).isSome then 1 else 0) := hc.2.2.2.2.2.2.2.1
  have ip : f_Mo_isPass 408 p (zfs S) = some (if (zix p (wSc w).2.2.length).isSome then 1 else 0, zfs S) := mo_isPass hc ho' p
  unfold sp_rounds
  cases e : wCa w with
  | none =>
    rw [e] at v
    simp only [Option.isSome_none, Bool.false_eq_true, if_false] at v
    exact ⟨_, by simp [f_Mo_rounds, -Prod.exists, -Prod.forall, ↓bb_gf, ↓bb_gr, ↓bb_len, ↓bb_ga, ↓bb_gl, ↓bb_go, ↓bb_pf, ↓bb_pz, ↓bb_pr, ↓bb_pa, ↓bb_pb, ↓bb_pl, ↓bb_po, ↓bb_cl, ↓bb_some, ↓bb_RI, ↓bb_RJ, mm_hI, mm_hJ, mm_hR, mm_nI, mm_nJ, mm_nR, mm_sI, mm_sJ, mm_sR, mm_RI, mm_RJ, mm_IJ, mm_IR, mm_JI, mm_JR, mm_II, mm_JJ, mm_RR, h8, ↓bS e0, g8, v, ↓bS n0', zrf] <;> rfl, n1, fr_trans e2 n2⟩
  | some c =>
    rw [e] at v
    simp only [Option.isSome_some, if_true] at v
    obtain ⟨b1, b2, b3, b4⟩ := hc.2.2.2.2.2.2.2.2 c e
    simp only
    cases ep : zix p (wSc w).2.2.length with
    | none =>
      rw [ep] at ip
      simp only [Option.isSome_none, Bool.false_eq_true, if_false] at ip
      exact ⟨_, by simp [f_Mo_rounds, -Prod.exists, -Prod.forall, ↓bb_gf, ↓bb_gr, ↓bb_len, ↓bb_ga, ↓bb_gl, ↓bb_go, ↓bb_pf, ↓bb_pz, ↓bb_pr, ↓bb_pa, ↓bb_pb, ↓bb_pl, ↓bb_po, ↓bb_cl, ↓bb_some, ↓bb_RI, ↓bb_RJ, mm_hI, mm_hJ, mm_hR, mm_nI, mm_nJ, mm_nR, mm_sI, mm_sJ, mm_sR, mm_RI, mm_RJ, mm_IJ, mm_IR, mm_JI, mm_JR, mm_II, mm_JJ, mm_RR, h8, ↓bS e0, g8, v, ↓bS ip, ↓bS n0', zrf] <;> rfl, n1, fr_trans e2 n2⟩
    | some q =>
      rw [ep] at ip
      simp only [Option.isSome_some, if_true] at ip
      obtain ⟨rfl, hq, hq2⟩ := ix_some ep
      obtain ⟨c1, c2, c3⟩ := b4 q (by omega) hq
      have z : zinb (nI q) 3 = true := (nn_in hq2).2 (by omega)
      have cl : (nI q).toNatClampNeg = q := nI_clamp hq2
      exact ⟨_, by simp [f_Mo_rounds, -Prod.exists, -Prod.forall, ↓bb_gf, ↓bb_gr, ↓bb_len, ↓bb_ga, ↓bb_gl, ↓bb_go, ↓bb_pf, ↓bb_pz, ↓bb_pr, ↓bb_pa, ↓bb_pb, ↓bb_pl, ↓bb_po, ↓bb_cl, ↓bb_some, ↓bb_RI, ↓bb_RJ, mm_hI, mm_hJ, mm_hR, mm_nI, mm_nJ, mm_nR, mm_sI, mm_sJ, mm_sR, mm_RI, mm_RJ, mm_IJ, mm_IR, mm_JI, mm_JR, mm_II, mm_JJ, mm_RR, h8, ↓bS e0, g8, v, ↓bS ip, ↓bS (mo_carriedRounds hc.1), mh_carriedRounds hc.1, z, cl, c1, zan] <;> rfl, e1, e2⟩
theorem hm_outOf (p k : Int32) : zHm (f_Mo_outOf 408 p k) (sp_outOf p k) := fun S w h ho => by
  obtain ⟨e0, e1, e2⟩ := mo_fresh h; obtain ⟨n0, n1, n2⟩ := mo_no e1 (n := 1) (by omega); have n0' : f_Mo_no 408 1 (zfs S) = some (-1, zwI (zfs S) 408 1 (nI 1)) := n0; have hc := e1.1; have h8 := h.1.1.1; have g8 := hc.1.1; have h3 := ho.2.2.2.2.2.2.2.2.1; have ho' : okW (sTr w 0) := okW_tr ho (by omega)
  have v : zI (zfs S) 408 48 = (if (wCa w).isSome then 1 else 0) := hc.2.2.2.2.2.2.2.1
  have ip : f_Mo_isPass 408 p (zfs S) = some (if (zix p (wSc w).2.2.length).isSome then 1 else 0, zfs S) := mo_isPass hc ho' p
  unfold sp_outOf
  cases e : wCa w with
  | none =>
    rw [e] at v
    simp only [Option.isSome_none, Bool.false_eq_true, if_false] at v
    exact ⟨_, by simp [f_Mo_outOf, -Prod.exists, -Prod.forall, ↓bb_gf, ↓bb_gr, ↓bb_len, ↓bb_ga, ↓bb_gl, ↓bb_go, ↓bb_pf, ↓bb_pz, ↓bb_pr, ↓bb_pa, ↓bb_pb, ↓bb_pl, ↓bb_po, ↓bb_cl, ↓bb_some, ↓bb_RI, ↓bb_RJ, mm_hI, mm_hJ, mm_hR, mm_nI, mm_nJ, mm_nR, mm_sI, mm_sJ, mm_sR, mm_RI, mm_RJ, mm_IJ, mm_IR, mm_JI, mm_JR, mm_II, mm_JJ, mm_RR, h8, ↓bS e0, g8, v, ↓bS n0', zrf] <;> rfl, n1, fr_trans e2 n2⟩
  | some c =>
    rw [e] at v
    simp only [Option.isSome_some, if_true] at v
    obtain ⟨b1, b2, b3, b4⟩ := hc.2.2.2.2.2.2.2.2 c e
    simp only
    cases ep : zix p (wSc w).2.2.length with
    | none =>
      rw [ep] at ip
      simp only [Option.isSome_none, Bool.false_eq_true, if_false] at ip
      exact ⟨_, by simp [f_Mo_outOf, -Prod.exists, -Prod.forall, ↓bb_gf, ↓bb_gr, ↓bb_len, ↓bb_ga, ↓bb_gl, ↓bb_go, ↓bb_pf, ↓bb_pz, ↓bb_pr, ↓bb_pa, ↓bb_pb, ↓bb_pl, ↓bb_po, ↓bb_cl, ↓bb_some, ↓bb_RI, ↓bb_RJ, mm_hI, mm_hJ, mm_hR, mm_nI, mm_nJ, mm_nR, mm_sI, mm_sJ, mm_sR, mm_RI, mm_RJ, mm_IJ, mm_IR, mm_JI, mm_JR, mm_II, mm_JJ, mm_RR, h8, ↓bS e0, g8, v, ↓bS ip, ↓bS n0', zrf] <;> rfl, n1, fr_trans e2 n2⟩
    | some q =>
      rw [ep] at ip
      simp only [Option.isSome_some, if_true] at ip
      obtain ⟨rfl, hq, hq2⟩ := ix_some ep
      obtain ⟨c1, c2, c3⟩ := b4 q (by omega) hq
      have z : zinb (nI q) 3 = true := (nn_in hq2).2 (by omega)
      have cl : (nI q).toNatClampNeg = q := nI_clamp hq2
      have l60 := ((ho.2.2.2.2.2.1 c e).2.2 q).2
      have m6 : (60 : Int32) * nI q = nI (60 * q) := pk_mul 60 _
      obtain ⟨S', r1, r2, r3⟩ := mo_lt (w := w) (b := 437) (o := 60 * q) (N := 180) (n := 60) (xs := c.2.1 q) e1 (mh_carriedAt hc.1) l60 (by omega) (by omega) c3 k (f := fun S1 => Option.bind (f_Mo_in k 0 (nI (c.2.1 q).length - 1) S1) (fun p => if p.1 = 0 then Option.bind (zcl p.2 12 408 (f_Mo_no 408 1 p.2)) (fun q => some (q.1, q.2)) else Option.bind (zga p.2 100 437 (nI (60 * q) + k)) (fun x => some (x, p.2)))) (by omega) rfl
      refine ⟨S', ?_, r2, fr_trans e2 r3⟩
      rw [← r1]
      have ik := m_in0 (S := zfs S) k (n := (c.2.1 q).length) (by omega)
      simp [f_Mo_outOf, -Prod.exists, -Prod.forall, ↓bb_gf, ↓bb_gr, ↓bb_len, ↓bb_ga, ↓bb_gl, ↓bb_go, ↓bb_pf, ↓bb_pz, ↓bb_pr, ↓bb_pa, ↓bb_pb, ↓bb_pl, ↓bb_po, ↓bb_cl, ↓bb_some, ↓bb_RI, ↓bb_RJ, mm_hI, mm_hJ, mm_hR, mm_nI, mm_nJ, mm_nR, mm_sI, mm_sJ, mm_sR, mm_RI, mm_RJ, mm_IJ, mm_IR, mm_JI, mm_JR, mm_II, mm_JJ, mm_RR, h8, ↓bS e0, g8, v, ↓bS ip, ↓bS (mo_carriedLong hc.1), mh_carriedLong hc.1, z, cl, c2, ↓bS ik, ↓bS (mo_carriedAt hc.1), m6]
theorem hm_served (p i : Int32) : zHm (f_Mo_served 408 p i) (sp_served p i) := fun S w h ho => by
  obtain ⟨e0, e1, e2⟩ := mo_fresh h; obtain ⟨n0, n1, n2⟩ := mo_no e1 (n := 1) (by omega); have n0' : f_Mo_no 408 1 (zfs S) = some (-1, zwI (zfs S) 408 1 (nI 1)) := n0; have hc := e1.1; have h8 := h.1.1.1; have g8 := hc.1.1; have h3 := ho.2.2.2.2.2.2.2.2.1; have ho' : okW (sTr w 0) := okW_tr ho (by omega)
  have v : zI (zfs S) 408 48 = (if (wCa w).isSome then 1 else 0) := hc.2.2.2.2.2.2.2.1
  have ir : f_Mo_isRule 408 p i (zfs S) = some (if (zix2 w p i).isSome then 1 else 0, zfs S) := mo_isRule hc ho' p i
  unfold sp_served
  cases e : wCa w with
  | none =>
    rw [e] at v
    simp only [Option.isSome_none, Bool.false_eq_true, if_false] at v
    exact ⟨_, by simp [f_Mo_served, -Prod.exists, -Prod.forall, ↓bb_gf, ↓bb_gr, ↓bb_len, ↓bb_ga, ↓bb_gl, ↓bb_go, ↓bb_pf, ↓bb_pz, ↓bb_pr, ↓bb_pa, ↓bb_pb, ↓bb_pl, ↓bb_po, ↓bb_cl, ↓bb_some, ↓bb_RI, ↓bb_RJ, mm_hI, mm_hJ, mm_hR, mm_nI, mm_nJ, mm_nR, mm_sI, mm_sJ, mm_sR, mm_RI, mm_RJ, mm_IJ, mm_IR, mm_JI, mm_JR, mm_II, mm_JJ, mm_RR, h8, ↓bS e0, g8, v, ↓bS n0', zrf] <;> rfl, n1, fr_trans e2 n2⟩
  | some c =>
    rw [e] at v
    simp only [Option.isSome_some, if_true] at v
    obtain ⟨b1, b2, b3, b4⟩ := hc.2.2.2.2.2.2.2.2 c e
    simp only
    cases ep : zix2 w p i with
    | none =>
      rw [ep] at ir
      simp only [Option.isSome_none, Bool.false_eq_true, if_false] at ir
      exact ⟨_, by simp [f_Mo_served, -Prod.exists, -Prod.forall, ↓bb_gf, ↓bb_gr, ↓bb_len, ↓bb_ga, ↓bb_gl, ↓bb_go, ↓bb_pf, ↓bb_pz, ↓bb_pr, ↓bb_pa, ↓bb_pb, ↓bb_pl, ↓bb_po, ↓bb_cl, ↓bb_some, ↓bb_RI, ↓bb_RJ, mm_hI, mm_hJ, mm_hR, mm_nI, mm_nJ, mm_nR, mm_sI, mm_sJ, mm_sR, mm_RI, mm_RJ, mm_IJ, mm_IR, mm_JI, mm_JR, mm_II, mm_JJ, mm_RR, h8, ↓bS e0, g8, v, ↓bS ir, ↓bS n0', zrf] <;> rfl, n1, fr_trans e2 n2⟩
    | some q =>
      obtain ⟨q, k⟩ := q
      rw [ep] at ir
      simp only [Option.isSome_some, if_true] at ir
      obtain ⟨_, _, rfl, rfl, hq, hk⟩ := ix2_some ep
      have hsc : mSc (zfs S) 408 (wSc w) (wAs w) := hc.2.1
      have k8 := (ps_w hsc.2.2.2.2.2.2.2.2.2.2.2.2 hq).1
      have m8 : (8 : Int32) * nI q = nI (8 * q) := pk_mul 8 _
      have z : zinb (nI (8 * q + k)) 24 = true := (nn_in (by omega)).2 (by omega)
      have cl : (nI (8 * q + k)).toNatClampNeg = 8 * q + k := nI_clamp (by omega)
      have vv := b3 (8 * q + k) (by omega)
      exact ⟨_, by simp [f_Mo_served, -Prod.exists, -Prod.forall, ↓bb_gf, ↓bb_gr, ↓bb_len, ↓bb_ga, ↓bb_gl, ↓bb_go, ↓bb_pf, ↓bb_pz, ↓bb_pr, ↓bb_pa, ↓bb_pb, ↓bb_pl, ↓bb_po, ↓bb_cl, ↓bb_some, ↓bb_RI, ↓bb_RJ, mm_hI, mm_hJ, mm_hR, mm_nI, mm_nJ, mm_nR, mm_sI, mm_sJ, mm_sR, mm_RI, mm_RJ, mm_IJ, mm_IR, mm_JI, mm_JR, mm_II, mm_JJ, mm_RR, h8, ↓bS e0, g8, v, ↓bS ir, ↓bS (mo_carriedServed hc.1), mh_carriedServed hc.1, m8, nI_add, z, cl, vv, zan] <;> rfl, e1, e2⟩
