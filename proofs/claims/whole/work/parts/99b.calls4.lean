/-! letters; beginnings -/
def zLt (xs : List Nat) (k : Int32) (w : zWs) : Int32 × zWs := match zix k xs.length with
  | none => zrf w 1
  | some k => zan w (nI (lg xs k))
theorem lt_tr (xs : List Nat) (k : Int32) (w : zWs) : ∃ t, t < 8 ∧ (zLt xs k w).2 = sTr w t := by
  unfold zLt
  cases zix k xs.length with
  | none => exact ⟨1, by omega, rfl⟩
  | some j => exact ⟨0, by omega, rfl⟩
/-- a letter of a row, in the class -/
theorem cl_letter {S : zM} {w : zWs} {T U a n : Nat} {xs : List Nat} (hm : cMn S w T U) (hs : cSr S) (hr : pRow S a n xs) (k : Int32) : ∃ S', f_Cl_answerLetter 1 a k S = some ((zLt xs k w).1, S') ∧ pCl S' (zLt xs k w).2 ∧ zko S S' ∧ zrm S S' := by
  have h1 := hm.1.1
  obtain ⟨e0, e1⟩ := hc_same hm hs 0
  obtain ⟨f0, f1⟩ := hc_same hm hs 1
  have ra := row_at hr k
  have hn : xs.length ≤ n := hr.2.2.2.2.1
  have hn2 : n < 1000 := hr.2.2.2.1
  unfold zLt
  cases e : zix k xs.length with
  | none =>
    have ea : zatD xs k (-1) = -1 := by
      rcases ix_none e with q | ⟨j, rfl, hj, hl⟩
      · exact atD_neg q
      · rw [atD_nI hj, if_neg (by omega)]
    rw [ea] at ra
    exact ⟨_, by simp [f_Cl_answerLetter, -Prod.exists, -Prod.forall, ↓bb_gf, ↓bb_gr, ↓bb_len, ↓bb_ga, ↓bb_gl, ↓bb_go, ↓bb_pf, ↓bb_pz, ↓bb_pr, ↓bb_pa, ↓bb_pb, ↓bb_pl, ↓bb_po, ↓bb_cl, ↓bb_some, ↓bb_RI, ↓bb_RJ, mm_hI, mm_hJ, mm_hR, mm_nI, mm_nJ, mm_nR, mm_sI, mm_sJ, mm_sR, mm_RI, mm_RJ, mm_IJ, mm_IR, mm_JI, mm_JR, mm_II, mm_JJ, mm_RR, hr.1, ↓bS ra, h1, ↓bS (cl_refuse h1 1), zrf] <;> rfl, f0, f1⟩
  | some j =>
    obtain ⟨rfl, hj, hj2⟩ := ix_some e
    rw [atD_nI hj2, if_pos hj] at ra
    have b8 := hr.2.2.2.2.2.2.2 j
    have nn : ¬ nI (lg xs j) = -1 := (nn_eqm (i := lg xs j) (m := 1) (by omega) (by omega) (by omega)).1
    exact ⟨_, by simp [f_Cl_answerLetter, -Prod.exists, -Prod.forall, ↓bb_gf, ↓bb_gr, ↓bb_len, ↓bb_ga, ↓bb_gl, ↓bb_go, ↓bb_pf, ↓bb_pz, ↓bb_pr, ↓bb_pa, ↓bb_pb, ↓bb_pl, ↓bb_po, ↓bb_cl, ↓bb_some, ↓bb_RI, ↓bb_RJ, mm_hI, mm_hJ, mm_hR, mm_nI, mm_nJ, mm_nR, mm_sI, mm_sJ, mm_sR, mm_RI, mm_RJ, mm_IJ, mm_IR, mm_JI, mm_JR, mm_II, mm_JJ, mm_RR, hr.1, ↓bS ra, nn, h1, ↓bS (cl_answer h1 _), zan] <;> rfl, e0, e1⟩
def sp_letter (p i a k : Int32) (w : zWs) : Int32 × zWs := match zix2 w p i with
  | none => zrf w 1
  | some (p, i) => if a = 0 then zLt (zmR w p i).1 k w else if a = 1 then zLt (zmR w p i).2.1 k w else zrf w 1
theorem hk_letter (p i a k : Int32) : zHk (sp_letter p i a k) := hk_tr (fun w ho => by
  unfold sp_letter
  cases zix2 w p i with
  | none => exact ⟨1, by omega, rfl⟩
  | some j => exact tr_ite (lt_tr _ _ _) (tr_ite (lt_tr _ _ _) ⟨1, by omega, rfl⟩))
theorem hc_letter (p i a k : Int32) : zHc (f_Cl_letter 1 p i a k) (sp_letter p i a k) := fun S w h ho => by
  obtain ⟨T, U, hm, hs, ht⟩ := h; have h1 := hm.1.1; have r10 := r_told hm; have hS := hm.2.2.1.1; obtain ⟨e0, e1⟩ := hc_same hm hs 0; obtain ⟨f0, f1⟩ := hc_same hm hs 1; have h3 := ho.2.2.2.2.2.2.2.2.1
  have ra := cl_ra hm p i
  unfold sp_letter
  cases e : zix2 w p i with
  | none =>
    rw [e] at ra
    simp only [Option.map_none] at ra
    exact ⟨_, by simp [f_Cl_letter, -Prod.exists, -Prod.forall, ↓bb_gf, ↓bb_gr, ↓bb_len, ↓bb_ga, ↓bb_gl, ↓bb_go, ↓bb_pf, ↓bb_pz, ↓bb_pr, ↓bb_pa, ↓bb_pb, ↓bb_pl, ↓bb_po, ↓bb_cl, ↓bb_some, ↓bb_RI, ↓bb_RJ, mm_hI, mm_hJ, mm_hR, mm_nI, mm_nJ, mm_nR, mm_sI, mm_sJ, mm_sR, mm_RI, mm_RJ, mm_IJ, mm_IR, mm_JI, mm_JR, mm_II, mm_JJ, mm_RR, h1, ↓bS r10, hS.1.1, ↓bS ra, ↓bS (cl_refuse h1 1), zrf] <;> rfl, f0, f1⟩
  | some q =>
    obtain ⟨j, i'⟩ := q
    rw [e] at ra
    simp only [Option.map_some] at ra
    obtain ⟨_, _, rfl, rfl, hp, hi⟩ := ix2_some e
    have hP := hS.2.2.2.2.2.1 j hp
    obtain ⟨u1, u2, u3, u4, u5, u6, u7⟩ := hP.2.2.2.2.1 i' hi
    simp only
    by_cases q0 : a = 0
    · rw [if_pos q0]
      obtain ⟨S', r1, r2⟩ := cl_letter hm hs u4 k
      have l0 : ¬ (0 : Int32) < 0 := by decide
      have l1 : (0 : Int32) ≤ 1 := by decide
      exact ⟨S', by simp [f_Cl_letter, -Prod.exists, -Prod.forall, ↓bb_gf, ↓bb_gr, ↓bb_len, ↓bb_ga, ↓bb_gl, ↓bb_go, ↓bb_pf, ↓bb_pz, ↓bb_pr, ↓bb_pa, ↓bb_pb, ↓bb_pl, ↓bb_po, ↓bb_cl, ↓bb_some, ↓bb_RI, ↓bb_RJ, mm_hI, mm_hJ, mm_hR, mm_nI, mm_nJ, mm_nR, mm_sI, mm_sJ, mm_sR, mm_RI, mm_RJ, mm_IJ, mm_IR, mm_JI, mm_JR, mm_II, mm_JJ, mm_RR, h1, ↓bS r10, hS.1.1, ↓bS ra, q0, l0, l1, u1, ↓bS u2, ↓bS r1] <;> rfl, r2⟩
    · rw [if_neg q0]
      by_cases q1 : a = 1
      · rw [if_pos q1]
        obtain ⟨S', r1, r2⟩ := cl_letter hm hs u5 k
        have l0 : ¬ (1 : Int32) < 0 := by decide
        have l1 : (1 : Int32) ≤ 1 := by decide
        exact ⟨S', by simp [f_Cl_letter, -Prod.exists, -Prod.forall, ↓bb_gf, ↓bb_gr, ↓bb_len, ↓bb_ga, ↓bb_gl, ↓bb_go, ↓bb_pf, ↓bb_pz, ↓bb_pr, ↓bb_pa, ↓bb_pb, ↓bb_pl, ↓bb_po, ↓bb_cl, ↓bb_some, ↓bb_RI, ↓bb_RJ, mm_hI, mm_hJ, mm_hR, mm_nI, mm_nJ, mm_nR, mm_sI, mm_sJ, mm_sR, mm_RI, mm_RJ, mm_IJ, mm_IR, mm_JI, mm_JR, mm_II, mm_JJ, mm_RR, h1, ↓bS r10, hS.1.1, ↓bS ra, q1, l0, l1, u1, ↓bS u3, ↓bS r1] <;> rfl, r2⟩
      · rw [if_neg q1]
        refine ⟨zwI S 1 16 (nI 1), ?_, f0, f1⟩
        by_cases l0 : a < 0
        · simp [f_Cl_letter, -Prod.exists, -Prod.forall, ↓bb_gf, ↓bb_gr, ↓bb_len, ↓bb_ga, ↓bb_gl, ↓bb_go, ↓bb_pf, ↓bb_pz, ↓bb_pr, ↓bb_pa, ↓bb_pb, ↓bb_pl, ↓bb_po, ↓bb_cl, ↓bb_some, ↓bb_RI, ↓bb_RJ, mm_hI, mm_hJ, mm_hR, mm_nI, mm_nJ, mm_nR, mm_sI, mm_sJ, mm_sR, mm_RI, mm_RJ, mm_IJ, mm_IR, mm_JI, mm_JR, mm_II, mm_JJ, mm_RR, h1, ↓bS r10, hS.1.1, ↓bS ra, l0, ↓bS (cl_refuse h1 1), zrf] <;> rfl
        · have l1 : ¬ a ≤ 1 := by
            obtain ⟨x, hx, rfl⟩ := nI_of l0
            intro q
            have := (nI_leI (b := 1) hx (by omega)).1 q
            have : x = 0 ∨ x = 1 := by omega
            rcases this with rfl | rfl
            · exact q0 rfl
            · exact q1 rfl
          simp [f_Cl_letter, -Prod.exists, -Prod.forall, ↓bb_gf, ↓bb_gr, ↓bb_len, ↓bb_ga, ↓bb_gl, ↓bb_go, ↓bb_pf, ↓bb_pz, ↓bb_pr, ↓bb_pa, ↓bb_pb, ↓bb_pl, ↓bb_po, ↓bb_cl, ↓bb_some, ↓bb_RI, ↓bb_RJ, mm_hI, mm_hJ, mm_hR, mm_nI, mm_nJ, mm_nR, mm_sI, mm_sJ, mm_sR, mm_RI, mm_RJ, mm_IJ, mm_IR, mm_JI, mm_JR, mm_II, mm_JJ, mm_RR, h1, ↓bS r10, hS.1.1, ↓bS ra, l0, l1, ↓bS (cl_refuse h1 1), zrf] <;> rfl
theorem ix_2 {a : Int32} (h : zix a 2 = none) : ¬ a = 0 ∧ ¬ a = 1 := by
  refine ⟨?_, ?_⟩ <;> (rintro rfl; revert h; decide)
theorem hm_letter (p i a k : Int32) : zHm (f_Mo_letter 408 p i a k) (sp_letter p i a k) := fun S w h ho => by
  obtain ⟨e0, e1, e2⟩ := mo_fresh h; obtain ⟨n0, n1, n2⟩ := mo_no e1 (n := 1) (by omega); have n0' : f_Mo_no 408 1 (zfs S) = some (-1, zwI (zfs S) 408 1 (nI 1)) := n0; have hc := e1.1; have h8 := h.1.1.1; have g8 := hc.1.1; have h3 := ho.2.2.2.2.2.2.2.2.1; have ho' : okW (sTr w 0) := okW_tr ho (by omega)
  have ir : f_Mo_isRule 408 p i (zfs S) = some (if (zix2 w p i).isSome then 1 else 0, zfs S) := mo_isRule hc ho' p i
  have i1 : f_Mo_in a 0 1 (zfs S) = some (if (zix a 2).isSome then 1 else 0, zfs S) := m_inK a (k := 1) (by omega)
  unfold sp_letter
  cases e : zix2 w p i with
  | none =>
    rw [e] at ir
    simp only [Option.isSome_none, Bool.false_eq_true, if_false] at ir
    exact ⟨_, by simp [f_Mo_letter, -Prod.exists, -Prod.forall, ↓bb_gf, ↓bb_gr, ↓bb_len, ↓bb_ga, ↓bb_gl, ↓bb_go, ↓bb_pf, ↓bb_pz, ↓bb_pr, ↓bb_pa, ↓bb_pb, ↓bb_pl, ↓bb_po, ↓bb_cl, ↓bb_some, ↓bb_RI, ↓bb_RJ, mm_hI, mm_hJ, mm_hR, mm_nI, mm_nJ, mm_nR, mm_sI, mm_sJ, mm_sR, mm_RI, mm_RJ, mm_IJ, mm_IR, mm_JI, mm_JR, mm_II, mm_JJ, mm_RR, h8, ↓bS e0, g8, ↓bS ir, ↓bS n0', zrf] <;> rfl, n1, fr_trans e2 n2⟩
  | some q =>
    obtain ⟨j, i'⟩ := q
    rw [e] at ir
    simp only [Option.isSome_some, if_true] at ir
    obtain ⟨_, _, rfl, rfl, hp, hi⟩ := ix2_some e
    have hsc : mSc (zfs S) 408 (wSc w) (wAs w) := hc.2.1
    have wr := ps_w hsc.2.2.2.2.2.2.2.2.2.2.2.2 hp
    have r8 := wr.1
    have hru := hsc.2.2.2.2.2.2.2.1 j i' hp hi
    have hwr := ru_w wr hi
    have har : aRu j i' + 11 ≤ 264 := by unfold aRu; omega
    simp only
    cases ea : zix a 2 with
    | none =>
      rw [ea] at i1
      simp only [Option.isSome_none, Bool.false_eq_true, if_false] at i1
      obtain ⟨q0, q1⟩ := ix_2 ea
      rw [if_neg q0, if_neg q1]
      exact ⟨_, by simp [f_Mo_letter, -Prod.exists, -Prod.forall, ↓bb_gf, ↓bb_gr, ↓bb_len, ↓bb_ga, ↓bb_gl, ↓bb_go, ↓bb_pf, ↓bb_pz, ↓bb_pr, ↓bb_pa, ↓bb_pb, ↓bb_pl, ↓bb_po, ↓bb_cl, ↓bb_some, ↓bb_RI, ↓bb_RJ, mm_hI, mm_hJ, mm_hR, mm_nI, mm_nJ, mm_nR, mm_sI, mm_sJ, mm_sR, mm_RI, mm_RJ, mm_IJ, mm_IR, mm_JI, mm_JR, mm_II, mm_JJ, mm_RR, h8, ↓bS e0, g8, ↓bS ir, ↓bS i1, ↓bS n0', zrf] <;> rfl, n1, fr_trans e2 n2⟩
    | some x =>
      rw [ea] at i1
      simp only [Option.isSome_some, if_true] at i1
      obtain ⟨rfl, hx, hx2⟩ := ix_some ea
      have hx' : x = 0 ∨ x = 1 := by omega
      have ro : ∀ T : zM, f_Mo_rowOf (nI j) (nI i') T = some (nI (aRu j i'), T) := fun T => ro_at j i'
      rcases hx' with rfl | rfl
      · rw [if_pos (show nI 0 = 0 from rfl)]
        have t0 : (nI 0 : Int32) = 0 := rfl
        have a0 : nI (aRu j i') + 0 = nI (aRu j i') := nI_add _ 0
        have z : zinb (nI (aRu j i')) 264 = true := (nn_in (by omega)).2 (by omega)
        have c : (nI (aRu j i')).toNatClampNeg = aRu j i' := nI_clamp (by omega)
        have v : zI (zfs S) (408 + 5) (aRu j i') = nI (zmR w j i').1.length := hru.1
        have hl : (zmR w j i').1.length ≤ 3 := hwr.2.1
        have ik := m_in0 (S := zfs S) k (n := (zmR w j i').1.length) (by omega)
        unfold zLt
        cases ek : zix k (zmR w j i').1.length with
        | none =>
          rw [ek] at ik
          simp only [Option.isSome_none, Bool.false_eq_true, if_false] at ik
          exact ⟨_, by simp [f_Mo_letter, -Prod.exists, -Prod.forall, ↓bb_gf, ↓bb_gr, ↓bb_len, ↓bb_ga, ↓bb_gl, ↓bb_go, ↓bb_pf, ↓bb_pz, ↓bb_pr, ↓bb_pa, ↓bb_pb, ↓bb_pl, ↓bb_po, ↓bb_cl, ↓bb_some, ↓bb_RI, ↓bb_RJ, mm_hI, mm_hJ, mm_hR, mm_nI, mm_nJ, mm_nR, mm_sI, mm_sJ, mm_sR, mm_RI, mm_RJ, mm_IJ, mm_IR, mm_JI, mm_JR, mm_II, mm_JJ, mm_RR, h8, ↓bS e0, g8, ↓bS ir, ↓bS i1, t0, ↓bS (mo_rules hc.1), mh_rules hc.1, ↓bS (ro _), a0, z, c, v, ↓bS ik, ↓bS n0', zrf] <;> rfl, n1, fr_trans e2 n2⟩
        | some y =>
          rw [ek] at ik
          simp only [Option.isSome_some, if_true] at ik
          obtain ⟨rfl, hy, hy2⟩ := ix_some ek
          have a4 : nI (aRu j i') + 4 = nI (aRu j i' + 4) := nI_add _ 4
          have z4 : zinb (nI (aRu j i' + 4 + y)) 264 = true := (nn_in (by omega)).2 (by omega)
          have c4 : (nI (aRu j i' + 4 + y)).toNatClampNeg = aRu j i' + 4 + y := nI_clamp (by omega)
          have v4 : zI (zfs S) (408 + 5) (aRu j i' + 4 + y) = nI (lg (zmR w j i').1 y) := hru.2.2.2.2.1 y hy
          exact ⟨_, by simp [f_Mo_letter, -Prod.exists, -Prod.forall, ↓bb_gf, ↓bb_gr, ↓bb_len, ↓bb_ga, ↓bb_gl, ↓bb_go, ↓bb_pf, ↓bb_pz, ↓bb_pr, ↓bb_pa, ↓bb_pb, ↓bb_pl, ↓bb_po, ↓bb_cl, ↓bb_some, ↓bb_RI, ↓bb_RJ, mm_hI, mm_hJ, mm_hR, mm_nI, mm_nJ, mm_nR, mm_sI, mm_sJ, mm_sR, mm_RI, mm_RJ, mm_IJ, mm_IR, mm_JI, mm_JR, mm_II, mm_JJ, mm_RR, h8, ↓bS e0, g8, ↓bS ir, ↓bS i1, t0, ↓bS (mo_rules hc.1), mh_rules hc.1, ↓bS (ro _), a0, z, c, v, ↓bS ik, a4, nI_add, z4, c4, v4, zan] <;> rfl, e1, e2⟩
      · rw [if_neg (show ¬ nI 1 = 0 by decide), if_pos (show nI 1 = 1 from rfl)]
        have t0 : ¬ (nI 1 : Int32) = 0 := by decide
        have z : zinb (nI (aRu j i' + 1)) 264 = true := (nn_in (by omega)).2 (by omega)
        have c : (nI (aRu j i' + 1)).toNatClampNeg = aRu j i' + 1 := nI_clamp (by omega)
        have v : zI (zfs S) (408 + 5) (aRu j i' + 1) = nI (zmR w j i').2.1.length := hru.2.1
        have hl : (zmR w j i').2.1.length ≤ 4 := hwr.2.2.1
        have ik := m_in0 (S := zfs S) k (n := (zmR w j i').2.1.length) (by omega)
        unfold zLt
        cases ek : zix k (zmR w j i').2.1.length with
        | none =>
          rw [ek] at ik
          simp only [Option.isSome_none, Bool.false_eq_true, if_false] at ik
          exact ⟨_, by simp [f_Mo_letter, -Prod.exists, -Prod.forall, ↓bb_gf, ↓bb_gr, ↓bb_len, ↓bb_ga, ↓bb_gl, ↓bb_go, ↓bb_pf, ↓bb_pz, ↓bb_pr, ↓bb_pa, ↓bb_pb, ↓bb_pl, ↓bb_po, ↓bb_cl, ↓bb_some, ↓bb_RI, ↓bb_RJ, mm_hI, mm_hJ, mm_hR, mm_nI, mm_nJ, mm_nR, mm_sI, mm_sJ, mm_sR, mm_RI, mm_RJ, mm_IJ, mm_IR, mm_JI, mm_JR, mm_II, mm_JJ, mm_RR, h8, ↓bS e0, g8, ↓bS ir, ↓bS i1, t0, ↓bS (mo_rules hc.1), mh_rules hc.1, ↓bS (ro _), nI_add, z, c, v, ↓bS ik, ↓bS n0', zrf] <;> rfl, n1, fr_trans e2 n2⟩
        | some y =>
          rw [ek] at ik
          simp only [Option.isSome_some, if_true] at ik
          obtain ⟨rfl, hy, hy2⟩ := ix_some ek
          have a7 : nI (aRu j i') + 7 = nI (aRu j i' + 7) := nI_add _ 7
          have z7 : zinb (nI (aRu j i' + 7 + y)) 264 = true := (nn_in (by omega)).2 (by omega)
          have c7 : (nI (aRu j i' + 7 + y)).toNatClampNeg = aRu j i' + 7 + y := nI_clamp (by omega)
          have v7 : zI (zfs S) (408 + 5) (aRu j i' + 7 + y) = nI (lg (zmR w j i').2.1 y) := hru.2.2.2.2.2 y hy
          exact ⟨_, by simp [f_Mo_letter, -Prod.exists, -Prod.forall, ↓bb_gf, ↓bb_gr, ↓bb_len, ↓bb_ga, ↓bb_gl, ↓bb_go, ↓bb_pf, ↓bb_pz, ↓bb_pr, ↓bb_pa, ↓bb_pb, ↓bb_pl, ↓bb_po, ↓bb_cl, ↓bb_some, ↓bb_RI, ↓bb_RJ, mm_hI, mm_hJ, mm_hR, mm_nI, mm_nJ, mm_nR, mm_sI, mm_sJ, mm_sR, mm_RI, mm_RJ, mm_IJ, mm_IR, mm_JI, mm_JR, mm_II, mm_JJ, mm_RR, h8, ↓bS e0, g8, ↓bS ir, ↓bS i1, t0, ↓bS (mo_rules hc.1), mh_rules hc.1, ↓bS (ro _), nI_add, z, c, v, ↓bS ik, a7, z7, c7, v7, zan] <;> rfl, e1, e2⟩
/-! the machine of beginnings -/
noncomputable def zNDp (w : zWs) (p : Nat) : List (List Nat) := zND (zpa_ (wSc w).2.2 p).2
noncomputable def zix3 (w : zWs) (p s : Int32) : Option (Nat × Nat) := match zix p (wSc w).2.2.length with
  | none => none
  | some p => match zix s (zNDp w p).length with
    | none => none
    | some s => some (p, s)
theorem ix3_some {w : zWs} {a b : Int32} {p s : Nat} (h : zix3 w a b = some (p, s)) : a = nI p ∧ b = nI s ∧ p < (wSc w).2.2.length ∧ s < (zNDp w p).length := by
  unfold zix3 at h
  split at h
  · cases h
  · rename_i q e
    split at h
    · cases h
    · rename_i r e2
      cases h
      exact ⟨(ix_some e).1, (ix_some e2).1, (ix_some e).2.1, (ix_some e2).2.1⟩
section
variable {S : zM} {w : zWs} {T U : Nat}
theorem cl_mach (hm : cMn S w T U) {p : Nat} (hp : p < (wSc w).2.2.length) : sMach S (aPs T p + 2) ∧ wNd (zpa_ (wSc w).2.2 p).2 false (zNDp w p) ∧ cMach S (aPs T p + 2) (zpa_ (wSc w).2.2 p).2 false (zNDp w p) := by
  have hS := hm.2.2.1.1
  have hP := hS.2.2.2.2.2.1 p hp
  obtain ⟨sm, nd, wn, cm⟩ := hP.2.2.2.2.2.1
  have en := nd_one (ps_w hS.2.2.2.2.2.2.2.2.2 hp) wn (nd_is wn)
  unfold zNDp
  rw [← en]
  exact ⟨sm, wn, cm⟩
theorem cl_machWith (hm : cMn S w T U) (a b : Int32) : f_Cl_machineWith 1 a b S = some ((zix3 w a b).map (fun q => aPs T q.1 + 2), S) := by
  have h1 := hm.1.1
  have r10 := r_told hm
  have hS := hm.2.2.1.1
  have pa := cl_pa hm a
  unfold zix3
  cases e : zix a (wSc w).2.2.length with
  | none =>
    rw [e] at pa
    simp only [Option.map_none] at pa
    simp [f_Cl_machineWith, -Prod.exists, -Prod.forall, ↓bb_gf, ↓bb_gr, ↓bb_len, ↓bb_ga, ↓bb_gl, ↓bb_go, ↓bb_pf, ↓bb_pz, ↓bb_pr, ↓bb_pa, ↓bb_pb, ↓bb_pl, ↓bb_po, ↓bb_cl, ↓bb_some, ↓bb_RI, ↓bb_RJ, mm_hI, mm_hJ, mm_hR, mm_nI, mm_nJ, mm_nR, mm_sI, mm_sJ, mm_sR, mm_RI, mm_RJ, mm_IJ, mm_IR, mm_JI, mm_JR, mm_II, mm_JJ, mm_RR, h1, ↓bS r10, hS.1.1, ↓bS pa]
  | some p =>
    rw [e] at pa
    simp only [Option.map_some] at pa
    obtain ⟨rfl, hp, _⟩ := ix_some e
    have hP := hS.2.2.2.2.2.1 p hp
    obtain ⟨sm, wn, cm⟩ := cl_mach hm hp
    simp only
    cases e2 : zix b (zNDp w p).length with
    | none =>
      have hf : f_Machine_has (aPs T p + 2) b S = some (0, S) := by
        rcases ix_none e2 with q | ⟨j, rfl, hj, hl⟩
        · exact mach_hasN sm q
        · exact mach_has2 sm wn cm hl hj
      simp [f_Cl_machineWith, -Prod.exists, -Prod.forall, ↓bb_gf, ↓bb_gr, ↓bb_len, ↓bb_ga, ↓bb_gl, ↓bb_go, ↓bb_pf, ↓bb_pz, ↓bb_pr, ↓bb_pa, ↓bb_pb, ↓bb_pl, ↓bb_po, ↓bb_cl, ↓bb_some, ↓bb_RI, ↓bb_RJ, mm_hI, mm_hJ, mm_hR, mm_nI, mm_nJ, mm_nR, mm_sI, mm_sJ, mm_sR, mm_RI, mm_RJ, mm_IJ, mm_IR, mm_JI, mm_JR, mm_II, mm_JJ, mm_RR, h1, ↓bS r10, hS.1.1, ↓bS pa, hP.1.1, ↓bS hP.1.2.2.2.2.1, sm.1, ↓bS hf]
    | some s =>
      obtain ⟨rfl, hs, _⟩ := ix_some e2
      have hf := mach_has sm wn cm hs
      simp [f_Cl_machineWith, -Prod.exists, -Prod.forall, ↓bb_gf, ↓bb_gr, ↓bb_len, ↓bb_ga, ↓bb_gl, ↓bb_go, ↓bb_pf, ↓bb_pz, ↓bb_pr, ↓bb_pa, ↓bb_pb, ↓bb_pl, ↓bb_po, ↓bb_cl, ↓bb_some, ↓bb_RI, ↓bb_RJ, mm_hI, mm_hJ, mm_hR, mm_nI, mm_nJ, mm_nR, mm_sI, mm_sJ, mm_sR, mm_RI, mm_RJ, mm_IJ, mm_IR, mm_JI, mm_JR, mm_II, mm_JJ, mm_RR, h1, ↓bS r10, hS.1.1, ↓bS pa, hP.1.1, ↓bS hP.1.2.2.2.2.1, sm.1, ↓bS hf]
theorem mo_isState (h : pMo S w) (ho : okW w) (a b : Int32) : ∃ S', f_Mo_isState 408 a b S = some (if (zix3 w a b).isSome then 1 else 0, S') ∧ pMo S' w ∧ zfr wMo S S' ∧ ∀ p s, zix3 w a b = some (p, s) → mSt S' 408 (zNDp w p) := by
  have h3 := ho.2.2.2.2.2.2.2.2.1
  have ip := mo_isPass h.1 ho a
  cases e : zix a (wSc w).2.2.length with
  | none =>
    rw [e] at ip
    simp only [Option.isSome_none, Bool.false_eq_true, if_false] at ip
    have ez : zix3 w a b = none := by unfold zix3; rw [e]
    rw [ez]
    exact ⟨S, by simp [f_Mo_isState, -Prod.exists, -Prod.forall, ↓bb_gf, ↓bb_gr, ↓bb_len, ↓bb_ga, ↓bb_gl, ↓bb_go, ↓bb_pf, ↓bb_pz, ↓bb_pr, ↓bb_pa, ↓bb_pb, ↓bb_pl, ↓bb_po, ↓bb_cl, ↓bb_some, ↓bb_RI, ↓bb_RJ, mm_hI, mm_hJ, mm_hR, mm_nI, mm_nJ, mm_nR, mm_sI, mm_sJ, mm_sR, mm_RI, mm_RJ, mm_IJ, mm_IR, mm_JI, mm_JR, mm_II, mm_JJ, mm_RR, h.1.1.1, ↓bS ip], h, fr_refl _ _, fun p s q => by cases q⟩
  | some p =>
    rw [e] at ip
    simp only [Option.isSome_some, if_true] at ip
    obtain ⟨rfl, hp, _⟩ := ix_some e
    obtain ⟨⟨nd, wn⟩, _⟩ := ho.2.2.2.2.2.2.2.2.2 p hp
    have wn : wNd (zpa_ (wSc w).2.2 p).2 false (zNDp w p) := nd_is wn
    obtain ⟨S1, s1, s2, s3⟩ := m_states h.1.1 h.1.2.1 hp wn
    obtain ⟨k1, k2⟩ := mo_keep h s2 (fun b j q => by unfold wMs; omega) (by omega) (by omega)
    have l33 := wn.1
    have ik := m_in0 (S := S1) b (n := (zNDp w p).length) (by omega)
    have v31 := s3.1
    cases e2 : zix b (zNDp w p).length with
    | none =>
      rw [e2] at ik
      simp only [Option.isSome_none, Bool.false_eq_true, if_false] at ik
      have ez : zix3 w (nI p) b = none := by unfold zix3; rw [e]; simp only; rw [e2]
      rw [ez]
      exact ⟨S1, by simp [f_Mo_isState, -Prod.exists, -Prod.forall, ↓bb_gf, ↓bb_gr, ↓bb_len, ↓bb_ga, ↓bb_gl, ↓bb_go, ↓bb_pf, ↓bb_pz, ↓bb_pr, ↓bb_pa, ↓bb_pb, ↓bb_pl, ↓bb_po, ↓bb_cl, ↓bb_some, ↓bb_RI, ↓bb_RJ, mm_hI, mm_hJ, mm_hR, mm_nI, mm_nJ, mm_nR, mm_sI, mm_sJ, mm_sR, mm_RI, mm_RJ, mm_IJ, mm_IR, mm_JI, mm_JR, mm_II, mm_JJ, mm_RR, h.1.1.1, ↓bS ip, ↓bS s1, k1.1.1.1, v31, ↓bS ik], k1, k2, fun p s q => by cases q⟩
    | some s =>
      rw [e2] at ik
      simp only [Option.isSome_some, if_true] at ik
      have ez : zix3 w (nI p) b = some (p, s) := by unfold zix3; rw [e]; simp only; rw [e2]
      rw [ez]
      exact ⟨S1, by simp [f_Mo_isState, -Prod.exists, -Prod.forall, ↓bb_gf, ↓bb_gr, ↓bb_len, ↓bb_ga, ↓bb_gl, ↓bb_go, ↓bb_pf, ↓bb_pz, ↓bb_pr, ↓bb_pa, ↓bb_pb, ↓bb_pl, ↓bb_po, ↓bb_cl, ↓bb_some, ↓bb_RI, ↓bb_RJ, mm_hI, mm_hJ, mm_hR, mm_nI, mm_nJ, mm_nR, mm_sI, mm_sJ, mm_sR, mm_RI, mm_RJ, mm_IJ, mm_IR, mm_JI, mm_JR, mm_II, mm_JJ, mm_RR, h.1.1.1, ↓bS ip, ↓bS s1, k1.1.1.1, v31, ↓bS ik], k1, k2, fun p' s' q => by cases q; exact s3⟩
end
noncomputable def sp_depth (p s : Int32) (w : zWs) : Int32 × zWs := match zix3 w p s with
  | none => zrf w 1
  | some (p, s) => zan w (nI (ln (zNDp w p) s).length)
theorem hk_depth (p s : Int32) : zHk (sp_depth p s) := hk_tr (fun w ho => by
  unfold sp_depth
  cases zix3 w p s with
  | none => exact ⟨1, by omega, rfl⟩
  | some j => exact ⟨0, by omega, rfl⟩)
theorem hc_depth (p s : Int32) : zHc (f_Cl_depth 1 p s) (sp_depth p s) := fun S w h ho => by
  obtain ⟨T, U, hm, hs, ht⟩ := h; have h1 := hm.1.1; have r10 := r_told hm; have hS := hm.2.2.1.1; obtain ⟨e0, e1⟩ := hc_same hm hs 0; obtain ⟨f0, f1⟩ := hc_same hm hs 1; have h3 := ho.2.2.2.2.2.2.2.2.1
  have mw := cl_machWith hm p s
  unfold sp_depth
  cases e : zix3 w p s with
  | none =>
    rw [e] at mw
    simp only [Option.map_none] at mw
    exact ⟨_, by simp [f_Cl_depth, -Prod.exists, -Prod.forall, ↓bb_gf, ↓bb_gr, ↓bb_len, ↓bb_ga, ↓bb_gl, ↓bb_go, ↓bb_pf, ↓bb_pz, ↓bb_pr, ↓bb_pa, ↓bb_pb, ↓bb_pl, ↓bb_po, ↓bb_cl, ↓bb_some, ↓bb_RI, ↓bb_RJ, mm_hI, mm_hJ, mm_hR, mm_nI, mm_nJ, mm_nR, mm_sI, mm_sJ, mm_sR, mm_RI, mm_RJ, mm_IJ, mm_IR, mm_JI, mm_JR, mm_II, mm_JJ, mm_RR, h1, ↓bS mw, ↓bS (cl_refuse h1 1), zrf] <;> rfl, f0, f1⟩
  | some q =>
    obtain ⟨j, k⟩ := q
    rw [e] at mw
    simp only [Option.map_some] at mw
    obtain ⟨rfl, rfl, hp, hk⟩ := ix3_some e
    obtain ⟨sm, wn, cm⟩ := cl_mach hm hp
    have md := mach_depth sm wn cm hk
    exact ⟨_, by simp [f_Cl_depth, -Prod.exists, -Prod.forall, ↓bb_gf, ↓bb_gr, ↓bb_len, ↓bb_ga, ↓bb_gl, ↓bb_go, ↓bb_pf, ↓bb_pz, ↓bb_pr, ↓bb_pa, ↓bb_pb, ↓bb_pl, ↓bb_po, ↓bb_cl, ↓bb_some, ↓bb_RI, ↓bb_RJ, mm_hI, mm_hJ, mm_hR, mm_nI, mm_nJ, mm_nR, mm_sI, mm_sJ, mm_sR, mm_RI, mm_RJ, mm_IJ, mm_IR, mm_JI, mm_JR, mm_II, mm_JJ, mm_RR, h1, ↓bS mw, sm.1, ↓bS md, ↓bS (cl_answer h1 _), zan] <;> rfl, e0, e1⟩
theorem hm_depth (p s : Int32) : zHm (f_Mo_depth 408 p s) (sp_depth p s) := fun S w h ho => by
  obtain ⟨e0, e1, e2⟩ := mo_fresh h; obtain ⟨n0, n1, n2⟩ := mo_no e1 (n := 1) (by omega); have n0' : f_Mo_no 408 1 (zfs S) = some (-1, zwI (zfs S) 408 1 (nI 1)) := n0; have hc := e1.1; have h8 := h.1.1.1; have g8 := hc.1.1; have h3 := ho.2.2.2.2.2.2.2.2.1; have ho' : okW (sTr w 0) := okW_tr ho (by omega)
  obtain ⟨S1, i1, i2, i3, i4⟩ := mo_isState e1 ho' p s
  have i1' : f_Mo_isState 408 p s (zfs S) = some (if (zix3 w p s).isSome then 1 else 0, S1) := i1
  obtain ⟨m0, m1, m2⟩ := mo_no i2 (n := 1) (by omega)
  have m0' : f_Mo_no 408 1 S1 = some (-1, zwI S1 408 1 (nI 1)) := m0
  unfold sp_depth
  cases e : zix3 w p s with
  | none =>
    rw [e] at i1'
    simp only [Option.isSome_none, Bool.false_eq_true, if_false] at i1'
    exact ⟨_, by simp [f_Mo_depth, -Prod.exists, -Prod.forall, ↓bb_gf, ↓bb_gr, ↓bb_len, ↓bb_ga, ↓bb_gl, ↓bb_go, ↓bb_pf, ↓bb_pz, ↓bb_pr, ↓bb_pa, ↓bb_pb, ↓bb_pl, ↓bb_po, ↓bb_cl, ↓bb_some, ↓bb_RI, ↓bb_RJ, mm_hI, mm_hJ, mm_hR, mm_nI, mm_nJ, mm_nR, mm_sI, mm_sJ, mm_sR, mm_RI, mm_RJ, mm_IJ, mm_IR, mm_JI, mm_JR, mm_II, mm_JJ, mm_RR, h8, ↓bS e0, g8, ↓bS i1', i2.1.1.1, ↓bS m0', zrf] <;> rfl, m1, fr_trans e2 (fr_trans i3 m2)⟩
  | some q =>
    obtain ⟨j, k⟩ := q
    rw [e] at i1'
    simp only [Option.isSome_some, if_true] at i1'
    obtain ⟨rfl, rfl, hp, hk⟩ := ix3_some e
    have st : mSt S1 408 (zNDp w j) := i4 j k e
    obtain ⟨⟨nd, wn⟩, _⟩ := ho.2.2.2.2.2.2.2.2.2 j hp
    have wn : wNd (zpa_ (wSc w).2.2 j).2 false (zNDp w j) := nd_is wn
    have l33 := wn.1
    have c3 := nd_c3 (ps_w hc.2.1.2.2.2.2.2.2.2.2.2.2.2.2 hp) wn (t := ln (zNDp w j) k) (by simp [ln, hk])
    have z : zinb (nI k) 73 = true := (nn_in (by omega)).2 (by omega)
    have c : (nI k).toNatClampNeg = k := nI_clamp (by omega)
    have v : zI S1 (408 + 11) k = nI (zcd (ln (zNDp w j) k)) := st.2 k hk
    have n5 : ¬ (512 : Int32) = 0 := by decide
    have d5 := div_512 _ (cd_lt c3)
    rw [cd_div c3] at d5
    exact ⟨_, by simp [f_Mo_depth, -Prod.exists, -Prod.forall, ↓bb_gf, ↓bb_gr, ↓bb_len, ↓bb_ga, ↓bb_gl, ↓bb_go, ↓bb_pf, ↓bb_pz, ↓bb_pr, ↓bb_pa, ↓bb_pb, ↓bb_pl, ↓bb_po, ↓bb_cl, ↓bb_some, ↓bb_RI, ↓bb_RJ, mm_hI, mm_hJ, mm_hR, mm_nI, mm_nJ, mm_nR, mm_sI, mm_sJ, mm_sR, mm_RI, mm_RJ, mm_IJ, mm_IR, mm_JI, mm_JR, mm_II, mm_JJ, mm_RR, h8, ↓bS e0, g8, ↓bS i1', i2.1.1.1, ↓bS (mo_states i2.1.1), mh_states i2.1.1, z, c, v, n5, d5, zan] <;> rfl, i2, fr_trans e2 i3⟩
noncomputable def sp_ends (p s : Int32) (w : zWs) : Int32 × zWs := match zix3 w p s with
  | none => zrf w 1
  | some (p, s) => zan w (nI (zend (zpa_ (wSc w).2.2 p).2 false (ln (zNDp w p) s)))
theorem hk_ends (p s : Int32) : zHk (sp_ends p s) := hk_tr (fun w ho => by
  unfold sp_ends
  cases zix3 w p s with
  | none => exact ⟨1, by omega, rfl⟩
  | some j => exact ⟨0, by omega, rfl⟩)
theorem hc_ends (p s : Int32) : zHc (f_Cl_ends 1 p s) (sp_ends p s) := fun S w h ho => by
  obtain ⟨T, U, hm, hs, ht⟩ := h; have h1 := hm.1.1; have r10 := r_told hm; have hS := hm.2.2.1.1; obtain ⟨e0, e1⟩ := hc_same hm hs 0; obtain ⟨f0, f1⟩ := hc_same hm hs 1; have h3 := ho.2.2.2.2.2.2.2.2.1
  have mw := cl_machWith hm p s
  unfold sp_ends
  cases e : zix3 w p s with
  | none =>
    rw [e] at mw
    simp only [Option.map_none] at mw
    exact ⟨_, by simp [f_Cl_ends, -Prod.exists, -Prod.forall, ↓bb_gf, ↓bb_gr, ↓bb_len, ↓bb_ga, ↓bb_gl, ↓bb_go, ↓bb_pf, ↓bb_pz, ↓bb_pr, ↓bb_pa, ↓bb_pb, ↓bb_pl, ↓bb_po, ↓bb_cl, ↓bb_some, ↓bb_RI, ↓bb_RJ, mm_hI, mm_hJ, mm_hR, mm_nI, mm_nJ, mm_nR, mm_sI, mm_sJ, mm_sR, mm_RI, mm_RJ, mm_IJ, mm_IR, mm_JI, mm_JR, mm_II, mm_JJ, mm_RR, h1, ↓bS mw, ↓bS (cl_refuse h1 1), zrf] <;> rfl, f0, f1⟩
  | some q =>
    obtain ⟨j, k⟩ := q
    rw [e] at mw
    simp only [Option.map_some] at mw
    obtain ⟨rfl, rfl, hp, hk⟩ := ix3_some e
    obtain ⟨sm, wn, cm⟩ := cl_mach hm hp
    have md := mach_ends sm wn cm hk
    exact ⟨_, by simp [f_Cl_ends, -Prod.exists, -Prod.forall, ↓bb_gf, ↓bb_gr, ↓bb_len, ↓bb_ga, ↓bb_gl, ↓bb_go, ↓bb_pf, ↓bb_pz, ↓bb_pr, ↓bb_pa, ↓bb_pb, ↓bb_pl, ↓bb_po, ↓bb_cl, ↓bb_some, ↓bb_RI, ↓bb_RJ, mm_hI, mm_hJ, mm_hR, mm_nI, mm_nJ, mm_nR, mm_sI, mm_sJ, mm_sR, mm_RI, mm_RJ, mm_IJ, mm_IR, mm_JI, mm_JR, mm_II, mm_JJ, mm_RR, h1, ↓bS mw, sm.1, ↓bS md, ↓bS (cl_answer h1 _), zan] <;> rfl, e0, e1⟩
theorem hm_ends (p s : Int32) : zHm (f_Mo_ends 408 p s) (sp_ends p s) := fun S w h ho => by
  obtain ⟨e0, e1, e2⟩ := mo_fresh h; obtain ⟨n0, n1, n2⟩ := mo_no e1 (n := 1) (by omega); have n0' : f_Mo_no 408 1 (zfs S) = some (-1, zwI (zfs S) 408 1 (nI 1)) := n0; have hc := e1.1; have h8 := h.1.1.1; have g8 := hc.1.1; have h3 := ho.2.2.2.2.2.2.2.2.1; have ho' : okW (sTr w 0) := okW_tr ho (by omega)
  obtain ⟨S1, i1, i2, i3, i4⟩ := mo_isState e1 ho' p s
  have i1' : f_Mo_isState 408 p s (zfs S) = some (if (zix3 w p s).isSome then 1 else 0, S1) := i1
  obtain ⟨m0, m1, m2⟩ := mo_no i2 (n := 1) (by omega)
  have m0' : f_Mo_no 408 1 S1 = some (-1, zwI S1 408 1 (nI 1)) := m0
  unfold sp_ends
  cases e : zix3 w p s with
  | none =>
    rw [e] at i1'
    simp only [Option.isSome_none, Bool.false_eq_true, if_false] at i1'
    exact ⟨_, by simp [f_Mo_ends, -Prod.exists, -Prod.forall, ↓bb_gf, ↓bb_gr, ↓bb_len, ↓bb_ga, ↓bb_gl, ↓bb_go, ↓bb_pf, ↓bb_pz, ↓bb_pr, ↓bb_pa, ↓bb_pb, ↓bb_pl, ↓bb_po, ↓bb_cl, ↓bb_some, ↓bb_RI, ↓bb_RJ, mm_hI, mm_hJ, mm_hR, mm_nI, mm_nJ, mm_nR, mm_sI, mm_sJ, mm_sR, mm_RI, mm_RJ, mm_IJ, mm_IR, mm_JI, mm_JR, mm_II, mm_JJ, mm_RR, h8, ↓bS e0, g8, ↓bS i1', i2.1.1.1, ↓bS m0', zrf] <;> rfl, m1, fr_trans e2 (fr_trans i3 m2)⟩
  | some q =>
    obtain ⟨j, k⟩ := q
    rw [e] at i1'
    simp only [Option.isSome_some, if_true] at i1'
    obtain ⟨rfl, rfl, hp, hk⟩ := ix3_some e
    have st : mSt S1 408 (zNDp w j) := i4 j k e
    obtain ⟨⟨nd, wn⟩, _⟩ := ho.2.2.2.2.2.2.2.2.2 j hp
    have wn : wNd (zpa_ (wSc w).2.2 j).2 false (zNDp w j) := nd_is wn
    have hsc : mSc S1 408 (wSc w) (wAs w) := i2.1.2.1
    have r8 := (ps_w hsc.2.2.2.2.2.2.2.2.2.2.2.2 hp).1
    have el := ends_l i2.1.1 hsc hp wn st hk (zpa_ (wSc w).2.2 j).2.length zF 0 (by omega) (by rw [zF_eq]; omega)
    have el' : L_Mo_ends_24 zF 408 (nI j) (nI k) 0 0 S1 = some (nI (zend (zpa_ (wSc w).2.2 j).2 false (ln (zNDp w j) k)), S1) := el
    exact ⟨_, by simp [f_Mo_ends, -Prod.exists, -Prod.forall, ↓bb_gf, ↓bb_gr, ↓bb_len, ↓bb_ga, ↓bb_gl, ↓bb_go, ↓bb_pf, ↓bb_pz, ↓bb_pr, ↓bb_pa, ↓bb_pb, ↓bb_pl, ↓bb_po, ↓bb_cl, ↓bb_some, ↓bb_RI, ↓bb_RJ, mm_hI, mm_hJ, mm_hR, mm_nI, mm_nJ, mm_nR, mm_sI, mm_sJ, mm_sR, mm_RI, mm_RJ, mm_IJ, mm_IR, mm_JI, mm_JR, mm_II, mm_JJ, mm_RR, h8, ↓bS e0, g8, ↓bS i1', el', zan] <;> rfl, i2, fr_trans e2 i3⟩
noncomputable def sp_goes (p s l : Int32) (w : zWs) : Int32 × zWs := match zix3 w p s with
  | none => zrf w 1
  | some (p, s) => match zix l 8 with
    | none => zrf w 1
    | some l => zan w (zidx (zNDp w p) (ln (zNDp w p) s ++ [l]))
theorem hk_goes (p s l : Int32) : zHk (sp_goes p s l) := hk_tr (fun w ho => by
  unfold sp_goes
  cases zix3 w p s with
  | none => exact ⟨1, by omega, rfl⟩
  | some j =>
    simp only
    cases zix l 8 with
    | none => exact ⟨1, by omega, rfl⟩
    | some x => exact ⟨0, by omega, rfl⟩)
theorem hc_goes (p s l : Int32) : zHc (f_Cl_goes 1 p s l) (sp_goes p s l) := fun S w h ho => by
  obtain ⟨T, U, hm, hs, ht⟩ := h; have h1 := hm.1.1; have r10 := r_told hm; have hS := hm.2.2.1.1; obtain ⟨e0, e1⟩ := hc_same hm hs 0; obtain ⟨f0, f1⟩ := hc_same hm hs 1; have h3 := ho.2.2.2.2.2.2.2.2.1
  have mw := cl_machWith hm p s
  unfold sp_goes
  cases e : zix3 w p s with
  | none =>
    rw [e] at mw
    simp only [Option.map_none] at mw
    exact ⟨_, by simp [f_Cl_goes, -Prod.exists, -Prod.forall, ↓bb_gf, ↓bb_gr, ↓bb_len, ↓bb_ga, ↓bb_gl, ↓bb_go, ↓bb_pf, ↓bb_pz, ↓bb_pr, ↓bb_pa, ↓bb_pb, ↓bb_pl, ↓bb_po, ↓bb_cl, ↓bb_some, ↓bb_RI, ↓bb_RJ, mm_hI, mm_hJ, mm_hR, mm_nI, mm_nJ, mm_nR, mm_sI, mm_sJ, mm_sR, mm_RI, mm_RJ, mm_IJ, mm_IR, mm_JI, mm_JR, mm_II, mm_JJ, mm_RR, h1, ↓bS mw, ↓bS (cl_refuse h1 1), zrf] <;> rfl, f0, f1⟩
  | some q =>
    obtain ⟨j, k⟩ := q
    rw [e] at mw
    simp only [Option.map_some] at mw
    obtain ⟨rfl, rfl, hp, hk⟩ := ix3_some e
    obtain ⟨sm, wn, cm⟩ := cl_mach hm hp
    simp only
    cases e8 : zix l 8 with
    | none =>
      simp only
      rcases ix_none e8 with q | ⟨x, rfl, hx, hn⟩
      · exact ⟨_, by simp [f_Cl_goes, -Prod.exists, -Prod.forall, ↓bb_gf, ↓bb_gr, ↓bb_len, ↓bb_ga, ↓bb_gl, ↓bb_go, ↓bb_pf, ↓bb_pz, ↓bb_pr, ↓bb_pa, ↓bb_pb, ↓bb_pl, ↓bb_po, ↓bb_cl, ↓bb_some, ↓bb_RI, ↓bb_RJ, mm_hI, mm_hJ, mm_hR, mm_nI, mm_nJ, mm_nR, mm_sI, mm_sJ, mm_sR, mm_RI, mm_RJ, mm_IJ, mm_IR, mm_JI, mm_JR, mm_II, mm_JJ, mm_RR, h1, ↓bS mw, q, ↓bS (cl_refuse h1 1), zrf] <;> rfl, f0, f1⟩
      · have l0 : ¬ nI x < 0 := nI_pos hx
        have l8' : ¬ nI x < 8 := fun q => by have := (nI_ltI (b := 8) hx (by omega)).1 q; omega
        exact ⟨_, by simp [f_Cl_goes, -Prod.exists, -Prod.forall, ↓bb_gf, ↓bb_gr, ↓bb_len, ↓bb_ga, ↓bb_gl, ↓bb_go, ↓bb_pf, ↓bb_pz, ↓bb_pr, ↓bb_pa, ↓bb_pb, ↓bb_pl, ↓bb_po, ↓bb_cl, ↓bb_some, ↓bb_RI, ↓bb_RJ, mm_hI, mm_hJ, mm_hR, mm_nI, mm_nJ, mm_nR, mm_sI, mm_sJ, mm_sR, mm_RI, mm_RJ, mm_IJ, mm_IR, mm_JI, mm_JR, mm_II, mm_JJ, mm_RR, h1, ↓bS mw, l0, l8', ↓bS (cl_refuse h1 1), zrf] <;> rfl, f0, f1⟩
    | some x =>
      simp only
      obtain ⟨rfl, hx, hx2⟩ := ix_some e8
      have l0 : ¬ nI x < 0 := nI_pos hx2
      have l8' : nI x < 8 := (nI_ltI (b := 8) hx2 (by omega)).2 hx
      have md := mach_step sm wn cm hk hx
      exact ⟨_, by simp [f_Cl_goes, -Prod.exists, -Prod.forall, ↓bb_gf, ↓bb_gr, ↓bb_len, ↓bb_ga, ↓bb_gl, ↓bb_go, ↓bb_pf, ↓bb_pz, ↓bb_pr, ↓bb_pa, ↓bb_pb, ↓bb_pl, ↓bb_po, ↓bb_cl, ↓bb_some, ↓bb_RI, ↓bb_RJ, mm_hI, mm_hJ, mm_hR, mm_nI, mm_nJ, mm_nR, mm_sI, mm_sJ, mm_sR, mm_RI, mm_RJ, mm_IJ, mm_IR, mm_JI, mm_JR, mm_II, mm_JJ, mm_RR, h1, ↓bS mw, l0, l8', sm.1, ↓bS md, ↓bS (cl_answer h1 _), zan] <;> rfl, e0, e1⟩
theorem idx_long {rs : List zRu} {nd : List (List Nat)} {t : List Nat} {l : Nat} (hw : wRs rs) (hn : wNd rs false nd) (h : ¬ t.length < 3) : zidx nd (t ++ [l]) = -2 := by
  unfold zidx
  rw [if_neg]
  intro q
  have := (nd_c3 hw hn q).1
  rw [List.length_append, List.length_singleton] at this
  omega
theorem hm_goes (p s l : Int32) : zHm (f_Mo_goes 408 p s l) (sp_goes p s l) := fun S w h ho => by
  obtain ⟨e0, e1, e2⟩ := mo_fresh h; obtain ⟨n0, n1, n2⟩ := mo_no e1 (n := 1) (by omega); have n0' : f_Mo_no 408 1 (zfs S) = some (-1, zwI (zfs S) 408 1 (nI 1)) := n0; have hc := e1.1; have h8 := h.1.1.1; have g8 := hc.1.1; have h3 := ho.2.2.2.2.2.2.2.2.1; have ho' : okW (sTr w 0) := okW_tr ho (by omega)
  obtain ⟨S1, i1, i2, i3, i4⟩ := mo_isState e1 ho' p s
  have i1' : f_Mo_isState 408 p s (zfs S) = some (if (zix3 w p s).isSome then 1 else 0, S1) := i1
  obtain ⟨m0, m1, m2⟩ := mo_no i2 (n := 1) (by omega)
  have m0' : f_Mo_no 408 1 S1 = some (-1, zwI S1 408 1 (nI 1)) := m0
  have i7 : f_Mo_in l 0 7 S1 = some (if (zix l 8).isSome then 1 else 0, S1) := m_inK l (k := 7) (by omega)
  unfold sp_goes
  cases e : zix3 w p s with
  | none =>
    rw [e] at i1'
    simp only [Option.isSome_none, Bool.false_eq_true, if_false] at i1'
    exact ⟨_, by simp [f_Mo_goes, -Prod.exists, -Prod.forall, ↓bb_gf, ↓bb_gr, ↓bb_len, ↓bb_ga, ↓bb_gl, ↓bb_go, ↓bb_pf, ↓bb_pz, ↓bb_pr, ↓bb_pa, ↓bb_pb, ↓bb_pl, ↓bb_po, ↓bb_cl, ↓bb_some, ↓bb_RI, ↓bb_RJ, mm_hI, mm_hJ, mm_hR, mm_nI, mm_nJ, mm_nR, mm_sI, mm_sJ, mm_sR, mm_RI, mm_RJ, mm_IJ, mm_IR, mm_JI, mm_JR, mm_II, mm_JJ, mm_RR, h8, ↓bS e0, g8, ↓bS i1', i2.1.1.1, ↓bS m0', zrf] <;> rfl, m1, fr_trans e2 (fr_trans i3 m2)⟩
  | some q =>
    obtain ⟨j, k⟩ := q
    rw [e] at i1'
    simp only [Option.isSome_some, if_true] at i1'
    obtain ⟨rfl, rfl, hp, hk⟩ := ix3_some e
    have st : mSt S1 408 (zNDp w j) := i4 j k e
    obtain ⟨⟨nd, wn⟩, _⟩ := ho.2.2.2.2.2.2.2.2.2 j hp
    have wn : wNd (zpa_ (wSc w).2.2 j).2 false (zNDp w j) := nd_is wn
    have l33 := wn.1
    have wr := ps_w hc.2.1.2.2.2.2.2.2.2.2.2.2.2.2 hp
    have c3 := nd_c3 wr wn (t := ln (zNDp w j) k) (by simp [ln, hk])
    simp only
    cases e8 : zix l 8 with
    | none =>
      rw [e8] at i7
      simp only [Option.isSome_none, Bool.false_eq_true, if_false] at i7
      exact ⟨_, by simp [f_Mo_goes, -Prod.exists, -Prod.forall, ↓bb_gf, ↓bb_gr, ↓bb_len, ↓bb_ga, ↓bb_gl, ↓bb_go, ↓bb_pf, ↓bb_pz, ↓bb_pr, ↓bb_pa, ↓bb_pb, ↓bb_pl, ↓bb_po, ↓bb_cl, ↓bb_some, ↓bb_RI, ↓bb_RJ, mm_hI, mm_hJ, mm_hR, mm_nI, mm_nJ, mm_nR, mm_sI, mm_sJ, mm_sR, mm_RI, mm_RJ, mm_IJ, mm_IR, mm_JI, mm_JR, mm_II, mm_JJ, mm_RR, h8, ↓bS e0, g8, ↓bS i1', ↓bS i7, i2.1.1.1, ↓bS m0', zrf] <;> rfl, m1, fr_trans e2 (fr_trans i3 m2)⟩
    | some x =>
      rw [e8] at i7
      simp only [Option.isSome_some, if_true] at i7
      obtain ⟨rfl, hx, hx2⟩ := ix_some e8
      have z : zinb (nI k) 73 = true := (nn_in (by omega)).2 (by omega)
      have c : (nI k).toNatClampNeg = k := nI_clamp (by omega)
      have v : zI S1 (408 + 11) k = nI (zcd (ln (zNDp w j) k)) := st.2 k hk
      have n5 : ¬ (512 : Int32) = 0 := by decide
      have d5 := div_512 _ (cd_lt c3)
      rw [cd_div c3] at d5
      have lt := cd_lt c3
      by_cases q3 : (ln (zNDp w j) k).length < 3
      · have gi := goes_idx wr i2.1.1 st wn hk hx q3
        rw [cd_app q3] at gi
        have a5 : nI (zcd (ln (zNDp w j) k)) + 512 = nI (zcd (ln (zNDp w j) k) + 512) := nI_add _ 512
        have hl : (ln (zNDp w j) k).length = 0 ∨ (ln (zNDp w j) k).length = 1 ∨ (ln (zNDp w j) k).length = 2 := by omega
        rcases hl with hl | hl | hl
        · rw [hl] at d5 gi
          have b3 : ¬ nI 0 = (3 : Int32) := by decide
          have b0 : nI 0 = (0 : Int32) := rfl
          have m6 : (64 : Int32) * nI x = nI (64 * x) := pk_mul 64 x
          have gi' : L_Mo_goes_94 zF 408 (nI (zcd (ln (zNDp w j) k) + 512 + 64 * x)) 0 S1 = some (zidx (zNDp w j) (ln (zNDp w j) k ++ [x]), S1) := gi
          exact ⟨_, by simp [f_Mo_goes, -Prod.exists, -Prod.forall, ↓bb_gf, ↓bb_gr, ↓bb_len, ↓bb_ga, ↓bb_gl, ↓bb_go, ↓bb_pf, ↓bb_pz, ↓bb_pr, ↓bb_pa, ↓bb_pb, ↓bb_pl, ↓bb_po, ↓bb_cl, ↓bb_some, ↓bb_RI, ↓bb_RJ, mm_hI, mm_hJ, mm_hR, mm_nI, mm_nJ, mm_nR, mm_sI, mm_sJ, mm_sR, mm_RI, mm_RJ, mm_IJ, mm_IR, mm_JI, mm_JR, mm_II, mm_JJ, mm_RR, h8, ↓bS e0, g8, ↓bS i1', ↓bS i7, i2.1.1.1, ↓bS (mo_states i2.1.1), mh_states i2.1.1, z, c, v, n5, d5, b0, a5, m6, nI_add, gi', zan] <;> rfl, i2, fr_trans e2 i3⟩
        · rw [hl] at d5 gi
          have b3 : ¬ nI 1 = (3 : Int32) := by decide
          have b0 : ¬ nI 1 = (0 : Int32) := by decide
          have b1 : nI 1 = (1 : Int32) := rfl
          have m6 : (8 : Int32) * nI x = nI (8 * x) := pk_mul 8 x
          have gi' : L_Mo_goes_94 zF 408 (nI (zcd (ln (zNDp w j) k) + 512 + 8 * x)) 0 S1 = some (zidx (zNDp w j) (ln (zNDp w j) k ++ [x]), S1) := gi
          exact ⟨_, by simp [f_Mo_goes, -Prod.exists, -Prod.forall, ↓bb_gf, ↓bb_gr, ↓bb_len, ↓bb_ga, ↓bb_gl, ↓bb_go, ↓bb_pf, ↓bb_pz, ↓bb_pr, ↓bb_pa, ↓bb_pb, ↓bb_pl, ↓bb_po, ↓bb_cl, ↓bb_some, ↓bb_RI, ↓bb_RJ, mm_hI, mm_hJ, mm_hR, mm_nI, mm_nJ, mm_nR, mm_sI, mm_sJ, mm_sR, mm_RI, mm_RJ, mm_IJ, mm_IR, mm_JI, mm_JR, mm_II, mm_JJ, mm_RR, h8, ↓bS e0, g8, ↓bS i1', ↓bS i7, i2.1.1.1, ↓bS (mo_states i2.1.1), mh_states i2.1.1, z, c, v, n5, d5, b1, a5, m6, nI_add, gi', zan] <;> rfl, i2, fr_trans e2 i3⟩
        · rw [hl] at d5 gi
          have b3 : ¬ nI 2 = (3 : Int32) := by decide
          have b0 : ¬ nI 2 = (0 : Int32) := by decide
          have b1 : ¬ nI 2 = (1 : Int32) := by decide
          have m6 : (1 : Int32) * nI x = nI (1 * x) := pk_mul 1 x
          have gi' : L_Mo_goes_94 zF 408 (nI (zcd (ln (zNDp w j) k) + 512 + 1 * x)) 0 S1 = some (zidx (zNDp w j) (ln (zNDp w j) k ++ [x]), S1) := gi
          rw [Nat.one_mul] at gi'
          have m1 : (1 : Int32) * nI x = nI x := by rw [m6, Nat.one_mul]
          exact ⟨_, by simp [f_Mo_goes, -Prod.exists, -Prod.forall, ↓bb_gf, ↓bb_gr, ↓bb_len, ↓bb_ga, ↓bb_gl, ↓bb_go, ↓bb_pf, ↓bb_pz, ↓bb_pr, ↓bb_pa, ↓bb_pb, ↓bb_pl, ↓bb_po, ↓bb_cl, ↓bb_some, ↓bb_RI, ↓bb_RJ, mm_hI, mm_hJ, mm_hR, mm_nI, mm_nJ, mm_nR, mm_sI, mm_sJ, mm_sR, mm_RI, mm_RJ, mm_IJ, mm_IR, mm_JI, mm_JR, mm_II, mm_JJ, mm_RR, h8, ↓bS e0, g8, ↓bS i1', ↓bS i7, i2.1.1.1, ↓bS (mo_states i2.1.1), mh_states i2.1.1, z, c, v, n5, d5, b3, b0, b1, a5, m1, nI_add, gi', zan] <;> rfl, i2, fr_trans e2 i3⟩
      · have hl : (ln (zNDp w j) k).length = 3 := by have := c3.1; omega
        rw [hl] at d5
        have b3 : nI 3 = (3 : Int32) := rfl
        have ei := idx_long (l := x) wr wn q3
        simp only [ei]
        exact ⟨_, by simp [f_Mo_goes, -Prod.exists, -Prod.forall, ↓bb_gf, ↓bb_gr, ↓bb_len, ↓bb_ga, ↓bb_gl, ↓bb_go, ↓bb_pf, ↓bb_pz, ↓bb_pr, ↓bb_pa, ↓bb_pb, ↓bb_pl, ↓bb_po, ↓bb_cl, ↓bb_some, ↓bb_RI, ↓bb_RJ, mm_hI, mm_hJ, mm_hR, mm_nI, mm_nJ, mm_nR, mm_sI, mm_sJ, mm_sR, mm_RI, mm_RJ, mm_IJ, mm_IR, mm_JI, mm_JR, mm_II, mm_JJ, mm_RR, h8, ↓bS e0, g8, ↓bS i1', ↓bS i7, i2.1.1.1, ↓bS (mo_states i2.1.1), mh_states i2.1.1, z, c, v, n5, d5, b3, zan] <;> rfl, i2, fr_trans e2 i3⟩
