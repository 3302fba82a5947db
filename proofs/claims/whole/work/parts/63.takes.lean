/-! the class: letters that some rule always takes -/
section
variable {S : zM} {P : Nat} {ps : zPs} {mask l : Nat}
theorem takes_l (h : pPass S P ps mask) (hl : l < 8) : ∀ d F i, d + i = ps.2.length → d < F → ((∃ j, i ≤ j ∧ j < ps.2.length ∧ ztk1 mask l j (zru ps.2 j)) ∧ L_Pass_alwaysTakes_2 F P (nI l) (nI i) S = some (1, S)) ∨ ((∀ j, i ≤ j → j < ps.2.length → ¬ ztk1 mask l j (zru ps.2 j)) ∧ L_Pass_alwaysTakes_2 F P (nI l) (nI i) S = some (0, S)) := by
  have h0 := h
  obtain ⟨s1, s2, s3, s4, s5, s6, s7, wr, s9⟩ := h
  have hr8 := wr.1
  have hP := s1.1
  intro d
  induction d with
  | zero =>
    intro F i hd hF
    cases F with
    | zero => omega
    | succ F =>
      have hx : ¬ i < ps.2.length := by omega
      refine Or.inr ⟨fun j a b => by omega, ?_⟩
      simp (disch := omega) [L_Pass_alwaysTakes_2, -Prod.exists, -Prod.forall, ↓bb_gf, ↓bb_gr, ↓bb_len, ↓bb_ga, ↓bb_gl, ↓bb_go, ↓bb_pf, ↓bb_pz, ↓bb_pr, ↓bb_pa, ↓bb_pb, ↓bb_pl, ↓bb_po, ↓bb_cl, ↓bb_some, ↓bb_RI, ↓bb_RJ, mm_hI, mm_hJ, mm_hR, mm_nI, mm_nJ, mm_nR, mm_sI, mm_sJ, mm_sR, mm_RI, mm_RJ, mm_IJ, mm_IR, mm_JI, mm_JR, mm_II, mm_JJ, mm_RR, nI_ltI, hP, s2, hx]
  | succ d ih =>
    intro F i hd hF
    cases F with
    | zero => omega
    | succ F =>
      have hi : i < ps.2.length := by omega
      have hw := ru_w wr hi
      have e1 : nI i + 1 = nI (i + 1) := nI_add i 1
      have ra : f_Pass_ruleAt P (nI i) S = some (some (P + 16 + 5 * i), S) := by
        rw [pass_ruleAt h0, nI_clamp (by omega), if_neg (nI_pos (by omega)), if_pos hi]
      have sv := pass_serves h0 hi
      obtain ⟨r1, r2, r3, r4, r5, r6, r7⟩ := s5 i hi
      have fin : ¬ ztk1 mask l i (zru ps.2 i) → L_Pass_alwaysTakes_2 (F + 1) P (nI l) (nI i) S = L_Pass_alwaysTakes_2 F P (nI l) (nI (i + 1)) S → ((∃ j, i ≤ j ∧ j < ps.2.length ∧ ztk1 mask l j (zru ps.2 j)) ∧ L_Pass_alwaysTakes_2 (F + 1) P (nI l) (nI i) S = some (1, S)) ∨ ((∀ j, i ≤ j → j < ps.2.length → ¬ ztk1 mask l j (zru ps.2 j)) ∧ L_Pass_alwaysTakes_2 (F + 1) P (nI l) (nI i) S = some (0, S)) := by
        intro q st
        rw [st]
        rcases ih F (i + 1) (by omega) (by omega) with ⟨⟨j, w1, w2, w3⟩, w4⟩ | ⟨w1, w2⟩
        · exact Or.inl ⟨⟨j, by omega, w2, w3⟩, w4⟩
        · refine Or.inr ⟨fun j a b => ?_, w2⟩
          by_cases e3 : j = i
          · subst e3; exact q
          · exact w1 j (by omega) b
      cases b1 : mask.testBit i with
      | true =>
        rw [b1] at sv
        simp only [if_true] at sv
        refine fin (fun q => by rw [q.1] at b1; cases b1) ?_
        rw [L_Pass_alwaysTakes_2]
        simp (disch := omega) [-Prod.exists, -Prod.forall, ↓bb_gf, ↓bb_gr, ↓bb_len, ↓bb_ga, ↓bb_gl, ↓bb_go, ↓bb_pf, ↓bb_pz, ↓bb_pr, ↓bb_pa, ↓bb_pb, ↓bb_pl, ↓bb_po, ↓bb_cl, ↓bb_some, ↓bb_RI, ↓bb_RJ, mm_hI, mm_hJ, mm_hR, mm_nI, mm_nJ, mm_nR, mm_sI, mm_sJ, mm_sR, mm_RI, mm_RJ, mm_IJ, mm_IR, mm_JI, mm_JR, mm_II, mm_JJ, mm_RR, nI_ltI, hP, s2, hi, ↓bS ra, ↓bS sv, e1]
      | false =>
        rw [b1] at sv
        simp only [Bool.false_eq_true, if_false] at sv
        have g6 : zI S (P + 16 + 5 * i + 1) 1 = nI (zru ps.2 i).1.length := by
          obtain ⟨u1, u2, u3, u4, u5, u6, u7, u8⟩ := r4; assumption
        have at0 := row_at r4 0
        have w2 := hw.2.1
        have w6 := hw.2.2.2.2.2.1
        have w7 := hw.2.2.2.2.2.2
        have l0 := hw.2.2.2.1 0
        by_cases q1 : (zru ps.2 i).1.length = 1
        · have ea : zatD (zru ps.2 i).1 0 (-1) = nI (lg (zru ps.2 i).1 0) := by
            have := atD_nI (xs := (zru ps.2 i).1) (j := 0) (d := -1) (by omega)
            rw [if_pos (by omega)] at this; exact this
          rw [ea] at at0
          have el : (zru ps.2 i).1 = [lg (zru ps.2 i).1 0] := lg_ext (by simpa using q1) (fun k hk => by
            have : k = 0 := by omega
            subst this; rfl)
          have k1 : nI (zru ps.2 i).1.length = 1 := by rw [q1]; rfl
          by_cases q2 : lg (zru ps.2 i).1 0 = l
          · have k2 : nI (lg (zru ps.2 i).1 0) = nI l := by rw [q2]
            by_cases q3 : (zru ps.2 i).2.2.1 = 511
            · have k3 : nI (zru ps.2 i).2.2.1 = 511 := by rw [q3]; rfl
              by_cases q4 : (zru ps.2 i).2.2.2 = 511
              · have k4 : nI (zru ps.2 i).2.2.2 = 511 := by rw [q4]; rfl
                refine Or.inl ⟨⟨i, by omega, hi, b1, by rw [el, q2], q3, q4⟩, ?_⟩
                rw [L_Pass_alwaysTakes_2]
                simp (disch := omega) [-Prod.exists, -Prod.forall, ↓bb_gf, ↓bb_gr, ↓bb_len, ↓bb_ga, ↓bb_gl, ↓bb_go, ↓bb_pf, ↓bb_pz, ↓bb_pr, ↓bb_pa, ↓bb_pb, ↓bb_pl, ↓bb_po, ↓bb_cl, ↓bb_some, ↓bb_RI, ↓bb_RJ, mm_hI, mm_hJ, mm_hR, mm_nI, mm_nJ, mm_nR, mm_sI, mm_sJ, mm_sR, mm_RI, mm_RJ, mm_IJ, mm_IR, mm_JI, mm_JR, mm_II, mm_JJ, mm_RR, nI_ltI, hP, s2, hi, ↓bS ra, ↓bS sv, r1, r2, ↓bS r2, r4.1, g6, r6, r7, ↓bS at0, k1, k2, k3, k4]
              · have k4 : ¬ nI (zru ps.2 i).2.2.2 = 511 := fun w => q4 ((nI_eq (b := 511) (by omega) (by omega)).1 w)
                refine fin (fun q => q4 q.2.2.2) ?_
                rw [L_Pass_alwaysTakes_2]
                simp (disch := omega) [-Prod.exists, -Prod.forall, ↓bb_gf, ↓bb_gr, ↓bb_len, ↓bb_ga, ↓bb_gl, ↓bb_go, ↓bb_pf, ↓bb_pz, ↓bb_pr, ↓bb_pa, ↓bb_pb, ↓bb_pl, ↓bb_po, ↓bb_cl, ↓bb_some, ↓bb_RI, ↓bb_RJ, mm_hI, mm_hJ, mm_hR, mm_nI, mm_nJ, mm_nR, mm_sI, mm_sJ, mm_sR, mm_RI, mm_RJ, mm_IJ, mm_IR, mm_JI, mm_JR, mm_II, mm_JJ, mm_RR, nI_ltI, hP, s2, hi, ↓bS ra, ↓bS sv, r1, r2, ↓bS r2, r4.1, g6, r6, r7, ↓bS at0, k1, k2, k3, k4, e1]
            · have k3 : ¬ nI (zru ps.2 i).2.2.1 = 511 := fun w => q3 ((nI_eq (b := 511) (by omega) (by omega)).1 w)
              refine fin (fun q => q3 q.2.2.1) ?_
              rw [L_Pass_alwaysTakes_2]
              simp (disch := omega) [-Prod.exists, -Prod.forall, ↓bb_gf, ↓bb_gr, ↓bb_len, ↓bb_ga, ↓bb_gl, ↓bb_go, ↓bb_pf, ↓bb_pz, ↓bb_pr, ↓bb_pa, ↓bb_pb, ↓bb_pl, ↓bb_po, ↓bb_cl, ↓bb_some, ↓bb_RI, ↓bb_RJ, mm_hI, mm_hJ, mm_hR, mm_nI, mm_nJ, mm_nR, mm_sI, mm_sJ, mm_sR, mm_RI, mm_RJ, mm_IJ, mm_IR, mm_JI, mm_JR, mm_II, mm_JJ, mm_RR, nI_ltI, hP, s2, hi, ↓bS ra, ↓bS sv, r1, r2, ↓bS r2, r4.1, g6, r6, r7, ↓bS at0, k1, k2, k3, e1]
          · have k2 : ¬ nI (lg (zru ps.2 i).1 0) = nI l := fun w => q2 ((nI_eq (by omega) (by omega)).1 w)
            refine fin (fun q => q2 (by rw [q.2.1]; rfl)) ?_
            rw [L_Pass_alwaysTakes_2]
            simp (disch := omega) [-Prod.exists, -Prod.forall, ↓bb_gf, ↓bb_gr, ↓bb_len, ↓bb_ga, ↓bb_gl, ↓bb_go, ↓bb_pf, ↓bb_pz, ↓bb_pr, ↓bb_pa, ↓bb_pb, ↓bb_pl, ↓bb_po, ↓bb_cl, ↓bb_some, ↓bb_RI, ↓bb_RJ, mm_hI, mm_hJ, mm_hR, mm_nI, mm_nJ, mm_nR, mm_sI, mm_sJ, mm_sR, mm_RI, mm_RJ, mm_IJ, mm_IR, mm_JI, mm_JR, mm_II, mm_JJ, mm_RR, nI_ltI, hP, s2, hi, ↓bS ra, ↓bS sv, r1, r2, ↓bS r2, r4.1, g6, r6, r7, ↓bS at0, k1, k2, e1]
        · have k1 : ¬ nI (zru ps.2 i).1.length = 1 := fun w => q1 ((nI_eq (b := 1) (by omega) (by omega)).1 w)
          refine fin (fun q => q1 (by rw [q.2.1]; rfl)) ?_
          rw [L_Pass_alwaysTakes_2]
          simp (disch := omega) [-Prod.exists, -Prod.forall, ↓bb_gf, ↓bb_gr, ↓bb_len, ↓bb_ga, ↓bb_gl, ↓bb_go, ↓bb_pf, ↓bb_pz, ↓bb_pr, ↓bb_pa, ↓bb_pb, ↓bb_pl, ↓bb_po, ↓bb_cl, ↓bb_some, ↓bb_RI, ↓bb_RJ, mm_hI, mm_hJ, mm_hR, mm_nI, mm_nJ, mm_nR, mm_sI, mm_sJ, mm_sR, mm_RI, mm_RJ, mm_IJ, mm_IR, mm_JI, mm_JR, mm_II, mm_JJ, mm_RR, nI_ltI, hP, s2, hi, ↓bS ra, ↓bS sv, r1, r2, ↓bS r2, r4.1, g6, r6, r7, k1, e1]
end
