/-! letters that some rule always takes -/
def ztk1 (mask : Nat) (l i : Nat) (ru : zRu) : Prop := mask.testBit i = false ∧ ru.1 = [l] ∧ ru.2.2.1 = 511 ∧ ru.2.2.2 = 511
def ztk (rs : List zRu) (mask l : Nat) : Prop := ∃ i, i < rs.length ∧ ztk1 mask l i (zru rs i)
section
variable {S : zM} {M : Nat} {sc : zSc} {asd : Nat → Nat} {p l : Nat}
theorem turned_l (hm : sMo S M) (hs : mSc S M sc asd) (hp : p < sc.2.2.length) (hl : l < 8) : ∀ d F i, d + i = (zpa_ sc.2.2 p).2.length → d < F → ((∃ j, i ≤ j ∧ j < (zpa_ sc.2.2 p).2.length ∧ ztk1 (asd p) l j (zru (zpa_ sc.2.2 p).2 j)) ∧ L_Mo_isTurned_2 F M (nI p) (nI l) (nI i) S = some (1, S)) ∨ ((∀ j, i ≤ j → j < (zpa_ sc.2.2 p).2.length → ¬ ztk1 (asd p) l j (zru (zpa_ sc.2.2 p).2 j)) ∧ L_Mo_isTurned_2 F M (nI p) (nI l) (nI i) S = some (0, S)) := by
  obtain ⟨x1, x2, x3, x4, x5, x6, x7, x8, x9, x10, x11, x12, x13⟩ := hs
  have hp3 : p < 3 := by have := x13.1; omega
  have wr := ps_w x13 hp
  have hr8 := wr.1
  have zp : zinb (nI p) 3 = true := (nn_in (by omega)).2 (by omega)
  have cp : (nI p).toNatClampNeg = p := nI_clamp (by omega)
  have y6 := x6 p hp3
  have ro : ∀ b : Nat, f_Mo_rowOf (nI p) (nI b) S = some (nI (aRu p b), S) := fun b => by
    unfold f_Mo_rowOf
    rw [show (8 : Int32) = nI 8 from rfl, show (11 : Int32) = nI 11 from rfl, pk_mul, nI_add, pk_mul]; rfl
  intro d
  induction d with
  | zero =>
    intro F i hd hF
    cases F with
    | zero => omega
    | succ F =>
      have hx : ¬ i < (zpa_ sc.2.2 p).2.length := by omega
      refine Or.inr ⟨fun j a b => by omega, ?_⟩
      simp (disch := omega) [L_Mo_isTurned_2, -Prod.exists, -Prod.forall, ↓bb_gf, ↓bb_gr, ↓bb_len, ↓bb_ga, ↓bb_gl, ↓bb_go, ↓bb_pf, ↓bb_pz, ↓bb_pr, ↓bb_pa, ↓bb_pb, ↓bb_pl, ↓bb_po, ↓bb_cl, ↓bb_some, ↓bb_RI, ↓bb_RJ, mm_hI, mm_hJ, mm_hR, mm_nI, mm_nJ, mm_nR, mm_sI, mm_sJ, mm_sR, mm_RI, mm_RJ, mm_IJ, mm_IR, mm_JI, mm_JR, mm_II, mm_JJ, mm_RR, nI_ltI, hm.1, ↓bS (mo_ruleMany hm), mh_ruleMany hm, zp, cp, y6, hx]
  | succ d ih =>
    intro F i hd hF
    cases F with
    | zero => omega
    | succ F =>
      have hi : i < (zpa_ sc.2.2 p).2.length := by omega
      have har : aRu p i + 11 ≤ 264 := by unfold aRu; omega
      have hw := ru_w wr hi
      have hru := x8 p i hp hi
      have e1 : nI i + 1 = nI (i + 1) := nI_add i 1
      have h8 : (8 : Int32) * nI p = nI (8 * p) := pk_mul 8 p
      have z8 : zinb (nI (8 * p + i)) 24 = true := (nn_in (by omega)).2 (by omega)
      have c8 : (nI (8 * p + i)).toNatClampNeg = 8 * p + i := nI_clamp (by omega)
      have y9 := x9 p i hp3 (by omega)
      have aa : ∀ k, k < 11 → zinb (nI (aRu p i + k)) 264 = true ∧ (nI (aRu p i + k)).toNatClampNeg = aRu p i + k := fun k hk => ⟨(nn_in (by omega)).2 (by omega), nI_clamp (by omega)⟩
      have a0 : nI (aRu p i) + 0 = nI (aRu p i) := nI_add _ 0
      have a2 : nI (aRu p i) + 2 = nI (aRu p i + 2) := nI_add _ 2
      have a3 : nI (aRu p i) + 3 = nI (aRu p i + 3) := nI_add _ 3
      have a4 : nI (aRu p i) + 4 = nI (aRu p i + 4) := nI_add _ 4
      have fin : ¬ ztk1 (asd p) l i (zru (zpa_ sc.2.2 p).2 i) → L_Mo_isTurned_2 (F + 1) M (nI p) (nI l) (nI i) S = L_Mo_isTurned_2 F M (nI p) (nI l) (nI (i + 1)) S → ((∃ j, i ≤ j ∧ j < (zpa_ sc.2.2 p).2.length ∧ ztk1 (asd p) l j (zru (zpa_ sc.2.2 p).2 j)) ∧ L_Mo_isTurned_2 (F + 1) M (nI p) (nI l) (nI i) S = some (1, S)) ∨ ((∀ j, i ≤ j → j < (zpa_ sc.2.2 p).2.length → ¬ ztk1 (asd p) l j (zru (zpa_ sc.2.2 p).2 j)) ∧ L_Mo_isTurned_2 (F + 1) M (nI p) (nI l) (nI i) S = some (0, S)) := by
        intro q st
        rw [st]
        rcases ih F (i + 1) (by omega) (by omega) with ⟨⟨j, w1, w2, w3⟩, w4⟩ | ⟨w1, w2⟩
        · exact Or.inl ⟨⟨j, by omega, w2, w3⟩, w4⟩
        · refine Or.inr ⟨fun j a b => ?_, w2⟩
          by_cases e3 : j = i
          · subst e3; exact q
          · exact w1 j (by omega) b
      have za0 : zinb (nI (aRu p i)) 264 = true := (aa 0 (by omega)).1
      have ca0 : (nI (aRu p i)).toNatClampNeg = aRu p i := (aa 0 (by omega)).2
      have za2 := (aa 2 (by omega)).1
      have ca2 := (aa 2 (by omega)).2
      have za3 := (aa 3 (by omega)).1
      have ca3 := (aa 3 (by omega)).2
      have za4 := (aa 4 (by omega)).1
      have ca4 := (aa 4 (by omega)).2
      have v0 : zI S (M + 5) (aRu p i + 0) = nI (zru (zpa_ sc.2.2 p).2 i).1.length := hru.1
      have v2 := hru.2.2.1
      have v3 := hru.2.2.2.1
      cases b1 : (asd p).testBit i with
      | true =>
        rw [b1] at y9
        simp only [if_true] at y9
        refine fin (fun q => by rw [q.1] at b1; cases b1) ?_
        rw [L_Mo_isTurned_2]
        simp (disch := omega) [-Prod.exists, -Prod.forall, ↓bb_gf, ↓bb_gr, ↓bb_len, ↓bb_ga, ↓bb_gl, ↓bb_go, ↓bb_pf, ↓bb_pz, ↓bb_pr, ↓bb_pa, ↓bb_pb, ↓bb_pl, ↓bb_po, ↓bb_cl, ↓bb_some, ↓bb_RI, ↓bb_RJ, mm_hI, mm_hJ, mm_hR, mm_nI, mm_nJ, mm_nR, mm_sI, mm_sJ, mm_sR, mm_RI, mm_RJ, mm_IJ, mm_IR, mm_JI, mm_JR, mm_II, mm_JJ, mm_RR, nI_ltI, hm.1, ↓bS (mo_ruleMany hm), mh_ruleMany hm, zp, cp, y6, hi, ↓bS (ro i), ↓bS (mo_isAside hm), mh_isAside hm, h8, nI_add, z8, c8, y9, e1]
      | false =>
        rw [b1] at y9
        simp only [Bool.false_eq_true, if_false] at y9
        have v0' : zI S (M + 5) (aRu p i) = nI (zru (zpa_ sc.2.2 p).2 i).1.length := hru.1
        have w2 := hw.2.1
        have w6 := hw.2.2.2.2.2.1
        have w7 := hw.2.2.2.2.2.2
        by_cases q1 : (zru (zpa_ sc.2.2 p).2 i).1.length = 1
        · have v4 : zI S (M + 5) (aRu p i + 4) = nI (lg (zru (zpa_ sc.2.2 p).2 i).1 0) := hru.2.2.2.2.1 0 (by omega)
          have l0 := hw.2.2.2.1 0
          have el : (zru (zpa_ sc.2.2 p).2 i).1 = [lg (zru (zpa_ sc.2.2 p).2 i).1 0] := lg_ext (by simpa using q1) (fun k hk => by
            have : k = 0 := by omega
            subst this; rfl)
          have k1 : nI (zru (zpa_ sc.2.2 p).2 i).1.length = 1 := by rw [q1]; rfl
          by_cases q2 : lg (zru (zpa_ sc.2.2 p).2 i).1 0 = l
          · have k2 : nI (lg (zru (zpa_ sc.2.2 p).2 i).1 0) = nI l := by rw [q2]
            by_cases q3 : (zru (zpa_ sc.2.2 p).2 i).2.2.1 = 511
            · have k3 : nI (zru (zpa_ sc.2.2 p).2 i).2.2.1 = 511 := by rw [q3]; rfl
              by_cases q4 : (zru (zpa_ sc.2.2 p).2 i).2.2.2 = 511
              · have k4 : nI (zru (zpa_ sc.2.2 p).2 i).2.2.2 = 511 := by rw [q4]; rfl
                refine Or.inl ⟨⟨i, by omega, hi, b1, by rw [el, q2], q3, q4⟩, ?_⟩
                rw [L_Mo_isTurned_2]
                simp (disch := omega) [-Prod.exists, -Prod.forall, ↓bb_gf, ↓bb_gr, ↓bb_len, ↓bb_ga, ↓bb_gl, ↓bb_go, ↓bb_pf, ↓bb_pz, ↓bb_pr, ↓bb_pa, ↓bb_pb, ↓bb_pl, ↓bb_po, ↓bb_cl, ↓bb_some, ↓bb_RI, ↓bb_RJ, mm_hI, mm_hJ, mm_hR, mm_nI, mm_nJ, mm_nR, mm_sI, mm_sJ, mm_sR, mm_RI, mm_RJ, mm_IJ, mm_IR, mm_JI, mm_JR, mm_II, mm_JJ, mm_RR, nI_ltI, hm.1, ↓bS (mo_ruleMany hm), mh_ruleMany hm, zp, cp, y6, hi, ↓bS (ro i), ↓bS (mo_isAside hm), mh_isAside hm, h8, nI_add, z8, c8, y9, ↓bS (mo_rules hm), mh_rules hm, a0, a2, a3, a4, za0, ca0, za2, ca2, za3, ca3, za4, ca4, v0', v2, v3, k1, v4, k2, k3, k4]
              · have k4 : ¬ nI (zru (zpa_ sc.2.2 p).2 i).2.2.2 = 511 := fun w => q4 ((nI_eq (b := 511) (by omega) (by omega)).1 w)
                refine fin (fun q => q4 q.2.2.2) ?_
                rw [L_Mo_isTurned_2]
                simp (disch := omega) [-Prod.exists, -Prod.forall, ↓bb_gf, ↓bb_gr, ↓bb_len, ↓bb_ga, ↓bb_gl, ↓bb_go, ↓bb_pf, ↓bb_pz, ↓bb_pr, ↓bb_pa, ↓bb_pb, ↓bb_pl, ↓bb_po, ↓bb_cl, ↓bb_some, ↓bb_RI, ↓bb_RJ, mm_hI, mm_hJ, mm_hR, mm_nI, mm_nJ, mm_nR, mm_sI, mm_sJ, mm_sR, mm_RI, mm_RJ, mm_IJ, mm_IR, mm_JI, mm_JR, mm_II, mm_JJ, mm_RR, nI_ltI, hm.1, ↓bS (mo_ruleMany hm), mh_ruleMany hm, zp, cp, y6, hi, ↓bS (ro i), ↓bS (mo_isAside hm), mh_isAside hm, h8, nI_add, z8, c8, y9, ↓bS (mo_rules hm), mh_rules hm, a0, a2, a3, a4, za0, ca0, za2, ca2, za3, ca3, za4, ca4, v0', v2, v3, k1, v4, k2, k3, k4, e1]
            · have k3 : ¬ nI (zru (zpa_ sc.2.2 p).2 i).2.2.1 = 511 := fun w => q3 ((nI_eq (b := 511) (by omega) (by omega)).1 w)
              refine fin (fun q => q3 q.2.2.1) ?_
              rw [L_Mo_isTurned_2]
              simp (disch := omega) [-Prod.exists, -Prod.forall, ↓bb_gf, ↓bb_gr, ↓bb_len, ↓bb_ga, ↓bb_gl, ↓bb_go, ↓bb_pf, ↓bb_pz, ↓bb_pr, ↓bb_pa, ↓bb_pb, ↓bb_pl, ↓bb_po, ↓bb_cl, ↓bb_some, ↓bb_RI, ↓bb_RJ, mm_hI, mm_hJ, mm_hR, mm_nI, mm_nJ, mm_nR, mm_sI, mm_sJ, mm_sR, mm_RI, mm_RJ, mm_IJ, mm_IR, mm_JI, mm_JR, mm_II, mm_JJ, mm_RR, nI_ltI, hm.1, ↓bS (mo_ruleMany hm), mh_ruleMany hm, zp, cp, y6, hi, ↓bS (ro i), ↓bS (mo_isAside hm), mh_isAside hm, h8, nI_add, z8, c8, y9, ↓bS (mo_rules hm), mh_rules hm, a0, a2, a3, a4, za0, ca0, za2, ca2, za3, ca3, za4, ca4, v0', v2, v3, k1, v4, k2, k3, e1]
          · have k2 : ¬ nI (lg (zru (zpa_ sc.2.2 p).2 i).1 0) = nI l := fun w => q2 ((nI_eq (by omega) (by omega)).1 w)
            refine fin (fun q => q2 (by rw [q.2.1]; rfl)) ?_
            rw [L_Mo_isTurned_2]
            simp (disch := omega) [-Prod.exists, -Prod.forall, ↓bb_gf, ↓bb_gr, ↓bb_len, ↓bb_ga, ↓bb_gl, ↓bb_go, ↓bb_pf, ↓bb_pz, ↓bb_pr, ↓bb_pa, ↓bb_pb, ↓bb_pl, ↓bb_po, ↓bb_cl, ↓bb_some, ↓bb_RI, ↓bb_RJ, mm_hI, mm_hJ, mm_hR, mm_nI, mm_nJ, mm_nR, mm_sI, mm_sJ, mm_sR, mm_RI, mm_RJ, mm_IJ, mm_IR, mm_JI, mm_JR, mm_II, mm_JJ, mm_RR, nI_ltI, hm.1, ↓bS (mo_ruleMany hm), mh_ruleMany hm, zp, cp, y6, hi, ↓bS (ro i), ↓bS (mo_isAside hm), mh_isAside hm, h8, nI_add, z8, c8, y9, ↓bS (mo_rules hm), mh_rules hm, a0, a2, a3, a4, za0, ca0, za2, ca2, za3, ca3, za4, ca4, v0', v2, v3, k1, v4, k2, e1]
        · have k1 : ¬ nI (zru (zpa_ sc.2.2 p).2 i).1.length = 1 := fun w => q1 ((nI_eq (b := 1) (by omega) (by omega)).1 w)
          refine fin (fun q => q1 (by rw [q.2.1]; rfl)) ?_
          rw [L_Mo_isTurned_2]
          simp (disch := omega) [-Prod.exists, -Prod.forall, ↓bb_gf, ↓bb_gr, ↓bb_len, ↓bb_ga, ↓bb_gl, ↓bb_go, ↓bb_pf, ↓bb_pz, ↓bb_pr, ↓bb_pa, ↓bb_pb, ↓bb_pl, ↓bb_po, ↓bb_cl, ↓bb_some, ↓bb_RI, ↓bb_RJ, mm_hI, mm_hJ, mm_hR, mm_nI, mm_nJ, mm_nR, mm_sI, mm_sJ, mm_sR, mm_RI, mm_RJ, mm_IJ, mm_IR, mm_JI, mm_JR, mm_II, mm_JJ, mm_RR, nI_ltI, hm.1, ↓bS (mo_ruleMany hm), mh_ruleMany hm, zp, cp, y6, hi, ↓bS (ro i), ↓bS (mo_isAside hm), mh_isAside hm, h8, nI_add, z8, c8, y9, ↓bS (mo_rules hm), mh_rules hm, a0, a2, a3, a4, za0, ca0, za2, ca2, za3, ca3, za4, ca4, v0', v2, v3, k1, e1]
end
