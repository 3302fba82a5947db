/-! the class: outcomes put, asked, taken back -/
def wOut (O : Nat) : Nat → Nat → Prop := fun b _ => O + 1 ≤ b ∧ b ≤ O + 3
theorem neg_lt0 {r : Nat} (h : r = 6 ∨ r = 7) : -nI r < 0 ∧ ¬ -nI r = 0 := by
  rcases h with rfl | rfl <;> decide
section
variable {S S0 : zM} {O N : Nat} {oc : Nat → Nat × List Nat}
theorem pSt_fr {W : Nat → Nat → Prop} {S S' : zM} (h : pSt S O N oc) (hf : zfr W S S') (h1 : ∀ j, ¬ W (O + 3) j) : pSt S' O N oc := by
  obtain ⟨Tb, a, b⟩ := h
  exact ⟨Tb, fun s hs => by rw [fr_I hf (h1 _)]; exact a s hs, b⟩
theorem cOut_fr {W : Nat → Nat → Prop} {S S' : zM} (h : cOut S O N oc) (hf : zfr W S S') (h1 : ∀ j, ¬ W (O + 1) j) (h2 : ∀ j, ¬ W (O + 2) j) : cOut S' O N oc :=
  fun i hi => c1Out_eq (h i hi) (fr_I hf (h1 _)) (fun b _ => fr_J hf (h2 _))
theorem o_put40 (hs0 : sOut S0 O) (hO : O ≠ 0) (hw : wOc oc N) (hN : N ≤ 1364) {i a n : Nat} (hi : i < N) (gi : (oc i).1 = 0) (hr0 : pRow S0 a n (oc i).2) (ha : a + 2 ≤ O ∨ O + 4 ≤ a) (hc0 : cOut S0 O i oc) (hl0 : zI S0 (O + 1) i = nI (oc i).2.length) (ht0 : pSt S0 O i oc) : ∃ S', L_Outcomes_put_40 zF O (nI i) a 0 S0 = some (zsI (ztwin oc i), S') ∧ zfr (wOut O) S0 S' ∧ cOut S' O (i + 1) oc ∧ pSt S' O (i + 1) oc := by
  have hi64 : i < 1364 := by omega
  refine loop_g (α := Unit) (N := 3) (by omega) (fun F _ b S => L_Outcomes_put_40 F O (nI i) a (nI b) S) (fun _ b S => zfr (fun c j => c = O + 2 ∧ 3 * i ≤ j ∧ j < 3 * i + 3) S0 S ∧ ∀ d, d < b → zJ S (O + 2) (3 * i + d) = lN (zblk (oc i).2 d)) (fun o => ∃ S', o = some (zsI (ztwin oc i), S') ∧ zfr (wOut O) S0 S' ∧ cOut S' O (i + 1) oc ∧ pSt S' O (i + 1) oc) (fun F _ S h => ?_) (fun F _ b S hb h k => ?_) () 0 S0 (by omega) ⟨fr_refl _ _, fun d hd => by omega⟩
  · have hs := sOut_fr hs0 h.1
    have hc : cOut S O (i + 1) oc := by
      intro j hj
      by_cases q : j = i
      · subst q
        exact ⟨fun w => absurd gi w, fun _ => ⟨by rw [fr_I h.1 (by omega)]; exact hl0, h.2⟩⟩
      · exact c1Out_eq (hc0 j (by omega)) (fr_I h.1 (by omega)) (fun b hb => fr_J h.1 (by omega))
    obtain ⟨S', r1, r2, r3⟩ := o_seat hs hO hw hN hi gi hc (pSt_fr ht0 h.1 (fun j => by omega))
    refine ⟨S', ?_, fr_trans (fr_mono h.1 (fun b j h => by unfold wOut; omega)) (fr_mono r2 (fun b j h => by unfold wOut; omega)), cOut_fr hc r2 (fun j => by omega) (fun j => by omega), r3⟩
    have hx : ¬ nI 3 < (3 : Int32) := by decide
    rw [L_Outcomes_put_40]
    simp [-Prod.exists, -Prod.forall, ↓bb_gf, ↓bb_gr, ↓bb_len, ↓bb_ga, ↓bb_gl, ↓bb_go, ↓bb_pf, ↓bb_pz, ↓bb_pr, ↓bb_pa, ↓bb_pb, ↓bb_pl, ↓bb_po, ↓bb_cl, ↓bb_some, ↓bb_RI, ↓bb_RJ, mm_hI, mm_hJ, mm_hR, mm_nI, mm_nJ, mm_nR, mm_sI, mm_sJ, mm_sR, mm_RI, mm_RJ, mm_IJ, mm_IR, mm_JI, mm_JR, mm_II, mm_JJ, mm_RR, hx, hs.1, ↓bS r1]
  · have hs := sOut_fr hs0 h.1
    have hr := row_fr hr0 h.1 (fun j => by omega) (fun j => by omega)
    have hx : nI b < (3 : Int32) := (nI_ltI (b := 3) (by omega) (by omega)).2 hb
    have e1 : nI b + 1 = nI (b + 1) := nI_add b 1
    have bk := row_block hr (b := b) hb
    have m3 : nI i * 3 = nI (3 * i) := by rw [show (3 : Int32) = nI 3 from rfl, pk_mul, Nat.mul_comm]
    have z : zinb (nI (3 * i + b)) 4092 = true := (nn_in (by omega)).2 (by omega)
    have c : (nI (3 * i + b)).toNatClampNeg = 3 * i + b := nI_clamp (by omega)
    have := k () (zwJ S (O + 2) (3 * i + b) (lN (zblk (oc i).2 b))) ⟨fr_trans h.1 (fr_wJ _ _ ⟨rfl, by omega, by omega⟩), fun d hd => by
      by_cases q : d = b
      · subst q; simp [-Prod.exists, -Prod.forall, zgf, zgr, zpf, zpz, zpr, zga, zgl, zgo, zpa, zpb, zpl, zpo, mm_len, zcl, Option.bind_some, Option.bind_none, mm_hI, mm_hJ, mm_hR, mm_nI, mm_nJ, mm_nR, mm_sI, mm_sJ, mm_sR, mm_RI, mm_RJ, mm_IJ, mm_IR, mm_JI, mm_JR, mm_II, mm_JJ, mm_RR]
      · rw [← h.2 d (by omega)]; simp [-Prod.exists, -Prod.forall, zgf, zgr, zpf, zpz, zpr, zga, zgl, zgo, zpa, zpb, zpl, zpo, mm_len, zcl, Option.bind_some, Option.bind_none, mm_hI, mm_hJ, mm_hR, mm_nI, mm_nJ, mm_nR, mm_sI, mm_sJ, mm_sR, mm_RI, mm_RJ, mm_IJ, mm_IR, mm_JI, mm_JR, mm_II, mm_JJ, mm_RR, q]⟩
    have st : L_Outcomes_put_40 (F + 1) O (nI i) a (nI b) S = L_Outcomes_put_40 F O (nI i) a (nI (b + 1)) (zwJ S (O + 2) (3 * i + b) (lN (zblk (oc i).2 b))) := by
      rw [L_Outcomes_put_40]
      simp [-Prod.exists, -Prod.forall, ↓bb_gf, ↓bb_gr, ↓bb_len, ↓bb_ga, ↓bb_gl, ↓bb_go, ↓bb_pf, ↓bb_pz, ↓bb_pr, ↓bb_pa, ↓bb_pb, ↓bb_pl, ↓bb_po, ↓bb_cl, ↓bb_some, ↓bb_RI, ↓bb_RJ, mm_hI, mm_hJ, mm_hR, mm_nI, mm_nJ, mm_nR, mm_sI, mm_sJ, mm_sR, mm_RI, mm_RJ, mm_IJ, mm_IR, mm_JI, mm_JR, mm_II, mm_JJ, mm_RR, hx, hs.1, ↓bS hs.2.2.2.1, hs.2.2.2.2.1, hr.1, ↓bS bk, m3, nI_add, z, c, e1]
    rw [st]; exact this
theorem o_put (hs : sOut S O) (hO : O ≠ 0) (hw : wOc oc N) (hN : N ≤ 1364) {i a n : Nat} {xs : List Nat} (hi : i < N) (hr : pRow S a n xs) (hx : (oc i).1 = 0 → xs = (oc i).2) (ha : a + 2 ≤ O ∨ O + 4 ≤ a) (hc : cOut S O i oc) (ht : pSt S O i oc) : ∃ S', f_Outcomes_put O (nI i) (nI (oc i).1) a S = some (zsI (ztwin oc i), S') ∧ zfr (wOut O) S S' ∧ cOut S' O (i + 1) oc ∧ pSt S' O (i + 1) oc := by
  obtain ⟨s1, s2, s3, s4, s5, s6, s7⟩ := hs
  have hs : sOut S O := ⟨s1, s2, s3, s4, s5, s6, s7⟩
  have l1 : ¬ nI i < 0 := nI_pos (by omega)
  have l2 : nI i < 1364 := (nI_ltI (b := 1364) (by omega) (by omega)).2 (by omega)
  have z : zinb (nI i) 1364 = true := (nn_in (by omega)).2 (by omega)
  have c : (nI i).toNatClampNeg = i := nI_clamp (by omega)
  have cd := (hw i hi).1
  by_cases gi : (oc i).1 = 0
  · have g : nI (oc i).1 = 0 := by rw [gi]; rfl
    have ex := hx gi
    subst ex
    have lr : zI S a 1 = nI (oc i).2.length := hr.2.2.2.2.2.1
    have f1 : zfr (wOut O) S (zwI S (O + 1) i (nI (oc i).2.length)) := fr_wI _ _ ⟨by omega, by omega⟩
    have f1' : zfr (fun b j => b = O + 1 ∧ j = i) S (zwI S (O + 1) i (nI (oc i).2.length)) := fr_wI _ _ ⟨rfl, rfl⟩
    obtain ⟨S', r1, r2, r3, r4⟩ := o_put40 (S0 := zwI S (O + 1) i (nI (oc i).2.length)) (sOut_fr hs f1) hO hw hN hi gi (row_fr hr f1 (fun j => by unfold wOut; omega) (fun j => by unfold wOut; omega)) ha (fun j hj => c1Out_eq (hc j hj) (fr_I f1' (by omega)) (fun b _ => fr_J f1' (by omega))) (by simp [-Prod.exists, -Prod.forall, zgf, zgr, zpf, zpz, zpr, zga, zgl, zgo, zpa, zpb, zpl, zpo, mm_len, zcl, Option.bind_some, Option.bind_none, mm_hI, mm_hJ, mm_hR, mm_nI, mm_nJ, mm_nR, mm_sI, mm_sJ, mm_sR, mm_RI, mm_RJ, mm_IJ, mm_IR, mm_JI, mm_JR, mm_II, mm_JJ, mm_RR]) (pSt_fr ht f1' (fun j => by omega))
    refine ⟨S', ?_, fr_trans f1 r2, r3, r4⟩
    rw [← r1]
    have o1 : ¬ O + 1 = 0 := by omega
    simp [f_Outcomes_put, -Prod.exists, -Prod.forall, ↓bb_gf, ↓bb_gr, ↓bb_len, ↓bb_ga, ↓bb_gl, ↓bb_go, ↓bb_pf, ↓bb_pz, ↓bb_pr, ↓bb_pa, ↓bb_pb, ↓bb_pl, ↓bb_po, ↓bb_cl, ↓bb_some, ↓bb_RI, ↓bb_RJ, mm_hI, mm_hJ, mm_hR, mm_nI, mm_nJ, mm_nR, mm_sI, mm_sJ, mm_sR, mm_RI, mm_RJ, mm_IJ, mm_IR, mm_JI, mm_JR, mm_II, mm_JJ, mm_RR, l1, l2, g, s1, ↓bS s2, s3, hr.1, lr, z, c]
  · have g : ¬ nI (oc i).1 = 0 := fun w => gi ((nI_eq (b := 0) (by omega) (by omega)).1 w)
    have tn : ztwin oc i = none := twin_no (fun j hj => by
      cases e : zalk oc i j with
      | false => rfl
      | true => exact absurd (alk_iff.1 e).1 gi)
    obtain ⟨Tb, t1, t2⟩ := ht
    have f1 : zfr (fun b j => b = O + 1 ∧ j = i) S (zwI S (O + 1) i (-nI (oc i).1)) := fr_wI _ _ ⟨rfl, rfl⟩
    refine ⟨zwI S (O + 1) i (-nI (oc i).1), ?_, fr_mono f1 (fun b j h => by unfold wOut; omega), fun j hj => ?_, Tb, fun s hs2 => by rw [← t1 s hs2]; simp [-Prod.exists, -Prod.forall, zgf, zgr, zpf, zpz, zpr, zga, zgl, zgo, zpa, zpb, zpl, zpo, mm_len, zcl, Option.bind_some, Option.bind_none, mm_hI, mm_hJ, mm_hR, mm_nI, mm_nJ, mm_nR, mm_sI, mm_sJ, mm_sR, mm_RI, mm_RJ, mm_IJ, mm_IR, mm_JI, mm_JR, mm_II, mm_JJ, mm_RR], tb_same t2 (Or.inl gi)⟩
    · have o1 : ¬ O + 1 = 0 := by omega
      rw [tn]
      simp [f_Outcomes_put, -Prod.exists, -Prod.forall, ↓bb_gf, ↓bb_gr, ↓bb_len, ↓bb_ga, ↓bb_gl, ↓bb_go, ↓bb_pf, ↓bb_pz, ↓bb_pr, ↓bb_pa, ↓bb_pb, ↓bb_pl, ↓bb_po, ↓bb_cl, ↓bb_some, ↓bb_RI, ↓bb_RJ, mm_hI, mm_hJ, mm_hR, mm_nI, mm_nJ, mm_nR, mm_sI, mm_sJ, mm_sR, mm_RI, mm_RJ, mm_IJ, mm_IR, mm_JI, mm_JR, mm_II, mm_JJ, mm_RR, l1, l2, g, s1, ↓bS s2, s3, z, c, zsI]
    · by_cases q : j = i
      · subst q
        exact ⟨fun _ => by simp [-Prod.exists, -Prod.forall, zgf, zgr, zpf, zpz, zpr, zga, zgl, zgo, zpa, zpb, zpl, zpo, mm_len, zcl, Option.bind_some, Option.bind_none, mm_hI, mm_hJ, mm_hR, mm_nI, mm_nJ, mm_nR, mm_sI, mm_sJ, mm_sR, mm_RI, mm_RJ, mm_IJ, mm_IR, mm_JI, mm_JR, mm_II, mm_JJ, mm_RR], fun w => absurd w gi⟩
      · exact c1Out_eq (hc j (by omega)) (fr_I f1 (by omega)) (fun b _ => fr_J f1 (by omega))
/-- a word that comes out as it did elsewhere -/
theorem o_putSame {O2 : Nat} (hs0 : sOut S0 O) (hs20 : sOut S0 O2) (hO : O ≠ 0) (hd : O2 + 4 ≤ O) (hw : wOc oc N) (hN : N ≤ 1364) {i : Nat} (hi : i < N) (hc20 : c1Out S0 O2 i (oc i)) (hc0 : cOut S0 O i oc) (ht0 : pSt S0 O i oc) : ∃ S', f_Outcomes_putSame O (nI i) O2 S0 = some (zsI (ztwin oc i), S') ∧ zfr (wOut O) S0 S' ∧ cOut S' O (i + 1) oc ∧ pSt S' O (i + 1) oc := by
  have l1 : ¬ nI i < 0 := nI_pos (by omega)
  have l2 : nI i < 1364 := (nI_ltI (b := 1364) (by omega) (by omega)).2 (by omega)
  have z : zinb (nI i) 1364 = true := (nn_in (by omega)).2 (by omega)
  have c : (nI i).toNatClampNeg = i := nI_clamp (by omega)
  have cd := (hw i hi).1
  have ol := o_len hs20 (i := i) (by omega)
  have o1 : ¬ O + 1 = 0 := by omega
  have f0 : zfr (fun b j => b = O + 1 ∧ j = i) S0 (zwI S0 (O + 1) i (zI S0 (O2 + 1) i)) := fr_wI _ _ ⟨rfl, rfl⟩
  have st0 : f_Outcomes_putSame O (nI i) O2 S0 = L_Outcomes_putSame_26 zF O (nI i) O2 0 (zwI S0 (O + 1) i (zI S0 (O2 + 1) i)) := by
    simp [f_Outcomes_putSame, -Prod.exists, -Prod.forall, ↓bb_gf, ↓bb_gr, ↓bb_len, ↓bb_ga, ↓bb_gl, ↓bb_go, ↓bb_pf, ↓bb_pz, ↓bb_pr, ↓bb_pa, ↓bb_pb, ↓bb_pl, ↓bb_po, ↓bb_cl, ↓bb_some, ↓bb_RI, ↓bb_RJ, mm_hI, mm_hJ, mm_hR, mm_nI, mm_nJ, mm_nR, mm_sI, mm_sJ, mm_sR, mm_RI, mm_RJ, mm_IJ, mm_IR, mm_JI, mm_JR, mm_II, mm_JJ, mm_RR, l1, l2, hs0.1, ↓bS hs0.2.1, hs20.1, ↓bS ol, hs0.2.2.1, z, c]
  rw [st0]
  refine loop_g (α := Unit) (N := 3) (by omega) (fun F _ b S => L_Outcomes_putSame_26 F O (nI i) O2 (nI b) S) (fun _ b S => zfr (fun c j => (c = O + 1 ∧ j = i) ∨ (c = O + 2 ∧ 3 * i ≤ j ∧ j < 3 * i + 3)) S0 S ∧ zI S (O + 1) i = zI S0 (O2 + 1) i ∧ ∀ d, d < b → zJ S (O + 2) (3 * i + d) = zJ S0 (O2 + 2) (3 * i + d)) (fun o => ∃ S', o = some (zsI (ztwin oc i), S') ∧ zfr (wOut O) S0 S' ∧ cOut S' O (i + 1) oc ∧ pSt S' O (i + 1) oc) (fun F _ S h => ?_) (fun F _ b S hb h k => ?_) () 0 (zwI S0 (O + 1) i (zI S0 (O2 + 1) i)) (by omega) ⟨fr_mono f0 (fun b j h => Or.inl h), by simp [-Prod.exists, -Prod.forall, zgf, zgr, zpf, zpz, zpr, zga, zgl, zgo, zpa, zpb, zpl, zpo, mm_len, zcl, Option.bind_some, Option.bind_none, mm_hI, mm_hJ, mm_hR, mm_nI, mm_nJ, mm_nR, mm_sI, mm_sJ, mm_sR, mm_RI, mm_RJ, mm_IJ, mm_IR, mm_JI, mm_JR, mm_II, mm_JJ, mm_RR], fun d hd => by omega⟩
  · obtain ⟨hf, h1, h2⟩ := h
    have hs := sOut_fr hs0 hf
    have hx : ¬ nI 3 < (3 : Int32) := by decide
    have hc : cOut S O (i + 1) oc := by
      intro j hj
      by_cases q : j = i
      · subst q
        exact ⟨fun w => by rw [h1]; exact hc20.1 w, fun w => ⟨by rw [h1]; exact (hc20.2 w).1, fun b hb => by rw [h2 b hb]; exact (hc20.2 w).2 b hb⟩⟩
      · exact c1Out_eq (hc0 j (by omega)) (fr_I hf (by omega)) (fun b hb => fr_J hf (by omega))
    have ht := pSt_fr ht0 hf (fun j => by omega)
    by_cases gi : (oc i).1 = 0
    · have v : zI S (O + 1) i = nI (oc i).2.length := ((hc i (by omega)).2 gi).1
      have ln : ¬ nI (oc i).2.length < 0 := nI_pos (by have := (hw i hi).2.2; omega)
      obtain ⟨S', r1, r2, r3⟩ := o_seat hs hO hw hN hi gi hc ht
      refine ⟨S', ?_, fr_trans (fr_mono hf (fun b j h => by unfold wOut; omega)) (fr_mono r2 (fun b j h => by unfold wOut; omega)), cOut_fr hc r2 (fun j => by omega) (fun j => by omega), r3⟩
      rw [L_Outcomes_putSame_26]
      simp [-Prod.exists, -Prod.forall, ↓bb_gf, ↓bb_gr, ↓bb_len, ↓bb_ga, ↓bb_gl, ↓bb_go, ↓bb_pf, ↓bb_pz, ↓bb_pr, ↓bb_pa, ↓bb_pb, ↓bb_pl, ↓bb_po, ↓bb_cl, ↓bb_some, ↓bb_RI, ↓bb_RJ, mm_hI, mm_hJ, mm_hR, mm_nI, mm_nJ, mm_nR, mm_sI, mm_sJ, mm_sR, mm_RI, mm_RJ, mm_IJ, mm_IR, mm_JI, mm_JR, mm_II, mm_JJ, mm_RR, hx, hs.1, ↓bS hs.2.1, hs.2.2.1, z, c, v, ln, ↓bS r1]
    · have v : zI S (O + 1) i = -nI (oc i).1 := (hc i (by omega)).1 gi
      have ln := (neg_lt0 (show (oc i).1 = 6 ∨ (oc i).1 = 7 by omega)).1
      have tn : ztwin oc i = none := twin_no (fun j hj => by
        cases e : zalk oc i j with
        | false => rfl
        | true => exact absurd (alk_iff.1 e).1 gi)
      obtain ⟨Tb, t1, t2⟩ := ht
      refine ⟨S, ?_, fr_mono hf (fun b j h => by unfold wOut; omega), hc, Tb, t1, tb_same t2 (Or.inl gi)⟩
      rw [tn, L_Outcomes_putSame_26]
      simp [-Prod.exists, -Prod.forall, ↓bb_gf, ↓bb_gr, ↓bb_len, ↓bb_ga, ↓bb_gl, ↓bb_go, ↓bb_pf, ↓bb_pz, ↓bb_pr, ↓bb_pa, ↓bb_pb, ↓bb_pl, ↓bb_po, ↓bb_cl, ↓bb_some, ↓bb_RI, ↓bb_RJ, mm_hI, mm_hJ, mm_hR, mm_nI, mm_nJ, mm_nR, mm_sI, mm_sJ, mm_sR, mm_RI, mm_RJ, mm_IJ, mm_IR, mm_JI, mm_JR, mm_II, mm_JJ, mm_RR, hx, hs.1, ↓bS hs.2.1, hs.2.2.1, z, c, v, ln, zsI]
  · obtain ⟨hf, h1, h2⟩ := h
    have hs := sOut_fr hs0 hf
    have hs2 := sOut_fr hs20 hf
    have hx : nI b < (3 : Int32) := (nI_ltI (b := 3) (by omega) (by omega)).2 hb
    have e1 : nI b + 1 = nI (b + 1) := nI_add b 1
    have bk := o_block hs2 (i := i) (b := b) (by omega) hb
    have e2 : zJ S (O2 + 2) (3 * i + b) = zJ S0 (O2 + 2) (3 * i + b) := fr_J hf (by omega)
    rw [e2] at bk
    have m3 : nI i * 3 = nI (3 * i) := by rw [show (3 : Int32) = nI 3 from rfl, pk_mul, Nat.mul_comm]
    have z3 : zinb (nI (3 * i + b)) 4092 = true := (nn_in (by omega)).2 (by omega)
    have c3 : (nI (3 * i + b)).toNatClampNeg = 3 * i + b := nI_clamp (by omega)
    have := k () (zwJ S (O + 2) (3 * i + b) (zJ S0 (O2 + 2) (3 * i + b))) ⟨fr_trans hf (fr_wJ _ _ (Or.inr ⟨rfl, by omega, by omega⟩)), by rw [← h1]; simp [-Prod.exists, -Prod.forall, zgf, zgr, zpf, zpz, zpr, zga, zgl, zgo, zpa, zpb, zpl, zpo, mm_len, zcl, Option.bind_some, Option.bind_none, mm_hI, mm_hJ, mm_hR, mm_nI, mm_nJ, mm_nR, mm_sI, mm_sJ, mm_sR, mm_RI, mm_RJ, mm_IJ, mm_IR, mm_JI, mm_JR, mm_II, mm_JJ, mm_RR], fun d hd => by
      by_cases q : d = b
      · subst q; simp [-Prod.exists, -Prod.forall, zgf, zgr, zpf, zpz, zpr, zga, zgl, zgo, zpa, zpb, zpl, zpo, mm_len, zcl, Option.bind_some, Option.bind_none, mm_hI, mm_hJ, mm_hR, mm_nI, mm_nJ, mm_nR, mm_sI, mm_sJ, mm_sR, mm_RI, mm_RJ, mm_IJ, mm_IR, mm_JI, mm_JR, mm_II, mm_JJ, mm_RR]
      · rw [← h2 d (by omega)]; simp [-Prod.exists, -Prod.forall, zgf, zgr, zpf, zpz, zpr, zga, zgl, zgo, zpa, zpb, zpl, zpo, mm_len, zcl, Option.bind_some, Option.bind_none, mm_hI, mm_hJ, mm_hR, mm_nI, mm_nJ, mm_nR, mm_sI, mm_sJ, mm_sR, mm_RI, mm_RJ, mm_IJ, mm_IR, mm_JI, mm_JR, mm_II, mm_JJ, mm_RR, q]⟩
    have st : L_Outcomes_putSame_26 (F + 1) O (nI i) O2 (nI b) S = L_Outcomes_putSame_26 F O (nI i) O2 (nI (b + 1)) (zwJ S (O + 2) (3 * i + b) (zJ S0 (O2 + 2) (3 * i + b))) := by
      rw [L_Outcomes_putSame_26]
      simp [-Prod.exists, -Prod.forall, ↓bb_gf, ↓bb_gr, ↓bb_len, ↓bb_ga, ↓bb_gl, ↓bb_go, ↓bb_pf, ↓bb_pz, ↓bb_pr, ↓bb_pa, ↓bb_pb, ↓bb_pl, ↓bb_po, ↓bb_cl, ↓bb_some, ↓bb_RI, ↓bb_RJ, mm_hI, mm_hJ, mm_hR, mm_nI, mm_nJ, mm_nR, mm_sI, mm_sJ, mm_sR, mm_RI, mm_RJ, mm_IJ, mm_IR, mm_JI, mm_JR, mm_II, mm_JJ, mm_RR, hx, hs.1, ↓bS hs.2.2.2.1, hs.2.2.2.2.1, hs2.1, ↓bS bk, m3, nI_add, z3, c3, e1]
    rw [st]; exact this
theorem o_forget (hs : sOut S O) (hO : O ≠ 0) : ∃ S', f_Outcomes_forget O S = some S' ∧ zfr (fun b _ => b = O + 3) S S' ∧ pSt S' O 0 oc := by
  obtain ⟨S', r1, r2, r3⟩ := j_fill (v := 0) hs.2.2.2.2.2.2 (by omega) (by omega)
  refine ⟨S', ?_, fr_mono r2 (fun b j h => by obtain ⟨h1, h2⟩ := h; omega), fun _ => 0, fun s hs2 => by rw [r3 s hs2]; rfl, fun s _ => Or.inl rfl, fun j hj => by omega, ?_⟩
  · simp [f_Outcomes_forget, -Prod.exists, -Prod.forall, ↓bb_gf, ↓bb_gr, ↓bb_len, ↓bb_ga, ↓bb_gl, ↓bb_go, ↓bb_pf, ↓bb_pz, ↓bb_pr, ↓bb_pa, ↓bb_pb, ↓bb_pl, ↓bb_po, ↓bb_cl, ↓bb_some, ↓bb_RI, ↓bb_RJ, mm_hI, mm_hJ, mm_hR, mm_nI, mm_nJ, mm_nR, mm_sI, mm_sJ, mm_sR, mm_RI, mm_RJ, mm_IJ, mm_IR, mm_JI, mm_JR, mm_II, mm_JJ, mm_RR, hs.1, ↓bS hs.2.2.2.2.2.1, r1]
  · have : fb_ct (fun s => decide ((fun _ => 0 : Nat → Nat) s ≠ 0)) 2048 = 0 := fb_ct_zero.2 (fun k _ => by simp)
    omega
theorem o_cameAs {a n i : Nat} {xs : List Nat} (hs : sOut S O) (hw : wOc oc N) (hN : N ≤ 1364) (hi : i < N) (hc : c1Out S O i (oc i)) (hr : pRow S a n xs) (hl : xs.length ≤ 60) : f_Outcomes_cameAs O (nI i) a S = some (if zsrc oc xs i then 1 else 0, S) := by
  obtain ⟨cd, i8, i60⟩ := hw i hi
  have x8 : l8 xs := hr.2.2.2.2.2.2.2
  have ol := o_len hs (i := i) (by omega)
  have lr : zI S a 1 = nI xs.length := hr.2.2.2.2.2.1
  by_cases gi : (oc i).1 = 0
  · have v := (hc.2 gi).1
    have bi := (hc.2 gi).2
    rw [v] at ol
    by_cases ql : (oc i).2.length = xs.length
    · have lt : ∀ {ys : List Nat}, l8 ys → ∀ b, zblk ys b < 2 ^ 63 := fun h b => by have := blk_lt h b; omega
      have key := loop_fi (N := 3) (by omega) (fun F b => L_Outcomes_cameAs_16 F O (nI i) a (nI b) S) (p := fun b => decide (¬ zblk (oc i).2 b = zblk xs b)) (fun o => some (match o with | none => 1 | some _ => 0, S)) (fun F => ?_) (fun F b hb e => ?_) (fun F b hb e => ?_)
      · have st : f_Outcomes_cameAs O (nI i) a S = L_Outcomes_cameAs_16 zF O (nI i) a (nI 0) S := by
          simp [f_Outcomes_cameAs, -Prod.exists, -Prod.forall, ↓bb_gf, ↓bb_gr, ↓bb_len, ↓bb_ga, ↓bb_gl, ↓bb_go, ↓bb_pf, ↓bb_pz, ↓bb_pr, ↓bb_pa, ↓bb_pb, ↓bb_pl, ↓bb_po, ↓bb_cl, ↓bb_some, ↓bb_RI, ↓bb_RJ, mm_hI, mm_hJ, mm_hR, mm_nI, mm_nJ, mm_nR, mm_sI, mm_sJ, mm_sR, mm_RI, mm_RJ, mm_IJ, mm_IR, mm_JI, mm_JR, mm_II, mm_JJ, mm_RR, hs.1, ↓bS ol, hr.1, lr, ql]; rfl
        rw [st, key]
        cases e : zfi (fun b => decide (¬ zblk (oc i).2 b = zblk xs b)) 3 with
        | none =>
          have h1 := fi_none e
          have h2 : ∀ b, b < 3 → zblk (oc i).2 b = zblk xs b := fun b hb => by have := h1 b hb; simpa using this
          have : (oc i).2 = xs := blk_inj i8 x8 i60 hl (h2 0 (by omega)) (h2 1 (by omega)) (h2 2 (by omega))
          rw [if_pos (by simp [zsrc, gi, this])]
        | some b =>
          obtain ⟨h1, h2, h3⟩ := fi_some e
          have : ¬ (oc i).2 = xs := fun w => by rw [w] at h2; simp at h2
          rw [if_neg (by simp [zsrc, gi, this])]
      · have hx : ¬ nI 3 < (3 : Int32) := by decide
        simp [L_Outcomes_cameAs_16, hx]
      · have hx : nI b < (3 : Int32) := (nI_ltI (b := 3) (by omega) (by omega)).2 hb
        have ob := o_block hs (i := i) (b := b) (by omega) hb
        rw [bi b hb] at ob
        have rb := row_block hr (b := b) hb
        have cq : ¬ lg_cmp (lN (zblk (oc i).2 b)) (lN (zblk xs b)) = 0 := fun w => (of_decide_eq_true e) ((lg_cmp0 (lt i8 b) (lt x8 b)).1 w)
        rw [L_Outcomes_cameAs_16]
        simp [-Prod.exists, -Prod.forall, ↓bb_gf, ↓bb_gr, ↓bb_len, ↓bb_ga, ↓bb_gl, ↓bb_go, ↓bb_pf, ↓bb_pz, ↓bb_pr, ↓bb_pa, ↓bb_pb, ↓bb_pl, ↓bb_po, ↓bb_cl, ↓bb_some, ↓bb_RI, ↓bb_RJ, mm_hI, mm_hJ, mm_hR, mm_nI, mm_nJ, mm_nR, mm_sI, mm_sJ, mm_sR, mm_RI, mm_RJ, mm_IJ, mm_IR, mm_JI, mm_JR, mm_II, mm_JJ, mm_RR, hx, hs.1, ↓bS ob, hr.1, ↓bS rb, cq]
      · have hx : nI b < (3 : Int32) := (nI_ltI (b := 3) (by omega) (by omega)).2 hb
        have e1 : nI b + 1 = nI (b + 1) := nI_add b 1
        have ob := o_block hs (i := i) (b := b) (by omega) hb
        rw [bi b hb] at ob
        have rb := row_block hr (b := b) hb
        have q : zblk (oc i).2 b = zblk xs b := by simpa using e
        have cq : lg_cmp (lN (zblk (oc i).2 b)) (lN (zblk xs b)) = 0 := (lg_cmp0 (lt i8 b) (lt x8 b)).2 q
        rw [L_Outcomes_cameAs_16]
        simp [-Prod.exists, -Prod.forall, ↓bb_gf, ↓bb_gr, ↓bb_len, ↓bb_ga, ↓bb_gl, ↓bb_go, ↓bb_pf, ↓bb_pz, ↓bb_pr, ↓bb_pa, ↓bb_pb, ↓bb_pl, ↓bb_po, ↓bb_cl, ↓bb_some, ↓bb_RI, ↓bb_RJ, mm_hI, mm_hJ, mm_hR, mm_nI, mm_nJ, mm_nR, mm_sI, mm_sJ, mm_sR, mm_RI, mm_RJ, mm_IJ, mm_IR, mm_JI, mm_JR, mm_II, mm_JJ, mm_RR, hx, hs.1, ↓bS ob, hr.1, ↓bS rb, cq, e1]
    · have nq : ¬ nI (oc i).2.length = nI xs.length := fun w => ql ((nI_eq (by omega) (by omega)).1 w)
      have : ¬ (oc i).2 = xs := fun w => ql (by rw [w])
      rw [if_neg (by simp [zsrc, gi, this])]
      simp [f_Outcomes_cameAs, -Prod.exists, -Prod.forall, ↓bb_gf, ↓bb_gr, ↓bb_len, ↓bb_ga, ↓bb_gl, ↓bb_go, ↓bb_pf, ↓bb_pz, ↓bb_pr, ↓bb_pa, ↓bb_pb, ↓bb_pl, ↓bb_po, ↓bb_cl, ↓bb_some, ↓bb_RI, ↓bb_RJ, mm_hI, mm_hJ, mm_hR, mm_nI, mm_nJ, mm_nR, mm_sI, mm_sJ, mm_sR, mm_RI, mm_RJ, mm_IJ, mm_IR, mm_JI, mm_JR, mm_II, mm_JJ, mm_RR, hs.1, ↓bS ol, hr.1, lr, nq]
  · have v := hc.1 gi
    rw [v] at ol
    have nq : ¬ -nI (oc i).1 = nI xs.length := (nn_meq (i := xs.length) (m := (oc i).1) (by omega) (by omega) (by omega)).1
    rw [if_neg (by simp [zsrc, gi])]
    simp [f_Outcomes_cameAs, -Prod.exists, -Prod.forall, ↓bb_gf, ↓bb_gr, ↓bb_len, ↓bb_ga, ↓bb_gl, ↓bb_go, ↓bb_pf, ↓bb_pz, ↓bb_pr, ↓bb_pa, ↓bb_pb, ↓bb_pl, ↓bb_po, ↓bb_cl, ↓bb_some, ↓bb_RI, ↓bb_RJ, mm_hI, mm_hJ, mm_hR, mm_nI, mm_nJ, mm_nR, mm_sI, mm_sJ, mm_sR, mm_RI, mm_RJ, mm_IJ, mm_IR, mm_JI, mm_JR, mm_II, mm_JJ, mm_RR, hs.1, ↓bS ol, hr.1, lr, nq]
theorem cut_neg : ∀ a, a < 61 → ∀ b, b < 3 → a ≤ 20 * b → zmin (nI a - nI b * 20) 20 - 1 < 0 := by decide +kernel
theorem cut_pos : ∀ a, a < 61 → ∀ b, b < 3 → 20 * b < a → zmin (nI a - nI b * 20) 20 = nI (min (a - 20 * b) 20) := by decide +kernel
theorem o_into {a i : Nat} {xs : List Nat} (hs0 : sOut S0 O) (hw : wOc oc N) (hN : N ≤ 1364) (hi : i < N) (gi : (oc i).1 = 0) (hc0 : c1Out S0 O i (oc i)) (hr0 : pRow S0 a 60 xs) (hd : O + 4 ≤ a) : ∃ S', f_Outcomes_into O (nI i) a S0 = some S' ∧ zfr (rg a (a + 2)) S0 S' ∧ pRow S' a 60 (oc i).2 := by
  obtain ⟨cd, i8, i60⟩ := hw i hi
  obtain ⟨S1, a1, a2, a3⟩ := row_drop hr0
  have st : f_Outcomes_into O (nI i) a S0 = L_Outcomes_into_6 zF O (nI i) a (nI 0) S1 := by
    simp [f_Outcomes_into, -Prod.exists, -Prod.forall, ↓bb_gf, ↓bb_gr, ↓bb_len, ↓bb_ga, ↓bb_gl, ↓bb_go, ↓bb_pf, ↓bb_pz, ↓bb_pr, ↓bb_pa, ↓bb_pb, ↓bb_pl, ↓bb_po, ↓bb_cl, ↓bb_some, ↓bb_RI, ↓bb_RJ, mm_hI, mm_hJ, mm_hR, mm_nI, mm_nJ, mm_nR, mm_sI, mm_sJ, mm_sR, mm_RI, mm_RJ, mm_IJ, mm_IR, mm_JI, mm_JR, mm_II, mm_JJ, mm_RR, hr0.1, ↓bS a1]; rfl
  rw [st]
  refine loop_g (α := Unit) (N := 3) (by omega) (fun F _ b S => L_Outcomes_into_6 F O (nI i) a (nI b) S) (fun _ b S => zfr (rg a (a + 2)) S0 S ∧ pRow S a 60 ((oc i).2.take (20 * b))) (fun o => ∃ S', o = some S' ∧ zfr (rg a (a + 2)) S0 S' ∧ pRow S' a 60 (oc i).2) (fun F _ S h => ?_) (fun F _ b S hb h k => ?_) () 0 S1 (by omega) ⟨a2, by simpa using a3⟩
  · have hx : ¬ nI 3 < (3 : Int32) := by decide
    refine ⟨S, by simp [L_Outcomes_into_6, hx], h.1, ?_⟩
    have := h.2
    rwa [List.take_of_length_le (by omega)] at this
  · obtain ⟨hf, hr⟩ := h
    have hs := sOut_fr hs0 hf
    have hc : c1Out S O i (oc i) := c1Out_eq hc0 (fr_I hf (by unfold rg; omega)) (fun b _ => fr_J hf (by unfold rg; omega))
    have hx : nI b < (3 : Int32) := (nI_ltI (b := 3) (by omega) (by omega)).2 hb
    have e1 : nI b + 1 = nI (b + 1) := nI_add b 1
    have ol := o_len hs (i := i) (by omega)
    rw [(hc.2 gi).1] at ol
    have ob := o_block hs (i := i) (b := b) (by omega) hb
    rw [(hc.2 gi).2 b hb] at ob
    have eapp : (oc i).2.take (20 * (b + 1)) = (oc i).2.take (20 * b) ++ ((oc i).2.drop (20 * b)).take 20 := by
      rw [show 20 * (b + 1) = 20 * b + 20 by omega, List.take_add]
    by_cases q : 20 * b < (oc i).2.length
    · have cp := cut_pos (oc i).2.length (by omega) b hb q
      have ly : (((oc i).2.drop (20 * b)).take 20).length = min ((oc i).2.length - 20 * b) 20 := by rw [List.length_take, List.length_drop, Nat.min_comm]
      have lt : ((oc i).2.take (20 * b)).length = 20 * b := by rw [List.length_take]; omega
      obtain ⟨S', r1, r2, r3⟩ := row_addBlock hr (ys := ((oc i).2.drop (20 * b)).take 20) (l8_take (l8_drop i8 _) _) (by rw [ly]; omega) (by rw [lt, ly]; omega)
      rw [ly] at r1
      rw [← eapp] at r3
      have r1' : f_Row_addBlock a (lN (zblk (oc i).2 b)) (nI (min ((oc i).2.length - 20 * b) 20)) S = some S' := r1
      have := k () S' ⟨fr_trans hf r2, r3⟩
      have st2 : L_Outcomes_into_6 (F + 1) O (nI i) a (nI b) S = L_Outcomes_into_6 F O (nI i) a (nI (b + 1)) S' := by
        rw [L_Outcomes_into_6]
        simp [-Prod.exists, -Prod.forall, ↓bb_gf, ↓bb_gr, ↓bb_len, ↓bb_ga, ↓bb_gl, ↓bb_go, ↓bb_pf, ↓bb_pz, ↓bb_pr, ↓bb_pa, ↓bb_pb, ↓bb_pl, ↓bb_po, ↓bb_cl, ↓bb_some, ↓bb_RI, ↓bb_RJ, mm_hI, mm_hJ, mm_hR, mm_nI, mm_nJ, mm_nR, mm_sI, mm_sJ, mm_sR, mm_RI, mm_RJ, mm_IJ, mm_IR, mm_JI, mm_JR, mm_II, mm_JJ, mm_RR, hx, hs.1, ↓bS ol, ↓bS ob, hr.1, cp, ↓bS r1', e1]
      rw [st2]; exact this
    · have cn := cut_neg (oc i).2.length (by omega) b hb (by omega)
      have r1 := row_addBlock0 (S := S) (a := a) (P := lN (zblk (oc i).2 b)) cn
      have ed : ((oc i).2.drop (20 * b)).take 20 = [] := by rw [List.drop_eq_nil_of_le (by omega)]; rfl
      have := k () S ⟨hf, by rw [eapp, ed, List.append_nil]; exact hr⟩
      have st2 : L_Outcomes_into_6 (F + 1) O (nI i) a (nI b) S = L_Outcomes_into_6 F O (nI i) a (nI (b + 1)) S := by
        rw [L_Outcomes_into_6]
        simp [-Prod.exists, -Prod.forall, ↓bb_gf, ↓bb_gr, ↓bb_len, ↓bb_ga, ↓bb_gl, ↓bb_go, ↓bb_pf, ↓bb_pz, ↓bb_pr, ↓bb_pa, ↓bb_pb, ↓bb_pl, ↓bb_po, ↓bb_cl, ↓bb_some, ↓bb_RI, ↓bb_RJ, mm_hI, mm_hJ, mm_hR, mm_nI, mm_nJ, mm_nR, mm_sI, mm_sJ, mm_sR, mm_RI, mm_RJ, mm_IJ, mm_IR, mm_JI, mm_JR, mm_II, mm_JJ, mm_RR, hx, hs.1, ↓bS ol, ↓bS ob, hr.1, ↓bS r1, e1]
      rw [st2]; exact this
end
