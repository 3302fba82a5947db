/-! the class's reader: rules -/
section
variable {S : zM} {rd q T : Nat} {tx : List Nat} {t : zTk} {st : zRt}
theorem side_lt (w : wRt st) : (zside tx t st).2.1 < 512 := by
  unfold zside
  split
  · simp
  · split
    · have := lb_lt (zsl tx t); simp only; omega
    · split
      · split
        · have := w.2.2.2.1 (st.2.1.idxOf (zsl tx t)); simp only; omega
        · simp
      · simp
theorem r_side (hd : dRd rd q T) (hp : pRd S rd q tx t) (r3 : zR S rd 3 = some T) (hR : kScr S T st) : ∃ S', f_Reader_sideBits rd S = some (if (zside tx t st).1 = 0 then nI (zside tx t st).2.1 else -nI (zside tx t st).1, S') ∧ zfr (wRdr rd) S S' ∧ pRd S' rd q tx (zside tx t st).2.2 ∧ zsm T (T + 172) S S' ∧ zR S' = zR S ∧ (zside tx t st).1 < 5 := by
  have hh := hp.1.1
  have hT := hR.1.1
  have is1 := rd_is hp (show 11 < 13 by omega)
  have ar := rd_are hp (most := 1) (by omega)
  obtain ⟨S1, e1, f1, p1, s1, h1, R1⟩ := r_next hd hp
  have sm0 : zsm T (T + 172) S S := ⟨rfl, fun _ _ _ _ => ⟨rfl, rfl, rfl⟩⟩
  have n1 : ((256 : Int32) = -1) = False := by decide
  cases c1 : zisw tx t 11 with
  | true =>
    have ez : zside tx t st = (0, 256, znext tx t.2.1) := by simp [zside, c1]
    rw [ez]
    rw [c1] at is1
    simp only [if_true] at is1
    refine ⟨S1, ?_, f1, p1, s1, R1, by simp⟩
    simp (disch := omega) [f_Reader_sideBits, -Prod.exists, -Prod.forall, ↓bb_gf, ↓bb_gr, ↓bb_len, ↓bb_ga, ↓bb_gl, ↓bb_go, ↓bb_pf, ↓bb_pz, ↓bb_pr, ↓bb_pa, ↓bb_pb, ↓bb_pl, ↓bb_po, ↓bb_cl, ↓bb_some, ↓bb_RI, ↓bb_RJ, mm_hI, mm_hJ, mm_hR, mm_nI, mm_nJ, mm_nR, mm_sI, mm_sJ, mm_sR, mm_RI, mm_RJ, mm_IJ, mm_IR, mm_JI, mm_JR, mm_II, mm_JJ, mm_RR, hh, ↓bS is1, n1, ↓bS e1]; rfl
  | false =>
    rw [c1] at is1
    simp only [Bool.false_eq_true, if_false] at is1
    have is1' : f_Reader_is rd (1000000 + 11) S = some (nI 0, S) := is1
    cases c2 : zlets tx t 1 with
    | true =>
      have ez : zside tx t st = (0, zlb (zsl tx t), znext tx t.2.1) := by simp [zside, c1, c2]
      rw [ez]
      rw [c2] at ar
      simp only [if_true] at ar
      have ar : f_Reader_areLetters rd 1 S = some (1, S) := ar
      have bi := rd_bits hp c2
      have bl := lb_lt (zsl tx t)
      refine ⟨S1, ?_, f1, p1, s1, R1, by simp⟩
      simp (disch := omega) [f_Reader_sideBits, -Prod.exists, -Prod.forall, ↓bb_gf, ↓bb_gr, ↓bb_len, ↓bb_ga, ↓bb_gl, ↓bb_go, ↓bb_pf, ↓bb_pz, ↓bb_pr, ↓bb_pa, ↓bb_pb, ↓bb_pl, ↓bb_po, ↓bb_cl, ↓bb_some, ↓bb_RI, ↓bb_RJ, mm_hI, mm_hJ, mm_hR, mm_nI, mm_nJ, mm_nR, mm_sI, mm_sJ, mm_sR, mm_RI, mm_RJ, mm_IJ, mm_IR, mm_JI, mm_JR, mm_II, mm_JJ, mm_RR, nn_lit, nI_add, pk_mul, nI_clamp, nI_ltI, nI_leI, nI_eq, nn_in, nn_eqm, nn_meq, nn_ltm, nn_mlt, nn_lem, nn_mle, nn_in_m, hh, ↓bS is1', ↓bS ar, ↓bS bi, ↓bS e1]
    | false =>
      rw [c2] at ar
      simp only [Bool.false_eq_true, if_false] at ar
      have ar' : f_Reader_areLetters rd 1 S = some (nI 0, S) := ar
      have h5 := hp.2.2.2.1
      have h2 := hp.2.1
      have h6 := hp.2.2.1
      have w1 := hp.2.2.2.2
      have w11 := w1.1
      have w12 := w1.2.1
      have w13 := w1.2.2.1
      have t900 := hp.1.2.2.2.2.2.2.1
      have esub : nI t.2.1 - nI t.1 = nI (t.2.1 - t.1) := pk_sub w11
      have kp := rd_kept hp
      by_cases c3 : t.2.2 = 1 ∧ t.2.1 - t.1 ≠ 1 ∧ zkept tx t = false
      · obtain ⟨ca, cb, cc⟩ := c3
        rw [cc] at kp
        simp only [Bool.false_eq_true, if_false] at kp
        have kp' : f_Reader_isKept rd S = some (nI 0, S) := kp
        have nm1 := sl_nm w1 ca
        have na := rd_name hp
        have lk := scr_kind hR nm1
        by_cases c4 : zsl tx t ∈ st.2.1
        · have ez : zside tx t st = (0, lg st.2.2.1 (st.2.1.idxOf (zsl tx t)), znext tx t.2.1) := by
            simp only [zside, c1, c2, Bool.false_eq_true, if_false, ca, cb, cc, ne_eq, not_false_eq_true, and_true, if_true, if_pos c4]
          rw [ez]
          rw [if_pos c4] at lk
          have lt := hR.2.2.2.2.2.2.2.1 (st.2.1.idxOf (zsl tx t))
          refine ⟨S1, ?_, f1, p1, s1, R1, by simp⟩
          simp (disch := omega) [f_Reader_sideBits, -Prod.exists, -Prod.forall, ↓bb_gf, ↓bb_gr, ↓bb_len, ↓bb_ga, ↓bb_gl, ↓bb_go, ↓bb_pf, ↓bb_pz, ↓bb_pr, ↓bb_pa, ↓bb_pb, ↓bb_pl, ↓bb_po, ↓bb_cl, ↓bb_some, ↓bb_RI, ↓bb_RJ, mm_hI, mm_hJ, mm_hR, mm_nI, mm_nJ, mm_nR, mm_sI, mm_sJ, mm_sR, mm_RI, mm_RJ, mm_IJ, mm_IR, mm_JI, mm_JR, mm_II, mm_JJ, mm_RR, nn_lit, nI_add, pk_mul, nI_clamp, nI_ltI, nI_leI, nI_eq, nn_in, nn_eqm, nn_meq, nn_ltm, nn_mlt, nn_lem, nn_mle, nn_in_m, hh, ↓bS is1', ↓bS ar', h5, ca, h2, h6, esub, cb, ↓bS kp', ↓bS r3, ↓bS na, hT, ↓bS lk, ↓bS e1]
        · have ez : zside tx t st = (4, 0, t) := by
            simp only [zside, c1, c2, Bool.false_eq_true, if_false, ca, cb, cc, ne_eq, not_false_eq_true, and_true, if_true, if_neg c4]
          rw [ez]
          rw [if_neg c4] at lk
          have lk' : f_Script_lettersOfKind T (lN (zn256 (zsl tx t))) S = some (-nI 1, S) := lk
          refine ⟨S, ?_, fr_refl _ _, hp, sm0, rfl, by simp⟩
          simp (disch := omega) [f_Reader_sideBits, -Prod.exists, -Prod.forall, ↓bb_gf, ↓bb_gr, ↓bb_len, ↓bb_ga, ↓bb_gl, ↓bb_go, ↓bb_pf, ↓bb_pz, ↓bb_pr, ↓bb_pa, ↓bb_pb, ↓bb_pl, ↓bb_po, ↓bb_cl, ↓bb_some, ↓bb_RI, ↓bb_RJ, mm_hI, mm_hJ, mm_hR, mm_nI, mm_nJ, mm_nR, mm_sI, mm_sJ, mm_sR, mm_RI, mm_RJ, mm_IJ, mm_IR, mm_JI, mm_JR, mm_II, mm_JJ, mm_RR, nn_lit, nI_add, pk_mul, nI_clamp, nI_ltI, nI_leI, nI_eq, nn_in, nn_eqm, nn_meq, nn_ltm, nn_mlt, nn_lem, nn_mle, nn_in_m, hh, ↓bS is1', ↓bS ar', h5, ca, h2, h6, esub, cb, ↓bS kp', ↓bS r3, ↓bS na, hT, ↓bS lk']
      · have ez : zside tx t st = (1, 0, t) := by
          simp only [zside, c1, c2, Bool.false_eq_true, if_false, if_neg c3]
        rw [ez]
        refine ⟨S, ?_, fr_refl _ _, hp, sm0, rfl, by simp⟩
        by_cases ca : t.2.2 = 1
        · by_cases cb : t.2.1 - t.1 = 1
          · simp (disch := omega) [f_Reader_sideBits, -Prod.exists, -Prod.forall, ↓bb_gf, ↓bb_gr, ↓bb_len, ↓bb_ga, ↓bb_gl, ↓bb_go, ↓bb_pf, ↓bb_pz, ↓bb_pr, ↓bb_pa, ↓bb_pb, ↓bb_pl, ↓bb_po, ↓bb_cl, ↓bb_some, ↓bb_RI, ↓bb_RJ, mm_hI, mm_hJ, mm_hR, mm_nI, mm_nJ, mm_nR, mm_sI, mm_sJ, mm_sR, mm_RI, mm_RJ, mm_IJ, mm_IR, mm_JI, mm_JR, mm_II, mm_JJ, mm_RR, nn_lit, nI_add, pk_mul, nI_clamp, nI_ltI, nI_leI, nI_eq, nn_in, nn_eqm, nn_meq, nn_ltm, nn_mlt, nn_lem, nn_mle, nn_in_m, hh, ↓bS is1', ↓bS ar', h5, ca, h2, h6, esub, cb]
          · cases cc : zkept tx t with
            | false => exact absurd ⟨ca, cb, cc⟩ c3
            | true =>
              rw [cc] at kp
              simp only [if_true] at kp
              simp (disch := omega) [f_Reader_sideBits, -Prod.exists, -Prod.forall, ↓bb_gf, ↓bb_gr, ↓bb_len, ↓bb_ga, ↓bb_gl, ↓bb_go, ↓bb_pf, ↓bb_pz, ↓bb_pr, ↓bb_pa, ↓bb_pb, ↓bb_pl, ↓bb_po, ↓bb_cl, ↓bb_some, ↓bb_RI, ↓bb_RJ, mm_hI, mm_hJ, mm_hR, mm_nI, mm_nJ, mm_nR, mm_sI, mm_sJ, mm_sR, mm_RI, mm_RJ, mm_IJ, mm_IR, mm_JI, mm_JR, mm_II, mm_JJ, mm_RR, nn_lit, nI_add, pk_mul, nI_clamp, nI_ltI, nI_leI, nI_eq, nn_in, nn_eqm, nn_meq, nn_ltm, nn_mlt, nn_lem, nn_mle, nn_in_m, hh, ↓bS is1', ↓bS ar', h5, ca, h2, h6, esub, cb, ↓bS kp]
        · simp (disch := omega) [f_Reader_sideBits, -Prod.exists, -Prod.forall, ↓bb_gf, ↓bb_gr, ↓bb_len, ↓bb_ga, ↓bb_gl, ↓bb_go, ↓bb_pf, ↓bb_pz, ↓bb_pr, ↓bb_pa, ↓bb_pb, ↓bb_pl, ↓bb_po, ↓bb_cl, ↓bb_some, ↓bb_RI, ↓bb_RJ, mm_hI, mm_hJ, mm_hR, mm_nI, mm_nJ, mm_nR, mm_sI, mm_sJ, mm_sR, mm_RI, mm_RJ, mm_IJ, mm_IR, mm_JI, mm_JR, mm_II, mm_JJ, mm_RR, nn_lit, nI_add, pk_mul, nI_clamp, nI_ltI, nI_leI, nI_eq, nn_in, nn_eqm, nn_meq, nn_ltm, nn_mlt, nn_lem, nn_mle, nn_in_m, hh, ↓bS is1', ↓bS ar', h5, ca]
/-! letters into a row -/
def wLi (rd a : Nat) : Nat → Nat → Prop := fun b j => wRdr rd b j ∨ b = a ∨ b = a + 1
theorem low_len (cs : List Nat) : (zlow cs).length = cs.length := by simp [zlow]
theorem low_lg {cs : List Nat} {k : Nat} (h : k < cs.length) : lg (zlow cs) k = lg cs k - 97 := by
  rw [lg_get (by rw [low_len]; exact h), lg_get h]; simp [zlow]
theorem into_l {S0 : zM} {a n : Nat} (hd : dRd rd q T) (ha : rd ≠ a ∧ rd ≠ a + 1 ∧ q ≠ a ∧ q ≠ a + 1) (hp : pRd S0 rd q tx t) (hz : ∀ j, t.1 ≤ j → j < t.2.1 → 97 ≤ lg tx j ∧ lg tx j ≤ 104) (hn : t.2.1 - t.1 ≤ n) : ∀ d F k (S : zM), d + k = t.2.1 → d < F → t.1 ≤ k → zfr (rg a (a + 2)) S0 S → pRow S a n (zlow ((tx.drop t.1).take (k - t.1))) → ∃ S', L_Reader_lettersInto_15 F rd a (nI k) S = some (0, S') ∧ zfr (wLi rd a) S0 S' ∧ pRd S' rd q tx (znext tx t.2.1) ∧ pRow S' a n (zlow (zsl tx t)) := by
  have t900 := hp.1.2.2.2.2.2.2.1
  have ht1 := hp.2.2.2.2.1
  have ht2 := hp.2.2.2.2.2.1
  intro d
  induction d with
  | zero =>
    intro F k S hdk hF hk hf hr
    cases F with
    | zero => omega
    | succ F =>
      have p1 : pRd S rd q tx t := pRd_fr hp hf (fun j hb => by have := hb.1; have := hb.2; omega) (fun j hb => by have := hb.1; have := hb.2; omega)
      obtain ⟨S1, e1, f1, p2, s1, h1, R1⟩ := r_next hd p1
      have ek : k = t.2.1 := by omega
      subst ek
      refine ⟨S1, ?_, fr_trans (fr_mono hf (fun b j hb => Or.inr (by have := hb.1; have := hb.2; omega))) (fr_mono f1 (fun b j hb => Or.inl hb)), p2, row_fr hr f1 (fun j hb => by have := hb.1; omega) (fun j hb => by have := hb.1; omega)⟩
      simp (disch := omega) [L_Reader_lettersInto_15, -Prod.exists, -Prod.forall, ↓bb_gf, ↓bb_gr, ↓bb_len, ↓bb_ga, ↓bb_gl, ↓bb_go, ↓bb_pf, ↓bb_pz, ↓bb_pr, ↓bb_pa, ↓bb_pb, ↓bb_pl, ↓bb_po, ↓bb_cl, ↓bb_some, ↓bb_RI, ↓bb_RJ, mm_hI, mm_hJ, mm_hR, mm_nI, mm_nJ, mm_nR, mm_sI, mm_sJ, mm_sR, mm_RI, mm_RJ, mm_IJ, mm_IR, mm_JI, mm_JR, mm_II, mm_JJ, mm_RR, nI_ltI, p1.1.1, p1.2.1, ↓bS e1]
  | succ d ih =>
    intro F k S hdk hF hk hf hr
    cases F with
    | zero => omega
    | succ F =>
      have p1 : pRd S rd q tx t := pRd_fr hp hf (fun j hb => by have := hb.1; have := hb.2; omega) (fun j hb => by have := hb.1; have := hb.2; omega)
      have hk2 : k < t.2.1 := by omega
      have by1 := rd_byte p1.1 (show k < tx.length by omega)
      have cz := hz k hk hk2
      have esub : nI (lg tx k) - 97 = nI (lg tx k - 97) := pk_sub (a := lg tx k) (b := 97) (by omega)
      have hlen : (zlow ((tx.drop t.1).take (k - t.1))).length = k - t.1 := by rw [low_len]; simp; omega
      obtain ⟨S1, e1, f1, r1⟩ := row_add hr (show (zlow ((tx.drop t.1).take (k - t.1))).length < n by omega) (v := lg tx k - 97) (by omega)
      have ea : zlow ((tx.drop t.1).take (k - t.1)) ++ [(lg tx k - 97) % 8] = zlow ((tx.drop t.1).take (k + 1 - t.1)) := by
        have hjl : k - t.1 < (tx.drop t.1).length := by simp; omega
        rw [show k + 1 - t.1 = k - t.1 + 1 by omega, List.take_succ_eq_append_getElem hjl, ← lg_get hjl, lg_drop, show t.1 + (k - t.1) = k by omega, Nat.mod_eq_of_lt (by omega)]
        simp [zlow]
      rw [ea] at r1
      obtain ⟨S', g1, g2⟩ := ih F (k + 1) S1 (by omega) (by omega) (by omega) (fr_trans hf f1) r1
      refine ⟨S', ?_, g2⟩
      rw [← g1]
      simp (disch := omega) [L_Reader_lettersInto_15, -Prod.exists, -Prod.forall, ↓bb_gf, ↓bb_gr, ↓bb_len, ↓bb_ga, ↓bb_gl, ↓bb_go, ↓bb_pf, ↓bb_pz, ↓bb_pr, ↓bb_pa, ↓bb_pb, ↓bb_pl, ↓bb_po, ↓bb_cl, ↓bb_some, ↓bb_RI, ↓bb_RJ, mm_hI, mm_hJ, mm_hR, mm_nI, mm_nJ, mm_nR, mm_sI, mm_sJ, mm_sR, mm_RI, mm_RJ, mm_IJ, mm_IR, mm_JI, mm_JR, mm_II, mm_JJ, mm_RR, nI_ltI, nI_1, p1.1.1, p1.2.1, hk2, ↓bS by1, hr.1, esub, ↓bS e1]
theorem lets_z {tx : List Nat} {t : zTk} (ht : wTk tx t) {most : Nat} (hl : zlets tx t most = true) : ∀ j, t.1 ≤ j → j < t.2.1 → 97 ≤ lg tx j ∧ lg tx j ≤ 104 := by
  obtain ⟨l1, l2, l3⟩ := lets_is hl
  intro j hj hj2
  have m : lg tx j ∈ zsl tx t := by
    have : lg (zsl tx t) (j - t.1) = lg tx j := by rw [sl_lg (by omega)]; congr 1; omega
    rw [← this, lg_get (by rw [sl_len ht]; omega)]; exact List.getElem_mem _
  exact ⟨((ht.2.2.2.2.1 l1).2 j hj hj2).1, l3 _ m⟩
theorem r_into {a n most : Nat} (hd : dRd rd q T) (ha : rd ≠ a ∧ rd ≠ a + 1 ∧ q ≠ a ∧ q ≠ a + 1) (hp : pRd S rd q tx t) (hr : pRow S a n []) (hm : most ≤ n) (hm2 : most < 100) (hl : zlets tx t most = true) : ∃ S', f_Reader_lettersInto rd a (nI most) S = some (0, S') ∧ zfr (wLi rd a) S S' ∧ pRd S' rd q tx (znext tx t.2.1) ∧ pRow S' a n (zlow (zsl tx t)) := by
  have ar := rd_are hp hm2
  rw [hl] at ar
  simp only [if_true] at ar
  obtain ⟨l1, l2, l3⟩ := lets_is hl
  have t900 := hp.1.2.2.2.2.2.2.1
  have ht1 := hp.2.2.2.2.1
  have ht2 := hp.2.2.2.2.2.1
  obtain ⟨S', g1, g2⟩ := into_l (n := n) hd ha hp (lets_z hp.2.2.2.2 hl) (by omega) (t.2.1 - t.1) zF t.1 S (by omega) (by rw [zF_eq]; omega) (by omega) (fr_refl _ _) (by simpa [zlow] using hr)
  refine ⟨S', ?_, g2⟩
  rw [← g1]
  simp (disch := omega) [f_Reader_lettersInto, -Prod.exists, -Prod.forall, ↓bb_gf, ↓bb_gr, ↓bb_len, ↓bb_ga, ↓bb_gl, ↓bb_go, ↓bb_pf, ↓bb_pz, ↓bb_pr, ↓bb_pa, ↓bb_pb, ↓bb_pl, ↓bb_po, ↓bb_cl, ↓bb_some, ↓bb_RI, ↓bb_RJ, mm_hI, mm_hJ, mm_hR, mm_nI, mm_nJ, mm_nR, mm_sI, mm_sJ, mm_sR, mm_RI, mm_RJ, mm_IJ, mm_IR, mm_JI, mm_JR, mm_II, mm_JJ, mm_RR, hp.1.1, ↓bS ar, hp.2.2.1]
theorem r_intoF {a most : Nat} (hp : pRd S rd q tx t) (hm2 : most < 100) (hl : zlets tx t most = false) : f_Reader_lettersInto rd a (nI most) S = some (1, S) := by
  have ar := rd_are hp hm2
  rw [hl] at ar
  simp only [Bool.false_eq_true, if_false] at ar
  simp (disch := omega) [f_Reader_lettersInto, -Prod.exists, -Prod.forall, ↓bb_gf, ↓bb_gr, ↓bb_len, ↓bb_ga, ↓bb_gl, ↓bb_go, ↓bb_pf, ↓bb_pz, ↓bb_pr, ↓bb_pa, ↓bb_pb, ↓bb_pl, ↓bb_po, ↓bb_cl, ↓bb_some, ↓bb_RI, ↓bb_RJ, mm_hI, mm_hJ, mm_hR, mm_nI, mm_nJ, mm_nR, mm_sI, mm_sJ, mm_sR, mm_RI, mm_RJ, mm_IJ, mm_IR, mm_JI, mm_JR, mm_II, mm_JJ, mm_RR, hp.1.1, ↓bS ar]
/-- what a rule's reading changes -/
def wRl (rd r : Nat) : Nat → Nat → Prop := fun b j => wRdr rd b j ∨ (r ≤ b ∧ b < r + 5)
theorem r_outc {r : Nat} {mt : List Nat} {ah bh : Nat} (hd : dRd rd q T) (hr : (rd < r ∨ r + 5 ≤ rd) ∧ (q < r ∨ r + 5 ≤ q)) (hp : pRd S rd q tx t) (hR : pRule S r (mt, [], ah, bh)) : ∃ S', f_Reader_outcomeFault rd r S = some (nI (zoutc tx t).1, S') ∧ zfr (wRl rd r) S S' ∧ pRd S' rd q tx (zoutc tx t).2.2 ∧ pRule S' r (mt, (zoutc tx t).2.1, ah, bh) := by
  have hh := hp.1.1
  have is1 := rd_is hp (show 9 < 13 by omega)
  cases c1 : zisw tx t 9 with
  | false =>
    have ez : zoutc tx t = (1, [], t) := by simp [zoutc, c1]
    rw [ez]
    rw [c1] at is1
    simp only [Bool.false_eq_true, if_false] at is1
    refine ⟨S, ?_, fr_refl _ _, hp, hR⟩
    simp (disch := omega) [f_Reader_outcomeFault, -Prod.exists, -Prod.forall, ↓bb_gf, ↓bb_gr, ↓bb_len, ↓bb_ga, ↓bb_gl, ↓bb_go, ↓bb_pf, ↓bb_pz, ↓bb_pr, ↓bb_pa, ↓bb_pb, ↓bb_pl, ↓bb_po, ↓bb_cl, ↓bb_some, ↓bb_RI, ↓bb_RJ, mm_hI, mm_hJ, mm_hR, mm_nI, mm_nJ, mm_nR, mm_sI, mm_sJ, mm_sR, mm_RI, mm_RJ, mm_IJ, mm_IR, mm_JI, mm_JR, mm_II, mm_JJ, mm_RR, hh, ↓bS is1]; rfl
  | true =>
    rw [c1] at is1
    simp only [if_true] at is1
    obtain ⟨S1, e1, f1, p1, s1, h1, R1⟩ := r_next hd hp
    obtain ⟨t1, ht1⟩ : ∃ t1, t1 = znext tx t.2.1 := ⟨_, rfl⟩
    rw [← ht1] at p1
    have hh1 : zh S1 rd = (7, 0) := by rw [h1]; exact hh
    have is2 := rd_is p1 (show 10 < 13 by omega)
    have f1' : zfr (wRl rd r) S S1 := fr_mono f1 (fun b j hb => Or.inl hb)
    have sm1 : zsm r (r + 5) S S1 := sm_fr f1 (fun b j q1 q2 => by unfold wRdr; omega)
    have hR1 := rule_sm hR sm1 (by omega) (by omega)
    cases c2 : zisw tx t1 10 with
    | true =>
      rw [c2] at is2
      simp only [if_true] at is2
      have ez : zoutc tx t = (0, [], znext tx t1.2.1) := by simp only [zoutc, c1, ← ht1, c2, if_true]
      rw [ez]
      obtain ⟨S2, e2, f2, p2, s2, h2, R2⟩ := r_next hd p1
      have sm2 : zsm r (r + 5) S1 S2 := sm_fr f2 (fun b j q1 q2 => by unfold wRdr; omega)
      refine ⟨S2, ?_, fr_trans f1' (fr_mono f2 (fun b j hb => Or.inl hb)), p2, rule_sm hR1 sm2 (by omega) (by omega)⟩
      simp (disch := omega) [f_Reader_outcomeFault, -Prod.exists, -Prod.forall, ↓bb_gf, ↓bb_gr, ↓bb_len, ↓bb_ga, ↓bb_gl, ↓bb_go, ↓bb_pf, ↓bb_pz, ↓bb_pr, ↓bb_pa, ↓bb_pb, ↓bb_pl, ↓bb_po, ↓bb_cl, ↓bb_some, ↓bb_RI, ↓bb_RJ, mm_hI, mm_hJ, mm_hR, mm_nI, mm_nJ, mm_nR, mm_sI, mm_sJ, mm_sR, mm_RI, mm_RJ, mm_IJ, mm_IR, mm_JI, mm_JR, mm_II, mm_JJ, mm_RR, hh, ↓bS is1, ↓bS e1, hh1, ↓bS is2, ↓bS e2]; rfl
    | false =>
      rw [c2] at is2
      simp only [Bool.false_eq_true, if_false] at is2
      obtain ⟨z1, z2, z3, z4, z5, z6, z7⟩ := hR1
      cases c3 : zlets tx t1 4 with
      | true =>
        have ez : zoutc tx t = (0, zlow (zsl tx t1), znext tx t1.2.1) := by simp only [zoutc, c1, ← ht1, c2, c3, if_true, Bool.false_eq_true, if_false]
        rw [ez]
        obtain ⟨S2, e2, f2, p2, r2⟩ := r_into hd (by omega) p1 z5 (Nat.le_refl 4) (by omega) c3
        have f2' : zfr (wRl rd r) S1 S2 := fr_mono f2 (fun b j hb => hb.elim (fun z => Or.inl z) (fun z => Or.inr (by omega)))
        have e2' : f_Reader_lettersInto rd (r + 3) 4 S1 = some (0, S2) := e2
        have g : ∀ j, zI S2 r j = zI S1 r j := fun j => fr_I f2 (by unfold wLi wRdr; omega)
        refine ⟨S2, ?_, fr_trans f1' f2', p2, ⟨by rw [fr_h f2]; exact z1, by rw [fr_R f2]; exact z2, by rw [fr_R f2]; exact z3, row_fr z4 f2 (fun j => by unfold wLi wRdr; omega) (fun j => by unfold wLi wRdr; omega), r2, by rw [g]; exact z6, by rw [g]; exact z7⟩⟩
        simp (disch := omega) [f_Reader_outcomeFault, -Prod.exists, -Prod.forall, ↓bb_gf, ↓bb_gr, ↓bb_len, ↓bb_ga, ↓bb_gl, ↓bb_go, ↓bb_pf, ↓bb_pz, ↓bb_pr, ↓bb_pa, ↓bb_pb, ↓bb_pl, ↓bb_po, ↓bb_cl, ↓bb_some, ↓bb_RI, ↓bb_RJ, mm_hI, mm_hJ, mm_hR, mm_nI, mm_nJ, mm_nR, mm_sI, mm_sJ, mm_sR, mm_RI, mm_RJ, mm_IJ, mm_IR, mm_JI, mm_JR, mm_II, mm_JJ, mm_RR, hh, ↓bS is1, ↓bS e1, hh1, ↓bS is2, z1, ↓bS z3, ↓bS e2']; rfl
      | false =>
        have ez : zoutc tx t = (1, [], t1) := by simp only [zoutc, c1, ← ht1, c2, c3, if_true, Bool.false_eq_true, if_false]
        rw [ez]
        have e2 : f_Reader_lettersInto rd (r + 3) 4 S1 = some (1, S1) := r_intoF (most := 4) p1 (by omega) c3
        refine ⟨S1, ?_, f1', p1, ⟨z1, z2, z3, z4, z5, z6, z7⟩⟩
        simp (disch := omega) [f_Reader_outcomeFault, -Prod.exists, -Prod.forall, ↓bb_gf, ↓bb_gr, ↓bb_len, ↓bb_ga, ↓bb_gl, ↓bb_go, ↓bb_pf, ↓bb_pz, ↓bb_pr, ↓bb_pa, ↓bb_pb, ↓bb_pl, ↓bb_po, ↓bb_cl, ↓bb_some, ↓bb_RI, ↓bb_RJ, mm_hI, mm_hJ, mm_hR, mm_nI, mm_nJ, mm_nR, mm_sI, mm_sJ, mm_sR, mm_RI, mm_RJ, mm_IJ, mm_IR, mm_JI, mm_JR, mm_II, mm_JJ, mm_RR, hh, ↓bS is1, ↓bS e1, hh1, ↓bS is2, z1, ↓bS z3, ↓bS e2]; rfl
end
