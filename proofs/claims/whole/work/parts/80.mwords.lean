/-! the reference: words by their places; keys -/
section
variable {S S0 : zM} {M L : Nat}
theorem pow_le4 {k : Nat} (hL : L ≤ 4) (hk : k ≤ 6) : L ^ k ≤ 4096 := by
  have h1 : L ^ k ≤ 4 ^ k := Nat.pow_le_pow_left hL k
  have h2 : (4 : Nat) ^ k ≤ 4 ^ 6 := Nat.pow_le_pow_right (by omega) hk
  omega
theorem cnt_mono : ∀ d n, zcnt L n ≤ zcnt L (n + d) := by
  intro d
  induction d with
  | zero => intro n; exact Nat.le_refl _
  | succ d ih => intro n; rw [← Nat.add_assoc, zcnt]; exact Nat.le_trans (ih n) (by omega)
theorem lo_10 (hm : sMo S M) (h6 : zI S M 6 = nI L) (hL : 2 ≤ L ∧ L ≤ 4) {i : Nat} (hi : i < zcnt L 5) : ∀ d F j, d + j + 1 = (zword L i).length → d < F → L_Mo_lettersOf_10 F M (nI (j + 1)) (nI (i - zcnt L j)) (nI (L ^ (j + 1))) S = some (nI (zword L i).length, S) := by
  obtain ⟨w1, w2, w3, w4, w5, w6⟩ := word_ok hL hi
  have c5 := (cnt_le hL (Nat.le_refl 5)).2
  intro d
  induction d with
  | zero =>
    intro F j hd hF
    cases F with
    | zero => omega
    | succ F =>
      have hp := pow_le4 (k := j + 1) hL.2 (by omega)
      have hlt : i - zcnt L j < L ^ (j + 1) := by
        rw [show (zword L i).length = j + 1 by omega, zcnt] at w4
        rw [show (zword L i).length - 1 = j by omega] at w3
        omega
      have hx : nI (i - zcnt L j) < nI (L ^ (j + 1)) := by rw [nI_ltI (by omega) (by omega)]; exact hlt
      rw [L_Mo_lettersOf_10, if_pos hx, show (zword L i).length = j + 1 by omega]
  | succ d ih =>
    intro F j hd hF
    cases F with
    | zero => omega
    | succ F =>
      have hp := pow_le4 (k := j + 1) hL.2 (by omega)
      have hc : zcnt L (j + 1) ≤ i := by
        have := cnt_mono (L := L) ((zword L i).length - 1 - (j + 1)) (j + 1)
        rw [show j + 1 + ((zword L i).length - 1 - (j + 1)) = (zword L i).length - 1 by omega] at this
        omega
      have hc2 : zcnt L (j + 1) = zcnt L j + L ^ (j + 1) := rfl
      have hx : ¬ nI (i - zcnt L j) < nI (L ^ (j + 1)) := by rw [nI_ltI (by omega) (by omega)]; omega
      have e1 : nI (j + 1) + 1 = nI (j + 1 + 1) := nI_add _ 1
      have es : nI (i - zcnt L j) - nI (L ^ (j + 1)) = nI (i - zcnt L (j + 1)) := by rw [pk_sub (by omega)]; congr 1; omega
      have em : nI (L ^ (j + 1)) * nI L = nI (L ^ (j + 1 + 1)) := by rw [pk_mul, Nat.pow_succ L (j + 1)]
      rw [← ih F (j + 1) (by omega) (by omega), L_Mo_lettersOf_10, if_neg hx]
      simp (disch := omega) [-Prod.exists, -Prod.forall, ↓bb_gf, ↓bb_gr, ↓bb_len, ↓bb_ga, ↓bb_gl, ↓bb_go, ↓bb_pf, ↓bb_pz, ↓bb_pr, ↓bb_pa, ↓bb_pb, ↓bb_pl, ↓bb_po, ↓bb_cl, ↓bb_some, ↓bb_RI, ↓bb_RJ, mm_hI, mm_hJ, mm_hR, mm_nI, mm_nJ, mm_nR, mm_sI, mm_sJ, mm_sR, mm_RI, mm_RJ, mm_IJ, mm_IR, mm_JI, mm_JR, mm_II, mm_JJ, mm_RR, hm.1, h6, e1, es, em]
theorem li_19 (hm0 : sMo S M) (h6 : zI S M 6 = nI L) (hL : 2 ≤ L ∧ L ≤ 4) {i : Nat} (hi : i < zcnt L 5) (h41 : zI S M 41 = nI (zword L i).length) {K : Nat → Int32 → zM → Option zM} : ∀ d F j, d + j + 1 = (zword L i).length → d < F → L_Mo_laysIndex_19 K F M (nI (i - zcnt L j)) (nI (L ^ (j + 1))) (nI (j + 1)) S = K M (nI (i - zcnt L ((zword L i).length - 1))) S := by
  obtain ⟨w1, w2, w3, w4, w5, w6⟩ := word_ok hL hi
  intro d
  induction d with
  | zero =>
    intro F j hd hF
    cases F with
    | zero => omega
    | succ F =>
      have hx : ¬ nI (j + 1) < nI (zword L i).length := by rw [nI_ltI (by omega) (by omega)]; omega
      rw [show (zword L i).length - 1 = j by omega, L_Mo_laysIndex_19]
      simp (disch := omega) [-Prod.exists, -Prod.forall, ↓bb_gf, ↓bb_gr, ↓bb_len, ↓bb_ga, ↓bb_gl, ↓bb_go, ↓bb_pf, ↓bb_pz, ↓bb_pr, ↓bb_pa, ↓bb_pb, ↓bb_pl, ↓bb_po, ↓bb_cl, ↓bb_some, ↓bb_RI, ↓bb_RJ, mm_hI, mm_hJ, mm_hR, mm_nI, mm_nJ, mm_nR, mm_sI, mm_sJ, mm_sR, mm_RI, mm_RJ, mm_IJ, mm_IR, mm_JI, mm_JR, mm_II, mm_JJ, mm_RR, hm0.1, h41, hx]
  | succ d ih =>
    intro F j hd hF
    cases F with
    | zero => omega
    | succ F =>
      have hp := pow_le4 (k := j + 1) hL.2 (by omega)
      have hc : zcnt L (j + 1) ≤ i := by
        have := cnt_mono (L := L) ((zword L i).length - 1 - (j + 1)) (j + 1)
        rw [show j + 1 + ((zword L i).length - 1 - (j + 1)) = (zword L i).length - 1 by omega] at this
        omega
      have hc2 : zcnt L (j + 1) = zcnt L j + L ^ (j + 1) := rfl
      have hx : nI (j + 1) < nI (zword L i).length := by rw [nI_ltI (by omega) (by omega)]; omega
      have e1 : nI (j + 1) + 1 = nI (j + 1 + 1) := nI_add _ 1
      have es : nI (i - zcnt L j) - nI (L ^ (j + 1)) = nI (i - zcnt L (j + 1)) := by rw [pk_sub (by omega)]; congr 1; omega
      have em : nI (L ^ (j + 1)) * nI L = nI (L ^ (j + 1 + 1)) := by rw [pk_mul, Nat.pow_succ L (j + 1)]
      rw [← ih F (j + 1) (by omega) (by omega), L_Mo_laysIndex_19]
      simp (disch := omega) [-Prod.exists, -Prod.forall, ↓bb_gf, ↓bb_gr, ↓bb_len, ↓bb_ga, ↓bb_gl, ↓bb_go, ↓bb_pf, ↓bb_pz, ↓bb_pr, ↓bb_pa, ↓bb_pb, ↓bb_pl, ↓bb_po, ↓bb_cl, ↓bb_some, ↓bb_RI, ↓bb_RJ, mm_hI, mm_hJ, mm_hR, mm_nI, mm_nJ, mm_nR, mm_sI, mm_sJ, mm_sR, mm_RI, mm_RJ, mm_IJ, mm_IR, mm_JI, mm_JR, mm_II, mm_JJ, mm_RR, hm0.1, h41, hx, h6, e1, es, em]
theorem dig_len : ∀ m v, (zdig L m v).length = m := by
  intro m
  induction m with
  | zero => intro v; rfl
  | succ m ih => intro v; rw [zdig, List.length_append, ih, List.length_singleton]
theorem li_53 (hm0 : sMo S0 M) (h6 : zI S0 M 6 = nI L) (hL : 2 ≤ L ∧ L ≤ 4) : ∀ m F v (S : zM), m ≤ 5 → m < F → v < 5000 → zfr (fun b _ => b = M + 19) S0 S → ∃ S', L_Mo_laysIndex_53 F M (nI v) (nI m - 1) S = some S' ∧ zfr (fun b _ => b = M + 19) S0 S' ∧ (∀ k, k < m → zI S' (M + 19) k = nI (lg (zdig L m v) k)) ∧ ∀ k, m ≤ k → zI S' (M + 19) k = zI S (M + 19) k := by
  have n0 : ¬ nI L = 0 := nI_ne0 (by omega) (by omega)
  intro m
  induction m with
  | zero =>
    intro F v S hm5 hF hv hf
    cases F with
    | zero => omega
    | succ F =>
      have l : nI 0 - 1 < 0 := by decide
      exact ⟨S, by simp [L_Mo_laysIndex_53, l], hf, fun k hk => by omega, fun k _ => rfl⟩
  | succ m ih =>
    intro F v S hm5 hF hv hf
    cases F with
    | zero => omega
    | succ F =>
      have hm := mo_fr hm0 hf
      have h6' : zI S M 6 = nI L := by rw [fr_I hf (by omega)]; exact h6
      have ee : nI (m + 1) - 1 = nI m := nI_pred m
      have l : ¬ nI m < 0 := nI_pos (by omega)
      have z : zinb (nI m) 64 = true := (nn_in (by omega)).2 (by omega)
      have c : (nI m).toNatClampNeg = m := nI_clamp (by omega)
      have ed : nI v / nI L = nI (v / L) := pk_div (by omega) (by omega) (by omega)
      have er : nI v - nI (v / L) * nI L = nI (v % L) := by rw [← ed]; exact pk_rem (by omega) (by omega) (by omega)
      have em : nI m + (-1) = nI m - 1 := by rw [Int32.sub_eq_add_neg]
      have hdl : v / L ≤ v := Nat.div_le_self v L
      have f1 : zfr (fun b _ => b = M + 19) S (zwI S (M + 19) m (nI (v % L))) := fr_wI _ _ rfl
      obtain ⟨S', r1, r2, r3, r4⟩ := ih F (v / L) (zwI S (M + 19) m (nI (v % L))) (by omega) (by omega) (by omega) (fr_trans hf f1)
      refine ⟨S', ?_, r2, fun k hk => ?_, fun k hk => ?_⟩
      · rw [ee, ← r1, L_Mo_laysIndex_53]
        simp (disch := omega) [-Prod.exists, -Prod.forall, ↓bb_gf, ↓bb_gr, ↓bb_len, ↓bb_ga, ↓bb_gl, ↓bb_go, ↓bb_pf, ↓bb_pz, ↓bb_pr, ↓bb_pa, ↓bb_pb, ↓bb_pl, ↓bb_po, ↓bb_cl, ↓bb_some, ↓bb_RI, ↓bb_RJ, mm_hI, mm_hJ, mm_hR, mm_nI, mm_nJ, mm_nR, mm_sI, mm_sJ, mm_sR, mm_RI, mm_RJ, mm_IJ, mm_IR, mm_JI, mm_JR, mm_II, mm_JJ, mm_RR, l, hm.1, ↓bS (mo_now hm), mh_now hm, h6', n0, ed, er, z, c, em]
      · rw [zdig]
        by_cases q : k = m
        · subst q
          rw [r4 k (by omega), lg_app2 (by rw [dig_len]; omega), dig_len, Nat.sub_self, lg_cons0]
          simp [-Prod.exists, -Prod.forall, zgf, zgr, zpf, zpz, zpr, zga, zgl, zgo, zpa, zpb, zpl, zpo, mm_len, zcl, Option.bind_some, Option.bind_none, mm_hI, mm_hJ, mm_hR, mm_nI, mm_nJ, mm_nR, mm_sI, mm_sJ, mm_sR, mm_RI, mm_RJ, mm_IJ, mm_IR, mm_JI, mm_JR, mm_II, mm_JJ, mm_RR]
        · rw [r3 k (by omega), lg_app1 (by rw [dig_len]; omega)]
      · rw [r4 k (by omega)]
        have : ¬ k = m := by omega
        simp [-Prod.exists, -Prod.forall, zgf, zgr, zpf, zpz, zpr, zga, zgl, zgo, zpa, zpb, zpl, zpo, mm_len, zcl, Option.bind_some, Option.bind_none, mm_hI, mm_hJ, mm_hR, mm_nI, mm_nJ, mm_nR, mm_sI, mm_sJ, mm_sR, mm_RI, mm_RJ, mm_IJ, mm_IR, mm_JI, mm_JR, mm_II, mm_JJ, mm_RR, this]
theorem m_index (hm : sMo S M) (h6 : zI S M 6 = nI L) (hL : 2 ≤ L ∧ L ≤ 4) {i : Nat} (hi : i < zcnt L 5) : ∃ S', f_Mo_laysIndex M (nI i) S = some S' ∧ zfr (fun b j => b = M + 19 ∨ (b = M ∧ j = 41)) S S' ∧ pNow S' M (zword L i) := by
  obtain ⟨w1, w2, w3, w4, w5, w6⟩ := word_ok hL hi
  have c5 := (cnt_le hL (Nat.le_refl 5)).2
  have lo : f_Mo_lettersOf M (nI i) S = some (nI (zword L i).length, S) := by
    have := lo_10 hm h6 hL hi ((zword L i).length - 1) zF 0 (by omega) (by rw [zF_eq]; omega)
    rw [← this]
    simp (disch := omega) [f_Mo_lettersOf, -Prod.exists, -Prod.forall, ↓bb_gf, ↓bb_gr, ↓bb_len, ↓bb_ga, ↓bb_gl, ↓bb_go, ↓bb_pf, ↓bb_pz, ↓bb_pr, ↓bb_pa, ↓bb_pb, ↓bb_pl, ↓bb_po, ↓bb_cl, ↓bb_some, ↓bb_RI, ↓bb_RJ, mm_hI, mm_hJ, mm_hR, mm_nI, mm_nJ, mm_nR, mm_sI, mm_sJ, mm_sR, mm_RI, mm_RJ, mm_IJ, mm_IR, mm_JI, mm_JR, mm_II, mm_JJ, mm_RR, hm.1, h6, zcnt]; rfl
  have f1 : zfr (fun b j => b = M + 19 ∨ (b = M ∧ j = 41)) S (zwI S M 41 (nI (zword L i).length)) := fr_wI _ _ (Or.inr ⟨rfl, rfl⟩)
  have hm1 := mo_fr hm f1
  have h61 : zI (zwI S M 41 (nI (zword L i).length)) M 6 = nI L := by rw [← h6]; simp [-Prod.exists, -Prod.forall, zgf, zgr, zpf, zpz, zpr, zga, zgl, zgo, zpa, zpb, zpl, zpo, mm_len, zcl, Option.bind_some, Option.bind_none, mm_hI, mm_hJ, mm_hR, mm_nI, mm_nJ, mm_nR, mm_sI, mm_sJ, mm_sR, mm_RI, mm_RJ, mm_IJ, mm_IR, mm_JI, mm_JR, mm_II, mm_JJ, mm_RR]
  have h41 : zI (zwI S M 41 (nI (zword L i).length)) M 41 = nI (zword L i).length := by simp [-Prod.exists, -Prod.forall, zgf, zgr, zpf, zpz, zpr, zga, zgl, zgo, zpa, zpb, zpl, zpo, mm_len, zcl, Option.bind_some, Option.bind_none, mm_hI, mm_hJ, mm_hR, mm_nI, mm_nJ, mm_nR, mm_sI, mm_sJ, mm_sR, mm_RI, mm_RJ, mm_IJ, mm_IR, mm_JI, mm_JR, mm_II, mm_JJ, mm_RR]
  obtain ⟨S', r1, r2, r3, r4⟩ := li_53 hm1 h61 hL (zword L i).length zF (i - zcnt L ((zword L i).length - 1)) _ w2 (by rw [zF_eq]; omega) (by omega) (fr_refl _ _)
  have r5 := li_19 hm1 h61 hL hi h41 (K := F_Mo_laysIndex_45 (L_Mo_laysIndex_53 zF)) ((zword L i).length - 1) zF 0 (by omega) (by rw [zF_eq]; omega)
  refine ⟨S', ?_, fr_trans f1 (fr_mono r2 (fun b j h => Or.inl h)), ?_, ?_, w6, by omega⟩
  · rw [← r1]
    have e45 : F_Mo_laysIndex_45 (L_Mo_laysIndex_53 zF) M (nI (i - zcnt L ((zword L i).length - 1))) (zwI S M 41 (nI (zword L i).length)) = L_Mo_laysIndex_53 zF M (nI (i - zcnt L ((zword L i).length - 1))) (nI (zword L i).length - 1) (zwI S M 41 (nI (zword L i).length)) := by
      simp (disch := omega) [F_Mo_laysIndex_45, -Prod.exists, -Prod.forall, ↓bb_gf, ↓bb_gr, ↓bb_len, ↓bb_ga, ↓bb_gl, ↓bb_go, ↓bb_pf, ↓bb_pz, ↓bb_pr, ↓bb_pa, ↓bb_pb, ↓bb_pl, ↓bb_po, ↓bb_cl, ↓bb_some, ↓bb_RI, ↓bb_RJ, mm_hI, mm_hJ, mm_hR, mm_nI, mm_nJ, mm_nR, mm_sI, mm_sJ, mm_sR, mm_RI, mm_RJ, mm_IJ, mm_IR, mm_JI, mm_JR, mm_II, mm_JJ, mm_RR, hm.1]
    rw [← e45, ← r5]
    simp (disch := omega) [f_Mo_laysIndex, -Prod.exists, -Prod.forall, ↓bb_gf, ↓bb_gr, ↓bb_len, ↓bb_ga, ↓bb_gl, ↓bb_go, ↓bb_pf, ↓bb_pz, ↓bb_pr, ↓bb_pa, ↓bb_pb, ↓bb_pl, ↓bb_po, ↓bb_cl, ↓bb_some, ↓bb_RI, ↓bb_RJ, mm_hI, mm_hJ, mm_hR, mm_nI, mm_nJ, mm_nR, mm_sI, mm_sJ, mm_sR, mm_RI, mm_RJ, mm_IJ, mm_IR, mm_JI, mm_JR, mm_II, mm_JJ, mm_RR, hm.1, h6, ↓bS lo, zcnt]; rfl
  · rw [fr_I r2 (by omega)]; exact h41
  · intro k hk
    rw [r3 k hk, w5]
theorem wo_10 {xs : List Nat} (hm : sMo S M) (hn : pNow S M xs) (hl : xs.length ≤ 5) : ∀ d F k, d + k = xs.length → d < F → L_Mo_wordOf_10 F M (lN (zval (xs.take k))) (nI k) S = some (lN (zval xs), S) := by
  intro d
  induction d with
  | zero =>
    intro F k hd hF
    cases F with
    | zero => omega
    | succ F =>
      have ek : k = xs.length := by omega
      subst ek
      have hx : ¬ nI xs.length < nI xs.length := by rw [nI_ltI (by omega) (by omega)]; omega
      rw [List.take_length, L_Mo_wordOf_10]
      simp (disch := omega) [-Prod.exists, -Prod.forall, ↓bb_gf, ↓bb_gr, ↓bb_len, ↓bb_ga, ↓bb_gl, ↓bb_go, ↓bb_pf, ↓bb_pz, ↓bb_pr, ↓bb_pa, ↓bb_pb, ↓bb_pl, ↓bb_po, ↓bb_cl, ↓bb_some, ↓bb_RI, ↓bb_RJ, mm_hI, mm_hJ, mm_hR, mm_nI, mm_nJ, mm_nR, mm_sI, mm_sJ, mm_sR, mm_RI, mm_RJ, mm_IJ, mm_IR, mm_JI, mm_JR, mm_II, mm_JJ, mm_RR, hm.1, hn.1, hx]
  | succ d ih =>
    intro F k hd hF
    cases F with
    | zero => omega
    | succ F =>
      have hx : nI k < nI xs.length := by rw [nI_ltI (by omega) (by omega)]; omega
      have e1 : nI k + 1 = nI (k + 1) := nI_add k 1
      have z : zinb (nI k) 64 = true := (nn_in (by omega)).2 (by omega)
      have c : (nI k).toNatClampNeg = k := nI_clamp (by omega)
      have v := hn.2.1 k (by omega)
      have b8 := hn.2.2.1 k
      have ew : ((256 : Int64) * lN (zval (xs.take k)) + 97) + (nI (lg xs k)).toInt64 = lN (zval (xs.take (k + 1))) := by
        rw [nI_l (by omega), show (256 : Int64) = lN 256 from rfl, show (97 : Int64) = lN 97 from rfl, lN_mul, lN_add, lN_add, List.take_succ_eq_append_getElem (by omega), val_snoc, lg_get (by omega)]
        congr 1; omega
      rw [← ih F (k + 1) (by omega) (by omega), L_Mo_wordOf_10]
      simp (disch := omega) [-Prod.exists, -Prod.forall, ↓bb_gf, ↓bb_gr, ↓bb_len, ↓bb_ga, ↓bb_gl, ↓bb_go, ↓bb_pf, ↓bb_pz, ↓bb_pr, ↓bb_pa, ↓bb_pb, ↓bb_pl, ↓bb_po, ↓bb_cl, ↓bb_some, ↓bb_RI, ↓bb_RJ, mm_hI, mm_hJ, mm_hR, mm_nI, mm_nJ, mm_nR, mm_sI, mm_sJ, mm_sR, mm_RI, mm_RJ, mm_IJ, mm_IR, mm_JI, mm_JR, mm_II, mm_JJ, mm_RR, hm.1, hn.1, hx, ↓bS (mo_now hm), mh_now hm, z, c, v, ew, e1]
theorem m_wordOf (hm : sMo S M) (h6 : zI S M 6 = nI L) (hL : 2 ≤ L ∧ L ≤ 4) {i : Nat} (hi : i < zcnt L 5) : ∃ S', f_Mo_wordOf M (nI i) S = some (lN (zval (zword L i)), S') ∧ zfr (fun b j => b = M + 19 ∨ (b = M ∧ j = 41)) S S' := by
  obtain ⟨w1, w2, w3, w4, w5, w6⟩ := word_ok hL hi
  obtain ⟨S', r1, r2, r3⟩ := m_index hm h6 hL hi
  have := wo_10 (mo_fr hm r2) r3 w2 (zword L i).length zF 0 (by omega) (by rw [zF_eq]; omega)
  refine ⟨S', ?_, r2⟩
  rw [← this]
  simp (disch := omega) [f_Mo_wordOf, -Prod.exists, -Prod.forall, ↓bb_gf, ↓bb_gr, ↓bb_len, ↓bb_ga, ↓bb_gl, ↓bb_go, ↓bb_pf, ↓bb_pz, ↓bb_pr, ↓bb_pa, ↓bb_pb, ↓bb_pl, ↓bb_po, ↓bb_cl, ↓bb_some, ↓bb_RI, ↓bb_RJ, mm_hI, mm_hJ, mm_hR, mm_nI, mm_nJ, mm_nR, mm_sI, mm_sJ, mm_sR, mm_RI, mm_RJ, mm_IJ, mm_IR, mm_JI, mm_JR, mm_II, mm_JJ, mm_RR, hm.1, ↓bS r1]; rfl
/-! keys -/
def zpd (xs : List Nat) (k : Nat) : Nat := if k < xs.length then lg xs k + 1 else 0
def zky (xs : List Nat) (b : Nat) : Nat → Nat
  | 0 => 0
  | n + 1 => 9 * zky xs b n + zpd xs (b + n)
def zkey (xs : List Nat) (p : Nat) : Nat := zky xs (19 * p) 19
theorem pd_lt {xs : List Nat} (h8 : l8 xs) (k : Nat) : zpd xs k < 9 := by
  unfold zpd; split
  · have := h8 k; omega
  · omega
theorem ky_lt {xs : List Nat} (h8 : l8 xs) (b : Nat) : ∀ n, zky xs b n < 9 ^ n := by
  intro n
  induction n with
  | zero => simp [zky]
  | succ n ih => rw [zky, Nat.pow_succ]; have := pd_lt h8 (b + n); omega
theorem ky_inj {xs ys : List Nat} (hx : l8 xs) (hy : l8 ys) (b : Nat) : ∀ n, zky xs b n = zky ys b n → ∀ k, k < n → zpd xs (b + k) = zpd ys (b + k) := by
  intro n
  induction n with
  | zero => intro _ k hk; omega
  | succ n ih =>
    intro h k hk
    rw [zky, zky] at h
    have h1 := pd_lt hx (b + n)
    have h2 := pd_lt hy (b + n)
    by_cases q : k = n
    · subst q; omega
    · exact ih (by omega) k (by omega)
theorem key_inj {xs ys : List Nat} (hx : l8 xs) (hy : l8 ys) (lx : xs.length ≤ 60) (ly : ys.length ≤ 60) (h : ∀ p, p < 4 → zkey xs p = zkey ys p) : xs = ys := by
  have hd : ∀ k, k < 76 → zpd xs k = zpd ys k := by
    intro k hk
    have := ky_inj hx hy (19 * (k / 19)) 19 (h (k / 19) (by omega)) (k % 19) (by omega)
    rwa [show 19 * (k / 19) + k % 19 = k by omega] at this
  have hl : xs.length = ys.length := by
    rcases Nat.lt_trichotomy xs.length ys.length with q | q | q
    · have := hd xs.length (by omega)
      unfold zpd at this
      rw [if_neg (by omega), if_pos q] at this
      omega
    · exact q
    · have := hd ys.length (by omega)
      unfold zpd at this
      rw [if_pos q, if_neg (by omega)] at this
      omega
  refine lg_ext hl (fun k hk => ?_)
  have := hd k (by omega)
  unfold zpd at this
  rw [if_pos hk, if_pos (by omega)] at this
  omega
theorem key_lt {xs : List Nat} (h8 : l8 xs) (p : Nat) : zkey xs p < 2 ^ 63 := by
  have := ky_lt h8 (19 * p) 19
  unfold zkey
  omega
theorem ko_8 {xs : List Nat} {p : Nat} (hm : sMo S M) (hn : pNow S M xs) (hp : p < 4) : ∀ d F n, d + n = 19 → d < F → L_Mo_keyOf_8 F M (nI p) (lN (zky xs (19 * p) n)) (nI (19 * p + n)) S = some (lN (zkey xs p), S) := by
  have h60 := hn.2.2.2
  have e19 : (19 : Int32) * nI p + 19 = nI (19 * p + 19) := by
    rw [show (19 : Int32) = nI 19 from rfl, pk_mul, nI_add]
  intro d
  induction d with
  | zero =>
    intro F n hd hF
    cases F with
    | zero => omega
    | succ F =>
      have en : n = 19 := by omega
      subst en
      have hx : ¬ nI (19 * p + 19) < nI (19 * p + 19) := by rw [nI_ltI (by omega) (by omega)]; omega
      rw [L_Mo_keyOf_8, e19, if_neg hx]; rfl
  | succ d ih =>
    intro F n hd hF
    cases F with
    | zero => omega
    | succ F =>
      have hx : nI (19 * p + n) < nI (19 * p + 19) := by rw [nI_ltI (by omega) (by omega)]; omega
      have e1 : nI (19 * p + n) + 1 = nI (19 * p + (n + 1)) := nI_add _ 1
      rw [← ih F (n + 1) (by omega) (by omega), L_Mo_keyOf_8, e19, if_pos hx]
      by_cases q : 19 * p + n < xs.length
      · have l : nI (19 * p + n) < nI xs.length := by rw [nI_ltI (by omega) (by omega)]; omega
        have z : zinb (nI (19 * p + n)) 64 = true := (nn_in (by omega)).2 (by omega)
        have c : (nI (19 * p + n)).toNatClampNeg = 19 * p + n := nI_clamp (by omega)
        have v := hn.2.1 (19 * p + n) q
        have b8 := hn.2.2.1 (19 * p + n)
        have ev : (nI (lg xs (19 * p + n)) + 1).toInt64 = lN (lg xs (19 * p + n) + 1) := by
          rw [show nI (lg xs (19 * p + n)) + 1 = nI (lg xs (19 * p + n) + 1) from nI_add _ 1, nI_l (by omega)]
        have ew : (9 : Int64) * lN (zky xs (19 * p) n) + lN (lg xs (19 * p + n) + 1) = lN (zky xs (19 * p) (n + 1)) := by
          rw [show (9 : Int64) = lN 9 from rfl, lN_mul, lN_add, zky, zpd, if_pos q]
        simp (disch := omega) [-Prod.exists, -Prod.forall, ↓bb_gf, ↓bb_gr, ↓bb_len, ↓bb_ga, ↓bb_gl, ↓bb_go, ↓bb_pf, ↓bb_pz, ↓bb_pr, ↓bb_pa, ↓bb_pb, ↓bb_pl, ↓bb_po, ↓bb_cl, ↓bb_some, ↓bb_RI, ↓bb_RJ, mm_hI, mm_hJ, mm_hR, mm_nI, mm_nJ, mm_nR, mm_sI, mm_sJ, mm_sR, mm_RI, mm_RJ, mm_IJ, mm_IR, mm_JI, mm_JR, mm_II, mm_JJ, mm_RR, hm.1, hn.1, l, ↓bS (mo_now hm), mh_now hm, z, c, v, ev, ew, e1]
      · have l : ¬ nI (19 * p + n) < nI xs.length := by rw [nI_ltI (by omega) (by omega)]; omega
        have ew : (9 : Int64) * lN (zky xs (19 * p) n) + (0 : Int32).toInt64 = lN (zky xs (19 * p) (n + 1)) := by
          rw [show (0 : Int32).toInt64 = lN 0 from rfl, show (9 : Int64) = lN 9 from rfl, lN_mul, lN_add, zky, zpd, if_neg q]
        simp (disch := omega) only [-Prod.exists, -Prod.forall, ↓bb_gf, ↓bb_gr, ↓bb_len, ↓bb_ga, ↓bb_gl, ↓bb_go, ↓bb_pf, ↓bb_pz, ↓bb_pr, ↓bb_pa, ↓bb_pb, ↓bb_pl, ↓bb_po, ↓bb_cl, ↓bb_some, ↓bb_RI, ↓bb_RJ, mm_hI, mm_hJ, mm_hR, mm_nI, mm_nJ, mm_nR, mm_sI, mm_sJ, mm_sR, mm_RI, mm_RJ, mm_IJ, mm_IR, mm_JI, mm_JR, mm_II, mm_JJ, mm_RR, hm.1, hn.1, l, if_true, if_false, ew, e1]
theorem m_keyOf {xs : List Nat} {p : Nat} (hm : sMo S M) (hn : pNow S M xs) (hp : p < 4) : f_Mo_keyOf M (nI p) S = some (lN (zkey xs p), S) := by
  have := ko_8 hm hn hp 19 zF 0 (by omega) (by rw [zF_eq]; omega)
  rw [← this]
  unfold f_Mo_keyOf
  rw [show (19 : Int32) * nI p = nI (19 * p + 0) from pk_mul 19 p]
  rfl
end
