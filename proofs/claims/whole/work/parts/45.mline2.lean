/-! the reference's reader: kinds, passes, sides, letters -/
section
variable {S : zM} {M : Nat} {tx : List Nat} {t : zTk} {st : zRt}
theorem mk_130 (h : pMr S M tx t) (hz : ∀ j, t.1 ≤ j → j < t.2.1 → 97 ≤ lg tx j ∧ lg tx j ≤ 104) {k172 : Nat → Int32 → zM → Option (Int32 × zM)} : ∀ d F k, d + k = t.2.1 → d < F → t.1 ≤ k → ((tx.drop t.1).take (k - t.1)).Nodup → ((zsl tx t).Nodup → L_Mo_readKind_130 k172 F M (nI (zlb ((tx.drop t.1).take (k - t.1)))) (nI k) S = k172 M (nI (zlb (zsl tx t))) S) ∧ (¬ (zsl tx t).Nodup → ∃ S', L_Mo_readKind_130 k172 F M (nI (zlb ((tx.drop t.1).take (k - t.1)))) (nI k) S = some (0, S') ∧ zfr (fun b j => b = M ∧ (j = 27 ∨ j = 28)) S S' ∧ zI S' M 27 = nI 3 ∧ zI S' M 28 = nI t.1) := by
  have h0 := h
  obtain ⟨⟨hm, a2, a3, h900, a5⟩, h24, h23, h25, ht, _⟩ := h
  have ht1 := ht.1
  have ht2 := ht.2.1
  intro d
  induction d with
  | zero =>
    intro F k hd hF hk hn
    cases F with
    | zero => omega
    | succ F =>
      have ek : k = t.2.1 := by omega
      subst ek
      have hn' : (zsl tx t).Nodup := hn
      refine ⟨fun _ => ?_, fun q => absurd hn' q⟩
      simp (disch := omega) [L_Mo_readKind_130, -Prod.exists, -Prod.forall, ↓bb_gf, ↓bb_gr, ↓bb_len, ↓bb_ga, ↓bb_gl, ↓bb_go, ↓bb_pf, ↓bb_pz, ↓bb_pr, ↓bb_pa, ↓bb_pb, ↓bb_pl, ↓bb_po, ↓bb_cl, ↓bb_some, ↓bb_RI, ↓bb_RJ, mm_hI, mm_hJ, mm_hR, mm_nI, mm_nJ, mm_nR, mm_sI, mm_sJ, mm_sR, mm_RI, mm_RJ, mm_IJ, mm_IR, mm_JI, mm_JR, mm_II, mm_JJ, mm_RR, nn_lit, nI_add, pk_mul, nI_clamp, nI_ltI, nI_leI, nI_eq, nn_in, nn_eqm, nn_meq, nn_ltm, nn_mlt, nn_lem, nn_mle, nn_in_m, hm.1, h24]
      rfl
  | succ d ih =>
    intro F k hd hF hk hn
    cases F with
    | zero => omega
    | succ F =>
      have hk2 : k < t.2.1 := by omega
      have et := a2 k (by omega)
      have c1 := hz k hk hk2
      have hjl : k - t.1 < (tx.drop t.1).length := by simp; omega
      have epre : (tx.drop t.1).take (k + 1 - t.1) = (tx.drop t.1).take (k - t.1) ++ [lg tx k] := by
        rw [show k + 1 - t.1 = k - t.1 + 1 by omega, List.take_succ_eq_append_getElem hjl, ← lg_get hjl, lg_drop, show t.1 + (k - t.1) = k by omega]
      have esub : nI (lg tx k) - nI 97 = nI (lg tx k - 97) := pk_sub (by omega)
      have ebit : (zlb ((tx.drop t.1).take (k - t.1))).testBit (lg tx k - 97) = ((tx.drop t.1).take (k - t.1)).contains (lg tx k) := by
        rw [zlb, bits_tb, show 97 + (lg tx k - 97) = lg tx k by omega]; simp; omega
      have fb := fa_bit (n := zlb ((tx.drop t.1).take (k - t.1))) (j := lg tx k - 97) (by omega)
      have eor : nI (zlb ((tx.drop t.1).take (k - t.1))) ||| nI (2 ^ (lg tx k - 97)) = nI (zlb ((tx.drop t.1).take (k + 1 - t.1))) := by
        rw [fa_or, epre]; congr 1
        refine bits_add (by omega) (fun j hj => ?_)
        simp only [List.contains_append]
        congr 1
        simp only [List.contains_cons, List.contains_nil, Bool.or_false]
        by_cases q : j = lg tx k - 97
        · simp [q]; omega
        · simp [q]; omega
      have lit : nI (zlb ((tx.drop t.1).take (k - t.1))) &&& nI (2 ^ (lg tx k - 97)) = nI 0 ↔ (zlb ((tx.drop t.1).take (k - t.1))).testBit (lg tx k - 97) = false := fb
      by_cases hc : lg tx k ∈ (tx.drop t.1).take (k - t.1)
      · have hnn : ¬ (zsl tx t).Nodup := by
          intro q
          have e3 : zsl tx t = (tx.drop t.1).take (k + 1 - t.1) ++ ((tx.drop t.1).take (t.2.1 - t.1)).drop (k + 1 - t.1) := by
            have := List.take_append_drop (k + 1 - t.1) ((tx.drop t.1).take (t.2.1 - t.1))
            rw [List.take_take, show min (k + 1 - t.1) (t.2.1 - t.1) = k + 1 - t.1 by omega] at this
            exact this.symm
          rw [e3, List.nodup_append] at q
          have q1 := q.1
          rw [epre, List.nodup_append] at q1
          exact q1.2.2 _ hc _ (by simp) rfl
        refine ⟨fun q => absurd q hnn, fun _ => ?_⟩
        have nb : ¬ nI (zlb ((tx.drop t.1).take (k - t.1))) &&& nI (2 ^ (lg tx k - 97)) = nI 0 := by
          rw [lit, ebit]; simp [hc]
        obtain ⟨S3, e3, f3, x1, x2⟩ := m_errs h0 3
        refine ⟨S3, ?_, f3, x1, x2⟩
        have e3' : f_Mo_errs M 3 S = some (0, S3) := e3
        simp (disch := omega) [L_Mo_readKind_130, -Prod.exists, -Prod.forall, ↓bb_gf, ↓bb_gr, ↓bb_len, ↓bb_ga, ↓bb_gl, ↓bb_go, ↓bb_pf, ↓bb_pz, ↓bb_pr, ↓bb_pa, ↓bb_pb, ↓bb_pl, ↓bb_po, ↓bb_cl, ↓bb_some, ↓bb_RI, ↓bb_RJ, mm_hI, mm_hJ, mm_hR, mm_nI, mm_nJ, mm_nR, mm_sI, mm_sJ, mm_sR, mm_RI, mm_RJ, mm_IJ, mm_IR, mm_JI, mm_JR, mm_II, mm_JJ, mm_RR, nn_lit, nI_add, pk_mul, nI_clamp, nI_ltI, nI_leI, nI_eq, nn_in, nn_eqm, nn_meq, nn_ltm, nn_mlt, nn_lem, nn_mle, nn_in_m, hm.1, h24, hk2, ↓bS (mo_tape hm), mh_tape hm, show k < 900 by omega, et, esub, nn_pow2, nb, ↓bS e3']
      · have nb : nI (zlb ((tx.drop t.1).take (k - t.1))) &&& nI (2 ^ (lg tx k - 97)) = nI 0 := by
          rw [lit, ebit]; simpa using hc
        have hn2 : ((tx.drop t.1).take (k + 1 - t.1)).Nodup := by
          rw [epre, List.nodup_append]
          refine ⟨hn, by simp, fun a ha b hb => ?_⟩
          rw [List.mem_singleton.1 hb]; intro q; subst q; exact hc ha
        have st1 : L_Mo_readKind_130 k172 (F + 1) M (nI (zlb ((tx.drop t.1).take (k - t.1)))) (nI k) S = L_Mo_readKind_130 k172 F M (nI (zlb ((tx.drop t.1).take (k + 1 - t.1)))) (nI (k + 1)) S := by
          rw [← eor]
          simp (disch := omega) [L_Mo_readKind_130, -Prod.exists, -Prod.forall, ↓bb_gf, ↓bb_gr, ↓bb_len, ↓bb_ga, ↓bb_gl, ↓bb_go, ↓bb_pf, ↓bb_pz, ↓bb_pr, ↓bb_pa, ↓bb_pb, ↓bb_pl, ↓bb_po, ↓bb_cl, ↓bb_some, ↓bb_RI, ↓bb_RJ, mm_hI, mm_hJ, mm_hR, mm_nI, mm_nJ, mm_nR, mm_sI, mm_sJ, mm_sR, mm_RI, mm_RJ, mm_IJ, mm_IR, mm_JI, mm_JR, mm_II, mm_JJ, mm_RR, nn_lit, nI_add, pk_mul, nI_clamp, nI_ltI, nI_leI, nI_eq, nn_in, nn_eqm, nn_meq, nn_ltm, nn_mlt, nn_lem, nn_mle, nn_in_m, hm.1, h24, hk2, ↓bS (mo_tape hm), mh_tape hm, show k < 900 by omega, et, esub, nn_pow2, nb]
        rw [st1]
        exact ih F (k + 1) (by omega) (by omega) (by omega) hn2
theorem ml_kind (h : mAll S M tx t st) (hs0 : 0 < st.1) : ∃ S', f_Mo_readKind M S = some (if (zkindLine tx t st).1 = 0 then 1 else 0, S') ∧ eML S S' M tx (zkindLine tx t st) := by
  have hs := m_has h
  rw [if_pos hs0] at hs
  have hm := h.1.1.1
  have hh := hm.1
  have h15 := h.2.2.1
  have w := h.2.2.2.2.2.2.2
  have w3 := w.2.2.1
  by_cases c0 : 4 ≤ st.2.2.1.length
  · have ez : zkindLine tx t st = (5, t, st) := by simp [zkindLine, c0]
    rw [ez]
    have e4 : zI S M 15 = 4 := by rw [h15, show st.2.2.1.length = 4 by omega]; rfl
    obtain ⟨S3, e3, f3, x1, x2⟩ := m_errs h.1 5
    have e3' : f_Mo_errs M 5 S = some (0, S3) := e3
    refine ⟨S3, ?_, m_stop (by omega) (fr_refl _ _) f3 x1 x2⟩
    simp [f_Mo_readKind, -Prod.exists, -Prod.forall, ↓bb_gf, ↓bb_gr, ↓bb_len, ↓bb_ga, ↓bb_gl, ↓bb_go, ↓bb_pf, ↓bb_pz, ↓bb_pr, ↓bb_pa, ↓bb_pb, ↓bb_pl, ↓bb_po, ↓bb_cl, ↓bb_some, ↓bb_RI, ↓bb_RJ, mm_hI, mm_hJ, mm_hR, mm_nI, mm_nJ, mm_nR, mm_sI, mm_sJ, mm_sR, mm_RI, mm_RJ, mm_IJ, mm_IR, mm_JI, mm_JR, mm_II, mm_JJ, mm_RR, hh, e4, ↓bS e3']
  · have e4 : ¬ zI S M 15 = 4 := by
      rw [h15]; intro z; have := (nI_eq (b := 4) (by omega) (by omega)).1 z; omega
    obtain ⟨S1, e1, f1, p1⟩ := m_next h.1
    have hh1 : zh S1 M = (12, 0) := p1.1.1.1
    have f1' : zfr (wML M) S S1 := fr_mono f1 (fun b j hb => wMr_ML hb)
    have A1 := m_all h.2 p1 f1
    obtain ⟨t1, ht1⟩ : ∃ t1, t1 = znext tx t.2.1 := ⟨_, rfl⟩
    rw [← ht1] at p1 A1
    have tk := tk_1 p1.2.2.2.2.1.2.2.1
    have h25 := p1.2.2.2.1
    have h24 := p1.2.1
    have h23 := p1.2.2.1
    have w1 := p1.2.2.2.2.1
    have w11 := w1.1
    have w12 := w1.2.1
    have t900 := p1.1.2.2.2.1
    have esub : nI t1.2.1 - nI t1.1 = nI (t1.2.1 - t1.1) := pk_sub w11
    have kp := m_kept p1
    have er1 : ∀ f : Nat, f ≠ 0 → ∃ S3, f_Mo_errs M (nI f) S1 = some (0, S3) ∧ eML S S3 M tx (f, t1, st) := fun f hf => by
      obtain ⟨S3, e3, f3, x1, x2⟩ := m_errs p1 f
      exact ⟨S3, e3, m_stop hf f1' f3 x1 x2⟩
    by_cases c1 : t1.2.2 = 1 ∧ 2 ≤ t1.2.1 - t1.1 ∧ zkept tx t1 = false
    · obtain ⟨ca, cb, cc⟩ := c1
      rw [cc] at kp
      simp only [Bool.false_eq_true, if_false] at kp
      have h25' : zI S1 M 25 = 2 := by rw [h25, tk.1.2 ca]; rfl
      have kh := m_kind A1 ca
      have nlt : ¬ zI S1 M 24 - zI S1 M 23 < 2 := by
        rw [h24, h23, esub]; intro z; have := (nI_ltI (b := 2) (by omega) (by omega)).1 z; omega
      by_cases c2 : zsl tx t1 ∈ st.2.1
      · have ez : zkindLine tx t st = (3, t1, st) := by
          simp only [zkindLine, if_neg c0, ← ht1, ca, cb, cc, true_and, and_true, if_true, if_pos c2]
        rw [ez]
        rw [if_pos c2] at kh
        have il := List.idxOf_lt_length_iff.2 c2
        have n1 : ¬ nI (st.2.1.idxOf (zsl tx t1)) = -1 := fun z => (nn_eqm (m := 1) (by have := w.2.1; omega) (by omega) (by omega)).1 z
        obtain ⟨S3, e3, l3⟩ := er1 3 (by omega)
        have e3' : f_Mo_errs M 3 S1 = some (0, S3) := e3
        refine ⟨S3, ?_, l3⟩
        simp [f_Mo_readKind, -Prod.exists, -Prod.forall, ↓bb_gf, ↓bb_gr, ↓bb_len, ↓bb_ga, ↓bb_gl, ↓bb_go, ↓bb_pf, ↓bb_pz, ↓bb_pr, ↓bb_pa, ↓bb_pb, ↓bb_pl, ↓bb_po, ↓bb_cl, ↓bb_some, ↓bb_RI, ↓bb_RJ, mm_hI, mm_hJ, mm_hR, mm_nI, mm_nJ, mm_nR, mm_sI, mm_sJ, mm_sR, mm_RI, mm_RJ, mm_IJ, mm_IR, mm_JI, mm_JR, mm_II, mm_JJ, mm_RR, hh, e4, ↓bS hs, ↓bS e1, hh1, h25', nlt, ↓bS kp, ↓bS kh, n1, ↓bS e3']
      · rw [if_neg c2] at kh
        have sp := m_spelt p1 ca
        have hm1 := p1.1.1
        obtain ⟨n, hn⟩ : ∃ n, n = st.2.2.1.length := ⟨_, rfl⟩
        have i15 : zI S1 M 15 = nI n := by rw [hn]; exact A1.2.2.1
        obtain ⟨S2, hS2⟩ : ∃ S2, S2 = zwJ S1 (M + 7) n (lN (zn32 (zsl tx t1))) := ⟨_, rfl⟩
        have f2 : zfr (fun b j => b = M + 7 ∧ j = n) S1 S2 := by rw [hS2]; exact fr_wJ _ _ ⟨rfl, rfl⟩
        have f2' : zfr (wML M) S S2 := fr_trans f1' (fr_mono f2 (fun b j hb => by unfold wML; omega))
        have p2 : pMr S2 M tx t1 := pMr_fr p1 f2 (by omega) (fun j => by omega)
        have hh2 : zh S2 M = (12, 0) := p2.1.1.1
        obtain ⟨S3, e3, f3, p3⟩ := m_next p2
        have hh3 : zh S3 M = (12, 0) := p3.1.1.1
        have f3' : zfr (wML M) S S3 := fr_trans f2' (fr_mono f3 (fun b j hb => wMr_ML hb))
        obtain ⟨t2, ht2⟩ : ∃ t2, t2 = znext tx t1.2.1 := ⟨_, rfl⟩
        rw [← ht2] at p3
        obtain ⟨n1, n2⟩ := m_needs p3 (show 5 < 13 by omega)
        have zin : zinb (nI n) 4 = true := (nn_in (by omega)).2 (by omega)
        have ncl : (nI n).toNatClampNeg = n := nI_clamp (by omega)
        cases c3 : zisw tx t2 5 with
        | false =>
          have ez : zkindLine tx t st = (1, t2, st) := by
            simp only [zkindLine, if_neg c0, ← ht1, ca, cb, cc, true_and, and_true, if_true, if_neg c2, ← ht2, c3, Bool.false_eq_true, if_false]
          rw [ez]
          obtain ⟨S4, e4', f4, x1, x2⟩ := n2 c3
          refine ⟨S4, ?_, m_stop (by omega) f3' f4 x1 x2⟩
          simp [f_Mo_readKind, -Prod.exists, -Prod.forall, ↓bb_gf, ↓bb_gr, ↓bb_len, ↓bb_ga, ↓bb_gl, ↓bb_go, ↓bb_pf, ↓bb_pz, ↓bb_pr, ↓bb_pa, ↓bb_pb, ↓bb_pl, ↓bb_po, ↓bb_cl, ↓bb_some, ↓bb_RI, ↓bb_RJ, mm_hI, mm_hJ, mm_hR, mm_nI, mm_nJ, mm_nR, mm_sI, mm_sJ, mm_sR, mm_RI, mm_RJ, mm_IJ, mm_IR, mm_JI, mm_JR, mm_II, mm_JJ, mm_RR, hh, e4, ↓bS hs, ↓bS e1, hh1, h25', nlt, ↓bS kp, ↓bS kh, ↓bS (mo_kindNames hm1), ↓bS sp, mh_kindNames hm1, i15, zin, ncl]
          rw [← hS2]
          simp [-Prod.exists, -Prod.forall, ↓bb_gf, ↓bb_gr, ↓bb_len, ↓bb_ga, ↓bb_gl, ↓bb_go, ↓bb_pf, ↓bb_pz, ↓bb_pr, ↓bb_pa, ↓bb_pb, ↓bb_pl, ↓bb_po, ↓bb_cl, ↓bb_some, ↓bb_RI, ↓bb_RJ, mm_hI, mm_hJ, mm_hR, mm_nI, mm_nJ, mm_nR, mm_sI, mm_sJ, mm_sR, mm_RI, mm_RJ, mm_IJ, mm_IR, mm_JI, mm_JR, mm_II, mm_JJ, mm_RR, hh2, ↓bS e3, hh3, ↓bS e4']
        | true =>
          obtain ⟨S4, e4', f4, p4⟩ := n1 c3
          have hh4 : zh S4 M = (12, 0) := p4.1.1.1
          have f4' : zfr (wML M) S S4 := fr_trans f3' (fr_mono f4 (fun b j hb => wMr_ML hb))
          obtain ⟨t3, ht3⟩ : ∃ t3, t3 = znext tx t2.2.1 := ⟨_, rfl⟩
          rw [← ht3] at p4
          have ar : f_Mo_areLetters M 7 S4 = some (if zlets tx t3 7 then 1 else 0, S4) := m_are (most := 7) p4 (by omega)
          have pre : ∀ R : Option (Int32 × zM), (Option.bind (zcl S4 12 M (f_Mo_areLetters M 7 S4)) (fun p18 => if p18.1 = (0 : Int32) then Option.bind (zcl p18.2 12 M (f_Mo_errs M (1 : Int32) p18.2)) (fun p19 => if p19.1 = 0 ∨ p19.1 = 1 then some (p19.1, p19.2) else none) else Option.bind (zgf p18.2 12 M 23) (fun x20 => L_Mo_readKind_130 (F_Mo_readKind_172) zF M (0 : Int32) x20 p18.2))) = R → f_Mo_readKind M S = R := by
            intro R hR
            rw [← hR]
            simp [f_Mo_readKind, -Prod.exists, -Prod.forall, ↓bb_gf, ↓bb_gr, ↓bb_len, ↓bb_ga, ↓bb_gl, ↓bb_go, ↓bb_pf, ↓bb_pz, ↓bb_pr, ↓bb_pa, ↓bb_pb, ↓bb_pl, ↓bb_po, ↓bb_cl, ↓bb_some, ↓bb_RI, ↓bb_RJ, mm_hI, mm_hJ, mm_hR, mm_nI, mm_nJ, mm_nR, mm_sI, mm_sJ, mm_sR, mm_RI, mm_RJ, mm_IJ, mm_IR, mm_JI, mm_JR, mm_II, mm_JJ, mm_RR, hh, e4, ↓bS hs, ↓bS e1, hh1, h25', nlt, ↓bS kp, ↓bS kh, ↓bS (mo_kindNames hm1), ↓bS sp, mh_kindNames hm1, i15, zin, ncl]
            rw [← hS2]
            simp [-Prod.exists, -Prod.forall, ↓bb_gf, ↓bb_gr, ↓bb_len, ↓bb_ga, ↓bb_gl, ↓bb_go, ↓bb_pf, ↓bb_pz, ↓bb_pr, ↓bb_pa, ↓bb_pb, ↓bb_pl, ↓bb_po, ↓bb_cl, ↓bb_some, ↓bb_RI, ↓bb_RJ, mm_hI, mm_hJ, mm_hR, mm_nI, mm_nJ, mm_nR, mm_sI, mm_sJ, mm_sR, mm_RI, mm_RJ, mm_IJ, mm_IR, mm_JI, mm_JR, mm_II, mm_JJ, mm_RR, hh2, ↓bS e3, hh3, ↓bS e4', hh4]
          cases c4 : zlets tx t3 7 with
          | false =>
            rw [c4] at ar
            simp only [Bool.false_eq_true, if_false] at ar
            have ez : zkindLine tx t st = (1, t3, st) := by
              simp only [zkindLine, if_neg c0, ← ht1, ca, cb, cc, true_and, and_true, if_true, if_neg c2, ← ht2, c3, ← ht3, c4, Bool.false_eq_true, if_false]
            rw [ez]
            obtain ⟨S5, e5, f5, x1, x2⟩ := m_errs p4 1
            have e5' : f_Mo_errs M 1 S4 = some (0, S5) := e5
            refine ⟨S5, pre _ ?_, m_stop (by omega) f4' f5 x1 x2⟩
            simp [-Prod.exists, -Prod.forall, ↓bb_gf, ↓bb_gr, ↓bb_len, ↓bb_ga, ↓bb_gl, ↓bb_go, ↓bb_pf, ↓bb_pz, ↓bb_pr, ↓bb_pa, ↓bb_pb, ↓bb_pl, ↓bb_po, ↓bb_cl, ↓bb_some, ↓bb_RI, ↓bb_RJ, mm_hI, mm_hJ, mm_hR, mm_nI, mm_nJ, mm_nR, mm_sI, mm_sJ, mm_sR, mm_RI, mm_RJ, mm_IJ, mm_IR, mm_JI, mm_JR, mm_II, mm_JJ, mm_RR, hh4, ↓bS ar, ↓bS e5']
          | true =>
            rw [c4] at ar
            simp only [if_true] at ar
            have lz := lets_z p4.2.2.2.2.1 c4
            have i23 := p4.2.2.1
            have w31 := p4.2.2.2.2.1.1
            have w32 := p4.2.2.2.2.1.2.1
            have z0 : zlb ((tx.drop t3.1).take (t3.1 - t3.1)) = 0 := by rw [Nat.sub_self, List.take_zero]; decide
            have k130 := mk_130 (k172 := F_Mo_readKind_172) p4 lz (t3.2.1 - t3.1) zF t3.1 (by omega) (by rw [zF_eq]; omega) (by omega) (by rw [Nat.sub_self, List.take_zero]; exact List.nodup_nil)
            rw [z0] at k130
            by_cases c5 : (zsl tx t3).Nodup
            · have ez : zkindLine tx t st = (0, znext tx t3.2.1, (st.1, st.2.1 ++ [zsl tx t1], st.2.2.1 ++ [zlb (zsl tx t3)], st.2.2.2)) := by
                simp only [zkindLine, if_neg c0, ← ht1, ca, cb, cc, true_and, and_true, if_true, if_neg c2, ← ht2, c3, ← ht3, c4, if_pos c5]
              rw [ez]
              have kk := k130.1 c5
              have hm4 := p4.1.1
              have g15 : ∀ Sx, zfr (wMr M) S2 Sx → zI Sx M 15 = nI n := fun Sx fx => by
                rw [fr_I fx (by unfold wMr; omega), hS2]; exact i15
              have i154 : zI S4 M 15 = nI n := by rw [fr_I f4 (by unfold wMr; omega)]; exact g15 S3 f3
              obtain ⟨S5, hS5⟩ : ∃ S5, S5 = zwI (zwI S4 (M + 6) n (nI (zlb (zsl tx t3)))) M 15 (nI (n + 1)) := ⟨_, rfl⟩
              have f5 : zfr (fun b j => (b = M + 6 ∧ j = n) ∨ (b = M ∧ j = 15)) S4 S5 := by rw [hS5]; exact fr_trans (fr_wI _ _ (by omega)) (fr_wI _ _ (by omega))
              have p5 : pMr S5 M tx t3 := pMr_fr p4 f5 (by omega) (fun j => by omega)
              obtain ⟨S6, e6, f6, p6⟩ := m_next p5
              have f6' : zfr (wML M) S S6 := fr_trans f4' (fr_trans (fr_mono f5 (fun b j hb => by unfold wML; omega)) (fr_mono f6 (fun b j hb => wMr_ML hb)))
              have ms5 : mScr S5 M (st.1, st.2.1 ++ [zsl tx t1], st.2.2.1 ++ [zlb (zsl tx t3)], st.2.2.2) := by
                obtain ⟨a1, a2, a3, a4, a5, a6, w'⟩ := A1.2
                have gI : ∀ b j, ¬ (b = M + 6 ∧ j = n) → ¬ (b = M ∧ (j = 15 ∨ (23 ≤ j ∧ j ≤ 26))) → zI S5 b j = zI S1 b j := fun b j q1 q2 => by
                  rw [fr_I f5 (by omega), fr_I f4 (by unfold wMr; omega), fr_I f3 (by unfold wMr; omega), hS2]; rfl
                have gJ : ∀ j, zJ S5 (M + 7) j = if j = n then lN (zn32 (zsl tx t1)) else zJ S1 (M + 7) j := fun j => by
                  rw [fr_J f5 (by omega), fr_J f4 (by unfold wMr; omega), fr_J f3 (by unfold wMr; omega), hS2, mm_JJ]; simp
                have hwl := w'.2.1
                refine ⟨by rw [gI _ _ (by omega) (by omega)]; exact a1, by rw [hS5]; simp [mm_II, hn], by rw [gI _ _ (by omega) (by omega)]; exact a3, fun k hk => ?_, fun k hk => ?_, fun p hp => ?_, ⟨w.1, by simp [hwl], by simp [← hn]; omega, fun k => ?_, fun m hm => ?_, w.2.2.2.2.2⟩⟩
                · simp only [List.length_append, List.length_cons, List.length_nil, ← hn] at hk
                  by_cases e : k = n
                  · subst e
                    simp only
                    rw [hn, lg_end, hS5, ← hn]; simp [mm_II]
                  · rw [gI _ _ (by omega) (by omega), a4 k (by omega)]
                    simp only
                    rw [lg_app1 (by omega)]
                · simp only [List.length_append, List.length_cons, List.length_nil, hwl, ← hn] at hk
                  rw [gJ]
                  by_cases e : k = n
                  · rw [if_pos e, e]; simp [lnm, hn, ← hwl]
                  · rw [if_neg e, a5 k (by omega)]; simp [lnm, List.getElem?_append_left (show k < st.2.1.length by omega)]
                · obtain ⟨b1, b2, b3⟩ := a6 p hp
                  have wr := ps_w w.2.2.2.2.2 hp
                  exact ⟨by rw [gI _ _ (by omega) (by omega)]; exact b1, by rw [gI _ _ (by omega) (by omega)]; exact b2, fun i hi => mRu_eq (b3 i hi) ⟨(ru_w wr hi).2.1, (ru_w wr hi).2.2.1⟩ (fun j _ _ => gI _ _ (by omega) (by omega))⟩
                · by_cases e : k < st.2.2.1.length
                  · simp only; rw [lg_app1 e]; exact w.2.2.2.1 k
                  · simp only
                    rw [lg_app2 (by omega)]
                    cases hx : k - st.2.2.1.length with
                    | zero => rw [lg_cons0]; exact lb_lt _
                    | succ m => rw [lg_consS, lg_nil]; omega
                · rcases List.mem_append.1 hm with q | q
                  · exact w.2.2.2.2.1 m q
                  · rw [List.mem_singleton.1 q]; exact sl_nm w1 ca
              have mA := m_all ms5 p6 f6
              refine ⟨S6, pre _ ?_, f6', fun _ => mA, fun q => absurd rfl q⟩
              have hh5 : zh S5 M = (12, 0) := p5.1.1.1
              simp only [↓bb_cl, hh4, if_true, ↓bS ar, ↓bb_gf]
              rw [if_neg (by decide), i23, show (0 : Int32) = nI 0 from rfl, kk]
              unfold F_Mo_readKind_172
              simp only [↓bb_gr, ↓bb_gf, ↓bb_pa, ↓bb_pf, hh4, if_true, ↓bS (mo_newKinds hm4), mh_newKinds hm4, i154, zin, ncl, mm_hI]
              rw [if_pos ⟨trivial, by omega, trivial⟩]
              simp only [mm_II]
              rw [if_neg (by omega), i154, nI_1, ← hS5]
              simp only [↓bb_cl, hh5, if_true, ↓bS e6]
              rfl
            · have ez : zkindLine tx t st = (3, t3, st) := by
                simp only [zkindLine, if_neg c0, ← ht1, ca, cb, cc, true_and, and_true, if_true, if_neg c2, ← ht2, c3, ← ht3, c4, if_neg c5]
              rw [ez]
              obtain ⟨S5, e5, f5, x1, x2⟩ := k130.2 c5
              refine ⟨S5, pre _ ?_, m_stop (by omega) f4' f5 x1 x2⟩
              simp only [↓bb_cl, hh4, if_true, ↓bS ar, ↓bb_gf]
              rw [if_neg (by decide), i23, show (0 : Int32) = nI 0 from rfl, e5]
              rfl
    · have ez : zkindLine tx t st = (1, t1, st) := by
        simp only [zkindLine, if_neg c0, ← ht1, if_neg c1]
      rw [ez]
      obtain ⟨S3, e3, l3⟩ := er1 1 (by omega)
      have e3' : f_Mo_errs M 1 S1 = some (0, S3) := e3
      refine ⟨S3, ?_, l3⟩
      by_cases ca : t1.2.2 = 1
      · have h25' : zI S1 M 25 = 2 := by rw [h25, tk.1.2 ca]; rfl
        by_cases cb : 2 ≤ t1.2.1 - t1.1
        · have nlt : ¬ zI S1 M 24 - zI S1 M 23 < 2 := by
            rw [h24, h23, esub]; intro z; have := (nI_ltI (b := 2) (by omega) (by omega)).1 z; omega
          cases cc : zkept tx t1 with
          | false => exact absurd ⟨ca, cb, cc⟩ c1
          | true =>
            rw [cc] at kp
            simp only [if_true] at kp
            simp [f_Mo_readKind, -Prod.exists, -Prod.forall, ↓bb_gf, ↓bb_gr, ↓bb_len, ↓bb_ga, ↓bb_gl, ↓bb_go, ↓bb_pf, ↓bb_pz, ↓bb_pr, ↓bb_pa, ↓bb_pb, ↓bb_pl, ↓bb_po, ↓bb_cl, ↓bb_some, ↓bb_RI, ↓bb_RJ, mm_hI, mm_hJ, mm_hR, mm_nI, mm_nJ, mm_nR, mm_sI, mm_sJ, mm_sR, mm_RI, mm_RJ, mm_IJ, mm_IR, mm_JI, mm_JR, mm_II, mm_JJ, mm_RR, hh, e4, ↓bS hs, ↓bS e1, hh1, h25', nlt, ↓bS kp, ↓bS e3']
        · have nlt : zI S1 M 24 - zI S1 M 23 < 2 := by
            rw [h24, h23, esub]; exact (nI_ltI (b := 2) (by omega) (by omega)).2 (by omega)
          simp [f_Mo_readKind, -Prod.exists, -Prod.forall, ↓bb_gf, ↓bb_gr, ↓bb_len, ↓bb_ga, ↓bb_gl, ↓bb_go, ↓bb_pf, ↓bb_pz, ↓bb_pr, ↓bb_pa, ↓bb_pb, ↓bb_pl, ↓bb_po, ↓bb_cl, ↓bb_some, ↓bb_RI, ↓bb_RJ, mm_hI, mm_hJ, mm_hR, mm_nI, mm_nJ, mm_nR, mm_sI, mm_sJ, mm_sR, mm_RI, mm_RJ, mm_IJ, mm_IR, mm_JI, mm_JR, mm_II, mm_JJ, mm_RR, hh, e4, ↓bS hs, ↓bS e1, hh1, h25', nlt, ↓bS e3']
      · have n2 : ¬ zI S1 M 25 = 2 := by
          rw [h25]
          intro z
          exact ca (tk.1.1 ((nI_eq (b := 2) (by omega) (by omega)).1 z))
        simp [f_Mo_readKind, -Prod.exists, -Prod.forall, ↓bb_gf, ↓bb_gr, ↓bb_len, ↓bb_ga, ↓bb_gl, ↓bb_go, ↓bb_pf, ↓bb_pz, ↓bb_pr, ↓bb_pa, ↓bb_pb, ↓bb_pl, ↓bb_po, ↓bb_cl, ↓bb_some, ↓bb_RI, ↓bb_RJ, mm_hI, mm_hJ, mm_hR, mm_nI, mm_nJ, mm_nR, mm_sI, mm_sJ, mm_sR, mm_RI, mm_RJ, mm_IJ, mm_IR, mm_JI, mm_JR, mm_II, mm_JJ, mm_RR, hh, e4, ↓bS hs, ↓bS e1, hh1, n2, ↓bS e3']
end
