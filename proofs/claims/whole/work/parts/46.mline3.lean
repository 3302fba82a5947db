/-! the reference's reader: passes, sides, letters -/
section
variable {S : zM} {M : Nat} {tx : List Nat} {t : zTk} {st : zRt}
theorem ml_pass (h : mAll S M tx t st) (hs0 : 0 < st.1) : ∃ S', f_Mo_readPass M S = some (if (zpassLine tx t st).1 = 0 then 1 else 0, S') ∧ eML S S' M tx (zpassLine tx t st) := by
  have hs := m_has h
  rw [if_pos hs0] at hs
  have hm := h.1.1.1
  have hh := hm.1
  have h16 := h.2.2.2.1
  have w := h.2.2.2.2.2.2.2
  have w3 := w.2.2.2.2.2.1
  obtain ⟨n, hn⟩ : ∃ n, n = st.2.2.2.length := ⟨_, rfl⟩
  rw [← hn] at h16 w3
  by_cases c0 : 3 ≤ n
  · have ez : zpassLine tx t st = (5, t, st) := by simp [zpassLine, ← hn, c0]
    rw [ez]
    have e4 : zI S M 16 = 3 := by rw [h16, show n = 3 by omega]; rfl
    obtain ⟨S3, e3, f3, x1, x2⟩ := m_errs h.1 5
    have e3' : f_Mo_errs M 5 S = some (0, S3) := e3
    refine ⟨S3, ?_, m_stop (by omega) (fr_refl _ _) f3 x1 x2⟩
    simp [f_Mo_readPass, -Prod.exists, -Prod.forall, ↓bb_gf, ↓bb_gr, ↓bb_len, ↓bb_ga, ↓bb_gl, ↓bb_go, ↓bb_pf, ↓bb_pz, ↓bb_pr, ↓bb_pa, ↓bb_pb, ↓bb_pl, ↓bb_po, ↓bb_cl, ↓bb_some, ↓bb_RI, ↓bb_RJ, mm_hI, mm_hJ, mm_hR, mm_nI, mm_nJ, mm_nR, mm_sI, mm_sJ, mm_sR, mm_RI, mm_RJ, mm_IJ, mm_IR, mm_JI, mm_JR, mm_II, mm_JJ, mm_RR, hh, e4, ↓bS e3']
  · have e4 : ¬ zI S M 16 = 3 := by
      rw [h16]; intro z; have := (nI_eq (b := 3) (by omega) (by omega)).1 z; omega
    obtain ⟨S1, e1, f1, p1⟩ := m_next h.1
    have hm1 := p1.1.1
    have hh1 : zh S1 M = (12, 0) := hm1.1
    have f1' : zfr (wML M) S S1 := fr_mono f1 (fun b j hb => wMr_ML hb)
    have A1 := m_all h.2 p1 f1
    obtain ⟨t1, ht1⟩ : ∃ t1, t1 = znext tx t.2.1 := ⟨_, rfl⟩
    rw [← ht1] at p1 A1
    have is := m_is p1 (show 6 < 13 by omega)
    have i16 : zI S1 M 16 = nI n := by rw [hn]; exact A1.2.2.2.1
    have zin : zinb (nI n) 3 = true := (nn_in (by omega)).2 (by omega)
    have ncl : (nI n).toNatClampNeg = n := nI_clamp (by omega)
    have esub : nI (n + 1) - 1 = nI n := nI_pred n
    obtain ⟨ag, hag⟩ : ∃ ag, ag = zisw tx t1 6 := ⟨_, rfl⟩
    rw [← hag] at is
    obtain ⟨S2, hS2⟩ : ∃ S2, S2 = zwI (zwI (zwI S1 (M + 9) n (if ag then 1 else 0)) (M + 8) n 0) M 16 (nI (n + 1)) := ⟨_, rfl⟩
    have f2 : zfr (fun b j => (b = M + 9 ∧ j = n) ∨ (b = M + 8 ∧ j = n) ∨ (b = M ∧ j = 16)) S1 S2 := by
      rw [hS2]
      exact fr_trans (fr_trans (fr_wI _ _ (by omega)) (fr_wI _ _ (by omega))) (fr_wI _ _ (by omega))
    have f2' : zfr (wML M) S S2 := fr_trans f1' (fr_mono f2 (fun b j hb => by unfold wML; omega))
    have p2 : pMr S2 M tx t1 := pMr_fr p1 f2 (by omega) (fun j => by omega)
    have hh2 : zh S2 M = (12, 0) := p2.1.1.1
    have ms2 : mScr S2 M (st.1, st.2.1, st.2.2.1, st.2.2.2 ++ [(ag, [])]) := by
      obtain ⟨a1, a2, a3, a4, a5, a6, w'⟩ := A1.2
      have gI : ∀ b j, ¬ (b = M + 9 ∧ j = n) → ¬ (b = M + 8 ∧ j = n) → ¬ (b = M ∧ j = 16) → zI S2 b j = zI S1 b j := fun b j q1 q2 q3 => fr_I f2 (by omega)
      refine ⟨by rw [gI _ _ (by omega) (by omega) (by omega)]; exact a1, by rw [gI _ _ (by omega) (by omega) (by omega)]; exact a2, by rw [hS2]; simp [mm_II, hn], fun k hk => by rw [gI _ _ (by omega) (by omega) (by omega)]; exact a4 k hk, fun k hk => by rw [fr_J f2 (by omega)]; exact a5 k hk, fun p hp => ?_, ⟨w.1, w.2.1, w.2.2.1, w.2.2.2.1, w.2.2.2.2.1, wPs_app w.2.2.2.2.2 (by omega) ⟨by simp, fun r hr => by simp at hr⟩⟩⟩
      simp only [List.length_append, List.length_cons, List.length_nil, ← hn] at hp
      by_cases e : p = n
      · subst e
        rw [show zpa_ (st.2.2.2 ++ [(ag, [])]) p = (ag, []) by rw [hn]; exact pa_app2]
        refine ⟨by rw [hS2]; simp [mm_II]; rfl, by rw [hS2]; simp [mm_II], fun i hi => by simp at hi⟩
      · rw [pa_app1 (by omega)]
        obtain ⟨b1, b2, b3⟩ := a6 p (by omega)
        have wr := ps_w w.2.2.2.2.2 (show p < st.2.2.2.length by omega)
        exact ⟨by rw [gI _ _ (by omega) (by omega) (by omega)]; exact b1, by rw [gI _ _ (by omega) (by omega) (by omega)]; exact b2, fun i hi => mRu_eq (b3 i hi) ⟨(ru_w wr hi).2.1, (ru_w wr hi).2.2.1⟩ (fun j _ _ => gI _ _ (by omega) (by omega) (by omega))⟩
    have i9 : zI S2 (M + 9) n = (if ag then 1 else 0) := by rw [hS2]; simp [mm_II]
    have i16' : zI S2 M 16 = nI (n + 1) := by rw [hS2]; simp [mm_II]
    have hm2 := p2.1.1
    cases c1 : zisw tx t1 6 with
    | false =>
      rw [c1] at hag
      subst hag
      have ez : zpassLine tx t st = (0, t1, (st.1, st.2.1, st.2.2.1, st.2.2.2 ++ [(false, [])])) := by
        simp only [zpassLine, ← hn, if_neg c0, ← ht1, c1, Bool.false_eq_true, if_false]
      rw [ez]
      refine ⟨S2, ?_, f2', fun _ => ⟨p2, ms2⟩, fun q => absurd rfl q⟩
      rw [hS2]
      simp only [Bool.false_eq_true, if_false] at is
      simp (disch := omega) [f_Mo_readPass, -Prod.exists, -Prod.forall, ↓bb_gf, ↓bb_gr, ↓bb_len, ↓bb_ga, ↓bb_gl, ↓bb_go, ↓bb_pf, ↓bb_pz, ↓bb_pr, ↓bb_pa, ↓bb_pb, ↓bb_pl, ↓bb_po, ↓bb_cl, ↓bb_some, ↓bb_RI, ↓bb_RJ, mm_hI, mm_hJ, mm_hR, mm_nI, mm_nJ, mm_nR, mm_sI, mm_sJ, mm_sR, mm_RI, mm_RJ, mm_IJ, mm_IR, mm_JI, mm_JR, mm_II, mm_JJ, mm_RR, hh, e4, ↓bS hs, ↓bS e1, hh1, ↓bS (mo_newAgain hm1), ↓bS is, mh_newAgain hm1, i16, zin, ncl, ↓bS (mo_newRuleMany hm1), mh_newRuleMany hm1, nI_1, esub]
    | true =>
      rw [c1] at hag
      subst hag
      have ez : zpassLine tx t st = (0, znext tx t1.2.1, (st.1, st.2.1, st.2.2.1, st.2.2.2 ++ [(true, [])])) := by
        simp only [zpassLine, ← hn, if_neg c0, ← ht1, c1, if_true]
      rw [ez]
      obtain ⟨S3, e3, f3, p3⟩ := m_next p2
      have mA := m_all ms2 p3 f3
      refine ⟨S3, ?_, fr_trans f2' (fr_mono f3 (fun b j hb => wMr_ML hb)), fun _ => mA, fun q => absurd rfl q⟩
      simp only [if_true] at is
      rw [hS2] at e3
      simp only [if_true] at e3
      simp (disch := omega) [f_Mo_readPass, -Prod.exists, -Prod.forall, ↓bb_gf, ↓bb_gr, ↓bb_len, ↓bb_ga, ↓bb_gl, ↓bb_go, ↓bb_pf, ↓bb_pz, ↓bb_pr, ↓bb_pa, ↓bb_pb, ↓bb_pl, ↓bb_po, ↓bb_cl, ↓bb_some, ↓bb_RI, ↓bb_RJ, mm_hI, mm_hJ, mm_hR, mm_nI, mm_nJ, mm_nR, mm_sI, mm_sJ, mm_sR, mm_RI, mm_RJ, mm_IJ, mm_IR, mm_JI, mm_JR, mm_II, mm_JJ, mm_RR, hh, e4, ↓bS hs, ↓bS e1, hh1, ↓bS (mo_newAgain hm1), ↓bS is, mh_newAgain hm1, i16, zin, ncl, ↓bS (mo_newRuleMany hm1), mh_newRuleMany hm1, nI_1, esub, ↓bS e3]
theorem m_side (h : mAll S M tx t st) : ((zside tx t st).1 = 0 → ∃ S', f_Mo_readSide M S = some (1, S') ∧ zfr (fun b j => wMr M b j ∨ (b = M ∧ j = 29)) S S' ∧ pMr S' M tx (zside tx t st).2.2 ∧ zI S' M 29 = nI (zside tx t st).2.1) ∧ ((zside tx t st).1 ≠ 0 → ∃ S', f_Mo_readSide M S = some (0, S') ∧ zfr (fun b j => b = M ∧ (j = 27 ∨ j = 28)) S S' ∧ zI S' M 27 = nI (zside tx t st).1 ∧ zI S' M 28 = nI (zside tx t st).2.2.1) := by
  have hm := h.1.1.1
  have hh := hm.1
  have w := h.2.2.2.2.2.2.2
  have ht := h.1.2.2.2.2.1
  have tk := tk_1 ht.2.2.1
  have h25 := h.1.2.2.2.1
  have h24 := h.1.2.1
  have h23 := h.1.2.2.1
  have w11 := ht.1
  have w12 := ht.2.1
  have t900 := h.1.1.2.2.2.1
  have esub : nI t.2.1 - nI t.1 = nI (t.2.1 - t.1) := pk_sub w11
  have kp := m_kept h.1
  have is := m_is h.1 (show 11 < 13 by omega)
  have ar : f_Mo_areLetters M 1 S = some (if zlets tx t 1 then 1 else 0, S) := m_are (most := 1) h.1 (by omega)
  have good : ∀ v : Int32, ∃ S', f_Mo_goesOn M (zwI S M 29 v) = some S' ∧ zfr (fun b j => wMr M b j ∨ (b = M ∧ j = 29)) S S' ∧ pMr S' M tx (znext tx t.2.1) ∧ zI S' M 29 = v := by
    intro v
    have fw : zfr (fun b j => b = M ∧ j = 29) S (zwI S M 29 v) := fr_wI _ _ ⟨rfl, rfl⟩
    obtain ⟨S1, e1, f1, p1⟩ := m_next (pMr_fr h.1 fw (by omega) (fun j => by omega))
    exact ⟨S1, e1, fr_trans (fr_mono fw (fun b j hb => Or.inr hb)) (fr_mono f1 (fun b j hb => Or.inl hb)), p1, by rw [fr_I f1 (by unfold wMr; omega)]; simp [mm_II]⟩
  have bad : ∀ f : Nat, ∃ S', f_Mo_errs M (nI f) S = some (0, S') ∧ zfr (fun b j => b = M ∧ (j = 27 ∨ j = 28)) S S' ∧ zI S' M 27 = nI f ∧ zI S' M 28 = nI t.1 := fun f => m_errs h.1 f
  by_cases ca : t.2.2 = 1
  · have h25' : zI S M 25 = 2 := by rw [h25, tk.1.2 ca]; rfl
    by_cases c1 : t.2.1 - t.1 = 1
    · have d1 : zI S M 24 - zI S M 23 = 1 := by rw [h24, h23, esub, c1]; rfl
      have ni : zisw tx t 11 = false := by
        simp only [zisw, ca, decide_true, Bool.true_and, decide_eq_false_iff_not]
        intro q
        have := sl_len ht
        rw [q, c1] at this
        revert this; decide
      cases c2 : zlets tx t 1 with
      | true =>
        have ez : zside tx t st = (0, zlb (zsl tx t), znext tx t.2.1) := by simp [zside, ni, c2]
        rw [ez]
        rw [c2] at ar
        simp only [if_true] at ar
        have cz := lets_z ht c2 t.1 (by omega) (by omega)
        have et := h.1.1.2.1 t.1 (by omega)
        have ev : (1 : Int32) <<< ((nI (lg tx t.1) - 97) &&& 31) = nI (zlb (zsl tx t)) := by
          have e1 : nI (lg tx t.1) - 97 = nI (lg tx t.1 - 97) := pk_sub (a := lg tx t.1) (b := 97) (by omega)
          rw [e1]
          have := nn_pow2 (k := lg tx t.1 - 97) (by omega)
          rw [show (1 : Int32) = nI 1 from rfl, show (31 : Int32) = nI 31 from rfl, this]
          congr 1
          have sl1 : zsl tx t = [lg tx t.1] := by
            refine lg_ext (by rw [sl_len ht, c1]; rfl) (fun k hk => ?_)
            rw [sl_len ht, c1] at hk
            have : k = 0 := by omega
            subst this
            rw [sl_lg (by omega), lg_cons0, Nat.add_zero]
          rw [sl1]
          have z : zbits 8 (fun _ => false) = 0 := bits_ext (fun i => by rw [bits_tb]; simp)
          have := bits_add (n := 8) (i := lg tx t.1 - 97) (f := fun _ => false) (g := fun i => [lg tx t.1].contains (97 + i)) (by omega) (fun j hj => by
            by_cases q : j = lg tx t.1 - 97
            · have : 97 + j = lg tx t.1 := by omega
              simp [q]; omega
            · have : ¬ 97 + j = lg tx t.1 := by omega
              simp [q]; omega)
          rw [z, Nat.zero_or] at this
          exact this
        obtain ⟨S1, e1, f1, p1, v1⟩ := good (nI (zlb (zsl tx t)))
        refine ⟨fun _ => ⟨S1, ?_, f1, p1, v1⟩, fun q => absurd rfl q⟩
        have zin : zinb (nI t.1) 900 = true := (nn_in (by omega)).2 (by omega)
        have ncl : (nI t.1).toNatClampNeg = t.1 := nI_clamp (by omega)
        have ev' : (1 : Int32) <<< ((zI S (M + 1) t.1 - 97) &&& 31) = nI (zlb (zsl tx t)) := by rw [et]; exact ev
        have d1' : zI S M 24 - nI t.1 = 1 := by rw [← h23]; exact d1
        simp [f_Mo_readSide, -Prod.exists, -Prod.forall, ↓bb_gf, ↓bb_gr, ↓bb_len, ↓bb_ga, ↓bb_gl, ↓bb_go, ↓bb_pf, ↓bb_pz, ↓bb_pr, ↓bb_pa, ↓bb_pb, ↓bb_pl, ↓bb_po, ↓bb_cl, ↓bb_some, ↓bb_RI, ↓bb_RJ, mm_hI, mm_hJ, mm_hR, mm_nI, mm_nJ, mm_nR, mm_sI, mm_sJ, mm_sR, mm_RI, mm_RJ, mm_IJ, mm_IR, mm_JI, mm_JR, mm_II, mm_JJ, mm_RR, hh, h25', d1', ↓bS ar, ↓bS (mo_tape hm), mh_tape hm, h23, zin, ncl, ev', ↓bS e1]
      | false =>
        have ez : zside tx t st = (1, 0, t) := by
          have : ¬ (t.2.2 = 1 ∧ t.2.1 - t.1 ≠ 1 ∧ zkept tx t = false) := fun q => q.2.1 c1
          simp only [zside, ni, c2, Bool.false_eq_true, if_false, if_neg this]
        rw [ez]
        rw [c2] at ar
        simp only [Bool.false_eq_true, if_false] at ar
        obtain ⟨S3, e3, f3, x1, x2⟩ := bad 1
        have e3' : f_Mo_errs M 1 S = some (0, S3) := e3
        refine ⟨fun q => by simp at q, fun _ => ⟨S3, ?_, f3, x1, x2⟩⟩
        simp [f_Mo_readSide, -Prod.exists, -Prod.forall, ↓bb_gf, ↓bb_gr, ↓bb_len, ↓bb_ga, ↓bb_gl, ↓bb_go, ↓bb_pf, ↓bb_pz, ↓bb_pr, ↓bb_pa, ↓bb_pb, ↓bb_pl, ↓bb_po, ↓bb_cl, ↓bb_some, ↓bb_RI, ↓bb_RJ, mm_hI, mm_hJ, mm_hR, mm_nI, mm_nJ, mm_nR, mm_sI, mm_sJ, mm_sR, mm_RI, mm_RJ, mm_IJ, mm_IR, mm_JI, mm_JR, mm_II, mm_JJ, mm_RR, hh, h25', d1, ↓bS ar, ↓bS e3']
    · have d1 : ¬ zI S M 24 - zI S M 23 = 1 := by
        rw [h24, h23, esub]; intro z; have := (nI_eq (b := 1) (by omega) (by omega)).1 z; omega
      have nl : zlets tx t 1 = false := by
        have h0 := ht.2.2.2.1
        have : ¬ t.2.1 - t.1 ≤ 1 := by omega
        simp [zlets, this]
      cases c3 : zisw tx t 11 with
      | true =>
        have ez : zside tx t st = (0, 256, znext tx t.2.1) := by simp [zside, c3]
        rw [ez]
        rw [c3] at is
        simp only [if_true] at is
        obtain ⟨S1, e1, f1, p1, v1⟩ := good 256
        refine ⟨fun _ => ⟨S1, ?_, f1, p1, v1⟩, fun q => absurd rfl q⟩
        simp [f_Mo_readSide, -Prod.exists, -Prod.forall, ↓bb_gf, ↓bb_gr, ↓bb_len, ↓bb_ga, ↓bb_gl, ↓bb_go, ↓bb_pf, ↓bb_pz, ↓bb_pr, ↓bb_pa, ↓bb_pb, ↓bb_pl, ↓bb_po, ↓bb_cl, ↓bb_some, ↓bb_RI, ↓bb_RJ, mm_hI, mm_hJ, mm_hR, mm_nI, mm_nJ, mm_nR, mm_sI, mm_sJ, mm_sR, mm_RI, mm_RJ, mm_IJ, mm_IR, mm_JI, mm_JR, mm_II, mm_JJ, mm_RR, hh, h25', d1, ↓bS is, ↓bS e1]
      | false =>
        rw [c3] at is
        simp only [Bool.false_eq_true, if_false] at is
        cases c4 : zkept tx t with
        | true =>
          have ez : zside tx t st = (1, 0, t) := by
            have : ¬ (t.2.2 = 1 ∧ t.2.1 - t.1 ≠ 1 ∧ zkept tx t = false) := fun q => by rw [c4] at q; exact Bool.noConfusion q.2.2
            simp only [zside, c3, nl, Bool.false_eq_true, if_false, if_neg this]
          rw [ez]
          rw [c4] at kp
          simp only [if_true] at kp
          obtain ⟨S3, e3, f3, x1, x2⟩ := bad 1
          have e3' : f_Mo_errs M 1 S = some (0, S3) := e3
          refine ⟨fun q => by simp at q, fun _ => ⟨S3, ?_, f3, x1, x2⟩⟩
          simp [f_Mo_readSide, -Prod.exists, -Prod.forall, ↓bb_gf, ↓bb_gr, ↓bb_len, ↓bb_ga, ↓bb_gl, ↓bb_go, ↓bb_pf, ↓bb_pz, ↓bb_pr, ↓bb_pa, ↓bb_pb, ↓bb_pl, ↓bb_po, ↓bb_cl, ↓bb_some, ↓bb_RI, ↓bb_RJ, mm_hI, mm_hJ, mm_hR, mm_nI, mm_nJ, mm_nR, mm_sI, mm_sJ, mm_sR, mm_RI, mm_RJ, mm_IJ, mm_IR, mm_JI, mm_JR, mm_II, mm_JJ, mm_RR, hh, h25', d1, ↓bS is, ↓bS kp, ↓bS e3']
        | false =>
          rw [c4] at kp
          simp only [Bool.false_eq_true, if_false] at kp
          have kh := m_kind h ca
          by_cases c5 : zsl tx t ∈ st.2.1
          · have ez : zside tx t st = (0, lg st.2.2.1 (st.2.1.idxOf (zsl tx t)), znext tx t.2.1) := by
              simp only [zside, c3, nl, Bool.false_eq_true, if_false, ca, c1, c4, ne_eq, not_false_eq_true, and_true, if_true, if_pos c5]
            rw [ez]
            rw [if_pos c5] at kh
            have il := List.idxOf_lt_length_iff.2 c5
            have wl := w.2.1
            have w3 := w.2.2.1
            have n1 : ¬ nI (st.2.1.idxOf (zsl tx t)) = -1 := fun z => (nn_eqm (m := 1) (by omega) (by omega) (by omega)).1 z
            have ek := h.2.2.2.2.1 (st.2.1.idxOf (zsl tx t)) (by omega)
            obtain ⟨S1, e1, f1, p1, v1⟩ := good (nI (lg st.2.2.1 (st.2.1.idxOf (zsl tx t))))
            have zin : zinb (nI (st.2.1.idxOf (zsl tx t))) 4 = true := (nn_in (by omega)).2 (by omega)
            have ncl : (nI (st.2.1.idxOf (zsl tx t))).toNatClampNeg = st.2.1.idxOf (zsl tx t) := nI_clamp (by omega)
            refine ⟨fun _ => ⟨S1, ?_, f1, p1, v1⟩, fun q => absurd rfl q⟩
            simp [f_Mo_readSide, -Prod.exists, -Prod.forall, ↓bb_gf, ↓bb_gr, ↓bb_len, ↓bb_ga, ↓bb_gl, ↓bb_go, ↓bb_pf, ↓bb_pz, ↓bb_pr, ↓bb_pa, ↓bb_pb, ↓bb_pl, ↓bb_po, ↓bb_cl, ↓bb_some, ↓bb_RI, ↓bb_RJ, mm_hI, mm_hJ, mm_hR, mm_nI, mm_nJ, mm_nR, mm_sI, mm_sJ, mm_sR, mm_RI, mm_RJ, mm_IJ, mm_IR, mm_JI, mm_JR, mm_II, mm_JJ, mm_RR, hh, h25', d1, ↓bS is, ↓bS kp, ↓bS kh, n1, ↓bS (mo_newKinds hm), mh_newKinds hm, zin, ncl, ek, ↓bS e1]
          · have ez : zside tx t st = (4, 0, t) := by
              simp only [zside, c3, nl, Bool.false_eq_true, if_false, ca, c1, c4, ne_eq, not_false_eq_true, and_true, if_true, if_neg c5]
            rw [ez]
            rw [if_neg c5] at kh
            obtain ⟨S3, e3, f3, x1, x2⟩ := bad 4
            have e3' : f_Mo_errs M 4 S = some (0, S3) := e3
            refine ⟨fun q => by simp at q, fun _ => ⟨S3, ?_, f3, x1, x2⟩⟩
            simp [f_Mo_readSide, -Prod.exists, -Prod.forall, ↓bb_gf, ↓bb_gr, ↓bb_len, ↓bb_ga, ↓bb_gl, ↓bb_go, ↓bb_pf, ↓bb_pz, ↓bb_pr, ↓bb_pa, ↓bb_pb, ↓bb_pl, ↓bb_po, ↓bb_cl, ↓bb_some, ↓bb_RI, ↓bb_RJ, mm_hI, mm_hJ, mm_hR, mm_nI, mm_nJ, mm_nR, mm_sI, mm_sJ, mm_sR, mm_RI, mm_RJ, mm_IJ, mm_IR, mm_JI, mm_JR, mm_II, mm_JJ, mm_RR, hh, h25', d1, ↓bS is, ↓bS kp, ↓bS kh, ↓bS e3']
  · have n2 : ¬ zI S M 25 = 2 := by
      rw [h25]
      intro z
      exact ca (tk.1.1 ((nI_eq (b := 2) (by omega) (by omega)).1 z))
    have ez : zside tx t st = (1, 0, t) := by
      have q1 : zisw tx t 11 = false := by simp [zisw, ca]
      have q2 : zlets tx t 1 = false := by simp [zlets, ca]
      have : ¬ (t.2.2 = 1 ∧ t.2.1 - t.1 ≠ 1 ∧ zkept tx t = false) := fun q => ca q.1
      simp only [zside, q1, q2, Bool.false_eq_true, if_false, if_neg this]
    rw [ez]
    obtain ⟨S3, e3, f3, x1, x2⟩ := bad 1
    have e3' : f_Mo_errs M 1 S = some (0, S3) := e3
    refine ⟨fun q => by simp at q, fun _ => ⟨S3, ?_, f3, x1, x2⟩⟩
    simp [f_Mo_readSide, -Prod.exists, -Prod.forall, ↓bb_gf, ↓bb_gr, ↓bb_len, ↓bb_ga, ↓bb_gl, ↓bb_go, ↓bb_pf, ↓bb_pz, ↓bb_pr, ↓bb_pa, ↓bb_pb, ↓bb_pl, ↓bb_po, ↓bb_cl, ↓bb_some, ↓bb_RI, ↓bb_RJ, mm_hI, mm_hJ, mm_hR, mm_nI, mm_nJ, mm_nR, mm_sI, mm_sJ, mm_sR, mm_RI, mm_RJ, mm_IJ, mm_IR, mm_JI, mm_JR, mm_II, mm_JJ, mm_RR, hh, n2, ↓bS e3']
end
