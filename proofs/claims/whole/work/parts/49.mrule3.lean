/-! the reference's reader: a rule's line, a line, the text -/
section
variable {S : zM} {M : Nat} {tx : List Nat} {t : zTk} {st : zRt} {p m b : Nat}
theorem mScr_rl {S' : zM} (h : mScr S M st) (hp : p + 1 = st.2.2.2.length) (hm : m = (zpa_ st.2.2.2 p).2.length) (hb : b = aRu p m) (hf : zfr (fun c j => (c = M ∧ 17 ≤ j) ∨ (c = M + 10 ∧ b ≤ j ∧ j < b + 11)) S S') : mScr S' M st := by
  obtain ⟨a1, a2, a3, a4, a5, a6, w⟩ := h
  have w3 := w.2.2.2.2.2.1
  refine ⟨by rw [fr_I hf (by omega)]; exact a1, by rw [fr_I hf (by omega)]; exact a2, by rw [fr_I hf (by omega)]; exact a3, fun k hk => by rw [fr_I hf (by omega)]; exact a4 k hk, fun k hk => by rw [fr_J hf (by omega)]; exact a5 k hk, fun q hq => ?_, w⟩
  obtain ⟨b1, b2, b3⟩ := a6 q hq
  have wr := ps_w w.2.2.2.2.2 hq
  have w8 := wr.1
  refine ⟨by rw [fr_I hf (by omega)]; exact b1, by rw [fr_I hf (by omega)]; exact b2, fun i hi => mRu_eq (b3 i hi) ⟨(ru_w wr hi).2.1, (ru_w wr hi).2.2.1⟩ (fun j q1 q2 => fr_I hf ?_)⟩
  unfold aRu at hb q1 q2
  by_cases e : q = p
  · subst e; omega
  · omega
theorem y_mid_ok (hps : p + 1 = st.2.2.2.length) (hmd : m = (zpa_ st.2.2.2 p).2.length) (hm8 : m < 8) (hb : b = aRu p m) (h : mAll S M tx t st) (h3 : zI S (M + 10) (b + 3) = nI 511) : ((zrule2 tx t st).1 = 0 → ∃ S', y_mid M (nI (p + 1)) (nI m) S = some (1, S') ∧ zfr (wRuM M b p) S S' ∧ pMr S' M tx (zrule2 tx t st).2.1 ∧ zI S' (M + 8) p = nI (m + 1) ∧ zI S' (M + 10) (b + 2) = zI S (M + 10) (b + 2) ∧ zI S' (M + 10) b = nI (zrule2 tx t st).2.2.1.length ∧ zI S' (M + 10) (b + 1) = nI (zrule2 tx t st).2.2.2.1.length ∧ zI S' (M + 10) (b + 3) = nI (zrule2 tx t st).2.2.2.2 ∧ (∀ k, k < (zrule2 tx t st).2.2.1.length → zI S' (M + 10) (b + 4 + k) = nI (lg (zrule2 tx t st).2.2.1 k)) ∧ (∀ k, k < (zrule2 tx t st).2.2.2.1.length → zI S' (M + 10) (b + 7 + k) = nI (lg (zrule2 tx t st).2.2.2.1 k))) ∧ ((zrule2 tx t st).1 ≠ 0 → ∃ S', y_mid M (nI (p + 1)) (nI m) S = some (0, S') ∧ zfr (wRuM M b p) S S' ∧ zI S' M 27 = nI (zrule2 tx t st).1 ∧ zI S' M 28 = nI (zrule2 tx t st).2.1.1) := by
  have hh := h.1.1.1.1
  have hrow := row_eq hb
  have hbb : b = 11 * (8 * p + m) := hb
  have w3 := h.2.2.2.2.2.2.2.2.2.2.2.2.1
  have hp3 : p < 3 := by omega
  have h8 : zI S (M + 8) p = nI m := by rw [hmd]; exact (h.2.2.2.2.2.2.1 p (by omega)).1
  cases c1 : zlets tx t 3 with
  | false =>
    have ez : zrule2 tx t st = (1, t, [], [], 0) := by simp [zrule2, c1]
    rw [ez]
    obtain ⟨S1, e1, f1, x1, x2⟩ := m_letF (b := b) (lo := 0) (la := 4) (most := 3) h.1 (by omega) c1
    have e1' : f_Mo_readLetters M (nI b) 0 4 3 S = some (0, S1) := e1
    refine ⟨fun q => by simp at q, fun _ => ⟨S1, ?_, fr_mono f1 (fun c j hb => by unfold wRuM; omega), x1, x2⟩⟩
    simp [y_mid, -Prod.exists, -Prod.forall, ↓bb_gf, ↓bb_gr, ↓bb_len, ↓bb_ga, ↓bb_gl, ↓bb_go, ↓bb_pf, ↓bb_pz, ↓bb_pr, ↓bb_pa, ↓bb_pb, ↓bb_pl, ↓bb_po, ↓bb_cl, ↓bb_some, ↓bb_RI, ↓bb_RJ, mm_hI, mm_hJ, mm_hR, mm_nI, mm_nJ, mm_nR, mm_sI, mm_sJ, mm_sR, mm_RI, mm_RJ, mm_IJ, mm_IR, mm_JI, mm_JR, mm_II, mm_JJ, mm_RR, hh, hrow, e1']
  | true =>
    obtain ⟨S1, e1, f1, p1, v1, v2⟩ := m_let (b := b) (lo := 0) (la := 4) (most := 3) h.1 (by omega) (by omega) (by omega) (by omega) c1
    have e1' : f_Mo_readLetters M (nI b) 0 4 3 S = some (1, S1) := e1
    obtain ⟨l1, l2, l3⟩ := lets_is c1
    have f1w : zfr (wRuM M b p) S S1 := fr_mono f1 (fun c j hb => by unfold wRlM wMr at hb; unfold wRuM; omega)
    obtain ⟨t1, ht1⟩ : ∃ t1, t1 = znext tx t.2.1 := ⟨_, rfl⟩
    rw [← ht1] at p1
    have lw := low_w (cs := []) h.1.2.2.2.2.1 c1
    have hm1 := p1.1.1
    have hh1 := hm1.1
    have i8 : zI S1 (M + 8) p = nI m := by rw [fr_I f1 (by unfold wRlM wMr; omega)]; exact h8
    have i3 : zI S1 (M + 10) (b + 3) = nI 511 := by rw [fr_I f1 (by unfold wRlM wMr; omega)]; exact h3
    have i2 : zI S1 (M + 10) (b + 2) = zI S (M + 10) (b + 2) := fr_I f1 (by unfold wRlM wMr; omega)
    have is := m_is p1 (show 8 < 13 by omega)
    -- the end, from a state S2 with the match and the side set
    have fin : ∀ (S2 : zM) (t2 : zTk) (bh : Nat), zfr (wRuM M b p) S S2 → pMr S2 M tx t2 → zI S2 (M + 8) p = nI m → zI S2 (M + 10) (b + 3) = nI bh → zI S2 (M + 10) (b + 2) = zI S (M + 10) (b + 2) → zI S2 (M + 10) b = nI (zlow (zsl tx t)).length → (∀ k, k < (zlow (zsl tx t)).length → zI S2 (M + 10) (b + 4 + k) = nI (lg (zlow (zsl tx t)) k)) → ((zoutc tx t2).1 = 0 → ∃ S', y_tail M (nI (p + 1)) (nI m) S2 = some (1, S') ∧ zfr (wRuM M b p) S S' ∧ pMr S' M tx (zoutc tx t2).2.2 ∧ zI S' (M + 8) p = nI (m + 1) ∧ zI S' (M + 10) (b + 2) = zI S (M + 10) (b + 2) ∧ zI S' (M + 10) b = nI (zlow (zsl tx t)).length ∧ zI S' (M + 10) (b + 1) = nI (zoutc tx t2).2.1.length ∧ zI S' (M + 10) (b + 3) = nI bh ∧ (∀ k, k < (zlow (zsl tx t)).length → zI S' (M + 10) (b + 4 + k) = nI (lg (zlow (zsl tx t)) k)) ∧ (∀ k, k < (zoutc tx t2).2.1.length → zI S' (M + 10) (b + 7 + k) = nI (lg (zoutc tx t2).2.1 k))) ∧ ((zoutc tx t2).1 ≠ 0 → ∃ S', y_tail M (nI (p + 1)) (nI m) S2 = some (0, S') ∧ zfr (wRuM M b p) S S' ∧ zI S' M 27 = nI (zoutc tx t2).1 ∧ zI S' M 28 = nI (zoutc tx t2).2.2.1) := by
      intro S2 t2 bh ff pp a8 a3 a2 a0 a4
      obtain ⟨y1, y2⟩ := y_tail_ok hp3 hm8 hb pp a8
      refine ⟨fun z => ?_, fun z => ?_⟩
      · obtain ⟨S', k1, k2, k3, k4, k5, k6⟩ := y1 z
        refine ⟨S', k1, fr_trans ff (fr_mono k2 (fun c j hb => by unfold wMr at hb; unfold wRuM; omega)), k3, k4, ?_, ?_, k5, ?_, fun k hk => ?_, k6⟩
        · rw [fr_I k2 (by unfold wMr; omega)]; exact a2
        · rw [fr_I k2 (by unfold wMr; omega)]; exact a0
        · rw [fr_I k2 (by unfold wMr; omega)]; exact a3
        · rw [fr_I k2 (by unfold wMr; omega)]; exact a4 k hk
      · obtain ⟨S', k1, k2, k3, k4⟩ := y2 z
        exact ⟨S', k1, fr_trans ff (fr_mono k2 (fun c j hb => by unfold wRuM; omega)), k3, k4⟩
    cases c2 : zisw tx t1 8 with
    | false =>
      rw [c2] at is
      simp only [Bool.false_eq_true, if_false] at is
      have ez : zrule2 tx t st = ((zoutc tx t1).1, (zoutc tx t1).2.2, zlow (zsl tx t), (zoutc tx t1).2.1, 511) := by
        simp only [zrule2, c1, ← ht1, c2, if_true, Bool.false_eq_true, if_false]
      rw [ez]
      have pre : y_mid M (nI (p + 1)) (nI m) S = y_tail M (nI (p + 1)) (nI m) S1 := by
        simp [y_mid, -Prod.exists, -Prod.forall, ↓bb_gf, ↓bb_gr, ↓bb_len, ↓bb_ga, ↓bb_gl, ↓bb_go, ↓bb_pf, ↓bb_pz, ↓bb_pr, ↓bb_pa, ↓bb_pb, ↓bb_pl, ↓bb_po, ↓bb_cl, ↓bb_some, ↓bb_RI, ↓bb_RJ, mm_hI, mm_hJ, mm_hR, mm_nI, mm_nJ, mm_nR, mm_sI, mm_sJ, mm_sR, mm_RI, mm_RJ, mm_IJ, mm_IR, mm_JI, mm_JR, mm_II, mm_JJ, mm_RR, hh, hrow, e1', hh1, ↓bS is]
      rw [pre]
      exact fin S1 t1 511 f1w p1 i8 i3 i2 v1 v2
    | true =>
      rw [c2] at is
      simp only [if_true] at is
      obtain ⟨S2, e2, f2, p2⟩ := m_next p1
      have hh2 := p2.1.1.1
      have ms1 : mScr S1 M st := mScr_rl h.2 hps hmd hb (fr_mono f1 (fun c j hb => by unfold wRlM wMr at hb; omega))
      have A2 := m_all ms1 p2 f2
      obtain ⟨sd1, sd2⟩ := m_side A2
      by_cases c3 : (zside tx (znext tx t1.2.1) st).1 = 0
      · obtain ⟨S3, e3, f3, p3, v3⟩ := sd1 c3
        obtain ⟨sb, hsb⟩ : ∃ sb, sb = (zside tx (znext tx t1.2.1) st).2.1 := ⟨_, rfl⟩
        obtain ⟨t4, ht4⟩ : ∃ t4, t4 = (zside tx (znext tx t1.2.1) st).2.2 := ⟨_, rfl⟩
        rw [← hsb] at v3
        rw [← ht4] at p3
        have hm3 := p3.1.1
        have ez : zrule2 tx t st = ((zoutc tx t4).1, (zoutc tx t4).2.2, zlow (zsl tx t), (zoutc tx t4).2.1, sb) := by
          simp only [zrule2, c1, ← ht1, c2, if_true, c3, ← ht4, ← hsb]
        rw [ez]
        have fw : zfr (fun c j => c = M + 10 ∧ j = b + 3) S3 (zwI S3 (M + 10) (b + 3) (nI sb)) := fr_wI _ _ ⟨rfl, rfl⟩
        have p4 : pMr (zwI S3 (M + 10) (b + 3) (nI sb)) M tx t4 := pMr_fr p3 fw (by omega) (fun j => by omega)
        have zin2 : zinb (nI (b + 3)) 264 = true := (nn_in (by omega)).2 (by omega)
        have ncl2 : (nI (b + 3)).toNatClampNeg = b + 3 := nI_clamp (by omega)
        have a3 : nI b + 3 = nI (b + 3) := nI_add b 3
        have pre : y_mid M (nI (p + 1)) (nI m) S = y_tail M (nI (p + 1)) (nI m) (zwI S3 (M + 10) (b + 3) (nI sb)) := by
          simp [y_mid, -Prod.exists, -Prod.forall, ↓bb_gf, ↓bb_gr, ↓bb_len, ↓bb_ga, ↓bb_gl, ↓bb_go, ↓bb_pf, ↓bb_pz, ↓bb_pr, ↓bb_pa, ↓bb_pb, ↓bb_pl, ↓bb_po, ↓bb_cl, ↓bb_some, ↓bb_RI, ↓bb_RJ, mm_hI, mm_hJ, mm_hR, mm_nI, mm_nJ, mm_nR, mm_sI, mm_sJ, mm_sR, mm_RI, mm_RJ, mm_IJ, mm_IR, mm_JI, mm_JR, mm_II, mm_JJ, mm_RR, hh, hrow, e1', hh1, ↓bS is, ↓bS e2, hh2, ↓bS e3, hm3.1, ↓bS (mo_newRules hm3), mh_newRules hm3, v3, a3, zin2, ncl2]
        rw [pre]
        have g : ∀ c j, ¬ (c = M ∧ 23 ≤ j) → ¬ (c = M + 10 ∧ j = b + 3) → zI (zwI S3 (M + 10) (b + 3) (nI sb)) c j = zI S1 c j := fun c j q1 q2 => by
          rw [fr_I fw q2, fr_I f3 (by unfold wMr; omega), fr_I f2 (by unfold wMr; omega)]
        refine fin _ t4 sb (fr_trans f1w (fr_trans (fr_mono f2 (fun c j hb => by unfold wMr at hb; unfold wRuM; omega)) (fr_trans (fr_mono f3 (fun c j hb => by unfold wMr at hb; unfold wRuM; omega)) (fr_mono fw (fun c j hb => by unfold wRuM; omega))))) p4 ?_ ?_ ?_ ?_ (fun k hk => ?_)
        · rw [g _ _ (by omega) (by omega)]; exact i8
        · simp [mm_II]
        · rw [g _ _ (by omega) (by omega)]; exact i2
        · rw [g _ _ (by omega) (by omega)]; exact v1
        · rw [g _ _ (by omega) (by omega)]; exact v2 k hk
      · obtain ⟨S3, e3, f3, x1, x2⟩ := sd2 c3
        have ez : zrule2 tx t st = ((zside tx (znext tx t1.2.1) st).1, (zside tx (znext tx t1.2.1) st).2.2, [], [], 0) := by
          simp only [zrule2, c1, ← ht1, c2, if_true, if_neg c3]
        rw [ez]
        refine ⟨fun q => absurd q c3, fun _ => ⟨S3, ?_, fr_trans f1w (fr_trans (fr_mono f2 (fun c j hb => by unfold wMr at hb; unfold wRuM; omega)) (fr_mono f3 (fun c j hb => by unfold wRuM; omega))), x1, x2⟩⟩
        simp [y_mid, -Prod.exists, -Prod.forall, ↓bb_gf, ↓bb_gr, ↓bb_len, ↓bb_ga, ↓bb_gl, ↓bb_go, ↓bb_pf, ↓bb_pz, ↓bb_pr, ↓bb_pa, ↓bb_pb, ↓bb_pl, ↓bb_po, ↓bb_cl, ↓bb_some, ↓bb_RI, ↓bb_RJ, mm_hI, mm_hJ, mm_hR, mm_nI, mm_nJ, mm_nR, mm_sI, mm_sJ, mm_sR, mm_RI, mm_RJ, mm_IJ, mm_IR, mm_JI, mm_JR, mm_II, mm_JJ, mm_RR, hh, hrow, e1', hh1, ↓bS is, ↓bS e2, hh2, ↓bS e3]
theorem ml_rule (h : mAll S M tx t st) (hs0 : 0 < st.1) : ∃ S', f_Mo_readRule M S = some (if (zruleLine tx t st).1 = 0 then 1 else 0, S') ∧ eML S S' M tx (zruleLine tx t st) := by
  have hs := m_has h
  rw [if_pos hs0] at hs
  have hm := h.1.1.1
  have hh := hm.1
  have h16 := h.2.2.2.1
  have w := h.2.2.2.2.2.2.2
  have w3 := w.2.2.2.2.2.1
  rw [readRule_eq]
  by_cases c0 : st.2.2.2.length = 0
  · have ez : zruleLine tx t st = (6, t, st) := by simp [zruleLine, c0]
    rw [ez]
    rw [c0] at h16
    obtain ⟨S3, e3, f3, x1, x2⟩ := m_errs h.1 6
    have e3' : f_Mo_errs M 6 S = some (0, S3) := e3
    have neg : nI 0 - 1 < 0 := by decide
    refine ⟨S3, ?_, m_stop (by omega) (fr_refl _ _) f3 x1 x2⟩
    simp [-Prod.exists, -Prod.forall, ↓bb_gf, ↓bb_gr, ↓bb_len, ↓bb_ga, ↓bb_gl, ↓bb_go, ↓bb_pf, ↓bb_pz, ↓bb_pr, ↓bb_pa, ↓bb_pb, ↓bb_pl, ↓bb_po, ↓bb_cl, ↓bb_some, ↓bb_RI, ↓bb_RJ, mm_hI, mm_hJ, mm_hR, mm_nI, mm_nJ, mm_nR, mm_sI, mm_sJ, mm_sR, mm_RI, mm_RJ, mm_IJ, mm_IR, mm_JI, mm_JR, mm_II, mm_JJ, mm_RR, hh, h16, neg, ↓bS hs, ↓bS e3']
  · obtain ⟨p, hp⟩ : ∃ p, p + 1 = st.2.2.2.length := ⟨st.2.2.2.length - 1, by omega⟩
    have ep : st.2.2.2.length - 1 = p := by omega
    obtain ⟨m, hmd⟩ : ∃ m, m = (zpa_ st.2.2.2 p).2.length := ⟨_, rfl⟩
    have wr := ps_w w.2.2.2.2.2 (show p < st.2.2.2.length by omega)
    have w8 := wr.1
    rw [← hp] at h16
    obtain ⟨x8, x9, x10⟩ := h.2.2.2.2.2.2.1 p (by omega)
    rw [← hmd] at x8
    have npos : ¬ nI (p + 1) - 1 < 0 := by rw [nI_pred]; exact nI_pos (by omega)
    have zin : zinb (nI (p + 1) - 1) 3 = true := by rw [nI_pred]; exact (nn_in (by omega)).2 (by omega)
    have ncl : (nI (p + 1) - 1).toNatClampNeg = p := by rw [nI_pred]; exact nI_clamp (by omega)
    by_cases c1 : 8 ≤ m
    · have ez : zruleLine tx t st = (5, t, st) := by simp only [zruleLine, if_neg c0, ep, ← hmd, if_pos c1]
      rw [ez]
      have e8 : zI S (M + 8) p = 8 := by rw [x8, show m = 8 by omega]; rfl
      obtain ⟨S3, e3, f3, y1, y2⟩ := m_errs h.1 5
      have e3' : f_Mo_errs M 5 S = some (0, S3) := e3
      refine ⟨S3, ?_, m_stop (by omega) (fr_refl _ _) f3 y1 y2⟩
      simp [-Prod.exists, -Prod.forall, ↓bb_gf, ↓bb_gr, ↓bb_len, ↓bb_ga, ↓bb_gl, ↓bb_go, ↓bb_pf, ↓bb_pz, ↓bb_pr, ↓bb_pa, ↓bb_pb, ↓bb_pl, ↓bb_po, ↓bb_cl, ↓bb_some, ↓bb_RI, ↓bb_RJ, mm_hI, mm_hJ, mm_hR, mm_nI, mm_nJ, mm_nR, mm_sI, mm_sJ, mm_sR, mm_RI, mm_RJ, mm_IJ, mm_IR, mm_JI, mm_JR, mm_II, mm_JJ, mm_RR, hh, h16, npos, ↓bS (mo_newRuleMany hm), mh_newRuleMany hm, zin, ncl, e8, ↓bS e3']
    · have e8 : ¬ zI S (M + 8) p = 8 := by
        rw [x8]; intro z; have := (nI_eq (b := 8) (by omega) (by omega)).1 z; omega
      have pre : ∀ R : Option (Int32 × zM), y_top M (nI (p + 1)) S = R → (Option.bind (zgf S 12 M 16) (fun x1 =>
        if (x1 - (1 : Int32)) < (0 : Int32) then
          Option.bind (zcl S 12 M (f_Mo_hasScript M S)) (fun p2 =>
          if p2.1 = (0 : Int32) then
            Option.bind (zcl p2.2 12 M (f_Mo_errs M (6 : Int32) p2.2)) (fun p3 =>
            if p3.1 = 0 ∨ p3.1 = 1 then some (p3.1, p3.2) else none)
          else
            if (x1 - (1 : Int32)) < (0 : Int32) then
              Option.bind (zcl p2.2 12 M (f_Mo_errs M (6 : Int32) p2.2)) (fun p4 =>
              if p4.1 = 0 ∨ p4.1 = 1 then some (p4.1, p4.2) else none)
            else y_top M x1 p2.2)
        else
          Option.bind (zgr S 12 M 19) (fun q80 =>
          Option.bind (zga S 100 q80 (x1 - (1 : Int32))) (fun x81 =>
          if x81 = (8 : Int32) then
            Option.bind (zcl S 12 M (f_Mo_errs M (5 : Int32) S)) (fun p82 =>
            if p82.1 = 0 ∨ p82.1 = 1 then some (p82.1, p82.2) else none)
          else
            Option.bind (zcl S 12 M (f_Mo_hasScript M S)) (fun p83 =>
            if p83.1 = (0 : Int32) then
              Option.bind (zcl p83.2 12 M (f_Mo_errs M (6 : Int32) p83.2)) (fun p84 =>
              if p84.1 = 0 ∨ p84.1 = 1 then some (p84.1, p84.2) else none)
            else
              if (x1 - (1 : Int32)) < (0 : Int32) then
                Option.bind (zcl p83.2 12 M (f_Mo_errs M (6 : Int32) p83.2)) (fun p85 =>
                if p85.1 = 0 ∨ p85.1 = 1 then some (p85.1, p85.2) else none)
              else y_top M x1 p83.2))))) = R := by
        intro R hR
        rw [← hR]
        simp [-Prod.exists, -Prod.forall, ↓bb_gf, ↓bb_gr, ↓bb_len, ↓bb_ga, ↓bb_gl, ↓bb_go, ↓bb_pf, ↓bb_pz, ↓bb_pr, ↓bb_pa, ↓bb_pb, ↓bb_pl, ↓bb_po, ↓bb_cl, ↓bb_some, ↓bb_RI, ↓bb_RJ, mm_hI, mm_hJ, mm_hR, mm_nI, mm_nJ, mm_nR, mm_sI, mm_sJ, mm_sR, mm_RI, mm_RJ, mm_IJ, mm_IR, mm_JI, mm_JR, mm_II, mm_JJ, mm_RR, hh, h16, npos, ↓bS (mo_newRuleMany hm), mh_newRuleMany hm, zin, ncl, e8, ↓bS hs]
      obtain ⟨S1, e1, f1, p1⟩ := m_next h.1
      have hm1 := p1.1.1
      have hh1 := hm1.1
      have A1 := m_all h.2 p1 f1
      obtain ⟨t1, ht1⟩ : ∃ t1, t1 = znext tx t.2.1 := ⟨_, rfl⟩
      rw [← ht1] at p1 A1
      obtain ⟨b, hb⟩ : ∃ b, b = aRu p m := ⟨_, rfl⟩
      have hbb : b = 11 * (8 * p + m) := hb
      have hrow := row_eq hb
      have i8 : zI S1 (M + 8) p = nI m := by rw [fr_I f1 (by unfold wMr; omega)]; exact x8
      obtain ⟨S2, hS2⟩ : ∃ S2, S2 = zwI (zwI S1 (M + 10) (b + 2) 511) (M + 10) (b + 3) 511 := ⟨_, rfl⟩
      have f2 : zfr (fun c j => c = M + 10 ∧ (j = b + 2 ∨ j = b + 3)) S1 S2 := by rw [hS2]; exact fr_trans (fr_wI _ _ (by omega)) (fr_wI _ _ (by omega))
      have p2 : pMr S2 M tx t1 := pMr_fr p1 f2 (by omega) (fun j => by omega)
      have ms2 : mScr S2 M st := mScr_rl A1.2 hp hmd hb (fr_mono f2 (fun c j hb => by omega))
      have f12 : zfr (wRuM M b p) S S2 := fr_trans (fr_mono f1 (fun c j hb => by unfold wMr at hb; unfold wRuM; omega)) (fr_mono f2 (fun c j hb => by unfold wRuM; omega))
      have hm2 := p2.1.1
      have is := m_is p2 (show 7 < 13 by omega)
      have z2 : zinb (nI (b + 2)) 264 = true := (nn_in (by omega)).2 (by omega)
      have n2 : (nI (b + 2)).toNatClampNeg = b + 2 := nI_clamp (by omega)
      have z3 : zinb (nI (b + 3)) 264 = true := (nn_in (by omega)).2 (by omega)
      have n3 : (nI (b + 3)).toNatClampNeg = b + 3 := nI_clamp (by omega)
      have a2 : nI b + 2 = nI (b + 2) := nI_add b 2
      have a3 : nI b + 3 = nI (b + 3) := nI_add b 3
      have i22 : zI S2 (M + 10) (b + 2) = nI 511 := by rw [hS2]; simp [mm_II]; rfl
      have i23 : zI S2 (M + 10) (b + 3) = nI 511 := by rw [hS2]; simp [mm_II]; rfl
      -- how it ends
      have fin : ∀ (S3 : zM) (t3 : zTk) (ah : Nat), ah < 512 → zfr (wRuM M b p) S S3 → mAll S3 M tx t3 st → zI S3 (M + 10) (b + 3) = nI 511 → zI S3 (M + 10) (b + 2) = nI ah → ∃ S', y_mid M (nI (p + 1)) (nI m) S3 = some (if (zrule2 tx t3 st).1 = 0 then 1 else 0, S') ∧ eML S S' M tx ((zrule2 tx t3 st).1, (zrule2 tx t3 st).2.1, (st.1, st.2.1, st.2.2.1, zadd st.2.2.2 ((zrule2 tx t3 st).2.2.1, (zrule2 tx t3 st).2.2.2.1, ah, (zrule2 tx t3 st).2.2.2.2))) := by
        intro S3 t3 ah ha ff A3 j3 j2
        obtain ⟨y1, y2⟩ := y_mid_ok hp hmd (by omega) hb A3 j3
        by_cases z : (zrule2 tx t3 st).1 = 0
        · obtain ⟨S', k1, k2, k3, k4, k5, k6, k7, k8, k9, k10⟩ := y1 z
          rw [if_pos z]
          have wru := rule2_w (ah := ah) A3.1.2.2.2.2.1 w ha z
          have FF := fr_trans ff k2
          refine ⟨S', k1, fr_mono FF (fun c j hb => by unfold wRuM at hb; unfold wML; omega), fun _ => ⟨k3, ?_⟩, fun q => absurd z q⟩
          obtain ⟨b1, b2, b3, b4, b5, b6, _⟩ := h.2
          have al : (zadd st.2.2.2 ((zrule2 tx t3 st).2.2.1, (zrule2 tx t3 st).2.2.2.1, ah, (zrule2 tx t3 st).2.2.2.2)).length = st.2.2.2.length := add_len (by omega)
          refine ⟨by rw [fr_I FF (by unfold wRuM; omega)]; exact b1, by rw [fr_I FF (by unfold wRuM; omega)]; exact b2, by rw [fr_I FF (by unfold wRuM; omega)]; simp only [al]; exact b3, fun k hk => by rw [fr_I FF (by unfold wRuM; omega)]; exact b4 k hk, fun k hk => by rw [fr_J FF (by unfold wRuM; omega)]; exact b5 k hk, fun q hq => ?_, ⟨w.1, w.2.1, w.2.2.1, w.2.2.2.1, w.2.2.2.2.1, add_w w.2.2.2.2.2 (by omega) wru (by rw [ep, ← hmd]; omega)⟩⟩
          simp only [al] at hq
          by_cases e : q = p
          · subst e
            have e2 := add_pa2 (ps := st.2.2.2) (ru := ((zrule2 tx t3 st).2.2.1, (zrule2 tx t3 st).2.2.2.1, ah, (zrule2 tx t3 st).2.2.2.2)) (by omega)
            rw [ep] at e2
            simp only [e2]
            refine ⟨by rw [k4]; simp [hmd], by rw [fr_I FF (by unfold wRuM; omega)]; exact x9, fun i hi => ?_⟩
            simp only [List.length_append, List.length_cons, List.length_nil, ← hmd] at hi
            by_cases e3 : i = m
            · subst e3
              rw [show zru ((zpa_ st.2.2.2 q).2 ++ [((zrule2 tx t3 st).2.2.1, (zrule2 tx t3 st).2.2.2.1, ah, (zrule2 tx t3 st).2.2.2.2)]) i = ((zrule2 tx t3 st).2.2.1, (zrule2 tx t3 st).2.2.2.1, ah, (zrule2 tx t3 st).2.2.2.2) by rw [hmd]; exact ru_app2, ← hb]
              exact ⟨k6, k7, by rw [k5]; exact j2, k8, k9, k10⟩
            · rw [ru_app1 (by omega)]
              exact mRu_eq (x10 i (by omega)) ⟨(ru_w wr (by omega)).2.1, (ru_w wr (by omega)).2.2.1⟩ (fun j q1 q2 => fr_I FF (by unfold wRuM; unfold aRu at q1 q2; omega))
          · simp only
            rw [add_pa1 (by omega)]
            obtain ⟨d1, d2, d3⟩ := b6 q (by omega)
            have wq := ps_w w.2.2.2.2.2 (show q < st.2.2.2.length by omega)
            have wq8 := wq.1
            exact ⟨by rw [fr_I FF (by unfold wRuM; omega)]; exact d1, by rw [fr_I FF (by unfold wRuM; omega)]; exact d2, fun i hi => mRu_eq (d3 i hi) ⟨(ru_w wq hi).2.1, (ru_w wq hi).2.2.1⟩ (fun j q1 q2 => fr_I FF (by unfold wRuM; unfold aRu at q1 q2; omega))⟩
        · obtain ⟨S', k1, k2, k3, k4⟩ := y2 z
          rw [if_neg z]
          exact ⟨S', k1, fr_mono (fr_trans ff k2) (fun c j hb => by unfold wRuM at hb; unfold wML; omega), fun q => absurd q z, fun _ => ⟨k3, k4⟩⟩
      cases c2 : zisw tx t1 7 with
      | false =>
        rw [c2] at is
        simp only [Bool.false_eq_true, if_false] at is
        have ez : zruleLine tx t st = ((zrule2 tx t1 st).1, (zrule2 tx t1 st).2.1, (st.1, st.2.1, st.2.2.1, zadd st.2.2.2 ((zrule2 tx t1 st).2.2.1, (zrule2 tx t1 st).2.2.2.1, 511, (zrule2 tx t1 st).2.2.2.2))) := by
          simp only [zruleLine, if_neg c0, ep, ← hmd, if_neg c1, ← ht1, c2, Bool.false_eq_true, if_false]
        rw [ez]
        obtain ⟨S', k1, k2⟩ := fin S2 t1 511 (by omega) f12 ⟨p2, ms2⟩ i23 i22
        refine ⟨S', pre _ ?_, k2⟩
        rw [hS2] at is k1
        simp [y_top, -Prod.exists, -Prod.forall, ↓bb_gf, ↓bb_gr, ↓bb_len, ↓bb_ga, ↓bb_gl, ↓bb_go, ↓bb_pf, ↓bb_pz, ↓bb_pr, ↓bb_pa, ↓bb_pb, ↓bb_pl, ↓bb_po, ↓bb_cl, ↓bb_some, ↓bb_RI, ↓bb_RJ, mm_hI, mm_hJ, mm_hR, mm_nI, mm_nJ, mm_nR, mm_sI, mm_sJ, mm_sR, mm_RI, mm_RJ, mm_IJ, mm_IR, mm_JI, mm_JR, mm_II, mm_JJ, mm_RR, hh, ↓bS e1, hh1, ↓bS (mo_newRuleMany hm1), mh_newRuleMany hm1, zin, ncl, i8, ↓bS (mo_newRules hm1), mh_newRules hm1, hrow, a2, a3, z2, n2, z3, n3, ↓bS is]
        exact k1
      | true =>
        rw [c2] at is
        simp only [if_true] at is
        obtain ⟨S3, e3, f3, p3⟩ := m_next p2
        have hh3 := p3.1.1.1
        have A3 := m_all ms2 p3 f3
        obtain ⟨sd1, sd2⟩ := m_side A3
        have f13 : zfr (wRuM M b p) S S3 := fr_trans f12 (fr_mono f3 (fun c j hb => by unfold wMr at hb; unfold wRuM; omega))
        by_cases c3 : (zside tx (znext tx t1.2.1) st).1 = 0
        · obtain ⟨S4, e4, f4, p4, v4⟩ := sd1 c3
          have wl := side_lt (tx := tx) (t := znext tx t1.2.1) w
          obtain ⟨sb, hsb⟩ : ∃ sb, sb = (zside tx (znext tx t1.2.1) st).2.1 := ⟨_, rfl⟩
          obtain ⟨t4, ht4⟩ : ∃ t4, t4 = (zside tx (znext tx t1.2.1) st).2.2 := ⟨_, rfl⟩
          rw [← hsb] at v4 wl
          rw [← ht4] at p4
          have hm4 := p4.1.1
          have ez : zruleLine tx t st = ((zrule2 tx t4 st).1, (zrule2 tx t4 st).2.1, (st.1, st.2.1, st.2.2.1, zadd st.2.2.2 ((zrule2 tx t4 st).2.2.1, (zrule2 tx t4 st).2.2.2.1, sb, (zrule2 tx t4 st).2.2.2.2))) := by
            simp only [zruleLine, if_neg c0, ep, ← hmd, if_neg c1, ← ht1, c2, if_true, c3, ← ht4, ← hsb]
          rw [ez]
          have fw : zfr (fun c j => c = M + 10 ∧ j = b + 2) S4 (zwI S4 (M + 10) (b + 2) (nI sb)) := fr_wI _ _ ⟨rfl, rfl⟩
          have p5 : pMr (zwI S4 (M + 10) (b + 2) (nI sb)) M tx t4 := pMr_fr p4 fw (by omega) (fun j => by omega)
          have ms5 : mScr (zwI S4 (M + 10) (b + 2) (nI sb)) M st := mScr_rl A3.2 hp hmd hb (fr_trans (fr_mono f4 (fun c j hb => by unfold wMr at hb; omega)) (fr_mono fw (fun c j hb => by omega)))
          obtain ⟨S', k1, k2⟩ := fin (zwI S4 (M + 10) (b + 2) (nI sb)) t4 sb wl (fr_trans f13 (fr_trans (fr_mono f4 (fun c j hb => by unfold wMr at hb; unfold wRuM; omega)) (fr_mono fw (fun c j hb => by unfold wRuM; omega)))) ⟨p5, ms5⟩ (by rw [fr_I fw (by omega), fr_I f4 (by unfold wMr; omega), fr_I f3 (by unfold wMr; omega)]; exact i23) (by simp [mm_II])
          refine ⟨S', pre _ ?_, k2⟩
          rw [hS2] at is e3
          simp [y_top, -Prod.exists, -Prod.forall, ↓bb_gf, ↓bb_gr, ↓bb_len, ↓bb_ga, ↓bb_gl, ↓bb_go, ↓bb_pf, ↓bb_pz, ↓bb_pr, ↓bb_pa, ↓bb_pb, ↓bb_pl, ↓bb_po, ↓bb_cl, ↓bb_some, ↓bb_RI, ↓bb_RJ, mm_hI, mm_hJ, mm_hR, mm_nI, mm_nJ, mm_nR, mm_sI, mm_sJ, mm_sR, mm_RI, mm_RJ, mm_IJ, mm_IR, mm_JI, mm_JR, mm_II, mm_JJ, mm_RR, hh, ↓bS e1, hh1, ↓bS (mo_newRuleMany hm1), mh_newRuleMany hm1, zin, ncl, i8, ↓bS (mo_newRules hm1), mh_newRules hm1, hrow, a2, a3, z2, n2, z3, n3, ↓bS is, ↓bS e3, hh3, ↓bS e4, hm4.1, ↓bS (mo_newRules hm4), mh_newRules hm4, v4]
          exact k1
        · obtain ⟨S4, e4, f4, x1, x2⟩ := sd2 c3
          have ez : zruleLine tx t st = ((zside tx (znext tx t1.2.1) st).1, (zside tx (znext tx t1.2.1) st).2.2, st) := by
            simp only [zruleLine, if_neg c0, ep, ← hmd, if_neg c1, ← ht1, c2, if_true, if_neg c3]
          rw [ez]
          refine ⟨S4, pre _ ?_, fr_mono (fr_trans f13 (fr_mono f4 (fun c j hb => by unfold wRuM; omega))) (fun c j hb => by unfold wRuM at hb; unfold wML; omega), fun q => absurd q c3, fun _ => ⟨x1, x2⟩⟩
          rw [hS2] at is e3
          rw [if_neg c3]
          simp [y_top, -Prod.exists, -Prod.forall, ↓bb_gf, ↓bb_gr, ↓bb_len, ↓bb_ga, ↓bb_gl, ↓bb_go, ↓bb_pf, ↓bb_pz, ↓bb_pr, ↓bb_pa, ↓bb_pb, ↓bb_pl, ↓bb_po, ↓bb_cl, ↓bb_some, ↓bb_RI, ↓bb_RJ, mm_hI, mm_hJ, mm_hR, mm_nI, mm_nJ, mm_nR, mm_sI, mm_sJ, mm_sR, mm_RI, mm_RJ, mm_IJ, mm_IR, mm_JI, mm_JR, mm_II, mm_JJ, mm_RR, hh, ↓bS e1, hh1, ↓bS (mo_newRuleMany hm1), mh_newRuleMany hm1, zin, ncl, i8, ↓bS (mo_newRules hm1), mh_newRules hm1, hrow, a2, a3, z2, n2, z3, n3, ↓bS is, ↓bS e3, hh3, ↓bS e4]
end
