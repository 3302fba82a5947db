/-! the reference's reader: lines -/
/-- a rule in a row of rules -/
def mRu (S : zM) (q b : Nat) (ru : zRu) : Prop := zI S q b = nI ru.1.length ∧ zI S q (b + 1) = nI ru.2.1.length ∧ zI S q (b + 2) = nI ru.2.2.1 ∧ zI S q (b + 3) = nI ru.2.2.2 ∧ (∀ k, k < ru.1.length → zI S q (b + 4 + k) = nI (lg ru.1 k)) ∧ (∀ k, k < ru.2.1.length → zI S q (b + 7 + k) = nI (lg ru.2.1 k))
theorem mRu_eq {S S' : zM} {q q' b : Nat} {ru : zRu} (h : mRu S q b ru) (w : ru.1.length ≤ 3 ∧ ru.2.1.length ≤ 4) (e : ∀ j, b ≤ j → j < b + 11 → zI S' q' j = zI S q j) : mRu S' q' b ru := by
  obtain ⟨a1, a2, a3, a4, a5, a6⟩ := h
  exact ⟨by rw [e _ (by omega) (by omega)]; exact a1, by rw [e _ (by omega) (by omega)]; exact a2, by rw [e _ (by omega) (by omega)]; exact a3, by rw [e _ (by omega) (by omega)]; exact a4, fun k hk => by rw [e _ (by omega) (by omega)]; exact a5 k hk, fun k hk => by rw [e _ (by omega) (by omega)]; exact a6 k hk⟩
/-- where a rule lies -/
def aRu (p i : Nat) : Nat := 11 * (8 * p + i)
def mScr (S : zM) (M : Nat) (st : zRt) : Prop := zI S M 14 = nI st.1 ∧ zI S M 15 = nI st.2.2.1.length ∧ zI S M 16 = nI st.2.2.2.length ∧ (∀ k, k < st.2.2.1.length → zI S (M + 6) k = nI (lg st.2.2.1 k)) ∧ (∀ k, k < st.2.1.length → zJ S (M + 7) k = lN (zn32 (lnm st.2.1 k))) ∧ (∀ p, p < st.2.2.2.length → zI S (M + 8) p = nI (zpa_ st.2.2.2 p).2.length ∧ zI S (M + 9) p = (if (zpa_ st.2.2.2 p).1 then 1 else 0) ∧ ∀ i, i < (zpa_ st.2.2.2 p).2.length → mRu S (M + 10) (aRu p i) (zru (zpa_ st.2.2.2 p).2 i)) ∧ wRt st
theorem mScr_fr {W : Nat → Nat → Prop} {S S' : zM} {M : Nat} {st : zRt} (h : mScr S M st) (hf : zfr W S S') (h1 : ¬ W M 14 ∧ ¬ W M 15 ∧ ¬ W M 16) (h2 : ∀ b j, M + 6 ≤ b → b ≤ M + 10 → ¬ W b j) : mScr S' M st := by
  obtain ⟨a1, a2, a3, a4, a5, a6, w⟩ := h
  refine ⟨by rw [fr_I hf h1.1]; exact a1, by rw [fr_I hf h1.2.1]; exact a2, by rw [fr_I hf h1.2.2]; exact a3, fun k hk => by rw [fr_I hf (h2 _ _ (by omega) (by omega))]; exact a4 k hk, fun k hk => by rw [fr_J hf (h2 _ _ (by omega) (by omega))]; exact a5 k hk, fun p hp => ?_, w⟩
  obtain ⟨b1, b2, b3⟩ := a6 p hp
  have wr := ps_w w.2.2.2.2.2 hp
  exact ⟨by rw [fr_I hf (h2 _ _ (by omega) (by omega))]; exact b1, by rw [fr_I hf (h2 _ _ (by omega) (by omega))]; exact b2, fun i hi => mRu_eq (b3 i hi) ⟨(ru_w wr hi).2.1, (ru_w wr hi).2.2.1⟩ (fun j _ _ => fr_I hf (h2 _ _ (by omega) (by omega)))⟩
def mAll (S : zM) (M : Nat) (tx : List Nat) (t : zTk) (st : zRt) : Prop := pMr S M tx t ∧ mScr S M st
/-- what a line changes -/
def wML (M : Nat) : Nat → Nat → Prop := fun b j => (b = M ∧ ((14 ≤ j ∧ j ≤ 16) ∨ (23 ≤ j ∧ j ≤ 29))) ∨ (M + 6 ≤ b ∧ b ≤ M + 10)
/-- how a line ends -/
def eML (S S' : zM) (M : Nat) (tx : List Nat) (r : Nat × zTk × zRt) : Prop := zfr (wML M) S S' ∧ (r.1 = 0 → mAll S' M tx r.2.1 r.2.2) ∧ (r.1 ≠ 0 → zI S' M 27 = nI r.1 ∧ zI S' M 28 = nI r.2.1.1)
theorem wMr_ML {M b j : Nat} (h : wMr M b j) : wML M b j := by unfold wMr at h; unfold wML; omega
section
variable {S : zM} {M : Nat} {tx : List Nat} {t : zTk} {st : zRt}
theorem m_all {S' : zM} {t' : zTk} (h : mScr S M st) (hp : pMr S' M tx t') (hf : zfr (wMr M) S S') : mAll S' M tx t' st := ⟨hp, mScr_fr h hf (by unfold wMr; omega) (fun b j _ _ => by unfold wMr; omega)⟩
theorem m_errs (h : pMr S M tx t) (f : Nat) : ∃ S', f_Mo_errs M (nI f) S = some (0, S') ∧ zfr (fun b j => b = M ∧ (j = 27 ∨ j = 28)) S S' ∧ zI S' M 27 = nI f ∧ zI S' M 28 = nI t.1 := by
  refine ⟨zwI (zwI S M 27 (nI f)) M 28 (nI t.1), ?_, fr_trans (fr_wI _ _ (by omega)) (fr_wI _ _ (by omega)), by simp [mm_II], by simp [mm_II]⟩
  simp (disch := omega) [f_Mo_errs, -Prod.exists, -Prod.forall, ↓bb_gf, ↓bb_gr, ↓bb_len, ↓bb_ga, ↓bb_gl, ↓bb_go, ↓bb_pf, ↓bb_pz, ↓bb_pr, ↓bb_pa, ↓bb_pb, ↓bb_pl, ↓bb_po, ↓bb_cl, ↓bb_some, ↓bb_RI, ↓bb_RJ, mm_hI, mm_hJ, mm_hR, mm_nI, mm_nJ, mm_nR, mm_sI, mm_sJ, mm_sR, mm_RI, mm_RJ, mm_IJ, mm_IR, mm_JI, mm_JR, mm_II, mm_JJ, mm_RR, h.1.1.1, h.2.2.1]
/-- a line that stops at a token -/
theorem m_stop {S1 S2 : zM} {f : Nat} {t' : zTk} {st' : zRt} (h0 : f ≠ 0) (hf : zfr (wML M) S S1) (f2 : zfr (fun b j => b = M ∧ (j = 27 ∨ j = 28)) S1 S2) (e1 : zI S2 M 27 = nI f) (e2 : zI S2 M 28 = nI t'.1) : eML S S2 M tx (f, t', st') :=
  ⟨fr_trans hf (fr_mono f2 (fun b j hb => by unfold wML; omega)), fun q => absurd q h0, fun _ => ⟨e1, e2⟩⟩
theorem m_has (h : mAll S M tx t st) : f_Mo_hasScript M S = some (if 0 < st.1 then 1 else 0, S) := by
  have w := h.2.2.2.2.2.2.2.1
  by_cases c : 0 < st.1
  · simp (disch := omega) [f_Mo_hasScript, -Prod.exists, -Prod.forall, ↓bb_gf, ↓bb_gr, ↓bb_len, ↓bb_ga, ↓bb_gl, ↓bb_go, ↓bb_pf, ↓bb_pz, ↓bb_pr, ↓bb_pa, ↓bb_pb, ↓bb_pl, ↓bb_po, ↓bb_cl, ↓bb_some, ↓bb_RI, ↓bb_RJ, mm_hI, mm_hJ, mm_hR, mm_nI, mm_nJ, mm_nR, mm_sI, mm_sJ, mm_sR, mm_RI, mm_RJ, mm_IJ, mm_IR, mm_JI, mm_JR, mm_II, mm_JJ, mm_RR, nn_lit, nI_add, pk_mul, nI_clamp, nI_ltI, nI_leI, nI_eq, nn_in, nn_eqm, nn_meq, nn_ltm, nn_mlt, nn_lem, nn_mle, nn_in_m, h.1.1.1.1, h.2.1, c, show ¬ st.1 ≤ 0 by omega]
  · simp (disch := omega) [f_Mo_hasScript, -Prod.exists, -Prod.forall, ↓bb_gf, ↓bb_gr, ↓bb_len, ↓bb_ga, ↓bb_gl, ↓bb_go, ↓bb_pf, ↓bb_pz, ↓bb_pr, ↓bb_pa, ↓bb_pb, ↓bb_pl, ↓bb_po, ↓bb_cl, ↓bb_some, ↓bb_RI, ↓bb_RJ, mm_hI, mm_hJ, mm_hR, mm_nI, mm_nJ, mm_nR, mm_sI, mm_sJ, mm_sR, mm_RI, mm_RJ, mm_IJ, mm_IR, mm_JI, mm_JR, mm_II, mm_JJ, mm_RR, nn_lit, nI_add, pk_mul, nI_clamp, nI_ltI, nI_leI, nI_eq, nn_in, nn_eqm, nn_meq, nn_ltm, nn_mlt, nn_lem, nn_mle, nn_in_m, h.1.1.1.1, h.2.1, c, show st.1 ≤ 0 by omega]
theorem m_needs {w : Nat} (h : pMr S M tx t) (hw : w < 13) : (zisw tx t w = true → ∃ S', f_Mo_needs M (1000000 + w) S = some (1, S') ∧ zfr (wMr M) S S' ∧ pMr S' M tx (znext tx t.2.1)) ∧ (zisw tx t w = false → ∃ S', f_Mo_needs M (1000000 + w) S = some (0, S') ∧ zfr (fun b j => b = M ∧ (j = 27 ∨ j = 28)) S S' ∧ zI S' M 27 = nI 1 ∧ zI S' M 28 = nI t.1) := by
  have is := m_is h hw
  have hh := h.1.1.1
  constructor
  · intro c
    rw [c] at is
    simp only [if_true] at is
    obtain ⟨S', e, f, p⟩ := m_next h
    refine ⟨S', ?_, f, p⟩
    simp [f_Mo_needs, -Prod.exists, -Prod.forall, ↓bb_gf, ↓bb_gr, ↓bb_len, ↓bb_ga, ↓bb_gl, ↓bb_go, ↓bb_pf, ↓bb_pz, ↓bb_pr, ↓bb_pa, ↓bb_pb, ↓bb_pl, ↓bb_po, ↓bb_cl, ↓bb_some, ↓bb_RI, ↓bb_RJ, mm_hI, mm_hJ, mm_hR, mm_nI, mm_nJ, mm_nR, mm_sI, mm_sJ, mm_sR, mm_RI, mm_RJ, mm_IJ, mm_IR, mm_JI, mm_JR, mm_II, mm_JJ, mm_RR, hh, ↓bS is, ↓bS e]
  · intro c
    rw [c] at is
    simp only [Bool.false_eq_true, if_false] at is
    obtain ⟨S', e, f, p⟩ := m_errs h 1
    have e' : f_Mo_errs M 1 S = some (0, S') := e
    refine ⟨S', ?_, f, p⟩
    simp [f_Mo_needs, -Prod.exists, -Prod.forall, ↓bb_gf, ↓bb_gr, ↓bb_len, ↓bb_ga, ↓bb_gl, ↓bb_go, ↓bb_pf, ↓bb_pz, ↓bb_pr, ↓bb_pa, ↓bb_pb, ↓bb_pl, ↓bb_po, ↓bb_cl, ↓bb_some, ↓bb_RI, ↓bb_RJ, mm_hI, mm_hJ, mm_hR, mm_nI, mm_nJ, mm_nR, mm_sI, mm_sJ, mm_sR, mm_RI, mm_RJ, mm_IJ, mm_IR, mm_JI, mm_JR, mm_II, mm_JJ, mm_RR, hh, ↓bS is, ↓bS e']
theorem ml_script (h : mAll S M tx t st) : (st.1 = 0 → ∃ S', f_Mo_readScript M S = some (if (zscriptLine tx t st).1 = 0 then 1 else 0, S') ∧ eML S S' M tx (zscriptLine tx t st)) ∧ (0 < st.1 → ∃ S', f_Mo_readScript M S = some (0, S') ∧ eML S S' M tx (3, t, st)) := by
  have hs := m_has h
  have hh := h.1.1.1.1
  constructor
  · intro c0
    rw [if_neg (by omega)] at hs
    obtain ⟨S1, e1, f1, p1⟩ := m_next h.1
    have hh1 : zh S1 M = (12, 0) := p1.1.1.1
    have f1' : zfr (wML M) S S1 := fr_mono f1 (fun b j hb => wMr_ML hb)
    obtain ⟨n1, n2⟩ := m_needs p1 (show 4 < 13 by omega)
    cases c1 : zisw tx (znext tx t.2.1) 4 with
    | false =>
      have ez : zscriptLine tx t st = (1, znext tx t.2.1, st) := by simp [zscriptLine, c1]
      rw [ez]
      obtain ⟨S2, e2, f2, x1, x2⟩ := n2 c1
      refine ⟨S2, ?_, m_stop (by omega) f1' f2 x1 x2⟩
      simp [f_Mo_readScript, -Prod.exists, -Prod.forall, ↓bb_gf, ↓bb_gr, ↓bb_len, ↓bb_ga, ↓bb_gl, ↓bb_go, ↓bb_pf, ↓bb_pz, ↓bb_pr, ↓bb_pa, ↓bb_pb, ↓bb_pl, ↓bb_po, ↓bb_cl, ↓bb_some, ↓bb_RI, ↓bb_RJ, mm_hI, mm_hJ, mm_hR, mm_nI, mm_nJ, mm_nR, mm_sI, mm_sJ, mm_sR, mm_RI, mm_RJ, mm_IJ, mm_IR, mm_JI, mm_JR, mm_II, mm_JJ, mm_RR, hh, ↓bS hs, ↓bS e1, hh1, ↓bS e2]
    | true =>
      obtain ⟨S2, e2, f2, p2⟩ := n1 c1
      have hh2 : zh S2 M = (12, 0) := p2.1.1.1
      have f2' : zfr (wML M) S S2 := fr_trans f1' (fr_mono f2 (fun b j hb => wMr_ML hb))
      obtain ⟨t2, ht2⟩ : ∃ t2, t2 = znext tx (znext tx t.2.1).2.1 := ⟨_, rfl⟩
      rw [← ht2] at p2
      have tk := tk_1 p2.2.2.2.2.1.2.2.1
      have h25 := p2.2.2.2.1
      by_cases c2 : t2.2.2 = 2
      · have h25' : zI S2 M 25 = 3 := by rw [h25, tk.2.1.2 c2]; rfl
        have h26 := p2.2.2.2.2.2 c2
        obtain ⟨d1, d2, d3⟩ := p2.2.2.2.2.1.2.2.2.2.2 c2
        obtain ⟨c, hc⟩ : ∃ c, c = lg tx t2.1 := ⟨_, rfl⟩
        rw [← hc] at h26 d2 d3
        have ii : f_Mo_in (nI (c - 48)) 2 4 S2 = some (if 2 ≤ c - 48 ∧ c - 48 ≤ 4 then 1 else 0, S2) := m_in (lo := 2) (hi := 4) (by omega) (by omega) (by omega)
        rw [← h26] at ii
        by_cases c3 : c < 50 ∨ 52 < c
        · have ez : zscriptLine tx t st = (2, t2, st) := by
            simp only [zscriptLine, c1, if_true, ← ht2, c2, ← hc, if_pos c3]
          rw [ez]
          rw [if_neg (by omega)] at ii
          obtain ⟨S3, e3, f3, x1, x2⟩ := m_errs p2 2
          have e3' : f_Mo_errs M 2 S2 = some (0, S3) := e3
          refine ⟨S3, ?_, m_stop (by omega) f2' f3 x1 x2⟩
          simp [f_Mo_readScript, -Prod.exists, -Prod.forall, ↓bb_gf, ↓bb_gr, ↓bb_len, ↓bb_ga, ↓bb_gl, ↓bb_go, ↓bb_pf, ↓bb_pz, ↓bb_pr, ↓bb_pa, ↓bb_pb, ↓bb_pl, ↓bb_po, ↓bb_cl, ↓bb_some, ↓bb_RI, ↓bb_RJ, mm_hI, mm_hJ, mm_hR, mm_nI, mm_nJ, mm_nR, mm_sI, mm_sJ, mm_sR, mm_RI, mm_RJ, mm_IJ, mm_IR, mm_JI, mm_JR, mm_II, mm_JJ, mm_RR, hh, ↓bS hs, ↓bS e1, hh1, ↓bS e2, hh2, h25', ↓bS ii, ↓bS e3']
        · have ez : zscriptLine tx t st = (0, znext tx t2.2.1, (c - 48, st.2)) := by
            simp only [zscriptLine, c1, if_true, ← ht2, c2, ← hc, if_neg c3]
          rw [ez]
          rw [if_pos (by omega)] at ii
          have fw : zfr (fun b j => b = M ∧ j = 14) S2 (zwI S2 M 14 (nI (c - 48))) := fr_wI _ _ ⟨rfl, rfl⟩
          have p3 : pMr (zwI S2 M 14 (nI (c - 48))) M tx t2 := pMr_fr p2 fw (by omega) (fun j => by omega)
          obtain ⟨S4, e4, f4, p4⟩ := m_next p3
          have ms2 : mScr S2 M st := mScr_fr (mScr_fr h.2 f1 (by unfold wMr; omega) (fun b j _ _ => by unfold wMr; omega)) f2 (by unfold wMr; omega) (fun b j _ _ => by unfold wMr; omega)
          have ms3 : mScr (zwI S2 M 14 (nI (c - 48))) M (c - 48, st.2) := by
            obtain ⟨a1, a2, a3, a4, a5, a6, w⟩ := ms2
            refine ⟨by simp [mm_II], by simp [mm_II, a2], by simp [mm_II, a3], fun k hk => by simp [mm_II, a4 k hk], fun k hk => a5 k hk, fun p hp => ?_, ⟨by simp only; omega, w.2⟩⟩
            obtain ⟨b1, b2, b3⟩ := a6 p hp
            have wr := ps_w w.2.2.2.2.2 hp
            exact ⟨by simp [mm_II, b1], by simp [mm_II, b2], fun i hi => mRu_eq (b3 i hi) ⟨(ru_w wr hi).2.1, (ru_w wr hi).2.2.1⟩ (fun j _ _ => by simp [mm_II])⟩
          have mA := m_all ms3 p4 f4
          refine ⟨S4, ?_, fr_trans f2' (fr_trans (fr_mono fw (fun b j hb => by unfold wML; omega)) (fr_mono f4 (fun b j hb => wMr_ML hb))), fun _ => mA, fun q => absurd rfl q⟩
          simp [f_Mo_readScript, -Prod.exists, -Prod.forall, ↓bb_gf, ↓bb_gr, ↓bb_len, ↓bb_ga, ↓bb_gl, ↓bb_go, ↓bb_pf, ↓bb_pz, ↓bb_pr, ↓bb_pa, ↓bb_pb, ↓bb_pl, ↓bb_po, ↓bb_cl, ↓bb_some, ↓bb_RI, ↓bb_RJ, mm_hI, mm_hJ, mm_hR, mm_nI, mm_nJ, mm_nR, mm_sI, mm_sJ, mm_sR, mm_RI, mm_RJ, mm_IJ, mm_IR, mm_JI, mm_JR, mm_II, mm_JJ, mm_RR, hh, ↓bS hs, ↓bS e1, hh1, ↓bS e2, hh2, h25', ↓bS ii, h26, ↓bS e4]
      · have ez : zscriptLine tx t st = (1, t2, st) := by
          simp only [zscriptLine, c1, if_true, ← ht2, if_neg c2]
        rw [ez]
        have n3 : ¬ zI S2 M 25 = 3 := by
          rw [h25]
          intro z
          exact c2 (tk.2.1.1 ((nI_eq (b := 3) (by omega) (by omega)).1 z))
        obtain ⟨S3, e3, f3, x1, x2⟩ := m_errs p2 1
        have e3' : f_Mo_errs M 1 S2 = some (0, S3) := e3
        refine ⟨S3, ?_, m_stop (by omega) f2' f3 x1 x2⟩
        simp [f_Mo_readScript, -Prod.exists, -Prod.forall, ↓bb_gf, ↓bb_gr, ↓bb_len, ↓bb_ga, ↓bb_gl, ↓bb_go, ↓bb_pf, ↓bb_pz, ↓bb_pr, ↓bb_pa, ↓bb_pb, ↓bb_pl, ↓bb_po, ↓bb_cl, ↓bb_some, ↓bb_RI, ↓bb_RJ, mm_hI, mm_hJ, mm_hR, mm_nI, mm_nJ, mm_nR, mm_sI, mm_sJ, mm_sR, mm_RI, mm_RJ, mm_IJ, mm_IR, mm_JI, mm_JR, mm_II, mm_JJ, mm_RR, hh, ↓bS hs, ↓bS e1, hh1, ↓bS e2, hh2, n3, ↓bS e3']
  · intro c0
    rw [if_pos c0] at hs
    obtain ⟨S3, e3, f3, x1, x2⟩ := m_errs h.1 3
    have e3' : f_Mo_errs M 3 S = some (0, S3) := e3
    refine ⟨S3, ?_, m_stop (by omega) (fr_refl _ _) f3 x1 x2⟩
    simp [f_Mo_readScript, -Prod.exists, -Prod.forall, ↓bb_gf, ↓bb_gr, ↓bb_len, ↓bb_ga, ↓bb_gl, ↓bb_go, ↓bb_pf, ↓bb_pz, ↓bb_pr, ↓bb_pa, ↓bb_pb, ↓bb_pl, ↓bb_po, ↓bb_cl, ↓bb_some, ↓bb_RI, ↓bb_RJ, mm_hI, mm_hJ, mm_hR, mm_nI, mm_nJ, mm_nR, mm_sI, mm_sJ, mm_sR, mm_RI, mm_RJ, mm_IJ, mm_IR, mm_JI, mm_JR, mm_II, mm_JJ, mm_RR, hh, ↓bS hs, ↓bS e3']
theorem m_kind_l (h : mAll S M tx t st) (h1 : t.2.2 = 1) : ∀ d F k, d + k = st.2.1.length → d < F → (∀ j, j < k → lnm st.2.1 j ≠ zsl tx t) → L_Mo_kindHere_2 F M (nI k) S = some (if zsl tx t ∈ st.2.1 then nI (st.2.1.idxOf (zsl tx t)) else -1, S) := by
  have hh := h.1.1.1
  have sp := m_spelt h.1 h1
  have hn := sl_nm h.1.2.2.2.2.1 h1
  obtain ⟨hp, a1, a2, a3, a4, a5, a6, w1, w2, w3, w4, w5, w6⟩ := h
  intro d
  induction d with
  | zero =>
    intro F k hd hF hs
    cases F with
    | zero => omega
    | succ F =>
      have hni : ¬ zsl tx t ∈ st.2.1 := by
        intro q
        have := List.idxOf_lt_length_iff.2 q
        exact hs (st.2.1.idxOf (zsl tx t)) (by omega) (by simp [lnm, this])
      rw [if_neg hni]
      simp (disch := omega) [L_Mo_kindHere_2, -Prod.exists, -Prod.forall, ↓bb_gf, ↓bb_gr, ↓bb_len, ↓bb_ga, ↓bb_gl, ↓bb_go, ↓bb_pf, ↓bb_pz, ↓bb_pr, ↓bb_pa, ↓bb_pb, ↓bb_pl, ↓bb_po, ↓bb_cl, ↓bb_some, ↓bb_RI, ↓bb_RJ, mm_hI, mm_hJ, mm_hR, mm_nI, mm_nJ, mm_nR, mm_sI, mm_sJ, mm_sR, mm_RI, mm_RJ, mm_IJ, mm_IR, mm_JI, mm_JR, mm_II, mm_JJ, mm_RR, nn_lit, nI_add, pk_mul, nI_clamp, nI_ltI, nI_leI, nI_eq, nn_in, nn_eqm, nn_meq, nn_ltm, nn_mlt, nn_lem, nn_mle, nn_in_m, hh.1, a2, show ¬ k < st.2.2.1.length by omega]
  | succ d ih =>
    intro F k hd hF hs
    cases F with
    | zero => omega
    | succ F =>
      have hk : k < st.2.1.length := by omega
      have hkn : lnm st.2.1 k ∈ st.2.1 := by
        have : lnm st.2.1 k = st.2.1[k] := by simp [lnm, hk]
        rw [this]; exact List.getElem_mem hk
      have ej := a5 k hk
      have b9 := n32_b hn
      have b10 := n32_b (w5 _ hkn)
      by_cases e : lnm st.2.1 k = zsl tx t
      · have hi : zsl tx t ∈ st.2.1 := by rw [← e]; exact hkn
        have hx : st.2.1.idxOf (zsl tx t) = k := by
          have h1 : st.2.1.idxOf (zsl tx t) ≤ k := idx_le _ _ hk e
          have h2 : ¬ st.2.1.idxOf (zsl tx t) < k := by
            intro q
            have h3 : st.2.1.idxOf (zsl tx t) < st.2.1.length := by omega
            exact hs (st.2.1.idxOf (zsl tx t)) q (by simp [lnm, h3])
          omega
        rw [if_pos hi, hx]
        have hc : lg_cmp (lN (zn32 (lnm st.2.1 k))) (lN (zn32 (zsl tx t))) = nI 0 := by rw [e]; exact (lg_cmp_eq _ _).2 rfl
        simp (disch := omega) [L_Mo_kindHere_2, -Prod.exists, -Prod.forall, ↓bb_gf, ↓bb_gr, ↓bb_len, ↓bb_ga, ↓bb_gl, ↓bb_go, ↓bb_pf, ↓bb_pz, ↓bb_pr, ↓bb_pa, ↓bb_pb, ↓bb_pl, ↓bb_po, ↓bb_cl, ↓bb_some, ↓bb_RI, ↓bb_RJ, mm_hI, mm_hJ, mm_hR, mm_nI, mm_nJ, mm_nR, mm_sI, mm_sJ, mm_sR, mm_RI, mm_RJ, mm_IJ, mm_IR, mm_JI, mm_JR, mm_II, mm_JJ, mm_RR, nn_lit, nI_add, pk_mul, nI_clamp, nI_ltI, nI_leI, nI_eq, nn_in, nn_eqm, nn_meq, nn_ltm, nn_mlt, nn_lem, nn_mle, nn_in_m, hh.1, a2, show k < st.2.2.1.length by omega, ↓bS (mo_kindNames hh), mh_kindNames hh, show k < 4 by omega, ↓bS sp, ej, hc]
      · have hc : ¬ lg_cmp (lN (zn32 (lnm st.2.1 k))) (lN (zn32 (zsl tx t))) = nI 0 := by
          intro q
          have q2 := (lg_cmp_eq _ _).1 q
          exact e (n32_inj _ _ _ rfl (w5 _ hkn).2 hn.2 ((fb_lN_inj (by omega) (by omega)).1 q2))
        rw [← ih F (k + 1) (by omega) (by omega) (fun j hj => by
          by_cases q : j = k
          · subst q; exact e
          · exact hs j (by omega))]
        simp (disch := omega) [L_Mo_kindHere_2, -Prod.exists, -Prod.forall, ↓bb_gf, ↓bb_gr, ↓bb_len, ↓bb_ga, ↓bb_gl, ↓bb_go, ↓bb_pf, ↓bb_pz, ↓bb_pr, ↓bb_pa, ↓bb_pb, ↓bb_pl, ↓bb_po, ↓bb_cl, ↓bb_some, ↓bb_RI, ↓bb_RJ, mm_hI, mm_hJ, mm_hR, mm_nI, mm_nJ, mm_nR, mm_sI, mm_sJ, mm_sR, mm_RI, mm_RJ, mm_IJ, mm_IR, mm_JI, mm_JR, mm_II, mm_JJ, mm_RR, nn_lit, nI_add, pk_mul, nI_clamp, nI_ltI, nI_leI, nI_eq, nn_in, nn_eqm, nn_meq, nn_ltm, nn_mlt, nn_lem, nn_mle, nn_in_m, hh.1, a2, show k < st.2.2.1.length by omega, ↓bS (mo_kindNames hh), mh_kindNames hh, show k < 4 by omega, ↓bS sp, ej, hc]
theorem m_kind (h : mAll S M tx t st) (h1 : t.2.2 = 1) : f_Mo_kindHere M S = some (if zsl tx t ∈ st.2.1 then nI (st.2.1.idxOf (zsl tx t)) else -1, S) := by
  have w := h.2.2.2.2.2.2.2
  exact m_kind_l h h1 st.2.1.length zF 0 (by omega) (by rw [zF_eq]; have := w.2.1; have := w.2.2.1; omega) (fun j hj => by omega)
end
