/-! the reference's reader: tokens -/
def tkM (s : Nat) : Nat := if s = 1 then 2 else if s = 2 then 3 else if s = 3 then 59 else if s = 4 then 1 else 0
def bMr (S : zM) (M : Nat) (tx : List Nat) : Prop := sMo S M ∧ (∀ k, k < tx.length → zI S (M + 1) k = nI (lg tx k)) ∧ zI S M 22 = nI tx.length ∧ tx.length ≤ 900 ∧ ∀ k, lg tx k < 256
def pMr (S : zM) (M : Nat) (tx : List Nat) (t : zTk) : Prop := bMr S M tx ∧ zI S M 24 = nI t.2.1 ∧ zI S M 23 = nI t.1 ∧ zI S M 25 = nI (tkM t.2.2) ∧ wTk tx t ∧ (t.2.2 = 2 → zI S M 26 = nI (lg tx t.1 - 48))
def wMr (M : Nat) : Nat → Nat → Prop := fun b j => b = M ∧ (j = 23 ∨ j = 24 ∨ j = 25 ∨ j = 26)
theorem bMr_fr {W : Nat → Nat → Prop} {S S' : zM} {M : Nat} {tx : List Nat} (h : bMr S M tx) (hf : zfr W S S') (h1 : ¬ W M 22) (h2 : ∀ j, ¬ W (M + 1) j) : bMr S' M tx := by
  obtain ⟨a1, a2, a3, a4, a5⟩ := h
  exact ⟨mo_fr a1 hf, fun k hk => by rw [fr_I hf (h2 k)]; exact a2 k hk, by rw [fr_I hf h1]; exact a3, a4, a5⟩
theorem bMr_w {S S' : zM} {M : Nat} {tx : List Nat} (h : bMr S M tx) (hf : zfr (wMr M) S S') : bMr S' M tx := bMr_fr h hf (by unfold wMr; omega) (fun j => by unfold wMr; omega)
theorem pMr_fr {W : Nat → Nat → Prop} {S S' : zM} {M : Nat} {tx : List Nat} {t : zTk} (h : pMr S M tx t) (hf : zfr W S S') (h0 : ¬ W M 22 ∧ ¬ W M 23 ∧ ¬ W M 24 ∧ ¬ W M 25 ∧ ¬ W M 26) (h2 : ∀ j, ¬ W (M + 1) j) : pMr S' M tx t := by
  obtain ⟨a1, a2, a3, a4, a5, a6⟩ := h
  exact ⟨bMr_fr a1 hf h0.1 h2, by rw [fr_I hf h0.2.2.1]; exact a2, by rw [fr_I hf h0.2.1]; exact a3, by rw [fr_I hf h0.2.2.2.1]; exact a4, a5, fun q => by rw [fr_I hf h0.2.2.2.2]; exact a6 q⟩
theorem m_in {S : zM} {c lo hi : Nat} (hc : c < 2 ^ 31) (h1 : lo < 2 ^ 31) (h2 : hi < 2 ^ 31) : f_Mo_in (nI c) (nI lo) (nI hi) S = some (if lo ≤ c ∧ c ≤ hi then 1 else 0, S) := by
  by_cases c1 : c < lo
  · simp (disch := omega) [f_Mo_in, nn_lit, nI_add, pk_mul, nI_clamp, nI_ltI, nI_leI, nI_eq, nn_in, nn_eqm, nn_meq, nn_ltm, nn_mlt, nn_lem, nn_mle, nn_in_m, c1, show ¬ (lo ≤ c ∧ c ≤ hi) by omega]
  · by_cases c2 : c ≤ hi
    · simp (disch := omega) [f_Mo_in, nn_lit, nI_add, pk_mul, nI_clamp, nI_ltI, nI_leI, nI_eq, nn_in, nn_eqm, nn_meq, nn_ltm, nn_mlt, nn_lem, nn_mle, nn_in_m, c1, c2, show lo ≤ c by omega]
    · simp (disch := omega) [f_Mo_in, nn_lit, nI_add, pk_mul, nI_clamp, nI_ltI, nI_leI, nI_eq, nn_in, nn_eqm, nn_meq, nn_ltm, nn_mlt, nn_lem, nn_mle, nn_in_m, c1, c2]
theorem m_inN {S : zM} {x lo hi : Int32} (h : x < lo) : f_Mo_in x lo hi S = some (0, S) := by
  simp [f_Mo_in, h]
theorem m_see {S : zM} {M : Nat} {tx : List Nat} (h : bMr S M tx) {k : Nat} (hk : k < 2 ^ 31) : f_Mo_see M (nI k) S = some (if k < tx.length then nI (lg tx k) else -1, S) := by
  obtain ⟨a1, a2, a3, a4, a5⟩ := h
  by_cases c : k < tx.length
  · simp (disch := omega) [f_Mo_see, -Prod.exists, -Prod.forall, ↓bb_gf, ↓bb_gr, ↓bb_len, ↓bb_ga, ↓bb_gl, ↓bb_go, ↓bb_pf, ↓bb_pz, ↓bb_pr, ↓bb_pa, ↓bb_pb, ↓bb_pl, ↓bb_po, ↓bb_cl, ↓bb_some, ↓bb_RI, ↓bb_RJ, mm_hI, mm_hJ, mm_hR, mm_nI, mm_nJ, mm_nR, mm_sI, mm_sJ, mm_sR, mm_RI, mm_RJ, mm_IJ, mm_IR, mm_JI, mm_JR, mm_II, mm_JJ, mm_RR, nn_lit, nI_add, pk_mul, nI_clamp, nI_ltI, nI_leI, nI_eq, nn_in, nn_eqm, nn_meq, nn_ltm, nn_mlt, nn_lem, nn_mle, nn_in_m, a1.1, a3, c, ↓bS (mo_tape a1), mh_tape a1, show k < 900 by omega, a2 k c]
  · simp (disch := omega) [f_Mo_see, -Prod.exists, -Prod.forall, ↓bb_gf, ↓bb_gr, ↓bb_len, ↓bb_ga, ↓bb_gl, ↓bb_go, ↓bb_pf, ↓bb_pz, ↓bb_pr, ↓bb_pa, ↓bb_pb, ↓bb_pl, ↓bb_po, ↓bb_cl, ↓bb_some, ↓bb_RI, ↓bb_RJ, mm_hI, mm_hJ, mm_hR, mm_nI, mm_nJ, mm_nR, mm_sI, mm_sJ, mm_sR, mm_RI, mm_RJ, mm_IJ, mm_IR, mm_JI, mm_JR, mm_II, mm_JJ, mm_RR, nn_lit, nI_add, pk_mul, nI_clamp, nI_ltI, nI_leI, nI_eq, nn_in, nn_eqm, nn_meq, nn_ltm, nn_mlt, nn_lem, nn_mle, nn_in_m, a1.1, a3, c]
theorem kd1 (c : Nat) : (zkd c = 1) ↔ (97 ≤ c ∧ c ≤ 122) := by
  unfold zkd
  constructor
  · intro h
    split at h
    · assumption
    · split at h
      · omega
      · split at h <;> omega
  · intro h; rw [if_pos h]
theorem kd2 (c : Nat) : (zkd c = 2) ↔ (48 ≤ c ∧ c ≤ 57) := by
  unfold zkd
  constructor
  · intro h
    split at h
    · omega
    · split at h
      · assumption
      · split at h <;> omega
  · intro h; rw [if_neg (by omega), if_pos h]
section
variable {S0 : zM} {M : Nat} {tx : List Nat}
theorem mgo_0 (h : bMr S0 M tx) {k26 : Nat → zM → Option zM} (Q : Option zM → Prop) : ∀ f F p (S : zM), tx.length - p ≤ f → f < F → p ≤ tx.length → zfr (wMr M) S0 S → zI S M 24 = nI p → (∀ S', zfr (wMr M) S0 S' → zI S' M 24 = nI (zskip tx f p) → Q (k26 M S')) → Q (L_Mo_goesOn_0 k26 F M S) := by
  have h900 := h.2.2.2.1
  intro f
  induction f with
  | zero =>
    intro F p S hf hF hp hfr h2 HK
    cases F with
    | zero => omega
    | succ F =>
      have hb := bMr_w h hfr
      have se := m_see hb (k := p) (by omega)
      rw [if_neg (by omega)] at se
      have := HK S hfr h2
      have n1 : ¬ (-1 : Int32) = 32 := by decide
      simp (disch := omega) [L_Mo_goesOn_0, -Prod.exists, -Prod.forall, ↓bb_gf, ↓bb_gr, ↓bb_len, ↓bb_ga, ↓bb_gl, ↓bb_go, ↓bb_pf, ↓bb_pz, ↓bb_pr, ↓bb_pa, ↓bb_pb, ↓bb_pl, ↓bb_po, ↓bb_cl, ↓bb_some, ↓bb_RI, ↓bb_RJ, mm_hI, mm_hJ, mm_hR, mm_nI, mm_nJ, mm_nR, mm_sI, mm_sJ, mm_sR, mm_RI, mm_RJ, mm_IJ, mm_IR, mm_JI, mm_JR, mm_II, mm_JJ, mm_RR, hb.1.1, h2, ↓bS se, n1]
      exact this
  | succ f ih =>
    intro F p S hf hF hp hfr h2 HK
    cases F with
    | zero => omega
    | succ F =>
      have hb := bMr_w h hfr
      have se := m_see hb (k := p) (by omega)
      by_cases hlt : p < tx.length
      · rw [if_pos hlt] at se
        have c8 := h.2.2.2.2 p
        by_cases h32 : lg tx p = 32
        · rw [h32] at se
          have n32 : nI 32 = 32 := rfl
          simp (disch := omega) [L_Mo_goesOn_0, -Prod.exists, -Prod.forall, ↓bb_gf, ↓bb_gr, ↓bb_len, ↓bb_ga, ↓bb_gl, ↓bb_go, ↓bb_pf, ↓bb_pz, ↓bb_pr, ↓bb_pa, ↓bb_pb, ↓bb_pl, ↓bb_po, ↓bb_cl, ↓bb_some, ↓bb_RI, ↓bb_RJ, mm_hI, mm_hJ, mm_hR, mm_nI, mm_nJ, mm_nR, mm_sI, mm_sJ, mm_sR, mm_RI, mm_RJ, mm_IJ, mm_IR, mm_JI, mm_JR, mm_II, mm_JJ, mm_RR, hb.1.1, h2, ↓bS se, n32, nI_1]
          refine ih F (p + 1) _ (by omega) (by omega) (by omega) (fr_trans hfr (fr_wI _ _ (by unfold wMr; omega))) (by simp [mm_II]) (fun S' f1 f2 => HK S' f1 ?_)
          rw [zskip, if_pos ⟨hlt, h32⟩]; exact f2
        · have n32 : ¬ nI (lg tx p) = 32 := fun z => h32 ((nI_eq (b := 32) (by omega) (by omega)).1 z)
          have := HK S hfr (by rw [zskip, if_neg (fun q => h32 q.2)]; exact h2)
          simp (disch := omega) [L_Mo_goesOn_0, -Prod.exists, -Prod.forall, ↓bb_gf, ↓bb_gr, ↓bb_len, ↓bb_ga, ↓bb_gl, ↓bb_go, ↓bb_pf, ↓bb_pz, ↓bb_pr, ↓bb_pa, ↓bb_pb, ↓bb_pl, ↓bb_po, ↓bb_cl, ↓bb_some, ↓bb_RI, ↓bb_RJ, mm_hI, mm_hJ, mm_hR, mm_nI, mm_nJ, mm_nR, mm_sI, mm_sJ, mm_sR, mm_RI, mm_RJ, mm_IJ, mm_IR, mm_JI, mm_JR, mm_II, mm_JJ, mm_RR, hb.1.1, h2, ↓bS se, n32]
          exact this
      · rw [if_neg hlt] at se
        have n1 : ¬ (-1 : Int32) = 32 := by decide
        have := HK S hfr (by rw [zskip, if_neg (fun q => hlt q.1)]; exact h2)
        simp (disch := omega) [L_Mo_goesOn_0, -Prod.exists, -Prod.forall, ↓bb_gf, ↓bb_gr, ↓bb_len, ↓bb_ga, ↓bb_gl, ↓bb_go, ↓bb_pf, ↓bb_pz, ↓bb_pr, ↓bb_pa, ↓bb_pb, ↓bb_pl, ↓bb_po, ↓bb_cl, ↓bb_some, ↓bb_RI, ↓bb_RJ, mm_hI, mm_hJ, mm_hR, mm_nI, mm_nJ, mm_nR, mm_sI, mm_sJ, mm_sR, mm_RI, mm_RJ, mm_IJ, mm_IR, mm_JI, mm_JR, mm_II, mm_JJ, mm_RR, hb.1.1, h2, ↓bS se, n1]
        exact this
theorem mgo_65 (h : bMr S0 M tx) {k96 : Nat → zM → Option zM} (Q : Option zM → Prop) : ∀ f F p (S : zM), tx.length - p ≤ f → f < F → p ≤ tx.length → zfr (wMr M) S0 S → zI S M 24 = nI p → (∀ S', zfr (wMr M) S0 S' → zI S' M 24 = nI (zrun tx 1 f p) → zI S' M 23 = zI S M 23 → Q (k96 M S')) → Q (L_Mo_goesOn_65 k96 F M S) := by
  have h900 := h.2.2.2.1
  have inm : ∀ S : zM, f_Mo_in (-1) 97 122 S = some (0, S) := fun S => m_inN (by decide)
  intro f
  induction f with
  | zero =>
    intro F p S hf hF hp hfr h2 HK
    cases F with
    | zero => omega
    | succ F =>
      have hb := bMr_w h hfr
      have se := m_see hb (k := p) (by omega)
      rw [if_neg (by omega)] at se
      have := HK S hfr h2 rfl
      simp (disch := omega) [L_Mo_goesOn_65, -Prod.exists, -Prod.forall, ↓bb_gf, ↓bb_gr, ↓bb_len, ↓bb_ga, ↓bb_gl, ↓bb_go, ↓bb_pf, ↓bb_pz, ↓bb_pr, ↓bb_pa, ↓bb_pb, ↓bb_pl, ↓bb_po, ↓bb_cl, ↓bb_some, ↓bb_RI, ↓bb_RJ, mm_hI, mm_hJ, mm_hR, mm_nI, mm_nJ, mm_nR, mm_sI, mm_sJ, mm_sR, mm_RI, mm_RJ, mm_IJ, mm_IR, mm_JI, mm_JR, mm_II, mm_JJ, mm_RR, hb.1.1, h2, ↓bS se, ↓bS (inm S)]
      exact this
  | succ f ih =>
    intro F p S hf hF hp hfr h2 HK
    cases F with
    | zero => omega
    | succ F =>
      have hb := bMr_w h hfr
      have se := m_see hb (k := p) (by omega)
      by_cases hlt : p < tx.length
      · rw [if_pos hlt] at se
        have c8 := h.2.2.2.2 p
        have ii : f_Mo_in (nI (lg tx p)) 97 122 S = some (if 97 ≤ lg tx p ∧ lg tx p ≤ 122 then 1 else 0, S) := m_in (lo := 97) (hi := 122) (by omega) (by omega) (by omega)
        by_cases hk : 97 ≤ lg tx p ∧ lg tx p ≤ 122
        · rw [if_pos hk] at ii
          simp (disch := omega) [L_Mo_goesOn_65, -Prod.exists, -Prod.forall, ↓bb_gf, ↓bb_gr, ↓bb_len, ↓bb_ga, ↓bb_gl, ↓bb_go, ↓bb_pf, ↓bb_pz, ↓bb_pr, ↓bb_pa, ↓bb_pb, ↓bb_pl, ↓bb_po, ↓bb_cl, ↓bb_some, ↓bb_RI, ↓bb_RJ, mm_hI, mm_hJ, mm_hR, mm_nI, mm_nJ, mm_nR, mm_sI, mm_sJ, mm_sR, mm_RI, mm_RJ, mm_IJ, mm_IR, mm_JI, mm_JR, mm_II, mm_JJ, mm_RR, hb.1.1, h2, ↓bS se, ↓bS ii, nI_1]
          refine ih F (p + 1) _ (by omega) (by omega) (by omega) (fr_trans hfr (fr_wI _ _ (by unfold wMr; omega))) (by simp [mm_II]) (fun S' f1 f2 f3 => HK S' f1 ?_ (by rw [f3]; simp [mm_II]))
          rw [zrun, if_pos ⟨hlt, (kd1 _).2 hk⟩]; exact f2
        · rw [if_neg hk] at ii
          have := HK S hfr (by rw [zrun, if_neg (fun q => hk ((kd1 _).1 q.2))]; exact h2) rfl
          simp (disch := omega) [L_Mo_goesOn_65, -Prod.exists, -Prod.forall, ↓bb_gf, ↓bb_gr, ↓bb_len, ↓bb_ga, ↓bb_gl, ↓bb_go, ↓bb_pf, ↓bb_pz, ↓bb_pr, ↓bb_pa, ↓bb_pb, ↓bb_pl, ↓bb_po, ↓bb_cl, ↓bb_some, ↓bb_RI, ↓bb_RJ, mm_hI, mm_hJ, mm_hR, mm_nI, mm_nJ, mm_nR, mm_sI, mm_sJ, mm_sR, mm_RI, mm_RJ, mm_IJ, mm_IR, mm_JI, mm_JR, mm_II, mm_JJ, mm_RR, hb.1.1, h2, ↓bS se, ↓bS ii]
          exact this
      · rw [if_neg hlt] at se
        have := HK S hfr (by rw [zrun, if_neg (fun q => hlt q.1)]; exact h2) rfl
        simp (disch := omega) [L_Mo_goesOn_65, -Prod.exists, -Prod.forall, ↓bb_gf, ↓bb_gr, ↓bb_len, ↓bb_ga, ↓bb_gl, ↓bb_go, ↓bb_pf, ↓bb_pz, ↓bb_pr, ↓bb_pa, ↓bb_pb, ↓bb_pl, ↓bb_po, ↓bb_cl, ↓bb_some, ↓bb_RI, ↓bb_RJ, mm_hI, mm_hJ, mm_hR, mm_nI, mm_nJ, mm_nR, mm_sI, mm_sJ, mm_sR, mm_RI, mm_RJ, mm_IJ, mm_IR, mm_JI, mm_JR, mm_II, mm_JJ, mm_RR, hb.1.1, h2, ↓bS se, ↓bS (inm S)]
        exact this
theorem mgo_136 (h : bMr S0 M tx) {k200 : Nat → zM → Option zM} (Q : Option zM → Prop) {s : Nat} (hs : s < tx.length) : ∀ f F p (S : zM), tx.length - p ≤ f → f < F → s ≤ p → p ≤ tx.length → zfr (wMr M) S0 S → zI S M 24 = nI p → zI S M 23 = nI s → (s < p → zI S M 26 = nI (lg tx s - 48)) → (∀ S', zfr (wMr M) S0 S' → zI S' M 24 = nI (zrun tx 2 f p) → zI S' M 23 = nI s → (s < zrun tx 2 f p → zI S' M 26 = nI (lg tx s - 48)) → Q (k200 M S')) → Q (L_Mo_goesOn_136 k200 F M S) := by
  have h900 := h.2.2.2.1
  have inm : ∀ S : zM, f_Mo_in (-1) 48 57 S = some (0, S) := fun S => m_inN (by decide)
  intro f
  induction f with
  | zero =>
    intro F p S hf hF hsp hp hfr h2 h3 h26 HK
    cases F with
    | zero => omega
    | succ F =>
      have hb := bMr_w h hfr
      have se := m_see hb (k := p) (by omega)
      rw [← h2] at se
      rw [if_neg (by omega)] at se
      have := HK S hfr h2 h3 h26
      simp (disch := omega) [L_Mo_goesOn_136, -Prod.exists, -Prod.forall, ↓bb_gf, ↓bb_gr, ↓bb_len, ↓bb_ga, ↓bb_gl, ↓bb_go, ↓bb_pf, ↓bb_pz, ↓bb_pr, ↓bb_pa, ↓bb_pb, ↓bb_pl, ↓bb_po, ↓bb_cl, ↓bb_some, ↓bb_RI, ↓bb_RJ, mm_hI, mm_hJ, mm_hR, mm_nI, mm_nJ, mm_nR, mm_sI, mm_sJ, mm_sR, mm_RI, mm_RJ, mm_IJ, mm_IR, mm_JI, mm_JR, mm_II, mm_JJ, mm_RR, hb.1.1, h2, ↓bS se, ↓bS (inm S)]
      exact this
  | succ f ih =>
    intro F p S hf hF hsp hp hfr h2 h3 h26 HK
    cases F with
    | zero => omega
    | succ F =>
      have hb := bMr_w h hfr
      have se := m_see hb (k := p) (by omega)
      rw [← h2] at se
      by_cases hlt : p < tx.length
      · rw [if_pos hlt] at se
        have c8 := h.2.2.2.2 p
        have ii : f_Mo_in (nI (lg tx p)) 48 57 S = some (if 48 ≤ lg tx p ∧ lg tx p ≤ 57 then 1 else 0, S) := m_in (lo := 48) (hi := 57) (by omega) (by omega) (by omega)
        by_cases hk : 48 ≤ lg tx p ∧ lg tx p ≤ 57
        · rw [if_pos hk] at ii
          have er : zrun tx 2 (f + 1) p = zrun tx 2 f (p + 1) := by rw [zrun, if_pos ⟨hlt, (kd2 _).2 hk⟩]
          rw [er] at HK
          by_cases e : p = s
          · subst e
            have ed : nI (lg tx p) - 48 = nI (lg tx p - 48) := pk_sub (a := lg tx p) (b := 48) (by omega)
            simp (disch := omega) [L_Mo_goesOn_136, -Prod.exists, -Prod.forall, ↓bb_gf, ↓bb_gr, ↓bb_len, ↓bb_ga, ↓bb_gl, ↓bb_go, ↓bb_pf, ↓bb_pz, ↓bb_pr, ↓bb_pa, ↓bb_pb, ↓bb_pl, ↓bb_po, ↓bb_cl, ↓bb_some, ↓bb_RI, ↓bb_RJ, mm_hI, mm_hJ, mm_hR, mm_nI, mm_nJ, mm_nR, mm_sI, mm_sJ, mm_sR, mm_RI, mm_RJ, mm_IJ, mm_IR, mm_JI, mm_JR, mm_II, mm_JJ, mm_RR, hb.1.1, h2, h3, ↓bS se, ↓bS ii, nI_1, ed]
            refine ih F (p + 1) _ (by omega) (by omega) (by omega) (by omega) (fr_trans hfr (fr_trans (fr_wI _ _ (by unfold wMr; omega)) (fr_wI _ _ (by unfold wMr; omega)))) (by simp [mm_II]) (by simp [mm_II, h3]) (fun _ => by simp [mm_II]) HK
          · have ne : ¬ nI p = nI s := fun z => e ((nI_eq (by omega) (by omega)).1 z)
            have h26' := h26 (by omega)
            simp (disch := omega) [L_Mo_goesOn_136, -Prod.exists, -Prod.forall, ↓bb_gf, ↓bb_gr, ↓bb_len, ↓bb_ga, ↓bb_gl, ↓bb_go, ↓bb_pf, ↓bb_pz, ↓bb_pr, ↓bb_pa, ↓bb_pb, ↓bb_pl, ↓bb_po, ↓bb_cl, ↓bb_some, ↓bb_RI, ↓bb_RJ, mm_hI, mm_hJ, mm_hR, mm_nI, mm_nJ, mm_nR, mm_sI, mm_sJ, mm_sR, mm_RI, mm_RJ, mm_IJ, mm_IR, mm_JI, mm_JR, mm_II, mm_JJ, mm_RR, hb.1.1, h2, h3, ↓bS se, ↓bS ii, nI_1, ne, h26']
            refine ih F (p + 1) _ (by omega) (by omega) (by omega) (by omega) (fr_trans hfr (fr_trans (fr_wI _ _ (by unfold wMr; omega)) (fr_wI _ _ (by unfold wMr; omega)))) (by simp [mm_II]) (by simp [mm_II, h3]) (fun _ => by simp [mm_II]) HK
        · rw [if_neg hk] at ii
          have er : zrun tx 2 (f + 1) p = p := by rw [zrun, if_neg (fun q => hk ((kd2 _).1 q.2))]
          rw [er] at HK
          have := HK S hfr h2 h3 h26
          simp (disch := omega) [L_Mo_goesOn_136, -Prod.exists, -Prod.forall, ↓bb_gf, ↓bb_gr, ↓bb_len, ↓bb_ga, ↓bb_gl, ↓bb_go, ↓bb_pf, ↓bb_pz, ↓bb_pr, ↓bb_pa, ↓bb_pb, ↓bb_pl, ↓bb_po, ↓bb_cl, ↓bb_some, ↓bb_RI, ↓bb_RJ, mm_hI, mm_hJ, mm_hR, mm_nI, mm_nJ, mm_nR, mm_sI, mm_sJ, mm_sR, mm_RI, mm_RJ, mm_IJ, mm_IR, mm_JI, mm_JR, mm_II, mm_JJ, mm_RR, hb.1.1, h2, ↓bS se, ↓bS ii]
          exact this
      · rw [if_neg hlt] at se
        have er : zrun tx 2 (f + 1) p = p := by rw [zrun, if_neg (fun q => hlt q.1)]
        rw [er] at HK
        have := HK S hfr h2 h3 h26
        simp (disch := omega) [L_Mo_goesOn_136, -Prod.exists, -Prod.forall, ↓bb_gf, ↓bb_gr, ↓bb_len, ↓bb_ga, ↓bb_gl, ↓bb_go, ↓bb_pf, ↓bb_pz, ↓bb_pr, ↓bb_pa, ↓bb_pb, ↓bb_pl, ↓bb_po, ↓bb_cl, ↓bb_some, ↓bb_RI, ↓bb_RJ, mm_hI, mm_hJ, mm_hR, mm_nI, mm_nJ, mm_nR, mm_sI, mm_sJ, mm_sR, mm_RI, mm_RJ, mm_IJ, mm_IR, mm_JI, mm_JR, mm_II, mm_JJ, mm_RR, hb.1.1, h2, ↓bS se, ↓bS (inm S)]
        exact this
end
