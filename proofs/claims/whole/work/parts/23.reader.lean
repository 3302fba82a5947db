/-! the class's reader: tokens -/
def bRd (S : zM) (rd q : Nat) (tx : List Nat) : Prop := zh S rd = (7, 0) ∧ zR S rd 0 = some q ∧ zh S q = (100, 900) ∧ q ≠ rd ∧ (∀ k, k < tx.length → zI S q k = nI (lg tx k)) ∧ zI S rd 1 = nI tx.length ∧ tx.length ≤ 900 ∧ ∀ k, lg tx k < 256
def pRd (S : zM) (rd q : Nat) (tx : List Nat) (t : zTk) : Prop := bRd S rd q tx ∧ zI S rd 2 = nI t.2.1 ∧ zI S rd 6 = nI t.1 ∧ zI S rd 5 = nI t.2.2 ∧ wTk tx t
def wRdr (rd : Nat) : Nat → Nat → Prop := fun b j => b = rd ∧ (j = 2 ∨ j = 5 ∨ j = 6)
theorem bRd_fr {W : Nat → Nat → Prop} {S S' : zM} {rd q : Nat} {tx : List Nat} (h : bRd S rd q tx) (hf : zfr W S S') (h1 : ¬ W rd 1) (h2 : ∀ j, ¬ W q j) : bRd S' rd q tx := by
  obtain ⟨a1, a2, a3, a4, a5, a6, a7, a8⟩ := h
  exact ⟨by rw [fr_h hf]; exact a1, by rw [fr_R hf]; exact a2, by rw [fr_h hf]; exact a3, a4, fun k hk => by rw [fr_I hf (h2 k)]; exact a5 k hk, by rw [fr_I hf h1]; exact a6, a7, a8⟩
theorem bRd_w {S S' : zM} {rd q : Nat} {tx : List Nat} (h : bRd S rd q tx) (hf : zfr (wRdr rd) S S') : bRd S' rd q tx := bRd_fr h hf (by unfold wRdr; omega) (fun j => by have := h.2.2.2.1; unfold wRdr; omega)
theorem pRd_fr {W : Nat → Nat → Prop} {S S' : zM} {rd q : Nat} {tx : List Nat} {t : zTk} (h : pRd S rd q tx t) (hf : zfr W S S') (h1 : ∀ j, ¬ W rd j) (h2 : ∀ j, ¬ W q j) : pRd S' rd q tx t := by
  obtain ⟨a1, a2, a3, a4, a5⟩ := h
  exact ⟨bRd_fr a1 hf (h1 1) h2, by rw [fr_I hf (h1 2)]; exact a2, by rw [fr_I hf (h1 6)]; exact a3, by rw [fr_I hf (h1 5)]; exact a4, a5⟩
theorem sortOf {S : zM} {c : Nat} (hc : c < 256) : f_Reader_sortOf (nI c) S = some (nI (zkd c), S) := by
  unfold zkd
  by_cases h1 : c < 97
  · by_cases h2 : c < 48
    · by_cases h3 : c = 59
      · omega
      · simp (disch := omega) [f_Reader_sortOf, nn_lit, nI_add, pk_mul, nI_clamp, nI_ltI, nI_leI, nI_eq, nn_in, nn_eqm, nn_meq, nn_ltm, nn_mlt, nn_lem, nn_mle, nn_in_m, h1, h2, h3, show ¬ (97 ≤ c ∧ c ≤ 122) by omega, show ¬ (48 ≤ c ∧ c ≤ 57) by omega]
    · by_cases h4 : c ≤ 57
      · simp (disch := omega) [f_Reader_sortOf, nn_lit, nI_add, pk_mul, nI_clamp, nI_ltI, nI_leI, nI_eq, nn_in, nn_eqm, nn_meq, nn_ltm, nn_mlt, nn_lem, nn_mle, nn_in_m, h1, h2, h4, show ¬ (97 ≤ c ∧ c ≤ 122) by omega, show (48 ≤ c ∧ c ≤ 57) by omega]
      · by_cases h3 : c = 59
        · simp (disch := omega) [f_Reader_sortOf, nn_lit, nI_add, pk_mul, nI_clamp, nI_ltI, nI_leI, nI_eq, nn_in, nn_eqm, nn_meq, nn_ltm, nn_mlt, nn_lem, nn_mle, nn_in_m, h1, h2, h3, h4, show ¬ (97 ≤ c ∧ c ≤ 122) by omega, show ¬ (48 ≤ c ∧ c ≤ 57) by omega]
        · simp (disch := omega) [f_Reader_sortOf, nn_lit, nI_add, pk_mul, nI_clamp, nI_ltI, nI_leI, nI_eq, nn_in, nn_eqm, nn_meq, nn_ltm, nn_mlt, nn_lem, nn_mle, nn_in_m, h1, h2, h3, h4, show ¬ (97 ≤ c ∧ c ≤ 122) by omega, show ¬ (48 ≤ c ∧ c ≤ 57) by omega]
  · by_cases h2 : c ≤ 122
    · simp (disch := omega) [f_Reader_sortOf, nn_lit, nI_add, pk_mul, nI_clamp, nI_ltI, nI_leI, nI_eq, nn_in, nn_eqm, nn_meq, nn_ltm, nn_mlt, nn_lem, nn_mle, nn_in_m, h1, h2, show (97 ≤ c ∧ c ≤ 122) by omega]
    · simp (disch := omega) [f_Reader_sortOf, nn_lit, nI_add, pk_mul, nI_clamp, nI_ltI, nI_leI, nI_eq, nn_in, nn_eqm, nn_meq, nn_ltm, nn_mlt, nn_lem, nn_mle, nn_in_m, h1, h2, show ¬ (97 ≤ c ∧ c ≤ 122) by omega, show ¬ (48 ≤ c ∧ c ≤ 57) by omega, show ¬ c < 48 by omega, show ¬ c ≤ 57 by omega, show ¬ c = 59 by omega]
section
variable {S0 : zM} {rd q : Nat} {tx : List Nat}
theorem next_0 (h : bRd S0 rd q tx) {k38 : Nat → zM → Option zM} (Q : Option zM → Prop) : ∀ f F p (S : zM), tx.length - p ≤ f → f < F → p ≤ tx.length → zfr (wRdr rd) S0 S → zI S rd 2 = nI p → (∀ S', zfr (wRdr rd) S0 S' → zI S' rd 2 = nI (zskip tx f p) → Q (k38 rd S')) → Q (L_Reader_next_0 k38 F rd S) := by
  have h900 := h.2.2.2.2.2.2.1
  intro f
  induction f with
  | zero =>
    intro F p S hf hF hp hfr h2 HK
    cases F with
    | zero => omega
    | succ F =>
      obtain ⟨a1, a2, a3, a4, a5, a6, a7, a8⟩ := bRd_w h hfr
      have := HK S hfr h2
      simp (disch := omega) [L_Reader_next_0, -Prod.exists, -Prod.forall, ↓bb_gf, ↓bb_gr, ↓bb_len, ↓bb_ga, ↓bb_gl, ↓bb_go, ↓bb_pf, ↓bb_pz, ↓bb_pr, ↓bb_pa, ↓bb_pb, ↓bb_pl, ↓bb_po, ↓bb_cl, ↓bb_some, ↓bb_RI, ↓bb_RJ, mm_hI, mm_hJ, mm_hR, mm_nI, mm_nJ, mm_nR, mm_sI, mm_sJ, mm_sR, mm_RI, mm_RJ, mm_IJ, mm_IR, mm_JI, mm_JR, mm_II, mm_JJ, mm_RR, nn_lit, nI_add, pk_mul, nI_clamp, nI_ltI, nI_leI, nI_eq, nn_in, nn_eqm, nn_meq, nn_ltm, nn_mlt, nn_lem, nn_mle, nn_in_m, a1, h2, a6, show ¬ p < tx.length by omega]
      exact this
  | succ f ih =>
    intro F p S hf hF hp hfr h2 HK
    cases F with
    | zero => omega
    | succ F =>
      obtain ⟨a1, a2, a3, a4, a5, a6, a7, a8⟩ := bRd_w h hfr
      by_cases hlt : p < tx.length
      · have c8 := a8 p
        have ec := a5 p hlt
        by_cases h32 : lg tx p = 32
        · simp (disch := omega) [L_Reader_next_0, -Prod.exists, -Prod.forall, ↓bb_gf, ↓bb_gr, ↓bb_len, ↓bb_ga, ↓bb_gl, ↓bb_go, ↓bb_pf, ↓bb_pz, ↓bb_pr, ↓bb_pa, ↓bb_pb, ↓bb_pl, ↓bb_po, ↓bb_cl, ↓bb_some, ↓bb_RI, ↓bb_RJ, mm_hI, mm_hJ, mm_hR, mm_nI, mm_nJ, mm_nR, mm_sI, mm_sJ, mm_sR, mm_RI, mm_RJ, mm_IJ, mm_IR, mm_JI, mm_JR, mm_II, mm_JJ, mm_RR, nn_lit, nI_add, pk_mul, nI_clamp, nI_ltI, nI_leI, nI_eq, nn_in, nn_eqm, nn_meq, nn_ltm, nn_mlt, nn_lem, nn_mle, nn_in_m, a1, h2, a6, hlt, ↓bS a2, a3, show p < 900 by omega, ec, h32]
          refine ih F (p + 1) _ (by omega) (by omega) (by omega) (fr_trans hfr (fr_wI _ _ (by unfold wRdr; omega))) (by simp [mm_II]) (fun S' f1 f2 => HK S' f1 ?_)
          rw [zskip, if_pos ⟨hlt, h32⟩]; exact f2
        · have := HK S hfr (by rw [zskip, if_neg (fun q => h32 q.2)]; exact h2)
          simp (disch := omega) [L_Reader_next_0, -Prod.exists, -Prod.forall, ↓bb_gf, ↓bb_gr, ↓bb_len, ↓bb_ga, ↓bb_gl, ↓bb_go, ↓bb_pf, ↓bb_pz, ↓bb_pr, ↓bb_pa, ↓bb_pb, ↓bb_pl, ↓bb_po, ↓bb_cl, ↓bb_some, ↓bb_RI, ↓bb_RJ, mm_hI, mm_hJ, mm_hR, mm_nI, mm_nJ, mm_nR, mm_sI, mm_sJ, mm_sR, mm_RI, mm_RJ, mm_IJ, mm_IR, mm_JI, mm_JR, mm_II, mm_JJ, mm_RR, nn_lit, nI_add, pk_mul, nI_clamp, nI_ltI, nI_leI, nI_eq, nn_in, nn_eqm, nn_meq, nn_ltm, nn_mlt, nn_lem, nn_mle, nn_in_m, a1, h2, a6, hlt, ↓bS a2, a3, show p < 900 by omega, ec, h32]
          exact this
      · have := HK S hfr (by rw [zskip, if_neg (fun q => hlt q.1)]; exact h2)
        simp (disch := omega) [L_Reader_next_0, -Prod.exists, -Prod.forall, ↓bb_gf, ↓bb_gr, ↓bb_len, ↓bb_ga, ↓bb_gl, ↓bb_go, ↓bb_pf, ↓bb_pz, ↓bb_pr, ↓bb_pa, ↓bb_pb, ↓bb_pl, ↓bb_po, ↓bb_cl, ↓bb_some, ↓bb_RI, ↓bb_RJ, mm_hI, mm_hJ, mm_hR, mm_nI, mm_nJ, mm_nR, mm_sI, mm_sJ, mm_sR, mm_RI, mm_RJ, mm_IJ, mm_IR, mm_JI, mm_JR, mm_II, mm_JJ, mm_RR, nn_lit, nI_add, pk_mul, nI_clamp, nI_ltI, nI_leI, nI_eq, nn_in, nn_eqm, nn_meq, nn_ltm, nn_mlt, nn_lem, nn_mle, nn_in_m, a1, h2, a6, hlt]
        exact this
theorem next_106 (h : bRd S0 rd q tx) {k149 : Nat → zM → Option zM} (Q : Option zM → Prop) {κ : Nat} (hκ : κ < 5) : ∀ f F p (S : zM), tx.length - p ≤ f → f < F → p ≤ tx.length → zfr (wRdr rd) S0 S → zI S rd 2 = nI p → zI S rd 5 = nI κ → (∀ S', zfr (wRdr rd) S0 S' → zI S' rd 2 = nI (zrun tx κ f p) → zI S' rd 5 = nI κ → zI S' rd 6 = zI S rd 6 → Q (k149 rd S')) → Q (L_Reader_next_106 k149 F rd S) := by
  have h900 := h.2.2.2.2.2.2.1
  intro f
  induction f with
  | zero =>
    intro F p S hf hF hp hfr h2 h5 HK
    cases F with
    | zero => omega
    | succ F =>
      obtain ⟨a1, a2, a3, a4, a5, a6, a7, a8⟩ := bRd_w h hfr
      have := HK S hfr h2 h5 rfl
      simp (disch := omega) [L_Reader_next_106, -Prod.exists, -Prod.forall, ↓bb_gf, ↓bb_gr, ↓bb_len, ↓bb_ga, ↓bb_gl, ↓bb_go, ↓bb_pf, ↓bb_pz, ↓bb_pr, ↓bb_pa, ↓bb_pb, ↓bb_pl, ↓bb_po, ↓bb_cl, ↓bb_some, ↓bb_RI, ↓bb_RJ, mm_hI, mm_hJ, mm_hR, mm_nI, mm_nJ, mm_nR, mm_sI, mm_sJ, mm_sR, mm_RI, mm_RJ, mm_IJ, mm_IR, mm_JI, mm_JR, mm_II, mm_JJ, mm_RR, nn_lit, nI_add, pk_mul, nI_clamp, nI_ltI, nI_leI, nI_eq, nn_in, nn_eqm, nn_meq, nn_ltm, nn_mlt, nn_lem, nn_mle, nn_in_m, a1, h2, a6, show ¬ p < tx.length by omega]
      exact this
  | succ f ih =>
    intro F p S hf hF hp hfr h2 h5 HK
    cases F with
    | zero => omega
    | succ F =>
      obtain ⟨a1, a2, a3, a4, a5, a6, a7, a8⟩ := bRd_w h hfr
      by_cases hlt : p < tx.length
      · have c8 := a8 p
        have ec := a5 p hlt
        have kl := kd_lt (lg tx p)
        have so := sortOf (S := S) c8
        by_cases hk : zkd (lg tx p) = κ
        · simp (disch := omega) [L_Reader_next_106, -Prod.exists, -Prod.forall, ↓bb_gf, ↓bb_gr, ↓bb_len, ↓bb_ga, ↓bb_gl, ↓bb_go, ↓bb_pf, ↓bb_pz, ↓bb_pr, ↓bb_pa, ↓bb_pb, ↓bb_pl, ↓bb_po, ↓bb_cl, ↓bb_some, ↓bb_RI, ↓bb_RJ, mm_hI, mm_hJ, mm_hR, mm_nI, mm_nJ, mm_nR, mm_sI, mm_sJ, mm_sR, mm_RI, mm_RJ, mm_IJ, mm_IR, mm_JI, mm_JR, mm_II, mm_JJ, mm_RR, nn_lit, nI_add, pk_mul, nI_clamp, nI_ltI, nI_leI, nI_eq, nn_in, nn_eqm, nn_meq, nn_ltm, nn_mlt, nn_lem, nn_mle, nn_in_m, a1, h2, a6, hlt, ↓bS a2, a3, show p < 900 by omega, ec, ↓bS so, h5, hk]
          refine ih F (p + 1) _ (by omega) (by omega) (by omega) (fr_trans hfr (fr_wI _ _ (by unfold wRdr; omega))) (by simp [mm_II]) (by simp [mm_II, h5]) (fun S' f1 f2 f3 f4 => HK S' f1 ?_ f3 (by rw [f4]; simp [mm_II]))
          rw [zrun, if_pos ⟨hlt, hk⟩]; exact f2
        · have := HK S hfr (by rw [zrun, if_neg (fun q => hk q.2)]; exact h2) h5 rfl
          simp (disch := omega) [L_Reader_next_106, -Prod.exists, -Prod.forall, ↓bb_gf, ↓bb_gr, ↓bb_len, ↓bb_ga, ↓bb_gl, ↓bb_go, ↓bb_pf, ↓bb_pz, ↓bb_pr, ↓bb_pa, ↓bb_pb, ↓bb_pl, ↓bb_po, ↓bb_cl, ↓bb_some, ↓bb_RI, ↓bb_RJ, mm_hI, mm_hJ, mm_hR, mm_nI, mm_nJ, mm_nR, mm_sI, mm_sJ, mm_sR, mm_RI, mm_RJ, mm_IJ, mm_IR, mm_JI, mm_JR, mm_II, mm_JJ, mm_RR, nn_lit, nI_add, pk_mul, nI_clamp, nI_ltI, nI_leI, nI_eq, nn_in, nn_eqm, nn_meq, nn_ltm, nn_mlt, nn_lem, nn_mle, nn_in_m, a1, h2, a6, hlt, ↓bS a2, a3, show p < 900 by omega, ec, ↓bS so, h5, hk]
          exact this
      · have := HK S hfr (by rw [zrun, if_neg (fun q => hlt q.1)]; exact h2) h5 rfl
        simp (disch := omega) [L_Reader_next_106, -Prod.exists, -Prod.forall, ↓bb_gf, ↓bb_gr, ↓bb_len, ↓bb_ga, ↓bb_gl, ↓bb_go, ↓bb_pf, ↓bb_pz, ↓bb_pr, ↓bb_pa, ↓bb_pb, ↓bb_pl, ↓bb_po, ↓bb_cl, ↓bb_some, ↓bb_RI, ↓bb_RJ, mm_hI, mm_hJ, mm_hR, mm_nI, mm_nJ, mm_nR, mm_sI, mm_sJ, mm_sR, mm_RI, mm_RJ, mm_IJ, mm_IR, mm_JI, mm_JR, mm_II, mm_JJ, mm_RR, nn_lit, nI_add, pk_mul, nI_clamp, nI_ltI, nI_leI, nI_eq, nn_in, nn_eqm, nn_meq, nn_ltm, nn_mlt, nn_lem, nn_mle, nn_in_m, a1, h2, a6, hlt]
        exact this
theorem rd_next (h : bRd S0 rd q tx) {pos : Nat} (h2 : zI S0 rd 2 = nI pos) (hp : pos ≤ tx.length) : ∃ S', f_Reader_next rd S0 = some S' ∧ zfr (wRdr rd) S0 S' ∧ pRd S' rd q tx (znext tx pos) := by
  have h900 := h.2.2.2.2.2.2.1
  have nw := next_w (tx := tx) hp
  refine next_0 h (fun o => ∃ S', o = some S' ∧ zfr (wRdr rd) S0 S' ∧ pRd S' rd q tx (znext tx pos)) tx.length zF pos S0 (by omega) (by rw [zF_eq]; omega) hp (fr_refl _ _) h2 (fun S1 f1 e1 => ?_)
  obtain ⟨a1, a2, a3, a4, a5, a6, a7, a8⟩ := bRd_w h f1
  obtain ⟨s, hs⟩ : ∃ s, s = zskip tx tx.length pos := ⟨_, rfl⟩
  rw [← hs] at e1
  have hsl : s ≤ tx.length := by rw [hs]; exact (skip_le tx tx.length pos).2 hp
  have nx : znext tx pos = if tx.length ≤ s then (s, s, 0) else if zkd (lg tx s) = 1 ∨ zkd (lg tx s) = 2 then (s, zrun tx (zkd (lg tx s)) tx.length (s + 1), if zrun tx (zkd (lg tx s)) tx.length (s + 1) - s > (if zkd (lg tx s) = 1 then 7 else 1) then 4 else zkd (lg tx s)) else (s, s + 1, zkd (lg tx s)) := by
    rw [hs]; rfl
  by_cases hlt : s < tx.length
  · have c8 := a8 s
    have ec := a5 s hlt
    have kl := kd_lt (lg tx s)
    have so := sortOf (S := zwI S1 rd 6 (nI s)) c8
    have eqr : ¬ q = rd := a4
    have ec2 : zI (zwI S1 rd 6 (nI s)) q s = nI (lg tx s) := by rw [mm_II, if_neg (by omega)]; exact ec
    obtain ⟨S2, hS2⟩ : ∃ S2, S2 = zwI (zwI (zwI S1 rd 6 (nI s)) rd 5 (nI (zkd (lg tx s)))) rd 2 (nI (s + 1)) := ⟨_, rfl⟩
    have f2 : zfr (wRdr rd) S0 S2 := by
      rw [hS2]
      exact fr_trans f1 (fr_trans (fr_trans (fr_wI _ _ (by unfold wRdr; omega)) (fr_wI _ _ (by unfold wRdr; omega))) (fr_wI _ _ (by unfold wRdr; omega)))
    have g2 : zI S2 rd 2 = nI (s + 1) := by rw [hS2]; simp [mm_II]
    have g5 : zI S2 rd 5 = nI (zkd (lg tx s)) := by rw [hS2]; simp [mm_II]
    have g6 : zI S2 rd 6 = nI s := by rw [hS2]; simp [mm_II]
    have hh2 : zh S2 rd = (7, 0) := by rw [fr_h f2]; exact h.1
    rw [if_neg (by omega)] at nx
    have pre : ∀ k106 : Nat → zM → Option zM, F_Reader_next_38 k106 rd S1 = if zkd (lg tx s) = 1 ∨ zkd (lg tx s) = 2 then k106 rd S2 else some S2 := by
      intro k106
      by_cases q1 : zkd (lg tx s) = 1
      · simp (disch := omega) [F_Reader_next_38, -Prod.exists, -Prod.forall, ↓bb_gf, ↓bb_gr, ↓bb_len, ↓bb_ga, ↓bb_gl, ↓bb_go, ↓bb_pf, ↓bb_pz, ↓bb_pr, ↓bb_pa, ↓bb_pb, ↓bb_pl, ↓bb_po, ↓bb_cl, ↓bb_some, ↓bb_RI, ↓bb_RJ, mm_hI, mm_hJ, mm_hR, mm_nI, mm_nJ, mm_nR, mm_sI, mm_sJ, mm_sR, mm_RI, mm_RJ, mm_IJ, mm_IR, mm_JI, mm_JR, mm_II, mm_JJ, mm_RR, nn_lit, nI_add, pk_mul, nI_clamp, nI_ltI, nI_leI, nI_eq, nn_in, nn_eqm, nn_meq, nn_ltm, nn_mlt, nn_lem, nn_mle, nn_in_m, a1, e1, a6, hlt, ↓bS a2, a3, show s < 900 by omega, eqr, ec, ec2, ↓bS so, q1]
        rw [hS2, q1]
      · by_cases q2 : zkd (lg tx s) = 2
        · simp (disch := omega) [F_Reader_next_38, -Prod.exists, -Prod.forall, ↓bb_gf, ↓bb_gr, ↓bb_len, ↓bb_ga, ↓bb_gl, ↓bb_go, ↓bb_pf, ↓bb_pz, ↓bb_pr, ↓bb_pa, ↓bb_pb, ↓bb_pl, ↓bb_po, ↓bb_cl, ↓bb_some, ↓bb_RI, ↓bb_RJ, mm_hI, mm_hJ, mm_hR, mm_nI, mm_nJ, mm_nR, mm_sI, mm_sJ, mm_sR, mm_RI, mm_RJ, mm_IJ, mm_IR, mm_JI, mm_JR, mm_II, mm_JJ, mm_RR, nn_lit, nI_add, pk_mul, nI_clamp, nI_ltI, nI_leI, nI_eq, nn_in, nn_eqm, nn_meq, nn_ltm, nn_mlt, nn_lem, nn_mle, nn_in_m, a1, e1, a6, hlt, ↓bS a2, a3, show s < 900 by omega, eqr, ec, ec2, ↓bS so, q1, q2]
          rw [hS2, q2]
        · simp (disch := omega) [F_Reader_next_38, -Prod.exists, -Prod.forall, ↓bb_gf, ↓bb_gr, ↓bb_len, ↓bb_ga, ↓bb_gl, ↓bb_go, ↓bb_pf, ↓bb_pz, ↓bb_pr, ↓bb_pa, ↓bb_pb, ↓bb_pl, ↓bb_po, ↓bb_cl, ↓bb_some, ↓bb_RI, ↓bb_RJ, mm_hI, mm_hJ, mm_hR, mm_nI, mm_nJ, mm_nR, mm_sI, mm_sJ, mm_sR, mm_RI, mm_RJ, mm_IJ, mm_IR, mm_JI, mm_JR, mm_II, mm_JJ, mm_RR, nn_lit, nI_add, pk_mul, nI_clamp, nI_ltI, nI_leI, nI_eq, nn_in, nn_eqm, nn_meq, nn_ltm, nn_mlt, nn_lem, nn_mle, nn_in_m, a1, e1, a6, hlt, ↓bS a2, a3, show s < 900 by omega, eqr, ec, ec2, ↓bS so, q1, q2]
          rw [hS2]
    rw [pre]
    by_cases hk : zkd (lg tx s) = 1 ∨ zkd (lg tx s) = 2
    · rw [if_pos hk]
      rw [if_pos hk] at nx
      refine next_106 h (fun o => ∃ S', o = some S' ∧ zfr (wRdr rd) S0 S' ∧ pRd S' rd q tx (znext tx pos)) (κ := zkd (lg tx s)) (by omega) tx.length zF (s + 1) S2 (by omega) (by rw [zF_eq]; omega) (by omega) f2 g2 g5 (fun S3 f3 b2 b5 b6 => ?_)
      have hh3 : zh S3 rd = (7, 0) := by rw [fr_h f3]; exact h.1
      rw [g6] at b6
      have rl := run_le tx (zkd (lg tx s)) tx.length (s + 1)
      obtain ⟨e, he⟩ : ∃ e, e = zrun tx (zkd (lg tx s)) tx.length (s + 1) := ⟨_, rfl⟩
      rw [← he] at b2 rl nx
      have re := rl.2.1 (by omega)
      have esub : nI e - nI s = nI (e - s) := pk_sub (by omega)
      have ok : ∀ v S4, zfr (wRdr rd) S0 S4 → zI S4 rd 2 = nI e → zI S4 rd 6 = nI s → zI S4 rd 5 = nI v → znext tx pos = (s, e, v) → pRd S4 rd q tx (znext tx pos) := by
        intro v S4 f4 c2 c6 c5 en
        refine ⟨bRd_w h f4, ?_, ?_, ?_, nw.1⟩
        · rw [en]; exact c2
        · rw [en]; exact c6
        · rw [en]; exact c5
      by_cases q1 : zkd (lg tx s) = 1
      · rw [q1] at b5 nx
        simp only [if_true] at nx
        by_cases hb : e - s > 7
        · rw [if_pos hb] at nx
          refine ⟨zwI S3 rd 5 4, ?_, fr_trans f3 (fr_wI _ _ (by unfold wRdr; omega)), ok 4 _ (fr_trans f3 (fr_wI _ _ (by unfold wRdr; omega))) (by simp [mm_II, b2]) (by simp [mm_II, b6]) (by simp [mm_II]; rfl) nx⟩
          simp (disch := omega) [F_Reader_next_149, -Prod.exists, -Prod.forall, ↓bb_gf, ↓bb_gr, ↓bb_len, ↓bb_ga, ↓bb_gl, ↓bb_go, ↓bb_pf, ↓bb_pz, ↓bb_pr, ↓bb_pa, ↓bb_pb, ↓bb_pl, ↓bb_po, ↓bb_cl, ↓bb_some, ↓bb_RI, ↓bb_RJ, mm_hI, mm_hJ, mm_hR, mm_nI, mm_nJ, mm_nR, mm_sI, mm_sJ, mm_sR, mm_RI, mm_RJ, mm_IJ, mm_IR, mm_JI, mm_JR, mm_II, mm_JJ, mm_RR, nn_lit, nI_add, pk_mul, nI_clamp, nI_ltI, nI_leI, nI_eq, nn_in, nn_eqm, nn_meq, nn_ltm, nn_mlt, nn_lem, nn_mle, nn_in_m, hh3, b2, b6, b5, esub, show ¬ e - s ≤ 7 by omega]
        · rw [if_neg hb] at nx
          refine ⟨S3, ?_, f3, ok 1 _ f3 b2 b6 b5 nx⟩
          simp (disch := omega) [F_Reader_next_149, -Prod.exists, -Prod.forall, ↓bb_gf, ↓bb_gr, ↓bb_len, ↓bb_ga, ↓bb_gl, ↓bb_go, ↓bb_pf, ↓bb_pz, ↓bb_pr, ↓bb_pa, ↓bb_pb, ↓bb_pl, ↓bb_po, ↓bb_cl, ↓bb_some, ↓bb_RI, ↓bb_RJ, mm_hI, mm_hJ, mm_hR, mm_nI, mm_nJ, mm_nR, mm_sI, mm_sJ, mm_sR, mm_RI, mm_RJ, mm_IJ, mm_IR, mm_JI, mm_JR, mm_II, mm_JJ, mm_RR, nn_lit, nI_add, pk_mul, nI_clamp, nI_ltI, nI_leI, nI_eq, nn_in, nn_eqm, nn_meq, nn_ltm, nn_mlt, nn_lem, nn_mle, nn_in_m, hh3, b2, b6, b5, esub, show e - s ≤ 7 by omega]
      · have q2 : zkd (lg tx s) = 2 := by omega
        rw [q2] at b5 nx
        simp only [show ¬ 2 = 1 by omega, if_false] at nx
        by_cases hb : e - s > 1
        · rw [if_pos hb] at nx
          refine ⟨zwI S3 rd 5 4, ?_, fr_trans f3 (fr_wI _ _ (by unfold wRdr; omega)), ok 4 _ (fr_trans f3 (fr_wI _ _ (by unfold wRdr; omega))) (by simp [mm_II, b2]) (by simp [mm_II, b6]) (by simp [mm_II]; rfl) nx⟩
          simp (disch := omega) [F_Reader_next_149, -Prod.exists, -Prod.forall, ↓bb_gf, ↓bb_gr, ↓bb_len, ↓bb_ga, ↓bb_gl, ↓bb_go, ↓bb_pf, ↓bb_pz, ↓bb_pr, ↓bb_pa, ↓bb_pb, ↓bb_pl, ↓bb_po, ↓bb_cl, ↓bb_some, ↓bb_RI, ↓bb_RJ, mm_hI, mm_hJ, mm_hR, mm_nI, mm_nJ, mm_nR, mm_sI, mm_sJ, mm_sR, mm_RI, mm_RJ, mm_IJ, mm_IR, mm_JI, mm_JR, mm_II, mm_JJ, mm_RR, nn_lit, nI_add, pk_mul, nI_clamp, nI_ltI, nI_leI, nI_eq, nn_in, nn_eqm, nn_meq, nn_ltm, nn_mlt, nn_lem, nn_mle, nn_in_m, hh3, b2, b6, b5, esub, show ¬ e - s ≤ 1 by omega]
        · rw [if_neg hb] at nx
          refine ⟨S3, ?_, f3, ok 2 _ f3 b2 b6 b5 nx⟩
          simp (disch := omega) [F_Reader_next_149, -Prod.exists, -Prod.forall, ↓bb_gf, ↓bb_gr, ↓bb_len, ↓bb_ga, ↓bb_gl, ↓bb_go, ↓bb_pf, ↓bb_pz, ↓bb_pr, ↓bb_pa, ↓bb_pb, ↓bb_pl, ↓bb_po, ↓bb_cl, ↓bb_some, ↓bb_RI, ↓bb_RJ, mm_hI, mm_hJ, mm_hR, mm_nI, mm_nJ, mm_nR, mm_sI, mm_sJ, mm_sR, mm_RI, mm_RJ, mm_IJ, mm_IR, mm_JI, mm_JR, mm_II, mm_JJ, mm_RR, nn_lit, nI_add, pk_mul, nI_clamp, nI_ltI, nI_leI, nI_eq, nn_in, nn_eqm, nn_meq, nn_ltm, nn_mlt, nn_lem, nn_mle, nn_in_m, hh3, b2, b6, b5, esub, show e - s ≤ 1 by omega]
    · rw [if_neg hk]
      rw [if_neg hk] at nx
      refine ⟨S2, rfl, f2, bRd_w h f2, by rw [nx]; exact g2, by rw [nx]; exact g6, by rw [nx]; exact g5, nw.1⟩
  · have es : s = tx.length := by omega
    rw [if_pos (by omega)] at nx
    refine ⟨zwI (zwI S1 rd 6 (nI s)) rd 5 0, ?_, fr_trans f1 (fr_trans (fr_wI _ _ (by unfold wRdr; omega)) (fr_wI _ _ (by unfold wRdr; omega))), bRd_w h (fr_trans f1 (fr_trans (fr_wI _ _ (by unfold wRdr; omega)) (fr_wI _ _ (by unfold wRdr; omega)))), by rw [nx]; simp [mm_II, e1], by rw [nx]; simp [mm_II], by rw [nx]; simp [mm_II]; rfl, nw.1⟩
    simp (disch := omega) [F_Reader_next_38, -Prod.exists, -Prod.forall, ↓bb_gf, ↓bb_gr, ↓bb_len, ↓bb_ga, ↓bb_gl, ↓bb_go, ↓bb_pf, ↓bb_pz, ↓bb_pr, ↓bb_pa, ↓bb_pb, ↓bb_pl, ↓bb_po, ↓bb_cl, ↓bb_some, ↓bb_RI, ↓bb_RJ, mm_hI, mm_hJ, mm_hR, mm_nI, mm_nJ, mm_nR, mm_sI, mm_sJ, mm_sR, mm_RI, mm_RJ, mm_IJ, mm_IR, mm_JI, mm_JR, mm_II, mm_JJ, mm_RR, nn_lit, nI_add, pk_mul, nI_clamp, nI_ltI, nI_leI, nI_eq, nn_in, nn_eqm, nn_meq, nn_ltm, nn_mlt, nn_lem, nn_mle, nn_in_m, a1, e1, a6, hlt]
end
