/-! the class: the worst rule, whole -/
theorem wsF_zero {L : Nat} {ps : List zPs} {asd : Nat → Nat} {N k : Nat} (h : (zwsF L ps asd N k).1 = 0) : ∀ d, zwsF L ps asd N (k + d) = zwsF L ps asd N k
  | 0 => rfl
  | d + 1 => by
    rw [← Nat.add_assoc, zwsF, wsF_zero h d, zws1]
    split
    · rw [if_neg (by omega)]
    · rfl
theorem wsF_val {L : Nat} {ps : List zPs} {asd : Nat → Nat} {N : Nat} : ∀ k, k ≤ 24 → ¬ (zwsF L ps asd N k).2 = -3
  | 0, _ => by show ¬ (-2 : Int32) = -3; decide
  | k + 1, hk => by
    have := wsF_val (L := L) (ps := ps) (asd := asd) (N := N) k (by omega)
    rw [zwsF, zws1]
    split
    · split
      · exact (nn_eqm (i := 10 * (k / 8) + k % 8) (m := 3) (by omega) (by omega) (by omega)).1
      · exact this
    · exact this
def wCen (S : zM) (E L : Nat) (ps : List zPs) (asd : Nat → Nat) : Prop := ∀ n, n < 6 → zI S (E + 30) n = -3 ∨ zI S (E + 30) n = (zwsF L ps asd (zcnt L n) 24).2
def wWr1 (E T : Nat) : Nat → Nat → Prop := fun b j => (E + 6 ≤ b ∧ b < E + 25) ∨ (j = 5 ∧ (b = T + 4 ∨ b = T + 60 ∨ b = T + 116))
def wWr (E T : Nat) : Nat → Nat → Prop := fun b j => (E + 6 ≤ b ∧ b < E + 25) ∨ b = E + 30 ∨ (j = 5 ∧ (b = T + 4 ∨ b = T + 60 ∨ b = T + 116))
section
variable {S0 : zM} {E T K : Nat} {sc : zSc} {asd : Nat → Nat}
theorem c_worst_53 (hq0 : qCen S0 E T sc asd K) (hr0 : rCen S0 E) (hE : E ≠ 0) (hT : T + 172 ≤ E) {n : Nat} (hn : n ≤ 5) (hnK : zcnt sc.1 n ≤ K) : ∃ S', L_Census_worstRule_53 zF E (nI n) (nI (zdbl (zoc sc.1 sc.2.2 asd) (zcnt sc.1 n))) (-2) 0 S0 = some ((zwsF sc.1 sc.2.2 asd (zcnt sc.1 n) 24).2, zwI S' (E + 30) n (zwsF sc.1 sc.2.2 asd (zcnt sc.1 n) 24).2) ∧ zfq (wWr1 E T) (vLn1 E) S0 S' ∧ rCen S' E ∧ pScr S' T sc asd := by
  obtain ⟨hk0, hS0, h90, hL, hK5, hd0⟩ := hq0
  have c5 := cnt_le (n := n) hL hn
  have wp := hS0.2.2.2.2.2.2.2.2.2
  have h3 := wp.1
  have fin : ∀ F (S : zM) (k : Nat) (X : Nat × Int32), zfq (wWr1 E T) (vLn1 E) S0 S → rCen S E → pScr S T sc asd → X = zwsF sc.1 sc.2.2 asd (zcnt sc.1 n) 24 → (k = 24 ∨ (k < 24 ∧ X.1 = 0)) → ∃ S', L_Census_worstRule_53 (F + 1) E (nI n) (nI X.1) X.2 (nI k) S = some ((zwsF sc.1 sc.2.2 asd (zcnt sc.1 n) 24).2, zwI S' (E + 30) n (zwsF sc.1 sc.2.2 asd (zcnt sc.1 n) 24).2) ∧ zfq (wWr1 E T) (vLn1 E) S0 S' ∧ rCen S' E ∧ pScr S' T sc asd := by
    intro F S k X hf hr hS hX hor
    have hk := kCen_fq hk0 hf (fun j hj => by unfold vLn1; omega) (fun j => by unfold vLn1; omega) (fun j => by unfold vLn1; omega)
    have z : zinb (nI n) 6 = true := (nn_in (by omega)).2 (by omega)
    have c : (nI n).toNatClampNeg = n := nI_clamp (by omega)
    refine ⟨S, ?_, hf, hr, hS⟩
    rcases hor with rfl | ⟨h1, h2⟩
    · have hx : ¬ nI 24 < (24 : Int32) := by decide
      rw [← hX, L_Census_worstRule_53]
      simp [-Prod.exists, -Prod.forall, ↓bb_gf, ↓bb_gr, ↓bb_len, ↓bb_ga, ↓bb_gl, ↓bb_go, ↓bb_pf, ↓bb_pz, ↓bb_pr, ↓bb_pa, ↓bb_pb, ↓bb_pl, ↓bb_po, ↓bb_cl, ↓bb_some, ↓bb_RI, ↓bb_RJ, mm_hI, mm_hJ, mm_hR, mm_nI, mm_nJ, mm_nR, mm_sI, mm_sJ, mm_sR, mm_RI, mm_RJ, mm_IJ, mm_IR, mm_JI, mm_JR, mm_II, mm_JJ, mm_RR, hx, hk.1, ↓bS hk.2.2.2.2.2.2.2.2.2.2.2.2.2.2.1, hk.2.2.2.2.2.2.2.2.2.2.2.2.2.2.2, z, c]
    · have hx : nI k < (24 : Int32) := (nI_ltI (b := 24) (by omega) (by omega)).2 h1
      have l : nI X.1 ≤ 0 := by rw [h2]; decide
      rw [← hX, L_Census_worstRule_53]
      simp [-Prod.exists, -Prod.forall, ↓bb_gf, ↓bb_gr, ↓bb_len, ↓bb_ga, ↓bb_gl, ↓bb_go, ↓bb_pf, ↓bb_pz, ↓bb_pr, ↓bb_pa, ↓bb_pb, ↓bb_pl, ↓bb_po, ↓bb_cl, ↓bb_some, ↓bb_RI, ↓bb_RJ, mm_hI, mm_hJ, mm_hR, mm_nI, mm_nJ, mm_nR, mm_sI, mm_sJ, mm_sR, mm_RI, mm_RJ, mm_IJ, mm_IR, mm_JI, mm_JR, mm_II, mm_JJ, mm_RR, hx, l, hk.1, ↓bS hk.2.2.2.2.2.2.2.2.2.2.2.2.2.2.1, hk.2.2.2.2.2.2.2.2.2.2.2.2.2.2.2, z, c]
  refine loop_g (α := Nat × Int32) (N := 24) (by omega) (fun F X k S => L_Census_worstRule_53 F E (nI n) (nI X.1) X.2 (nI k) S) (fun X k S => zfq (wWr1 E T) (vLn1 E) S0 S ∧ rCen S E ∧ pScr S T sc asd ∧ X = zwsF sc.1 sc.2.2 asd (zcnt sc.1 n) k) (fun o => ∃ S', o = some ((zwsF sc.1 sc.2.2 asd (zcnt sc.1 n) 24).2, zwI S' (E + 30) n (zwsF sc.1 sc.2.2 asd (zcnt sc.1 n) 24).2) ∧ zfq (wWr1 E T) (vLn1 E) S0 S' ∧ rCen S' E ∧ pScr S' T sc asd) (fun F X S h => ?_) (fun F X k S hk24 h kk => ?_) (zdbl (zoc sc.1 sc.2.2 asd) (zcnt sc.1 n), -2) 0 S0 (by omega) ⟨fq_refl _ _ _, hr0, hS0, rfl⟩
  · obtain ⟨hf, hr, hS, hX⟩ := h
    exact fin F S 24 X hf hr hS hX (Or.inl rfl)
  · obtain ⟨hf, hr, hS, hX⟩ := h
    by_cases q0 : X.1 = 0
    · refine fin F S k X hf hr hS ?_ (Or.inr ⟨hk24, q0⟩)
      have := wsF_zero (L := sc.1) (ps := sc.2.2) (asd := asd) (N := zcnt sc.1 n) (k := k) (by rw [← hX]; exact q0) (24 - k)
      rw [show k + (24 - k) = 24 by omega] at this
      rw [this, hX]
    · have l2 := wsF_le sc.1 sc.2.2 asd (zcnt sc.1 n) k
      rw [← hX] at l2
      have hk := kCen_fq hk0 hf (fun j hj => by unfold vLn1; omega) (fun j => by unfold vLn1; omega) (fun j => by unfold vLn1; omega)
      have h9 : zR S E 9 = some T := by rw [fq_R hf (by unfold vLn1; omega)]; exact h90
      have hd := dCen_sm hd0 (sm_fq hf (fun b j h1 h2 => ⟨by unfold wWr1; omega, by unfold vLn1; omega⟩)) (sm_fq hf (fun b j h1 h2 => ⟨by unfold wWr1; omega, by unfold vLn1; omega⟩))
      have hx : nI k < (24 : Int32) := (nI_ltI (b := 24) (by omega) (by omega)).2 hk24
      have e1 : nI k + 1 = nI (k + 1) := nI_add k 1
      have lX : ¬ nI X.1 ≤ 0 := nI_nle (by omega) (by omega)
      have n8 : ¬ (8 : Int32) = 0 := by decide
      have ed : nI k / 8 = nI (k / 8) := pk_div (d := 8) (by omega) (by omega) (by omega)
      have er : nI k - nI (k / 8) * 8 = nI (k % 8) := by rw [← ed]; exact pk_rem (d := 8) (by omega) (by omega) (by omega)
      have ru := scr_ruleAt hS (nI (k / 8)) (nI (k % 8))
      rw [if_neg (nI_pos (by omega)), nI_clamp (by omega), if_neg (nI_pos (by omega)), nI_clamp (by omega)] at ru
      have sF : zwsF sc.1 sc.2.2 asd (zcnt sc.1 n) (k + 1) = zws1 sc.1 sc.2.2 asd (zcnt sc.1 n) k (zwsF sc.1 sc.2.2 asd (zcnt sc.1 n) k) := rfl
      by_cases q1 : k / 8 < sc.2.2.length ∧ k % 8 < (zpa_ sc.2.2 (k / 8)).2.length
      · obtain ⟨q1a, q1b⟩ := q1
        rw [if_pos q1a, if_pos q1b] at ru
        have ia := scr_isAside hS q1a q1b
        cases b : (asd (k / 8)).testBit (k % 8) with
        | true =>
          rw [b] at ia
          simp only [if_true] at ia
          have st : L_Census_worstRule_53 (F + 1) E (nI n) (nI X.1) X.2 (nI k) S = L_Census_worstRule_53 F E (nI n) (nI X.1) X.2 (nI (k + 1)) S := by
            have n10 : ¬ (1 : Int32) = 0 := by decide
            rw [L_Census_worstRule_53]
            simp only [-Prod.exists, -Prod.forall, ↓bb_gf, ↓bb_gr, ↓bb_len, ↓bb_ga, ↓bb_gl, ↓bb_go, ↓bb_pf, ↓bb_pz, ↓bb_pr, ↓bb_pa, ↓bb_pb, ↓bb_pl, ↓bb_po, ↓bb_cl, ↓bb_some, ↓bb_RI, ↓bb_RJ, mm_hI, mm_hJ, mm_hR, mm_nI, mm_nJ, mm_nR, mm_sI, mm_sJ, mm_sR, mm_RI, mm_RJ, mm_IJ, mm_IR, mm_JI, mm_JR, mm_II, mm_JJ, mm_RR, hx, if_true, lX, if_false, n8, hk.1, ↓bS h9, hS.1.1, ed, er, ↓bS ru, ↓bS ia, n10, e1]
          rw [st]
          exact kk X S ⟨hf, hr, hS, by rw [sF, zws1, if_neg (by rw [b]; simp), hX]⟩
        | false =>
          rw [b] at ia
          simp only [Bool.false_eq_true, if_false] at ia
          obtain ⟨tu, hS1⟩ := scr_turn hS q1a q1b
          have aT1 : T + 4 ≤ aPs T (k / 8) := by unfold aPs; omega
          have aT2 : aPs T (k / 8) < T + 172 := by unfold aPs; omega
          have f1 : zfr (fun b j => b = aPs T (k / 8) ∧ j = 5) S (zwI S (aPs T (k / 8)) 5 (nI (asd (k / 8) ^^^ 2 ^ (k % 8)))) := fr_wI _ _ ⟨rfl, rfl⟩
          have hk1 := kCen_fr hk f1
          have h91 : zR (zwI S (aPs T (k / 8)) 5 (nI (asd (k / 8) ^^^ 2 ^ (k % 8)))) E 9 = some T := by rw [fr_R f1]; exact h9
          have hr1 := rCen_sm hr (sm_fr f1 (fun b j h1 h2 => by omega))
          have hd1 := dCen_sm hd (sm_fr f1 (fun b j h1 h2 => by omega)) (sm_fr f1 (fun b j h1 h2 => by omega))
          have ct := cen_count hk1 hS1 h91 hL hn
          obtain ⟨S2, w1, w2, w3⟩ := c_without hE hk1 hr1 hT hL h91 hK5 hd1 q1a q1b b hS1 hn hnK (en := X.1) (by omega) (by omega)
          rw [show 8 * (k / 8) + k % 8 = k by omega] at w1
          have hk2 := kCen_fq hk1 w2 (fun j hj => by unfold vLn1; omega) (fun j => by unfold vLn1; omega) (fun j => by unfold vLn1; omega)
          have h92 : zR S2 E 9 = some T := by rw [fq_R w2 (by unfold vLn1; omega)]; exact h91
          have hS2 := scr_sm hS1 (sm_fq (lo := T) (hi := T + 172) w2 (fun b j h1 h2 => ⟨by unfold wDw; omega, by unfold vLn1; omega⟩)) (by omega) (by omega)
          obtain ⟨tu2, hS3⟩ := scr_turn hS2 q1a q1b
          rw [asd_back] at hS3
          have f3 : zfr (fun b j => b = aPs T (k / 8) ∧ j = 5) S2 (zwI S2 (aPs T (k / 8)) 5 (nI (zasd asd (k / 8) (k % 8) (k / 8) ^^^ 2 ^ (k % 8)))) := fr_wI _ _ ⟨rfl, rfl⟩
          have g : zfq (wWr1 E T) (vLn1 E) S0 (zwI S2 (aPs T (k / 8)) 5 (nI (zasd asd (k / 8) (k % 8) (k / 8) ^^^ 2 ^ (k % 8)))) :=
            fq_trans hf (fq_trans (fq_fr (fr_mono f1 (fun b j h => by unfold aPs at h; unfold wWr1; omega))) (fq_trans (fq_mono w2 (fun b j h => by unfold wDw at h; unfold wWr1; omega) (fun b j h => h)) (fq_fr (fr_mono f3 (fun b j h => by unfold aPs at h; unfold wWr1; omega)))))
          have hr3 := rCen_sm w3 (sm_fr f3 (fun b j h1 h2 => by omega))
          have l1 := dbl_le (zoc sc.1 sc.2.2 (zasd asd (k / 8) (k % 8))) (zcnt sc.1 n)
          have m10 : (10 : Int32) * nI (k / 8) = nI (10 * (k / 8)) := pk_mul 10 _
          by_cases q2 : zdbl (zoc sc.1 sc.2.2 (zasd asd (k / 8) (k % 8))) (zcnt sc.1 n) < X.1
          · rw [Nat.min_eq_left (by omega)] at w1
            have l : nI (zdbl (zoc sc.1 sc.2.2 (zasd asd (k / 8) (k % 8))) (zcnt sc.1 n)) < nI X.1 := (nI_ltI (by omega) (by omega)).2 q2
            have st : L_Census_worstRule_53 (F + 1) E (nI n) (nI X.1) X.2 (nI k) S = L_Census_worstRule_53 F E (nI n) (nI (zdbl (zoc sc.1 sc.2.2 (zasd asd (k / 8) (k % 8))) (zcnt sc.1 n))) (nI (10 * (k / 8) + k % 8)) (nI (k + 1)) (zwI S2 (aPs T (k / 8)) 5 (nI (zasd asd (k / 8) (k % 8) (k / 8) ^^^ 2 ^ (k % 8)))) := by
              rw [L_Census_worstRule_53]
              simp only [-Prod.exists, -Prod.forall, ↓bb_gf, ↓bb_gr, ↓bb_len, ↓bb_ga, ↓bb_gl, ↓bb_go, ↓bb_pf, ↓bb_pz, ↓bb_pr, ↓bb_pa, ↓bb_pb, ↓bb_pl, ↓bb_po, ↓bb_cl, ↓bb_some, ↓bb_RI, ↓bb_RJ, mm_hI, mm_hJ, mm_hR, mm_nI, mm_nJ, mm_nR, mm_sI, mm_sJ, mm_sR, mm_RI, mm_RJ, mm_IJ, mm_IR, mm_JI, mm_JR, mm_II, mm_JJ, mm_RR, hx, if_true, lX, if_false, n8, hk.1, ↓bS h9, hS.1.1, ed, er, ↓bS ru, ↓bS ia, ↓bS tu, ↓bS ct, ↓bS w1, hk2.1, ↓bS h92, hS2.1.1, ↓bS tu2, l, m10, nI_add, e1]
            rw [st]
            exact kk (zdbl (zoc sc.1 sc.2.2 (zasd asd (k / 8) (k % 8))) (zcnt sc.1 n), nI (10 * (k / 8) + k % 8)) _ ⟨g, hr3, hS3, by rw [sF, zws1, if_pos ⟨q1a, q1b, b⟩, ← hX, if_pos q2]⟩
          · rw [Nat.min_eq_right (by omega)] at w1
            have l : ¬ nI X.1 < nI X.1 := by rw [nI_ltI (by omega) (by omega)]; omega
            have st : L_Census_worstRule_53 (F + 1) E (nI n) (nI X.1) X.2 (nI k) S = L_Census_worstRule_53 F E (nI n) (nI X.1) X.2 (nI (k + 1)) (zwI S2 (aPs T (k / 8)) 5 (nI (zasd asd (k / 8) (k % 8) (k / 8) ^^^ 2 ^ (k % 8)))) := by
              rw [L_Census_worstRule_53]
              simp only [-Prod.exists, -Prod.forall, ↓bb_gf, ↓bb_gr, ↓bb_len, ↓bb_ga, ↓bb_gl, ↓bb_go, ↓bb_pf, ↓bb_pz, ↓bb_pr, ↓bb_pa, ↓bb_pb, ↓bb_pl, ↓bb_po, ↓bb_cl, ↓bb_some, ↓bb_RI, ↓bb_RJ, mm_hI, mm_hJ, mm_hR, mm_nI, mm_nJ, mm_nR, mm_sI, mm_sJ, mm_sR, mm_RI, mm_RJ, mm_IJ, mm_IR, mm_JI, mm_JR, mm_II, mm_JJ, mm_RR, hx, if_true, lX, if_false, n8, hk.1, ↓bS h9, hS.1.1, ed, er, ↓bS ru, ↓bS ia, ↓bS tu, ↓bS ct, ↓bS w1, hk2.1, ↓bS h92, hS2.1.1, ↓bS tu2, l, e1]
            rw [st]
            exact kk X _ ⟨g, hr3, hS3, by rw [sF, zws1, if_pos ⟨q1a, q1b, b⟩, ← hX, if_neg q2]⟩
      · have ru2 : f_Script_ruleAt T (nI (k / 8)) (nI (k % 8)) S = some (none, S) := by
          rw [ru]
          by_cases q3 : k / 8 < sc.2.2.length
          · rw [if_pos q3, if_neg (fun w => q1 ⟨q3, w⟩)]
          · rw [if_neg q3]
        have st : L_Census_worstRule_53 (F + 1) E (nI n) (nI X.1) X.2 (nI k) S = L_Census_worstRule_53 F E (nI n) (nI X.1) X.2 (nI (k + 1)) S := by
          rw [L_Census_worstRule_53]
          simp only [-Prod.exists, -Prod.forall, ↓bb_gf, ↓bb_gr, ↓bb_len, ↓bb_ga, ↓bb_gl, ↓bb_go, ↓bb_pf, ↓bb_pz, ↓bb_pr, ↓bb_pa, ↓bb_pb, ↓bb_pl, ↓bb_po, ↓bb_cl, ↓bb_some, ↓bb_RI, ↓bb_RJ, mm_hI, mm_hJ, mm_hR, mm_nI, mm_nJ, mm_nR, mm_sI, mm_sJ, mm_sR, mm_RI, mm_RJ, mm_IJ, mm_IR, mm_JI, mm_JR, mm_II, mm_JJ, mm_RR, hx, if_true, lX, if_false, n8, hk.1, ↓bS h9, hS.1.1, ed, er, ↓bS ru2, e1]
        rw [st]
        exact kk X S ⟨hf, hr, hS, by rw [sF, zws1, if_neg (fun w => q1 ⟨w.1, w.2.1⟩), hX]⟩
theorem c_worst (hq0 : qCen S0 E T sc asd K) (hr0 : rCen S0 E) (hE : E ≠ 0) (hT : T + 172 ≤ E) {n : Nat} (hn : n ≤ 5) (hnK : zcnt sc.1 n ≤ K) (hwc : wCen S0 E sc.1 sc.2.2 asd) : ∃ S', f_Census_worstRule E (nI n) S0 = some ((zwsF sc.1 sc.2.2 asd (zcnt sc.1 n) 24).2, S') ∧ zfq (wWr E T) (vLn1 E) S0 S' ∧ rCen S' E ∧ pScr S' T sc asd ∧ wCen S' E sc.1 sc.2.2 asd := by
  obtain ⟨hk, hS, h9, hL, hK5, hd⟩ := hq0
  have hq0 : qCen S0 E T sc asd K := ⟨hk, hS, h9, hL, hK5, hd⟩
  have l1 : ¬ nI n < 0 := nI_pos (by omega)
  have l2 : nI n < nI 6 := (nI_ltI (by omega) (by omega)).2 (by omega)
  have z : zinb (nI n) 6 = true := (nn_in (by omega)).2 (by omega)
  have c : (nI n).toNatClampNeg = n := nI_clamp (by omega)
  by_cases q : zI S0 (E + 30) n = -3
  · have cd := c_countDoubled hq0 hn hnK
    obtain ⟨S1, r1, r2, r3, r4⟩ := c_worst_53 hq0 hr0 hE hT hn hnK
    have f1 : zfr (fun b j => b = E + 30 ∧ j = n) S1 (zwI S1 (E + 30) n (zwsF sc.1 sc.2.2 asd (zcnt sc.1 n) 24).2) := fr_wI _ _ ⟨rfl, rfl⟩
    refine ⟨zwI S1 (E + 30) n (zwsF sc.1 sc.2.2 asd (zcnt sc.1 n) 24).2, ?_, fq_trans (fq_mono r2 (fun b j h => by unfold wWr1 at h; unfold wWr; omega) (fun b j h => h)) (fq_fr (fr_mono f1 (fun b j h => by unfold wWr; omega))), rCen_sm r3 (sm_fr f1 (fun b j h1 h2 => by omega)), scr_sm r4 (sm_fr (lo := T) (hi := T + 172) f1 (fun b j h1 h2 => by omega)) (by omega) (by omega), fun m hm => ?_⟩
    · rw [← r1]
      simp [f_Census_worstRule, -Prod.exists, -Prod.forall, ↓bb_gf, ↓bb_gr, ↓bb_len, ↓bb_ga, ↓bb_gl, ↓bb_go, ↓bb_pf, ↓bb_pz, ↓bb_pr, ↓bb_pa, ↓bb_pb, ↓bb_pl, ↓bb_po, ↓bb_cl, ↓bb_some, ↓bb_RI, ↓bb_RJ, mm_hI, mm_hJ, mm_hR, mm_nI, mm_nJ, mm_nR, mm_sI, mm_sJ, mm_sR, mm_RI, mm_RJ, mm_IJ, mm_IR, mm_JI, mm_JR, mm_II, mm_JJ, mm_RR, hk.1, h9, l1, ↓bS hk.2.2.2.2.2.2.2.2.2.2.2.2.2.2.1, hk.2.2.2.2.2.2.2.2.2.2.2.2.2.2.2, l2, z, c, q, ↓bS cd]
    · by_cases q2 : m = n
      · subst q2; right; simp [-Prod.exists, -Prod.forall, zgf, zgr, zpf, zpz, zpr, zga, zgl, zgo, zpa, zpb, zpl, zpo, mm_len, zcl, Option.bind_some, Option.bind_none, mm_hI, mm_hJ, mm_hR, mm_nI, mm_nJ, mm_nR, mm_sI, mm_sJ, mm_sR, mm_RI, mm_RJ, mm_IJ, mm_IR, mm_JI, mm_JR, mm_II, mm_JJ, mm_RR]
      · rw [fr_I f1 (by omega), fq_I r2 (by unfold wWr1; omega)]; exact hwc m hm
  · refine ⟨S0, ?_, fq_refl _ _ _, hr0, hS, hwc⟩
    have v : zI S0 (E + 30) n = (zwsF sc.1 sc.2.2 asd (zcnt sc.1 n) 24).2 := by
      rcases hwc n (by omega) with w | w
      · exact absurd w q
      · exact w
    have nv : ¬ (zwsF sc.1 sc.2.2 asd (zcnt sc.1 n) 24).2 = -3 := wsF_val 24 (by omega)
    simp [f_Census_worstRule, -Prod.exists, -Prod.forall, ↓bb_gf, ↓bb_gr, ↓bb_len, ↓bb_ga, ↓bb_gl, ↓bb_go, ↓bb_pf, ↓bb_pz, ↓bb_pr, ↓bb_pa, ↓bb_pb, ↓bb_pl, ↓bb_po, ↓bb_cl, ↓bb_some, ↓bb_RI, ↓bb_RJ, mm_hI, mm_hJ, mm_hR, mm_nI, mm_nJ, mm_nR, mm_sI, mm_sJ, mm_sR, mm_RI, mm_RJ, mm_IJ, mm_IR, mm_JI, mm_JR, mm_II, mm_JJ, mm_RR, hk.1, h9, l1, ↓bS hk.2.2.2.2.2.2.2.2.2.2.2.2.2.2.1, hk.2.2.2.2.2.2.2.2.2.2.2.2.2.2.2, l2, z, c, v, nv]
end
