/-! the class's carrier -/
def sCar (S : zM) (c x y : Nat) : Prop := zh S c = (1, 0) ∧ zR S c 0 = some (c + 1) ∧ zh S (c + 1) = (118, 3) ∧ (∀ p, p < 3 → zR S (c + 1) p = some (c + 8 + 2 * p)) ∧ zR S c 1 = some (c + 2) ∧ zh S (c + 2) = (100, 3) ∧ zR S c 2 = some (c + 3) ∧ zh S (c + 3) = (100, 24) ∧ zR S c 3 = some x ∧ zR S c 4 = some y ∧ ((x = c + 4 ∧ y = c + 6) ∨ (x = c + 6 ∧ y = c + 4))
/-- the rules that served: how often each, and as bits -/
def pSv (S : zM) (c : Nat) (sv : List Nat) : Prop := (∀ k, k < 24 → zI S (c + 3) k = nI (sv.count k)) ∧ zI S c 5 = nI (zbits 24 (fun k => sv.contains k))
theorem car_fr {W V : Nat → Nat → Prop} {S S' : zM} {c x y : Nat} (h : sCar S c x y) (q : zfq W V S S') (hv : ∀ b j, V b j → False) : sCar S' c x y := by
  have e : ∀ b j, zR S' b j = zR S b j := fun b j => fq_R q (fun r => hv b j r)
  unfold sCar; simp only [fq_h q, e]; exact h
theorem sv_fr {W V : Nat → Nat → Prop} {S S' : zM} {c : Nat} {sv : List Nat} (h : pSv S c sv) (q : zfq W V S S') (h1 : ¬ W c 5) (h2 : ∀ k, ¬ W (c + 3) k) : pSv S' c sv :=
  ⟨fun k hk => by rw [fq_I q (h2 k)]; exact h.1 k hk, by rw [fq_I q h1]; exact h.2⟩
theorem car_note {S : zM} {c x y p i : Nat} {sv : List Nat} (h : sCar S c x y) (hs : pSv S c sv) (hp : p < 3) (hi : i < 8) : ∃ S', f_Carrier_noteServed c (nI p) (nI i) S = some S' ∧ zfr (fun b j => (b = c ∧ j = 5) ∨ b = c + 3) S S' ∧ pSv S' c (sv ++ [8 * p + i]) := by
  obtain ⟨a1, a2, a3, a4, a5, a6, a7, a8, a9, a10, a11⟩ := h
  have hk : p * 8 + i < 24 := by omega
  have e1 := hs.1 _ hk
  have hb : nI (zbits 24 (fun k => sv.contains k)) ||| nI (2 ^ (p * 8 + i)) = nI (zbits 24 (fun k => (sv ++ [8 * p + i]).contains k)) := by
    rw [fa_or]
    congr 1
    refine bits_ext (fun j => ?_)
    rw [fb_bit_set, bits_tb, bits_tb]
    by_cases hj : j = p * 8 + i
    · have h24 : 8 * p + i < 24 := by omega
      rw [hj, show p * 8 + i = 8 * p + i by omega]; simp [h24]
    · have : ¬ j = 8 * p + i := by omega
      simp [hj, this]
  refine ⟨zwI (zwI S (c + 3) (p * 8 + i) (nI (sv.count (p * 8 + i) + 1))) c 5 (nI (zbits 24 (fun k => (sv ++ [8 * p + i]).contains k))), ?_, fr_trans (fr_wI _ _ (Or.inr rfl)) (fr_wI _ _ (Or.inl ⟨rfl, rfl⟩)), fun k hk2 => ?_, by simp [mm_II]⟩
  · rw [← hb]
    simp (disch := omega) [f_Carrier_noteServed, -Prod.exists, -Prod.forall, zgf, zgr, zpf, zpz, zpr, zga, zgl, zgo, zpa, zpb, zpl, zpo, mm_len, zcl, Option.bind_some, Option.bind_none, mm_hI, mm_hJ, mm_hR, mm_nI, mm_nJ, mm_nR, mm_sI, mm_sJ, mm_sR, mm_RI, mm_RJ, mm_IJ, mm_IR, mm_JI, mm_JR, mm_II, mm_JJ, mm_RR, nn_lit, nI_add, pk_mul, nI_clamp, nI_ltI, nI_leI, nI_eq, nn_in, nn_eqm, nn_meq, nn_ltm, nn_mlt, nn_lem, nn_mle, nn_in_m, a1, a7, a8, hk, e1, hs.2, nn_pow2]
  · rw [mm_II, if_neg (by omega), mm_II]
    by_cases hkk : k = p * 8 + i
    · have q : p * 8 + i = 8 * p + i := by omega
      subst hkk
      rw [if_pos ⟨rfl, rfl⟩, q, List.count_append, List.count_singleton_self]
    · have : ¬ 8 * p + i = k := by omega
      rw [if_neg (by omega), hs.1 k hk2, List.count_append, List.count_singleton]
      simp [this]
/-- cells that a round changes -/
def wRd (c y : Nat) : Nat → Nat → Prop := fun b j => (b = c ∧ j = 5) ∨ b = c + 3 ∨ b = y ∨ b = y + 1
theorem car_round_l {S0 : zM} {c x y P p : Nat} {ps : zPs} {mask : Nat} {row sv0 : List Nat} {tn : Bool} (hc : sCar S0 c x y) (hP : pPass S0 P ps mask) (hr : pRow S0 x 60 row) (hd : P + 56 ≤ c ∨ c + 14 ≤ P) (hp : p < 3) :
    ∀ d F (S : zM) at_ (out sv : List Nat) Fz, d + at_ = row.length → d < F → d < Fz → zfr (wRd c y) S0 S → pRow S y 60 out → pSv S c (sv0 ++ sv.map (fun i => 8 * p + i)) → ∃ S' out', L_Carrier_throughRound_36 F c P (nI p) (if tn then 1 else 0) (if tn then P + 9 else P + 2) (nI (zserving ps.2 mask)) (nI at_) S = some (if (zrnd ps.2 mask tn row Fz at_ out sv).1 then 1 else 0, S') ∧ zfr (wRd c y) S0 S' ∧ pRow S' y 60 out' ∧ ((zrnd ps.2 mask tn row Fz at_ out sv).1 = true → out' = (zrnd ps.2 mask tn row Fz at_ out sv).2.1) ∧ pSv S' c (sv0 ++ (zrnd ps.2 mask tn row Fz at_ out sv).2.2.map (fun i => 8 * p + i)) := by
  have hxy := hc.2.2.2.2.2.2.2.2.2.2
  have hw := hP.2.2.2.2.2.2.2.1
  have h60 := hr.2.2.2.2.1
  have keep : ∀ S, zfr (wRd c y) S0 S → sCar S c x y ∧ pPass S P ps mask ∧ pRow S x 60 row := by
    intro S hf
    refine ⟨car_fr hc (fq_fr (V := fun _ _ => False) hf) (fun _ _ q => q), pass_sm hP (sm_fr (lo := P) (hi := P + 56) hf (fun b j h1 h2 => by unfold wRd; omega)) (by omega) (by omega), row_fr hr hf (fun j => by unfold wRd; omega) (fun j => by unfold wRd; omega)⟩
  intro d
  induction d using Nat.strongRecOn with
  | _ d ih =>
    intro F S at_ out sv Fz hda hF hFz hf ho hsv
    obtain ⟨kc, kP, kr⟩ := keep S hf
    have kc' := kc
    obtain ⟨a1, a2, a3, a4, a5, a6, a7, a8, a9, a10, a11⟩ := kc'
    cases F with
    | zero => omega
    | succ F =>
      cases Fz with
      | zero => omega
      | succ Fz =>
        by_cases hlt : at_ < row.length
        · have hnle : ¬ row.length ≤ at_ := by omega
          have hm : pMach S (if tn then P + 9 else P + 2) ps.2 tn := by
            cases tn
            · exact kP.2.2.2.2.2.1
            · exact kP.2.2.2.2.2.2.1
          have hrf := ruleFor (mask := mask) hw hm kr hlt
          have hmc : zh S (if tn then P + 9 else P + 2) = (3, 0) := hm.1.1
          rw [zrnd, if_neg hnle]
          cases e : zserve ps.2 mask tn row at_ with
          | none =>
            rw [e] at hrf
            simp only [zsI] at hrf
            have hra := pass_ruleAt kP (-1)
            rw [if_pos (by decide)] at hra
            have l7 := kr.2.2.2.2.2.2.2 at_
            have hrow := row_at kr (nI at_)
            rw [atD_nI (by omega), if_pos hlt] at hrow
            by_cases hfit : out.length + 1 ≤ 60
            · obtain ⟨S1, f1, f2, f3⟩ := row_add ho (show out.length < 60 by omega) (v := lg row at_) (by omega)
              rw [Nat.mod_eq_of_lt l7] at f3
              have f2' : zfr (wRd c y) S S1 := fr_mono f2 (fun b j hb => by have := hb.1; have := hb.2; unfold wRd; omega)
              obtain ⟨S', out', g1, g2, g3, g4, g5⟩ := ih (d - 1) (by omega) F S1 (at_ + 1) (out ++ [lg row at_]) sv Fz (by omega) (by omega) (by omega) (fr_trans hf f2') f3 (sv_fr hsv (fq_fr (V := fun _ _ => False) f2) (fun hb => by have := hb.1; have := hb.2; omega) (fun k hb => by have := hb.1; have := hb.2; omega))
              simp only [hfit, if_true]
              refine ⟨S', out', ?_, g2, g3, g4, g5⟩
              rw [← g1, L_Carrier_throughRound_36]
              simp (disch := omega) [zgr, zgf, zcl, a1, a9, a10, kr.1, kr.2.2.2.2.2.1, nI_ltI, hlt, hmc, hrf, kP.1.1, hra, hrow, ho.1, f1, nI_1]
            · have e60 : out.length = 60 := by have := ho.2.2.2.2.1; omega
              simp only [hfit, if_false]
              refine ⟨S, out, ?_, hf, ho, fun _ => rfl, hsv⟩
              rw [L_Carrier_throughRound_36]
              simp (disch := omega) [zgr, zgf, zcl, a1, a9, a10, kr.1, kr.2.2.2.2.2.1, nI_ltI, hlt, hmc, hrf, kP.1.1, hra, hrow, ho.1, row_addF ho e60]
          | some i =>
            rw [e] at hrf
            simp only [zsI] at hrf
            obtain ⟨hi, hl0, hll⟩ := serve_len e
            have hi8 : i < 8 := by have := hw.1; omega
            have hra := pass_ruleAt kP (nI i)
            rw [if_neg (nI_pos (by omega)), nI_clamp (by omega), if_pos hi] at hra
            obtain ⟨S1, f1, f2, f3⟩ := car_note kc hsv hp hi8
            have f2' : zfr (wRd c y) S S1 := fr_mono f2 (fun b j hb => by unfold wRd; omega)
            have hf1 := fr_trans hf f2'
            obtain ⟨kc1, kP1, kr1⟩ := keep S1 hf1
            have ho1 := row_fr ho f2 (fun j => by omega) (fun j => by omega)
            have hru := kP1.2.2.2.2.1 i hi
            obtain ⟨nT, hT⟩ := rule_rowT hru tn
            obtain ⟨nG, hG⟩ := rule_rowG hru tn
            have wr := ru_w hw hi
            have gT := (ruT_le wr tn).1
            have gG := (ruG_le wr tn).1
            have hmx : zmax 1 (nI (ruT tn (zru ps.2 i)).length) = nI (zlenT ps.2 tn i) := by
              have := nn_max (a := 1) (b := (ruT tn (zru ps.2 i)).length) (by omega) (by omega)
              rw [show (1 : Int32) = nI 1 from rfl, this]
              unfold zlenT at hl0 ⊢; congr 1; omega
            have gRT : zh S1 (if tn then P + 16 + 5 * i + 3 else P + 16 + 5 * i + 1) = (8, 0) := hT.1
            have eqv : 8 * p + i = 8 * p + i := rfl
            rw [List.append_assoc, show [8 * p + i] = [i].map (fun i => 8 * p + i) from rfl, ← List.map_append] at f3
            by_cases hfit : out.length + (ruG tn (zru ps.2 i)).length ≤ 60
            · obtain ⟨S2, k1, k2, k3⟩ := row_addAll ho1 hG hfit (by split <;> omega) (by split <;> omega) (by split <;> omega)
              have k2' : zfr (wRd c y) S1 S2 := fr_mono k2 (fun b j hb => by have := hb.1; have := hb.2; unfold wRd; omega)
              obtain ⟨S', out', g1, g2, g3, g4, g5⟩ := ih (d - zlenT ps.2 tn i) (by omega) F S2 (at_ + zlenT ps.2 tn i) (out ++ ruG tn (zru ps.2 i)) (sv ++ [i]) Fz (by omega) (by omega) (by omega) (fr_trans hf1 k2') k3 (sv_fr f3 (fq_fr (V := fun _ _ => False) k2) (fun hb => by have := hb.1; have := hb.2; omega) (fun k hb => by have := hb.1; have := hb.2; omega))
              simp only [hfit, if_true]
              refine ⟨S', out', ?_, g2, g3, g4, g5⟩
              rw [← g1, L_Carrier_throughRound_36]
              simp (disch := omega) [zgr, zgf, zcl, a1, a9, a10, kr.1, kr.2.2.2.2.2.1, nI_ltI, hlt, hmc, hrf, kP.1.1, hra, f1, hru.1, rule_taken hru tn, gRT, hT.2.2.2.2.2.1, kc1.1, kc1.2.2.2.2.2.2.2.2.2.1, rule_given hru tn, ho1.1, k1, hmx, nI_add]
            · simp only [hfit, if_false]
              refine ⟨S1, out, ?_, hf1, ho1, fun _ => rfl, f3⟩
              rw [L_Carrier_throughRound_36]
              simp (disch := omega) [zgr, zgf, zcl, a1, a9, a10, kr.1, kr.2.2.2.2.2.1, nI_ltI, hlt, hmc, hrf, kP.1.1, hra, f1, hru.1, rule_taken hru tn, gRT, hT.2.2.2.2.2.1, kc1.1, kc1.2.2.2.2.2.2.2.2.2.1, rule_given hru tn, ho1.1, row_addAllF ho1 hG hfit]
        · have hle : row.length ≤ at_ := by omega
          rw [zrnd, if_pos hle]
          refine ⟨S, out, ?_, hf, ho, fun _ => rfl, hsv⟩
          rw [L_Carrier_throughRound_36]
          simp (disch := omega) [zgr, zgf, zcl, a1, a9, kr.1, kr.2.2.2.2.2.1, nI_ltI, hlt]
theorem car_round {S : zM} {c x y P p : Nat} {ps : zPs} {mask : Nat} {row ys sv0 : List Nat} (tn : Bool) (hc : sCar S c x y) (hP : pPass S P ps mask) (hr : pRow S x 60 row) (ho : pRow S y 60 ys) (hs : pSv S c sv0) (hd : P + 56 ≤ c ∨ c + 14 ≤ P) (hp : p < 3) :
    ∃ S' out', f_Carrier_throughRound c P (nI p) (if tn then 1 else 0) S = some (if (zround ps.2 mask tn row).1 then 1 else 0, S') ∧ zfr (wRd c y) S S' ∧ pRow S' y 60 out' ∧ ((zround ps.2 mask tn row).1 = true → out' = (zround ps.2 mask tn row).2.1) ∧ pSv S' c (sv0 ++ (zround ps.2 mask tn row).2.2.map (fun i => 8 * p + i)) := by
  have hxy := hc.2.2.2.2.2.2.2.2.2.2
  have h60 := hr.2.2.2.2.1
  obtain ⟨S1, f1, f2, f3⟩ := row_drop ho
  have f2' : zfr (wRd c y) S S1 := fr_mono f2 (fun b j hb => by have := hb.1; have := hb.2; unfold wRd; omega)
  have f4 : pSv S1 c (sv0 ++ ([] : List Nat).map (fun i => 8 * p + i)) := by
    simp only [List.map_nil, List.append_nil]
    exact sv_fr hs (fq_fr (V := fun _ _ => False) f2) (fun hb => by have := hb.1; have := hb.2; omega) (fun k hb => by have := hb.1; have := hb.2; omega)
  obtain ⟨S', out', g1, g2, g3, g4, g5⟩ := car_round_l (tn := tn) hc hP hr hd hp row.length zF S1 0 [] [] (row.length + 1) (by omega) (by rw [zF_eq]; omega) (by omega) f2' f3 f4
  refine ⟨S', out', ?_, g2, g3, g4, g5⟩
  obtain ⟨a1, a2, a3, a4, a5, a6, a7, a8, a9, a10, a11⟩ := hc
  have hs := pass_serving hP
  obtain ⟨⟨b1, b2, b3, b4, b5, b6⟩, _⟩ := hP
  cases tn
  · simp [f_Carrier_throughRound, zgr, zcl, b1, b5, hs, a1, a10, ho.1, f1]
    exact g1
  · simp [f_Carrier_throughRound, zgr, zcl, b1, b6, hs, a1, a10, ho.1, f1]
    exact g1
def wPd (c p : Nat) : Nat → Nat → Prop := fun b j => (b = c ∧ j = 5) ∨ (b = c + 2 ∧ j = p) ∨ (c + 3 ≤ b ∧ b < c + 8)
def vPd (c : Nat) : Nat → Nat → Prop := fun b j => b = c ∧ (j = 3 ∨ j = 4)
theorem car_pass_l {S0 : zM} {c P p : Nat} {ps : zPs} {mask : Nat} {sv0 : List Nat} {tn : Bool} (hP : pPass S0 P ps mask) (hd : P + 56 ≤ c ∨ c + 14 ≤ P) (hp : p < 3) :
    ∀ k F (S : zM) x y r (row ys sv : List Nat), k + r ≤ 20 → (ps.1 = false → k = 1 ∨ k = 0) → k < F → zfq (wPd c p) (vPd c) S0 S → sCar S c x y → pRow S x 60 row → pRow S y 60 ys → pSv S c (sv0 ++ sv.map (fun i => 8 * p + i)) → (k = 0 → zI S (c + 2) p = nI r) → ∃ S' x' y' row' ys', L_Carrier_throughPass_18 F c P (nI p) (if tn then 1 else 0) (nI (r + k)) (nI (r + 1)) S = some (nI (zprn ps.2 mask ps.1 tn k r row sv).1, S') ∧ zfq (wPd c p) (vPd c) S0 S' ∧ sCar S' c x' y' ∧ pRow S' x' 60 row' ∧ ((zprn ps.2 mask ps.1 tn k r row sv).1 = 0 → row' = (zprn ps.2 mask ps.1 tn k r row sv).2.1) ∧ pRow S' y' 60 ys' ∧ pSv S' c (sv0 ++ (zprn ps.2 mask ps.1 tn k r row sv).2.2.2.map (fun i => 8 * p + i)) ∧ zI S' (c + 2) p = nI (zprn ps.2 mask ps.1 tn k r row sv).2.2.1 := by
  intro k
  induction k with
  | zero =>
    intro F S x y r row ys sv hk20 hag hF hf hc hr hy hs hz
    cases F with
    | zero => omega
    | succ F =>
      refine ⟨S, x, y, row, ys, ?_, hf, hc, hr, fun q => by simp [zprn] at q, hy, hs, hz rfl⟩
      rw [L_Carrier_throughPass_18, if_neg (fun h => by have := (nI_leI (by omega) (by omega)).1 h; omega)]
      rfl
  | succ k ih =>
    intro F S x y r row ys sv hk20 hag hF hf hc hr hy hs hz
    cases F with
    | zero => omega
    | succ F =>
      have hxy := hc.2.2.2.2.2.2.2.2.2.2
      have kP : pPass S P ps mask := pass_sm hP (sm_fq (lo := P) (hi := P + 56) hf (fun b j h1 h2 => by unfold wPd vPd; omega)) (by omega) (by omega)
      have hc0 := hc
      obtain ⟨a1, a2, a3, a4, a5, a6, a7, a8, a9, a10, a11⟩ := hc0
      have f1 : zfr (fun b j => b = c + 2 ∧ j = p) S (zwI S (c + 2) p (nI (r + 1))) := fr_wI _ _ ⟨rfl, rfl⟩
      have f1q : zfq (wPd c p) (vPd c) S (zwI S (c + 2) p (nI (r + 1))) := fq_fr (fr_mono f1 (fun b j hb => by unfold wPd; omega))
      have c1 := car_fr hc (fq_fr (V := fun _ _ => False) f1) (fun _ _ q => q)
      have P1 : pPass (zwI S (c + 2) p (nI (r + 1))) P ps mask := pass_sm kP (sm_fr (lo := P) (hi := P + 56) f1 (fun b j h1 h2 => by omega)) (by omega) (by omega)
      have r1 := row_fr hr f1 (fun j => by omega) (fun j => by omega)
      have y1 := row_fr hy f1 (fun j => by omega) (fun j => by omega)
      have s1 := sv_fr hs (fq_fr (V := fun _ _ => False) f1) (by omega) (fun k => by omega)
      obtain ⟨S2, out, g1, g2, g3, g4, g5⟩ := car_round tn c1 P1 r1 y1 s1 hd hp
      have g2q : zfq (wPd c p) (vPd c) (zwI S (c + 2) p (nI (r + 1))) S2 := fq_fr (fr_mono g2 (fun b j hb => by unfold wPd; unfold wRd at hb; omega))
      have c2 := car_fr c1 (fq_fr (V := fun _ _ => False) g2) (fun _ _ q => q)
      have P2 : pPass S2 P ps mask := pass_sm P1 (sm_fr (lo := P) (hi := P + 56) g2 (fun b j h1 h2 => by unfold wRd; omega)) (by omega) (by omega)
      have r2 := row_fr r1 g2 (fun j => by unfold wRd; omega) (fun j => by unfold wRd; omega)
      have rc2 : zI S2 (c + 2) p = nI (r + 1) := by rw [fr_I g2 (by unfold wRd; omega)]; simp [mm_II]
      have hle : nI (r + 1) ≤ nI (r + (k + 1)) := (nI_leI (by omega) (by omega)).2 (by omega)
      rw [List.append_assoc, ← List.map_append] at g5
      obtain ⟨a1', a2', a3', a4', a5', a6', a7', a8', a9', a10', a11'⟩ := c2
      rw [L_Carrier_throughPass_18, if_pos hle, zprn]
      cases hrd : (zround ps.2 mask tn row).1 with
      | false =>
        rw [hrd] at g1
        refine ⟨S2, x, y, row, out, ?_, fq_trans hf (fq_trans f1q g2q), ⟨a1', a2', a3', a4', a5', a6', a7', a8', a9', a10', a11'⟩, r2, fun q => by simp at q, g3, g5, by simpa using rc2⟩
        simp (disch := omega) [zgr, zpa, zcl, a1, a5, a6, nn_in, hp, nI_clamp, mm_hI, g1]
        rfl
      | true =>
        rw [hrd] at g1
        have eo := g4 hrd
        subst eo
        have hsame := row_same r2 g3
        have f3q : zfq (wPd c p) (vPd c) S2 (zwR (zwR S2 c 3 (some y)) c 4 (some x)) := fq_trans (fq_wR _ _ ⟨rfl, Or.inl rfl⟩) (fq_wR _ _ ⟨rfl, Or.inr rfl⟩)
        have hsw : zfq (fun _ _ => False) (vPd c) S2 (zwR (zwR S2 c 3 (some y)) c 4 (some x)) := fq_trans (fq_wR _ _ ⟨rfl, Or.inl rfl⟩) (fq_wR _ _ ⟨rfl, Or.inr rfl⟩)
        have c3 : sCar (zwR (zwR S2 c 3 (some y)) c 4 (some x)) c y x := by
          refine ⟨a1', by rw [fq_R hsw (by unfold vPd; omega)]; exact a2', a3', fun q hq => by rw [fq_R hsw (by unfold vPd; omega)]; exact a4' q hq, by rw [fq_R hsw (by unfold vPd; omega)]; exact a5', a6', by rw [fq_R hsw (by unfold vPd; omega)]; exact a7', a8', by simp [mm_RR], by simp [mm_RR], by omega⟩
        have rx : pRow (zwR (zwR S2 c 3 (some y)) c 4 (some x)) x 60 row := row_sm r2 (sm_fq (lo := x) (hi := x + 2) hsw (fun b j h1 h2 => ⟨fun q => q, by unfold vPd; omega⟩)) (by omega) (by omega)
        have ry : pRow (zwR (zwR S2 c 3 (some y)) c 4 (some x)) y 60 (zround ps.2 mask tn row).2.1 := row_sm g3 (sm_fq (lo := y) (hi := y + 2) hsw (fun b j h1 h2 => ⟨fun q => q, by unfold vPd; omega⟩)) (by omega) (by omega)
        have P3 : pPass (zwR (zwR S2 c 3 (some y)) c 4 (some x)) P ps mask := pass_sm P2 (sm_fq (lo := P) (hi := P + 56) hsw (fun b j h1 h2 => ⟨fun q => q, by unfold vPd; omega⟩)) (by omega) (by omega)
        have s3 : pSv (zwR (zwR S2 c 3 (some y)) c 4 (some x)) c (sv0 ++ (sv ++ (zround ps.2 mask tn row).2.2).map (fun i => 8 * p + i)) := g5
        have rc3 : zI (zwR (zwR S2 c 3 (some y)) c 4 (some x)) (c + 2) p = nI (r + 1) := rc2
        have stepE : ∀ G : Int32 × zM → Option (Int32 × zM), (Option.bind (zgr S 1 c 1) fun q1 => Option.bind (zpa S q1 (nI p) (nI (r + 1))) fun S2' => Option.bind (zcl S2' 1 c (f_Carrier_throughRound c P (nI p) (if tn then 1 else 0) S2')) fun p3 => G p3) = G ((1 : Int32), S2) := by
          intro G
          simp (disch := omega) [zgr, zpa, zcl, a1, a5, a6, nn_in, hp, nI_clamp, mm_hI, g1]
        simp only [if_true]
        by_cases hsm : (zround ps.2 mask tn row).2.1 = row
        · rw [if_pos (Or.inl hsm)]
          refine ⟨_, y, x, _, row, ?_, fq_trans hf (fq_trans f1q (fq_trans g2q f3q)), c3, ry, fun _ => rfl, rx, s3, rc3⟩
          rw [if_pos hsm.symm] at hsame
          rw [stepE]
          simp [zgr, zcl, zpr, mm_hR, a1', a9', a10', r2.1, hsame]
          rfl
        · have hsm' : ¬ row = (zround ps.2 mask tn row).2.1 := fun q => hsm q.symm
          rw [if_neg hsm'] at hsame
          cases hg : ps.1 with
          | false =>
            rw [if_pos (Or.inr rfl)]
            refine ⟨_, y, x, _, row, ?_, fq_trans hf (fq_trans f1q (fq_trans g2q f3q)), c3, ry, fun _ => rfl, rx, s3, rc3⟩
            have e4 := P3.2.2.1
            rw [hg] at e4
            rw [stepE]
            simp [zgr, zcl, zpr, zgf, mm_hR, a1', a9', a10', r2.1, hsame, P2.1.1, e4]
            rfl
          | true =>
            have hno : ¬ ((zround ps.2 mask tn row).2.1 = row ∨ true = false) := fun q => q.elim hsm (fun h => Bool.noConfusion h)
            rw [if_neg hno]
            have e4 := P3.2.2.1
            rw [hg] at e4
            obtain ⟨S', x', y', row', ys', k1, k2⟩ := ih F _ y x (r + 1) _ row (sv ++ (zround ps.2 mask tn row).2.2) (by omega) (fun q => by rw [hg] at q; cases q) (by omega) (fq_trans hf (fq_trans f1q (fq_trans g2q f3q))) c3 ry rx s3 (fun _ => rc3)
            rw [hg] at k1 k2
            refine ⟨S', x', y', row', ys', ?_, k2⟩
            rw [← k1, stepE]
            simp [zgr, zcl, zpr, zgf, mm_hR, a1', a9', a10', r2.1, hsame, P2.1.1, e4, nI_1]
            rw [show r + 1 + k = r + (k + 1) by omega]
theorem car_pass {S : zM} {c x y P p : Nat} {ps : zPs} {mask : Nat} {row ys sv0 : List Nat} (tn : Bool) (hP : pPass S P ps mask) (hc : sCar S c x y) (hr : pRow S x 60 row) (ho : pRow S y 60 ys) (hs : pSv S c sv0) (hd : P + 56 ≤ c ∨ c + 14 ≤ P) (hp : p < 3) : ∃ S' x' y' row' ys', f_Carrier_throughPass c P (nI p) (if tn then 1 else 0) S = some (nI (zprun ps.2 mask ps.1 tn row).1, S') ∧ zfq (wPd c p) (vPd c) S S' ∧ sCar S' c x' y' ∧ pRow S' x' 60 row' ∧ ((zprun ps.2 mask ps.1 tn row).1 = 0 → row' = (zprun ps.2 mask ps.1 tn row).2.1) ∧ pRow S' y' 60 ys' ∧ pSv S' c (sv0 ++ (zprun ps.2 mask ps.1 tn row).2.2.2.map (fun i => 8 * p + i)) ∧ zI S' (c + 2) p = nI (zprun ps.2 mask ps.1 tn row).2.2.1 := by
  have e4 := hP.2.2.1
  have hs0 : pSv S c (sv0 ++ ([] : List Nat).map (fun i => 8 * p + i)) := by simpa using hs
  obtain ⟨S', x', y', row', ys', k1, k2⟩ := car_pass_l (tn := tn) hP hd hp (if ps.1 then 20 else 1) zF S x y 0 row ys [] (by split <;> omega) (fun q => by rw [q]; exact Or.inl rfl) (by rw [zF_eq]; split <;> omega) (fq_refl _ _ _) hc hr ho hs0 (fun q => by split at q <;> omega)
  refine ⟨S', x', y', row', ys', ?_, k2⟩
  unfold zprun
  rw [← k1]
  cases hg : ps.1
  · rw [hg] at e4
    simp [f_Carrier_throughPass, zgf, hP.1.1, e4]
    rfl
  · rw [hg] at e4
    simp [f_Carrier_throughPass, zgf, hP.1.1, e4]
    rfl
