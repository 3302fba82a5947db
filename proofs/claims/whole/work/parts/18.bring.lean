/-! Arrays.fill; bringing a row through all passes -/
theorem fill_l {S0 : zM} {q n : Nat} {v : Int32} (hh : zh S0 q = (100, n)) (hq : q ≠ 0) (hn : n < 2 ^ 31) : ∀ d F j (S : zM), d + j = n → d < F → zfr (rg q (q + 1)) S0 S → (∀ k, k < j → zI S q k = v) → ∃ S', L_J_fill_5 F q v (nI j) (nI n) S = some S' ∧ zfr (rg q (q + 1)) S0 S' ∧ ∀ k, k < n → zI S' q k = v := by
  intro d
  induction d with
  | zero =>
    intro F j S hd hF hf hv
    cases F with
    | zero => omega
    | succ F =>
      have : ¬ j < n := by omega
      refine ⟨S, ?_, hf, fun k hk => hv k (by omega)⟩
      rw [L_J_fill_5, if_neg (fun h => this ((nI_ltI (by omega) hn).1 h))]
  | succ d ih =>
    intro F j S hd hF hf hv
    cases F with
    | zero => omega
    | succ F =>
      have hj : j < n := by omega
      have hh' : zh S q = (100, n) := by rw [fr_h hf]; exact hh
      obtain ⟨S', g1, g2, g3⟩ := ih F (j + 1) (zwI S q j v) (by omega) (by omega) (fr_trans hf (fr_wI S (a := q) _ ⟨by omega, by omega⟩)) (fun k hk => by
        rw [mm_II]
        by_cases hkj : k = j
        · subst hkj; simp
        · simp [hkj]; exact hv k (by omega))
      refine ⟨S', ?_, g2, g3⟩
      rw [L_J_fill_5, if_pos ((nI_ltI (by omega) hn).2 hj), ← g1]
      simp (disch := omega) [zpa, hh', hq, nn_in, hj, nI_clamp, nI_1]
theorem j_fill {S : zM} {q n : Nat} {v : Int32} (hh : zh S q = (100, n)) (hq : q ≠ 0) (hn : n < 100000) : ∃ S', f_J_fill q v S = some S' ∧ zfr (rg q (q + 1)) S S' ∧ ∀ k, k < n → zI S' q k = v := by
  obtain ⟨S', g1, g2, g3⟩ := fill_l (v := v) hh hq (by omega) n zF 0 S (by omega) (by rw [zF_eq]; omega) (fr_refl _ _) (fun k hk => by omega)
  refine ⟨S', ?_, g2, g3⟩
  simp [f_J_fill, mm_len, hh]
  exact g1
/-- a carrier, whatever it holds -/
def aCar (S : zM) (c x y : Nat) : Prop := sCar S c x y ∧ (∃ xs, pRow S x 60 xs) ∧ (∃ ys, pRow S y 60 ys) ∧ ∀ p, p < 3 → ∃ zs, pRow S (c + 8 + 2 * p) 60 zs
theorem sCar_sm {S S' : zM} {c x y lo hi : Nat} (h : sCar S c x y) (q : zsm lo hi S S') (h1 : lo ≤ c) (h2 : c + 2 ≤ hi) : sCar S' c x y := by
  have e : ∀ j, zR S' c j = zR S c j := fun j => (q.2 _ _ (by omega) (by omega)).1
  have e2 : ∀ j, zR S' (c + 1) j = zR S (c + 1) j := fun j => (q.2 _ _ (by omega) (by omega)).1
  unfold sCar; simp only [q.1, e, e2]; exact h
theorem aCar_sm {S S' : zM} {c x y lo hi : Nat} (h : aCar S c x y) (q : zsm lo hi S S') (h1 : lo ≤ c) (h2 : c + 14 ≤ hi) : aCar S' c x y := by
  obtain ⟨a1, ⟨xs, a2⟩, ⟨ys, a3⟩, a4⟩ := h
  have hxy := a1.2.2.2.2.2.2.2.2.2.2
  refine ⟨sCar_sm a1 q h1 (by omega), ⟨xs, row_sm a2 q (by omega) (by omega)⟩, ⟨ys, row_sm a3 q (by omega) (by omega)⟩, fun p hp => ?_⟩
  obtain ⟨zs, hz⟩ := a4 p hp
  exact ⟨zs, row_sm hz q (by omega) (by omega)⟩
/-- the pass that comes k-th -/
def zkp (n : Nat) (tn : Bool) (k : Nat) : Nat := if tn then n - 1 - k else k
def zdone (n : Nat) (tn : Bool) (k q : Nat) : Prop := ∃ k', k' < k ∧ q = zkp n tn k'
theorem al_w {ps : List zPs} (hw : wPs ps) {asd : Nat → Nat} {tn : Bool} {row : List Nat} (h1 : l8 row) (h2 : row.length ≤ 60) : ∀ k, k ≤ ps.length → l8 (zal ps asd tn row k).2.1 ∧ (zal ps asd tn row k).2.1.length ≤ 60 := by
  intro k
  induction k with
  | zero => intro _; exact ⟨h1, h2⟩
  | succ k ih =>
    intro hk
    have := ih (by omega)
    rw [zal]
    split
    · have hp : (if tn then ps.length - 1 - k else k) < ps.length := by split <;> omega
      have q := prun_w (ps_w hw hp) (mask := asd (if tn then ps.length - 1 - k else k)) (ag := (zpa_ ps (if tn then ps.length - 1 - k else k)).1) (tn := tn) this.1 this.2
      exact ⟨q.1, q.2.1⟩
    · exact this
theorem prn_code {rs : List zRu} {mask : Nat} {ag tn : Bool} : ∀ k r row sv, (zprn rs mask ag tn k r row sv).1 = 0 ∨ (zprn rs mask ag tn k r row sv).1 = 6 ∨ (zprn rs mask ag tn k r row sv).1 = 7 := by
  intro k
  induction k with
  | zero => intro r row sv; exact Or.inr (Or.inr rfl)
  | succ k ih =>
    intro r row sv
    rw [zprn]
    split
    · split
      · exact Or.inl rfl
      · exact ih _ _ _
    · exact Or.inr (Or.inl rfl)
theorem prun_code {rs : List zRu} {mask : Nat} {ag tn : Bool} (row : List Nat) : (zprun rs mask ag tn row).1 = 0 ∨ (zprun rs mask ag tn row).1 = 6 ∨ (zprun rs mask ag tn row).1 = 7 := prn_code _ _ _ _
theorem al_code {ps : List zPs} {asd : Nat → Nat} {tn : Bool} {row : List Nat} : ∀ k, (zal ps asd tn row k).1 = 0 ∨ (zal ps asd tn row k).1 = 6 ∨ (zal ps asd tn row k).1 = 7 := by
  intro k
  induction k with
  | zero => exact Or.inl rfl
  | succ k ih =>
    rw [zal]
    split
    · exact prun_code _
    · exact ih
theorem car_code (ps : List zPs) (asd : Nat → Nat) (tn : Bool) (row : List Nat) : (zcar ps asd tn row).1 = 0 ∨ (zcar ps asd tn row).1 = 6 ∨ (zcar ps asd tn row).1 = 7 := al_code _
theorem car_behind {S : zM} {c x y p : Nat} (h : sCar S c x y) (hp : p < 3) : f_Carrier_behindPass c (nI p) S = some (some (c + 8 + 2 * p), S) := by
  obtain ⟨a1, a2, a3, a4, a5, a6, a7, a8, a9, a10, a11⟩ := h
  simp (disch := omega) [f_Carrier_behindPass, -Prod.exists, -Prod.forall, zgf, zgr, zpf, zpz, zpr, zga, zgl, zgo, zpa, zpb, zpl, zpo, mm_len, zcl, Option.bind_some, Option.bind_none, mm_hI, mm_hJ, mm_hR, mm_nI, mm_nJ, mm_nR, mm_sI, mm_sJ, mm_sR, mm_RI, mm_RJ, mm_IJ, mm_IR, mm_JI, mm_JR, mm_II, mm_JJ, mm_RR, nn_lit, nI_add, pk_mul, nI_clamp, nI_ltI, nI_leI, nI_eq, nn_in, nn_eqm, nn_meq, nn_ltm, nn_mlt, nn_lem, nn_mle, nn_in_m, hp, a1, a2, a3, a4 p hp]
theorem bring_l {S0 : zM} {c T : Nat} {sc : zSc} {asd : Nat → Nat} {row : List Nat} {tn : Bool} (hS : pScr S0 T sc asd) (hd : T + 172 ≤ c ∨ c + 14 ≤ T) :
    ∀ d F k (S : zM) x y, d + k = sc.2.2.length → d < F → zfq (rg c (c + 14)) (vPd c) S0 S → aCar S c x y → (zal sc.2.2 asd tn row k).1 = 0 → pRow S x 60 (zal sc.2.2 asd tn row k).2.1 → pSv S c (zal sc.2.2 asd tn row k).2.2.2.2 → (∀ q, zdone sc.2.2.length tn k q → pRow S (c + 8 + 2 * q) 60 ((zal sc.2.2 asd tn row k).2.2.1 q) ∧ zI S (c + 2) q = nI ((zal sc.2.2 asd tn row k).2.2.2.1 q)) →
    ∃ S' x' y', L_Carrier_bring_24 F c T (if tn then 1 else 0) (nI k) S = some (nI (zcar sc.2.2 asd tn row).1, S') ∧ zfq (rg c (c + 14)) (vPd c) S0 S' ∧ aCar S' c x' y' ∧ pSv S' c (zcar sc.2.2 asd tn row).2.2.2.2 ∧ ((zcar sc.2.2 asd tn row).1 = 0 → pRow S' x' 60 (zcar sc.2.2 asd tn row).2.1 ∧ ∀ q, q < sc.2.2.length → pRow S' (c + 8 + 2 * q) 60 ((zcar sc.2.2 asd tn row).2.2.1 q) ∧ zI S' (c + 2) q = nI ((zcar sc.2.2 asd tn row).2.2.2.1 q)) := by
  have stuck : ∀ k, (zal sc.2.2 asd tn row k).1 ≠ 0 → ∀ d, zal sc.2.2 asd tn row (k + d) = zal sc.2.2 asd tn row k := by
    intro k hk d
    induction d with
    | zero => rfl
    | succ d ih => rw [← Nat.add_assoc, zal, if_neg (by rw [ih]; exact hk), ih]
  have hw := hS.2.2.2.2.2.2.2.2.2
  have h3 := hw.1
  intro d
  induction d with
  | zero =>
    intro F k S x y hdk hF hf hc h0 hr hs hq
    have ek : k = sc.2.2.length := by omega
    have kS : pScr S T sc asd := scr_sm hS (sm_fq (lo := T) (hi := T + 172) hf (fun b j h1 h2 => by unfold rg vPd; omega)) (by omega) (by omega)
    cases F with
    | zero => omega
    | succ F =>
      unfold zcar
      rw [← ek]
      refine ⟨S, x, y, ?_, hf, hc, hs, fun _ => ⟨hr, fun q hq2 => hq q ?_⟩⟩
      · have hx : ¬ k < sc.2.2.length := by omega
        simp (disch := omega) [L_Carrier_bring_24, zgf, kS.1.1, kS.2.2.2.1, nI_ltI, hx, h0]
        rfl
      · unfold zdone zkp
        cases tn
        · exact ⟨q, by omega, rfl⟩
        · exact ⟨sc.2.2.length - 1 - q, by omega, by simp; omega⟩
  | succ d ih =>
    intro F k S x y hdk hF hf hc h0 hr hs hq
    have kS : pScr S T sc asd := scr_sm hS (sm_fq (lo := T) (hi := T + 172) hf (fun b j h1 h2 => by unfold rg vPd; omega)) (by omega) (by omega)
    cases F with
    | zero => omega
    | succ F =>
      have hk : k < sc.2.2.length := by omega
      obtain ⟨p, hpd⟩ : ∃ p, p = zkp sc.2.2.length tn k := ⟨_, rfl⟩
      have hpd' : p = if tn then sc.2.2.length - 1 - k else k := hpd
      have hp : p < sc.2.2.length := by rw [hpd']; split <;> omega
      have hp3 : p < 3 := by omega
      have kP := kS.2.2.2.2.2.1 p hp
      have hxy := hc.1.2.2.2.2.2.2.2.2.2.2
      obtain ⟨ys, hy⟩ := hc.2.2.1
      obtain ⟨S1, x1, y1, row1, ys1, g1, g2, g3, g4, g5, g6, g7, g8⟩ := car_pass tn kP hc.1 hr hy hs (by unfold aPs; omega) hp3
      have g2q : zfq (rg c (c + 14)) (vPd c) S S1 := fq_mono g2 (fun b j hb => by unfold wPd at hb; unfold rg; omega) (fun b j hb => hb)
      have hxy1 := g3.2.2.2.2.2.2.2.2.2.2
      have beh1 : ∀ q zs, q < 3 → pRow S (c + 8 + 2 * q) 60 zs → pRow S1 (c + 8 + 2 * q) 60 zs := fun q zs hq3 hz => row_sm hz (sm_fq (lo := c + 8 + 2 * q) (hi := c + 8 + 2 * q + 2) g2 (fun b j h1 h2 => by unfold wPd vPd; omega)) (by omega) (by omega)
      have hc1 : aCar S1 c x1 y1 := ⟨g3, ⟨_, g4⟩, ⟨_, g6⟩, fun q hq3 => by
        obtain ⟨zs, hz⟩ := hc.2.2.2 q hq3
        exact ⟨zs, beh1 q zs hq3 hz⟩⟩
      have ea : zal sc.2.2 asd tn row (k + 1) = ((zprun (zpa_ sc.2.2 p).2 (asd p) (zpa_ sc.2.2 p).1 tn (zal sc.2.2 asd tn row k).2.1).1, (zprun (zpa_ sc.2.2 p).2 (asd p) (zpa_ sc.2.2 p).1 tn (zal sc.2.2 asd tn row k).2.1).2.1, zup (zal sc.2.2 asd tn row k).2.2.1 p (zprun (zpa_ sc.2.2 p).2 (asd p) (zpa_ sc.2.2 p).1 tn (zal sc.2.2 asd tn row k).2.1).2.1, zup (zal sc.2.2 asd tn row k).2.2.2.1 p (zprun (zpa_ sc.2.2 p).2 (asd p) (zpa_ sc.2.2 p).1 tn (zal sc.2.2 asd tn row k).2.1).2.2.1, (zal sc.2.2 asd tn row k).2.2.2.2 ++ (zprun (zpa_ sc.2.2 p).2 (asd p) (zpa_ sc.2.2 p).1 tn (zal sc.2.2 asd tn row k).2.1).2.2.2.map (fun i => 8 * p + i)) := by
        rw [zal, if_pos h0, hpd']
      have hpa := scr_passAt kS (nI p)
      rw [if_neg (nI_pos (by omega)), nI_clamp (by omega), if_pos hp] at hpa
      have hbe := car_behind hc.1 hp3
      by_cases hz : (zprun (zpa_ sc.2.2 p).2 (asd p) (zpa_ sc.2.2 p).1 tn (zal sc.2.2 asd tn row k).2.1).1 = 0
      · have er := g5 hz
        obtain ⟨zs, hzs⟩ := hc1.2.2.2 p hp3
        obtain ⟨S2, k1, k2, k3⟩ := row_copy hzs g4 g4.2.2.2.2.1 (by omega) (by omega) (by omega)
        have k2q : zfq (rg c (c + 14)) (vPd c) S1 S2 := fq_fr (fr_mono k2 (fun b j hb => by have := hb.1; have := hb.2; unfold rg; omega))
        have hx2 : pRow S2 x1 60 row1 := row_fr g4 k2 (fun j hb => by have := hb.1; have := hb.2; omega) (fun j hb => by have := hb.1; have := hb.2; omega)
        have hc2 : aCar S2 c x1 y1 := ⟨car_fr g3 (fq_fr (V := fun _ _ => False) k2) (fun _ _ q => q), ⟨_, hx2⟩, ⟨_, row_fr g6 k2 (fun j hb => by have := hb.1; have := hb.2; omega) (fun j hb => by have := hb.1; have := hb.2; omega)⟩, fun q hq3 => by
          by_cases e : q = p
          · subst e; exact ⟨_, k3⟩
          · obtain ⟨zs, hz⟩ := hc1.2.2.2 q hq3
            exact ⟨zs, row_fr hz k2 (fun j hb => by have := hb.1; have := hb.2; omega) (fun j hb => by have := hb.1; have := hb.2; omega)⟩⟩
        obtain ⟨S', x', y', m1, m2⟩ := ih F (k + 1) S2 x1 y1 (by omega) (by omega) (fq_trans hf (fq_trans g2q k2q)) hc2 (by rw [ea]; exact hz) (by rw [ea]; exact er ▸ hx2) (by
          rw [ea]
          exact sv_fr g7 (fq_fr (V := fun _ _ => False) k2) (fun hb => by have := hb.1; have := hb.2; omega) (fun k hb => by have := hb.1; have := hb.2; omega)) (fun q hqd => by
          rw [ea]
          simp only [zup]
          by_cases e : q = p
          · subst e
            rw [if_pos rfl, if_pos rfl]
            refine ⟨er ▸ k3, ?_⟩
            rw [fr_I k2 (fun hb => by have := hb.1; have := hb.2; omega)]
            exact g8
          · rw [if_neg e, if_neg e]
            have hqd2 : zdone sc.2.2.length tn k q := by
              obtain ⟨k', h1, h2⟩ := hqd
              by_cases e2 : k' = k
              · subst e2; exact absurd (h2.trans hpd.symm) e
              · exact ⟨k', by omega, h2⟩
            have hq3 : q < 3 := by
              obtain ⟨k', h1, h2⟩ := hqd2
              unfold zkp at h2; split at h2 <;> omega
            obtain ⟨w1, w2⟩ := hq q hqd2
            refine ⟨row_fr (beh1 q _ hq3 w1) k2 (fun j hb => by have := hb.1; have := hb.2; omega) (fun j hb => by have := hb.1; have := hb.2; omega), ?_⟩
            rw [fr_I k2 (fun hb => by have := hb.1; have := hb.2; omega), fq_I g2 (by unfold wPd; omega)]
            exact w2)
        refine ⟨S', x', y', ?_, m2⟩
        rw [← m1]
        have n0 : nI 0 = 0 := rfl
        rw [hz, n0] at g1
        cases htn : tn
        · rw [htn] at hpd' g1
          simp only [Bool.false_eq_true, if_false] at hpd'
          subst hpd'
          simp (disch := omega) [L_Carrier_bring_24, zgf, zgr, zcl, kS.1.1, kS.2.2.2.1, nI_ltI, hk, hpa, hc.1.1, hbe, g3.2.2.2.2.2.2.2.2.1, g3.1, hzs.1, k1, nI_1]
          simp at g1
          simp (disch := omega) [g1, zgr, g3.2.2.2.2.2.2.2.2.1, g3.1, hzs.1, k1]
        · rw [htn] at hpd' g1
          simp only [if_true] at hpd'
          have e1 : nI sc.2.2.length - 1 - nI k = nI p := by
            rw [show (1 : Int32) = nI 1 from rfl, pk_sub (by omega), pk_sub (by omega), hpd']
          simp (disch := omega) [L_Carrier_bring_24, zgf, zgr, zcl, kS.1.1, kS.2.2.2.1, nI_ltI, hk, e1, hpa, hc.1.1, hbe, nI_1]
          simp at g1
          simp (disch := omega) [g1, zgr, g3.2.2.2.2.2.2.2.2.1, g3.1, hzs.1, k1]
      · have st := stuck (k + 1) (by rw [ea]; exact hz) (sc.2.2.length - (k + 1))
        rw [show k + 1 + (sc.2.2.length - (k + 1)) = sc.2.2.length by omega] at st
        refine ⟨S1, x1, y1, ?_, fq_trans hf g2q, hc1, ?_, fun q => ?_⟩
        · unfold zcar
          rw [st, ea]
          have hc7 : (zprun (zpa_ sc.2.2 p).2 (asd p) (zpa_ sc.2.2 p).1 tn (zal sc.2.2 asd tn row k).2.1).1 < 8 := by
            rcases prun_code (rs := (zpa_ sc.2.2 p).2) (mask := asd p) (ag := (zpa_ sc.2.2 p).1) (tn := tn) (zal sc.2.2 asd tn row k).2.1 with q | q | q <;> omega
          have nz : ¬ nI (zprun (zpa_ sc.2.2 p).2 (asd p) (zpa_ sc.2.2 p).1 tn (zal sc.2.2 asd tn row k).2.1).1 = 0 := nI_ne0 (by omega) (by omega)
          cases htn : tn
          · rw [htn] at hpd' g1 nz
            simp only [Bool.false_eq_true, if_false] at hpd'
            subst hpd'
            simp at g1
            simp (disch := omega) [L_Carrier_bring_24, zgf, zgr, zcl, kS.1.1, kS.2.2.2.1, nI_ltI, hk, hpa, hc.1.1, hbe, g1, nz]
          · rw [htn] at hpd' g1 nz
            simp only [if_true] at hpd'
            have e1 : nI sc.2.2.length - 1 - nI k = nI p := by
              rw [show (1 : Int32) = nI 1 from rfl, pk_sub (by omega), pk_sub (by omega), hpd']
            simp at g1
            simp (disch := omega) [L_Carrier_bring_24, zgf, zgr, zcl, kS.1.1, kS.2.2.2.1, nI_ltI, hk, e1, hpa, hc.1.1, hbe, g1, nz]
        · unfold zcar; rw [st, ea]; exact g7
        · unfold zcar at q; rw [st, ea] at q; exact absurd q hz
theorem bring {S : zM} {c T r n x y : Nat} {sc : zSc} {asd : Nat → Nat} {row : List Nat} (tn : Bool) (hS : pScr S T sc asd) (hd : T + 172 ≤ c ∨ c + 14 ≤ T) (hc : aCar S c x y) (hr : pRow S r n row) (hrd : r + 2 ≤ c ∨ c + 14 ≤ r) (h60 : row.length ≤ 60) :
    ∃ S' x' y', f_Carrier_bring c T r (if tn then 1 else 0) S = some (nI (zcar sc.2.2 asd tn row).1, S') ∧ zfq (rg c (c + 14)) (vPd c) S S' ∧ aCar S' c x' y' ∧ pSv S' c (zcar sc.2.2 asd tn row).2.2.2.2 ∧ ((zcar sc.2.2 asd tn row).1 = 0 → pRow S' x' 60 (zcar sc.2.2 asd tn row).2.1 ∧ ∀ q, q < sc.2.2.length → pRow S' (c + 8 + 2 * q) 60 ((zcar sc.2.2 asd tn row).2.2.1 q) ∧ zI S' (c + 2) q = nI ((zcar sc.2.2 asd tn row).2.2.2.1 q)) := by
  obtain ⟨hs, ⟨xs, hx⟩, ⟨ys, hy⟩, hb⟩ := hc
  have hs0 := hs
  obtain ⟨a1, a2, a3, a4, a5, a6, a7, a8, a9, a10, a11⟩ := hs0
  obtain ⟨S1, e1, f1, v1⟩ := j_fill (v := 0) a8 (by omega) (by omega)
  have f2 : zfr (rg c (c + 4)) S (zwI S1 c 5 0) := fr_trans (fr_mono f1 (fun b j hb => by have := hb.1; have := hb.2; unfold rg; omega)) (fr_wI _ _ ⟨by omega, by omega⟩)
  have h1 : zh S1 = zh S := fr_h f1
  have r1 : zR S1 = zR S := fr_R f1
  have cx := row_fr hx f2 (fun j hb => by have := hb.1; have := hb.2; omega) (fun j hb => by have := hb.1; have := hb.2; omega)
  have cr := row_fr hr f2 (fun j hb => by have := hb.1; have := hb.2; omega) (fun j hb => by have := hb.1; have := hb.2; omega)
  obtain ⟨S3, e3, f3, p3⟩ := row_copy cx cr h60 (by omega) (by omega) (by omega)
  have f4 : zfr (rg c (c + 8)) S S3 := fr_trans (fr_mono f2 (fun b j hb => by have := hb.1; have := hb.2; unfold rg; omega)) (fr_mono f3 (fun b j hb => by have := hb.1; have := hb.2; unfold rg; omega))
  have f4q : zfq (rg c (c + 14)) (vPd c) S S3 := fq_fr (fr_mono f4 (fun b j hb => by have := hb.1; have := hb.2; unfold rg; omega))
  have hc3 : sCar S3 c x y := car_fr hs (fq_fr (V := fun _ _ => False) f4) (fun _ _ q => q)
  have hy3 : ∃ ys, pRow S3 y 60 ys := by
    refine ⟨ys, row_fr (row_fr hy f2 ?_ ?_) f3 ?_ ?_⟩ <;> exact fun j hb => by have := hb.1; have := hb.2; omega
  have hb3 : ∀ p, p < 3 → ∃ zs, pRow S3 (c + 8 + 2 * p) 60 zs := fun p hp => by
    obtain ⟨zs, hz⟩ := hb p hp
    refine ⟨zs, row_fr hz f4 ?_ ?_⟩ <;> exact fun j hb => by have := hb.1; have := hb.2; omega
  have kS : pScr S3 T sc asd := scr_sm hS (sm_fq (lo := T) (hi := T + 172) f4q (fun b j h1 h2 => by unfold rg vPd; omega)) (by omega) (by omega)
  have hv3 : pSv S3 c [] := by
    refine ⟨fun k hk => ?_, ?_⟩
    · rw [fr_I f3 (fun hb => by have := hb.1; have := hb.2; omega), mm_II, if_neg (by omega), v1 k hk]; rfl
    · rw [fr_I f3 (fun hb => by have := hb.1; have := hb.2; omega), mm_II, if_pos ⟨rfl, rfl⟩]
      simp; rfl
  obtain ⟨S', x', y', g1, g2, g3⟩ := bring_l (row := row) (tn := tn) kS hd sc.2.2.length zF 0 S3 x y (by omega) (by rw [zF_eq]; have := kS.2.2.2.2.2.2.2.2.2.1; omega) (fq_refl _ _ _) ⟨hc3, ⟨_, p3⟩, hy3, hb3⟩ rfl p3 hv3 (fun q hq => by obtain ⟨k', h, _⟩ := hq; omega)
  refine ⟨S', x', y', ?_, fq_trans f4q g2, g3⟩
  simp [f_Carrier_bring, zgr, zcl, zpf, mm_hI, mm_RI, a1, a7, e1, h1, r1, a9, hx.1, e3]
  exact g1
