/-! Row: letters out of a block; how many changes -/
theorem pk_digit : ∀ (n : Nat) (ys : List Nat) (m : Nat), ys.length = n → l8 ys → m < n → zpk ys / 8 ^ m % 8 = lg ys (n - 1 - m) := by
  intro n
  induction n with
  | zero => intro ys m _ _ h; omega
  | succ n ih =>
    intro ys m h h8 hm
    have hne : ys ≠ [] := by intro e; subst e; simp at h
    have e := List.dropLast_concat_getLast hne
    have hl : ys.dropLast.length = n := by simp [h]
    have h1 : l8 ys.dropLast := l8_iff.2 (fun x hx => l8_iff.1 h8 x (by rw [List.dropLast_eq_take] at hx; exact List.mem_of_mem_take hx))
    have h2 : ys.getLast hne < 8 := l8_iff.1 h8 _ (List.getLast_mem hne)
    rw [← e, pk_snoc]
    cases m with
    | zero =>
      rw [lg_app2 (by omega)]
      have : n + 1 - 1 - 0 - ys.dropLast.length = 0 := by omega
      rw [this, lg_cons0]; simp; omega
    | succ m =>
      rw [lg_app1 (by omega)]
      have := ih ys.dropLast m hl h1 (by omega)
      rw [show n + 1 - 1 - (m + 1) = n - 1 - m by omega, ← this, Nat.pow_succ, Nat.mul_comm (8 ^ m) 8, ← Nat.div_div_eq_div_mul]
      congr 2; omega
theorem row_addBlock_l {a n : Nat} {ys : List Nat} (hy : l8 ys) (hl : ys.length ≤ 20) : ∀ j F (S : zM) (xs : List Nat), j ≤ ys.length → j < F → xs.length + j ≤ n → pRow S a n xs → ∃ S', L_Row_addBlock_5 F a (lN (zpk ys)) (nI j - 1) S = some S' ∧ zfr (rg a (a + 2)) S S' ∧ pRow S' a n (xs ++ ys.drop (ys.length - j)) := by
  have hP := (pk_bound _ ys rfl hy).2
  have hP2 : 8 ^ ys.length ≤ 8 ^ 20 := Nat.pow_le_pow_right (by omega) hl
  intro j
  induction j with
  | zero =>
    intro F S xs hj hF hx h
    cases F with
    | zero => omega
    | succ F =>
      refine ⟨S, ?_, fr_refl _ _, by simpa using h⟩
      rw [L_Row_addBlock_5, if_pos (by decide)]
  | succ j ih =>
    intro F S xs hj hF hx h
    cases F with
    | zero => omega
    | succ F =>
      have e0 : nI (j + 1) - 1 = nI j := nI_pred j
      have e1 : (nI 3 * nI j) = nI (3 * j) := pk_mul 3 j
      have e2 : (((lN (zpk ys)).toUInt64 >>> ((nI (3 * j)).toInt64.toUInt64 &&& Int64.toUInt64 63)).toInt64).toInt32 &&& 7 = nI (lg ys (ys.length - 1 - j)) := by
        rw [wb_shr (by omega) (by omega), lN_i, ← pk_digit _ ys j rfl hy (by omega), Nat.pow_mul]
        exact fa_mask _ 3
      have l7 := hy (ys.length - 1 - j)
      obtain ⟨S1, f1, f2, f3⟩ := row_add h (show xs.length < n by omega) (v := lg ys (ys.length - 1 - j)) (by omega)
      rw [Nat.mod_eq_of_lt l7] at f3
      obtain ⟨S', g1, g2, g3⟩ := ih F S1 _ (by omega) (by omega) (by simp; omega) f3
      refine ⟨S', ?_, fr_trans f2 g2, ?_⟩
      · rw [e0, L_Row_addBlock_5, if_neg (nI_pos (by omega))]
        rw [show (3 : Int32) = nI 3 from rfl, e1, e2]
        simp only [zcl, h.1, if_true, f1, Option.bind_some]
        rw [← g1, Int32.sub_eq_add_neg]
      · have : ys.drop (ys.length - (j + 1)) = lg ys (ys.length - 1 - j) :: ys.drop (ys.length - j) := by
          have hlt : ys.length - 1 - j < ys.length := by omega
          rw [show ys.length - (j + 1) = ys.length - 1 - j by omega, List.drop_eq_getElem_cons hlt, ← lg_get hlt, show ys.length - 1 - j + 1 = ys.length - j by omega]
        rw [this]
        simpa using g3
theorem row_addBlock {S : zM} {a n : Nat} {xs ys : List Nat} (h : pRow S a n xs) (hy : l8 ys) (hl : ys.length ≤ 20) (hn : xs.length + ys.length ≤ n) : ∃ S', f_Row_addBlock a (lN (zpk ys)) (nI ys.length) S = some S' ∧ zfr (rg a (a + 2)) S S' ∧ pRow S' a n (xs ++ ys) := by
  obtain ⟨S', g1, g2, g3⟩ := row_addBlock_l hy hl ys.length zF S xs (by omega) (by rw [zF_eq]; omega) hn h
  exact ⟨S', g1, g2, by simpa using g3⟩
theorem row_addBlock0 {S : zM} {a : Nat} {P : Int64} {c : Int32} (hc : c - 1 < 0) : f_Row_addBlock a P c S = some S := by
  have hF : zF = 999999999 + 1 := zF_eq
  unfold f_Row_addBlock
  rw [hF, L_Row_addBlock_5, if_pos hc]
def zD (xs ys : List Nat) : Nat → Nat → Nat
  | 0, k => k
  | i + 1, 0 => i + 1
  | i + 1, k + 1 => min (zD xs ys i k + (if lg xs i = lg ys k then 0 else 1)) (min (zD xs ys i (k + 1)) (zD xs ys (i + 1) k) + 1)
  termination_by i k => (i, k)
theorem D_0 (xs ys : List Nat) (k : Nat) : zD xs ys 0 k = k := by rw [zD]
theorem D_s0 (xs ys : List Nat) (i : Nat) : zD xs ys (i + 1) 0 = i + 1 := by rw [zD]
theorem D_ss (xs ys : List Nat) (i k : Nat) : zD xs ys (i + 1) (k + 1) = min (zD xs ys i k + (if lg xs i = lg ys k then 0 else 1)) (min (zD xs ys i (k + 1)) (zD xs ys (i + 1) k) + 1) := by rw [zD]
theorem D_i0 (xs ys : List Nat) (i : Nat) : zD xs ys i 0 = i := by cases i with
  | zero => exact D_0 _ _ _
  | succ i => exact D_s0 _ _ _
theorem D_le (xs ys : List Nat) : ∀ i k, zD xs ys i k ≤ i + k := by
  intro i
  induction i with
  | zero => intro k; rw [D_0]; omega
  | succ i ih =>
    intro k
    induction k with
    | zero => rw [D_s0]; omega
    | succ k ih2 =>
      rw [D_ss]
      have := ih k
      split <;> omega
theorem nn_min {a b : Nat} (ha : a < 2 ^ 31) (hb : b < 2 ^ 31) : zmin (nI a) (nI b) = nI (min a b) := by
  unfold zmin
  by_cases h : b < a
  · rw [if_pos ((nI_ltI hb ha).2 h)]; congr 1; omega
  · rw [if_neg (fun hh => h ((nI_ltI hb ha).1 hh))]; congr 1; omega
theorem nn_max {a b : Nat} (ha : a < 2 ^ 31) (hb : b < 2 ^ 31) : zmax (nI a) (nI b) = nI (max a b) := by
  unfold zmax
  by_cases h : a < b
  · rw [if_pos ((nI_ltI ha hb).2 h)]; congr 1; omega
  · rw [if_neg (fun hh => h ((nI_ltI ha hb).1 hh))]; congr 1; omega
section
variable {S0 : zM} {a n b m q c : Nat} {xs ys : List Nat}
theorem row_chg_k {S : zM} (hf : zfr (rg q (q + 1)) S0 S) (h0 : pRow S0 a n xs) (h20 : pRow S0 b m ys) (hh0 : zh S0 q = (100, c)) (hq : q ≠ a ∧ q ≠ a + 1 ∧ q ≠ b ∧ q ≠ b + 1) : pRow S a n xs ∧ pRow S b m ys ∧ zh S q = (100, c) :=
  ⟨row_fr h0 hf (fun j hw => by have := hw.1; have := hw.2; omega) (fun j hw => by have := hw.1; have := hw.2; omega), row_fr h20 hf (fun j hw => by have := hw.1; have := hw.2; omega) (fun j hw => by have := hw.1; have := hw.2; omega), by rw [fr_h hf]; exact hh0⟩
theorem row_chg_55 (h0 : pRow S0 a n xs) (h20 : pRow S0 b m ys) (hh0 : zh S0 q = (100, c)) (hc : ys.length < c) (hc2 : c < 1000) (hq0 : q ≠ 0) (hq : q ≠ a ∧ q ≠ a + 1 ∧ q ≠ b ∧ q ≠ b + 1) {k124 : Nat → Nat → Nat → Int32 → zM → Option (Int32 × zM)} {i : Nat} (hi : i < xs.length) (Q : Option (Int32 × zM) → Prop)
    (HK : ∀ S, zfr (rg q (q + 1)) S0 S → (∀ k, k ≤ ys.length → zI S q k = nI (zD xs ys (i + 1) k)) → Q (k124 a b q (nI i) S)) : ∀ d F j (S : zM), d + j = ys.length → d < F → zfr (rg q (q + 1)) S0 S → (∀ k, k ≤ ys.length → zI S q k = nI (if k ≤ j then zD xs ys (i + 1) k else zD xs ys i k)) → Q (L_Row_changesTo_55 k124 F a b q (nI i) (nI (zD xs ys i j)) (nI j) S) := by
  intro d
  induction d with
  | zero =>
    intro F j S hd hF hf hv
    obtain ⟨h, h2, hh⟩ := row_chg_k hf h0 h20 hh0 hq
    cases F with
    | zero => omega
    | succ F =>
      have hx : ¬ j < ys.length := by omega
      have b1 := h2.2.2.2.1
      have b2 := h2.2.2.2.2.1
      have := HK S hf (fun k hk => by rw [hv k hk, if_pos (by omega)])
      simp (disch := omega) [L_Row_changesTo_55, -Prod.exists, -Prod.forall, zgf, zgr, zpf, zpz, zpr, zga, zgl, zgo, zpa, zpb, zpl, zpo, mm_len, zcl, Option.bind_some, Option.bind_none, mm_hI, mm_hJ, mm_hR, mm_nI, mm_nJ, mm_nR, mm_sI, mm_sJ, mm_sR, mm_RI, mm_RJ, mm_IJ, mm_IR, mm_JI, mm_JR, mm_II, mm_JJ, mm_RR, nn_lit, nI_add, pk_mul, nI_clamp, nI_ltI, nI_leI, nI_eq, nn_in, nn_eqm, nn_meq, nn_ltm, nn_mlt, nn_lem, nn_mle, nn_in_m, h2.1, h2.2.2.2.2.2.1, hx]
      exact this
  | succ d ih =>
    intro F j S hd hF hf hv
    obtain ⟨h, h2, hh⟩ := row_chg_k hf h0 h20 hh0 hq
    cases F with
    | zero => omega
    | succ F =>
      have hx : j < ys.length := by omega
      have hjc : j < c := by omega
      have hjc1 : j + 1 < c := by omega
      have b1 := h2.2.2.2.1
      have b2 := h2.2.2.2.2.1
      have b3 := h.2.2.2.1
      have b4 := h.2.2.2.2.1
      have l1 := h.2.2.2.2.2.2.2 i
      have l2 := h2.2.2.2.2.2.2.2 j
      have d1 := D_le xs ys i j
      have d2 := D_le xs ys i (j + 1)
      have d3 := D_le xs ys (i + 1) j
      have v1 := hv (j + 1) (by omega)
      have v2 := hv j (by omega)
      rw [if_neg (by omega)] at v1
      rw [if_pos (by omega)] at v2
      have step : ∀ S', zfr (rg q (q + 1)) S S' → (∀ k, zI S' q k = if k = j + 1 then nI (zD xs ys (i + 1) (j + 1)) else zI S q k) → Q (L_Row_changesTo_55 k124 F a b q (nI i) (nI (zD xs ys i (j + 1))) (nI (j + 1)) S') := by
        intro S' hf2 he
        refine ih F (j + 1) S' (by omega) (by omega) (fr_trans hf hf2) (fun k hk => ?_)
        rw [he k]
        by_cases hkj : k = j + 1
        · rw [if_pos hkj, if_pos (by omega), hkj]
        · rw [if_neg hkj, hv k hk]
          by_cases hkk : k ≤ j
          · rw [if_pos hkk, if_pos (by omega)]
          · rw [if_neg hkk, if_neg (by omega)]
      have es := D_ss xs ys i j
      by_cases e : lg xs i = lg ys j
      · rw [if_pos e] at es
        simp (disch := omega) [L_Row_changesTo_55, -Prod.exists, -Prod.forall, zgf, zgr, zpf, zpz, zpr, zga, zgl, zgo, zpa, zpb, zpl, zpo, mm_len, zcl, Option.bind_some, Option.bind_none, mm_hI, mm_hJ, mm_hR, mm_nI, mm_nJ, mm_nR, mm_sI, mm_sJ, mm_sR, mm_RI, mm_RJ, mm_IJ, mm_IR, mm_JI, mm_JR, mm_II, mm_JJ, mm_RR, nn_lit, nI_add, pk_mul, nI_clamp, nI_ltI, nI_leI, nI_eq, nn_in, nn_eqm, nn_meq, nn_ltm, nn_mlt, nn_lem, nn_mle, nn_in_m, h.1, h2.1, h2.2.2.2.2.2.1, hx, hi, row_at h, row_at h2, atD_nI, e, hh, hjc, hjc1, hq0, v1, v2, nn_min]
        rw [show min (zD xs ys i j) (min (zD xs ys i (j + 1)) (zD xs ys (i + 1) j) + 1) = zD xs ys (i + 1) (j + 1) by rw [es]; simp]
        exact step _ (fr_wI _ _ ⟨by omega, by omega⟩) (fun k => by rw [mm_II]; simp)
      · rw [if_neg e] at es
        simp (disch := omega) [L_Row_changesTo_55, -Prod.exists, -Prod.forall, zgf, zgr, zpf, zpz, zpr, zga, zgl, zgo, zpa, zpb, zpl, zpo, mm_len, zcl, Option.bind_some, Option.bind_none, mm_hI, mm_hJ, mm_hR, mm_nI, mm_nJ, mm_nR, mm_sI, mm_sJ, mm_sR, mm_RI, mm_RJ, mm_IJ, mm_IR, mm_JI, mm_JR, mm_II, mm_JJ, mm_RR, nn_lit, nI_add, pk_mul, nI_clamp, nI_ltI, nI_leI, nI_eq, nn_in, nn_eqm, nn_meq, nn_ltm, nn_mlt, nn_lem, nn_mle, nn_in_m, h.1, h2.1, h2.2.2.2.2.2.1, hx, hi, row_at h, row_at h2, atD_nI, e, hh, hjc, hjc1, hq0, v1, v2, nn_min]
        rw [show min (zD xs ys i j) (min (zD xs ys i (j + 1)) (zD xs ys (i + 1) j)) + 1 = zD xs ys (i + 1) (j + 1) by rw [es]; omega]
        exact step _ (fr_wI _ _ ⟨by omega, by omega⟩) (fun k => by rw [mm_II]; simp)
theorem row_chg_33 (h0 : pRow S0 a n xs) (h20 : pRow S0 b m ys) (hh0 : zh S0 q = (100, c)) (hc : ys.length < c) (hc2 : c < 1000) (hq0 : q ≠ 0) (hq : q ≠ a ∧ q ≠ a + 1 ∧ q ≠ b ∧ q ≠ b + 1) : ∀ d F i (S : zM), d + i = xs.length → d < F → zfr (rg q (q + 1)) S0 S → (∀ k, k ≤ ys.length → zI S q k = nI (zD xs ys i k)) → ∃ S', L_Row_changesTo_33 F a b q (nI i) S = some (nI (zD xs ys xs.length ys.length), S') ∧ zfr (rg q (q + 1)) S0 S' := by
  intro d
  induction d with
  | zero =>
    intro F i S hd hF hf hv
    obtain ⟨h, h2, hh⟩ := row_chg_k hf h0 h20 hh0 hq
    cases F with
    | zero => omega
    | succ F =>
      have ei : i = xs.length := by omega
      subst ei
      have b1 := h2.2.2.2.1
      have b2 := h2.2.2.2.2.1
      have b3 := h.2.2.2.1
      have b4 := h.2.2.2.2.1
      refine ⟨S, ?_, hf⟩
      have v := hv ys.length (by omega)
      simp (disch := omega) [L_Row_changesTo_33, -Prod.exists, -Prod.forall, zgf, zgr, zpf, zpz, zpr, zga, zgl, zgo, zpa, zpb, zpl, zpo, mm_len, zcl, Option.bind_some, Option.bind_none, mm_hI, mm_hJ, mm_hR, mm_nI, mm_nJ, mm_nR, mm_sI, mm_sJ, mm_sR, mm_RI, mm_RJ, mm_IJ, mm_IR, mm_JI, mm_JR, mm_II, mm_JJ, mm_RR, nn_lit, nI_add, pk_mul, nI_clamp, nI_ltI, nI_leI, nI_eq, nn_in, nn_eqm, nn_meq, nn_ltm, nn_mlt, nn_lem, nn_mle, nn_in_m, h.1, h2.1, h.2.2.2.2.2.1, h2.2.2.2.2.2.1, hh, hc, v]
  | succ d ih =>
    intro F i S hd hF hf hv
    obtain ⟨h, h2, hh⟩ := row_chg_k hf h0 h20 hh0 hq
    cases F with
    | zero => omega
    | succ F =>
      have hi : i < xs.length := by omega
      have b1 := h2.2.2.2.1
      have b2 := h2.2.2.2.2.1
      have b3 := h.2.2.2.1
      have b4 := h.2.2.2.2.1
      have hc0 : 0 < c := by omega
      have f1 : zfr (rg q (q + 1)) S (zwI S q 0 (nI (i + 1))) := fr_wI _ _ ⟨by omega, by omega⟩
      have key := row_chg_55 h0 h20 hh0 hc hc2 hq0 hq (k124 := F_Row_changesTo_124 (L_Row_changesTo_33 F)) hi (fun o => ∃ S', o = some (nI (zD xs ys xs.length ys.length), S') ∧ zfr (rg q (q + 1)) S0 S') (fun S3 g1 g2 => by
        simp only [F_Row_changesTo_124]
        rw [nI_1]
        exact ih F (i + 1) S3 (by omega) (by omega) g1 g2) ys.length zF 0 (zwI S q 0 (nI (i + 1))) (by omega) (by rw [zF_eq]; omega) (fr_trans hf f1) (fun k hk => by
          rw [mm_II]
          by_cases hk0 : k = 0
          · subst hk0; simp [D_s0]
          · simp [hk0]; rw [hv k hk])
      have v0 := hv 0 (by omega)
      rw [D_i0] at v0 key
      simp (disch := omega) [L_Row_changesTo_33, -Prod.exists, -Prod.forall, zgf, zgr, zpf, zpz, zpr, zga, zgl, zgo, zpa, zpb, zpl, zpo, mm_len, zcl, Option.bind_some, Option.bind_none, mm_hI, mm_hJ, mm_hR, mm_nI, mm_nJ, mm_nR, mm_sI, mm_sJ, mm_sR, mm_RI, mm_RJ, mm_IJ, mm_IR, mm_JI, mm_JR, mm_II, mm_JJ, mm_RR, nn_lit, nI_add, pk_mul, nI_clamp, nI_ltI, nI_leI, nI_eq, nn_in, nn_eqm, nn_meq, nn_ltm, nn_mlt, nn_lem, nn_mle, nn_in_m, h.1, h.2.2.2.2.2.1, hi, hh, hc0, hq0, v0]
      exact key
theorem row_chg_13 (h0 : pRow S0 a n xs) (h20 : pRow S0 b m ys) (hh0 : zh S0 q = (100, c)) (hc : ys.length < c) (hc2 : c < 1000) (hq0 : q ≠ 0) (hq : q ≠ a ∧ q ≠ a + 1 ∧ q ≠ b ∧ q ≠ b + 1) : ∀ d F i (S : zM), d + i = ys.length + 1 → d < F → zfr (rg q (q + 1)) S0 S → (∀ k, k < i → zI S q k = nI k) → ∃ S', L_Row_changesTo_13 (F_Row_changesTo_31 (L_Row_changesTo_33 zF)) F a b q (nI i) S = some (nI (zD xs ys xs.length ys.length), S') ∧ zfr (rg q (q + 1)) S0 S' := by
  intro d
  induction d with
  | zero =>
    intro F i S hd hF hf hv
    obtain ⟨h, h2, hh⟩ := row_chg_k hf h0 h20 hh0 hq
    cases F with
    | zero => omega
    | succ F =>
      have b1 := h2.2.2.2.1
      have b2 := h2.2.2.2.2.1
      have b3 := h.2.2.2.1
      have b4 := h.2.2.2.2.1
      have hi : ¬ i ≤ ys.length := by omega
      have := row_chg_33 h0 h20 hh0 hc hc2 hq0 hq xs.length zF 0 S (by omega) (by rw [zF_eq]; omega) hf (fun k hk => by rw [D_0]; exact hv k (by omega))
      simp (disch := omega) [L_Row_changesTo_13, -Prod.exists, -Prod.forall, zgf, zgr, zpf, zpz, zpr, zga, zgl, zgo, zpa, zpb, zpl, zpo, mm_len, zcl, Option.bind_some, Option.bind_none, mm_hI, mm_hJ, mm_hR, mm_nI, mm_nJ, mm_nR, mm_sI, mm_sJ, mm_sR, mm_RI, mm_RJ, mm_IJ, mm_IR, mm_JI, mm_JR, mm_II, mm_JJ, mm_RR, nn_lit, nI_add, pk_mul, nI_clamp, nI_ltI, nI_leI, nI_eq, nn_in, nn_eqm, nn_meq, nn_ltm, nn_mlt, nn_lem, nn_mle, nn_in_m, h2.1, h2.2.2.2.2.2.1, hi, F_Row_changesTo_31]
      exact this
  | succ d ih =>
    intro F i S hd hF hf hv
    obtain ⟨h, h2, hh⟩ := row_chg_k hf h0 h20 hh0 hq
    cases F with
    | zero => omega
    | succ F =>
      have b1 := h2.2.2.2.1
      have b2 := h2.2.2.2.2.1
      have hi : i ≤ ys.length := by omega
      have hic : i < c := by omega
      simp (disch := omega) [L_Row_changesTo_13, -Prod.exists, -Prod.forall, zgf, zgr, zpf, zpz, zpr, zga, zgl, zgo, zpa, zpb, zpl, zpo, mm_len, zcl, Option.bind_some, Option.bind_none, mm_hI, mm_hJ, mm_hR, mm_nI, mm_nJ, mm_nR, mm_sI, mm_sJ, mm_sR, mm_RI, mm_RJ, mm_IJ, mm_IR, mm_JI, mm_JR, mm_II, mm_JJ, mm_RR, nn_lit, nI_add, pk_mul, nI_clamp, nI_ltI, nI_leI, nI_eq, nn_in, nn_eqm, nn_meq, nn_ltm, nn_mlt, nn_lem, nn_mle, nn_in_m, h2.1, h2.2.2.2.2.2.1, hi, hh, hq0, hic]
      refine ih F (i + 1) _ (by omega) (by omega) (fr_trans hf (fr_wI S (a := q) _ ⟨by omega, by omega⟩)) (fun k hk => by
        rw [mm_II]
        by_cases hki : k = i
        · subst hki; simp
        · simp [hki]; exact hv k (by omega))
theorem row_chg (h0 : pRow S0 a n xs) (h20 : pRow S0 b m ys) (hh0 : zh S0 q = (100, c)) (hc : ys.length < c) (hc2 : c < 1000) (hq0 : q ≠ 0) (hq : q ≠ a ∧ q ≠ a + 1 ∧ q ≠ b ∧ q ≠ b + 1) : ∃ S', f_Row_changesTo a b q S0 = some (nI (zD xs ys xs.length ys.length), S') ∧ zfr (rg q (q + 1)) S0 S' := by
  have b1 := h20.2.2.2.1
  have b2 := h20.2.2.2.2.1
  have := row_chg_13 h0 h20 hh0 hc hc2 hq0 hq (ys.length + 1) zF 0 S0 (by omega) (by rw [zF_eq]; omega) (fr_refl _ _) (fun k hk => by omega)
  simp (disch := omega) [f_Row_changesTo, -Prod.exists, -Prod.forall, zgf, zgr, zpf, zpz, zpr, zga, zgl, zgo, zpa, zpb, zpl, zpo, mm_len, zcl, Option.bind_some, Option.bind_none, mm_hI, mm_hJ, mm_hR, mm_nI, mm_nJ, mm_nR, mm_sI, mm_sJ, mm_sR, mm_RI, mm_RJ, mm_IJ, mm_IR, mm_JI, mm_JR, mm_II, mm_JJ, mm_RR, nn_lit, nI_add, pk_mul, nI_clamp, nI_ltI, nI_leI, nI_eq, nn_in, nn_eqm, nn_meq, nn_ltm, nn_mlt, nn_lem, nn_mle, nn_in_m, h20.1, h20.2.2.2.2.2.1, hh0, hc]
  exact this
end
