/-! Row: agrees, holds, words, blocks, changes -/
def zagr (xs : List Nat) (f : Nat) (ys : List Nat) : Bool := (List.range ys.length).all (fun k => decide (f + k < xs.length → lg xs (f + k) = lg ys k))
theorem agr_iff {xs ys : List Nat} {f : Nat} : zagr xs f ys = true ↔ ∀ k, k < ys.length → f + k < xs.length → lg xs (f + k) = lg ys k := by
  simp only [zagr, List.all_eq_true, List.mem_range, decide_eq_true_eq]
theorem row_agrees_l {S : zM} {a n b m : Nat} {xs ys : List Nat} (h : pRow S a n xs) (h2 : pRow S b m ys) {f : Nat} (hf : f < 1000) : ∀ d F j, d + j = ys.length → d < F → (∀ k, k < j → f + k < xs.length → lg xs (f + k) = lg ys k) → L_Row_agrees_2 F a (nI f) b (nI j) S = some (if zagr xs f ys then 1 else 0, S) := by
  have h0 := h
  have h20 := h2
  obtain ⟨r1, r2, r3, r4, r5, r6, r7, r8⟩ := h
  obtain ⟨q1, q2, q3, q4, q5, q6, q7, q8⟩ := h2
  intro d
  induction d with
  | zero =>
    intro F j hj hF hs
    cases F with
    | zero => omega
    | succ F =>
      have e : zagr xs f ys = true := agr_iff.2 (fun k hk => hs k (by omega))
      have hx : ¬ j < ys.length := by omega
      simp (disch := omega) [L_Row_agrees_2, -Prod.exists, -Prod.forall, zgf, zgr, zpf, zpz, zpr, zga, zgl, zgo, zpa, zpb, zpl, zpo, mm_len, zcl, Option.bind_some, Option.bind_none, mm_hI, mm_hJ, mm_hR, mm_nI, mm_nJ, mm_nR, mm_sI, mm_sJ, mm_sR, mm_RI, mm_RJ, mm_IJ, mm_IR, mm_JI, mm_JR, mm_II, mm_JJ, mm_RR, nn_lit, nI_add, pk_mul, nI_clamp, nI_ltI, nI_leI, nI_eq, nn_in, nn_eqm, nn_meq, nn_ltm, nn_mlt, nn_lem, nn_mle, nn_in_m, q1, q6, hx, e]
  | succ d ih =>
    intro F j hj hF hs
    cases F with
    | zero => omega
    | succ F =>
      have hjy : j < ys.length := by omega
      have b1 := r8 (f + j)
      have b2 := q8 j
      by_cases hfx : f + j < xs.length
      · by_cases e : lg xs (f + j) = lg ys j
        · rw [← ih F (j + 1) (by omega) (by omega) (fun k hk hk2 => by
            by_cases hkj : k = j
            · subst hkj; exact e
            · exact hs k (by omega) hk2)]
          simp (disch := omega) [L_Row_agrees_2, -Prod.exists, -Prod.forall, zgf, zgr, zpf, zpz, zpr, zga, zgl, zgo, zpa, zpb, zpl, zpo, mm_len, zcl, Option.bind_some, Option.bind_none, mm_hI, mm_hJ, mm_hR, mm_nI, mm_nJ, mm_nR, mm_sI, mm_sJ, mm_sR, mm_RI, mm_RJ, mm_IJ, mm_IR, mm_JI, mm_JR, mm_II, mm_JJ, mm_RR, nn_lit, nI_add, pk_mul, nI_clamp, nI_ltI, nI_leI, nI_eq, nn_in, nn_eqm, nn_meq, nn_ltm, nn_mlt, nn_lem, nn_mle, nn_in_m, r1, q1, q6, r6, hjy, hfx, row_at h0, row_at h20, atD_nI, e]
        · have ne : zagr xs f ys = false := by
            rw [Bool.eq_false_iff]
            intro hh
            exact e (agr_iff.1 hh j hjy hfx)
          simp (disch := omega) [L_Row_agrees_2, -Prod.exists, -Prod.forall, zgf, zgr, zpf, zpz, zpr, zga, zgl, zgo, zpa, zpb, zpl, zpo, mm_len, zcl, Option.bind_some, Option.bind_none, mm_hI, mm_hJ, mm_hR, mm_nI, mm_nJ, mm_nR, mm_sI, mm_sJ, mm_sR, mm_RI, mm_RJ, mm_IJ, mm_IR, mm_JI, mm_JR, mm_II, mm_JJ, mm_RR, nn_lit, nI_add, pk_mul, nI_clamp, nI_ltI, nI_leI, nI_eq, nn_in, nn_eqm, nn_meq, nn_ltm, nn_mlt, nn_lem, nn_mle, nn_in_m, r1, q1, q6, r6, hjy, hfx, row_at h0, row_at h20, atD_nI, e, ne]
      · have e : zagr xs f ys = true := agr_iff.2 (fun k hk hk2 => hs k (by omega) hk2)
        simp (disch := omega) [L_Row_agrees_2, -Prod.exists, -Prod.forall, zgf, zgr, zpf, zpz, zpr, zga, zgl, zgo, zpa, zpb, zpl, zpo, mm_len, zcl, Option.bind_some, Option.bind_none, mm_hI, mm_hJ, mm_hR, mm_nI, mm_nJ, mm_nR, mm_sI, mm_sJ, mm_sR, mm_RI, mm_RJ, mm_IJ, mm_IR, mm_JI, mm_JR, mm_II, mm_JJ, mm_RR, nn_lit, nI_add, pk_mul, nI_clamp, nI_ltI, nI_leI, nI_eq, nn_in, nn_eqm, nn_meq, nn_ltm, nn_mlt, nn_lem, nn_mle, nn_in_m, r1, q1, q6, r6, hjy, hfx, e]
theorem row_agrees {S : zM} {a n b m : Nat} {xs ys : List Nat} (h : pRow S a n xs) (h2 : pRow S b m ys) {f : Nat} (hf : f < 1000) : f_Row_agrees a (nI f) b S = some (if zagr xs f ys then 1 else 0, S) := by
  have := h2.2.2.2.1
  have := h2.2.2.2.2.1
  exact row_agrees_l h h2 hf ys.length zF 0 (by omega) (by rw [zF_eq]; omega) (fun k hk => by omega)
theorem row_holds {S : zM} {a n b m : Nat} {xs ys : List Nat} (h : pRow S a n xs) (h2 : pRow S b m ys) {f : Nat} (hf : f < 1000) : f_Row_holds a (nI f) b S = some (if f + ys.length ≤ xs.length ∧ zagr xs f ys = true then 1 else 0, S) := by
  have b1 := h.2.2.2.1
  have b2 := h.2.2.2.2.1
  have b3 := h2.2.2.2.1
  have b4 := h2.2.2.2.2.1
  by_cases hl : f + ys.length ≤ xs.length
  · cases e : zagr xs f ys
    · simp (disch := omega) [f_Row_holds, -Prod.exists, -Prod.forall, zgf, zgr, zpf, zpz, zpr, zga, zgl, zgo, zpa, zpb, zpl, zpo, mm_len, zcl, Option.bind_some, Option.bind_none, mm_hI, mm_hJ, mm_hR, mm_nI, mm_nJ, mm_nR, mm_sI, mm_sJ, mm_sR, mm_RI, mm_RJ, mm_IJ, mm_IR, mm_JI, mm_JR, mm_II, mm_JJ, mm_RR, nn_lit, nI_add, pk_mul, nI_clamp, nI_ltI, nI_leI, nI_eq, nn_in, nn_eqm, nn_meq, nn_ltm, nn_mlt, nn_lem, nn_mle, nn_in_m, h.1, h2.1, h.2.2.2.2.2.1, h2.2.2.2.2.2.1, hl, row_agrees h h2 hf, e]
    · simp (disch := omega) [f_Row_holds, -Prod.exists, -Prod.forall, zgf, zgr, zpf, zpz, zpr, zga, zgl, zgo, zpa, zpb, zpl, zpo, mm_len, zcl, Option.bind_some, Option.bind_none, mm_hI, mm_hJ, mm_hR, mm_nI, mm_nJ, mm_nR, mm_sI, mm_sJ, mm_sR, mm_RI, mm_RJ, mm_IJ, mm_IR, mm_JI, mm_JR, mm_II, mm_JJ, mm_RR, nn_lit, nI_add, pk_mul, nI_clamp, nI_ltI, nI_leI, nI_eq, nn_in, nn_eqm, nn_meq, nn_ltm, nn_mlt, nn_lem, nn_mle, nn_in_m, h.1, h2.1, h.2.2.2.2.2.1, h2.2.2.2.2.2.1, hl, row_agrees h h2 hf, e]
  · simp (disch := omega) [f_Row_holds, -Prod.exists, -Prod.forall, zgf, zgr, zpf, zpz, zpr, zga, zgl, zgo, zpa, zpb, zpl, zpo, mm_len, zcl, Option.bind_some, Option.bind_none, mm_hI, mm_hJ, mm_hR, mm_nI, mm_nJ, mm_nR, mm_sI, mm_sJ, mm_sR, mm_RI, mm_RJ, mm_IJ, mm_IR, mm_JI, mm_JR, mm_II, mm_JJ, mm_RR, nn_lit, nI_add, pk_mul, nI_clamp, nI_ltI, nI_leI, nI_eq, nn_in, nn_eqm, nn_meq, nn_ltm, nn_mlt, nn_lem, nn_mle, nn_in_m, h.1, h2.1, h.2.2.2.2.2.1, h2.2.2.2.2.2.1, hl]
/-! a word's letters -/
/-- byte j of a long, from the lowest on -/
def zby (w : Int64) (j : Nat) : Nat := uN w / 2 ^ (8 * j) % 256
theorem by_lt (w : Int64) (j : Nat) : zby w j < 256 := Nat.mod_lt _ (by omega)
theorem by_and (x : Int64) : x.toInt32 &&& 255 = nI (uN x % 256) := by
  obtain ⟨n, hn, rfl⟩ := wb_of x
  rw [lN_i]
  have e : uN (lN n) = n := wb_tn hn
  rw [e]
  have := fa_mask n 8
  exact this
theorem by_c (w : Int64) {j : Nat} (hj : j < 8) : ((w.toUInt64 >>> ((nI (8 * j)).toInt64.toUInt64 &&& Int64.toUInt64 63)).toInt64).toInt32 &&& 255 = nI (zby w j) := by
  rw [by_and, uN_sk w (by omega)]; rfl
/-- the letters that a word of a call tells: j bytes are left, so many letters are there -/
def ztw (w : Int64) : Nat → List Nat → Option (List Nat)
  | 0, ys => if ys = [] then none else some ys
  | j + 1, ys => if zby w j = 0 ∧ ys = [] then ztw w j ys else if zby w j < 97 ∨ 104 < zby w j then none else ztw w j (ys ++ [zby w j - 97])
def zwl (w : Int64) : Option (List Nat) := ztw w 8 []
theorem row_take_l {w : Int64} {a n : Nat} (hn : 8 ≤ n) : ∀ j F (S : zM) (ys : List Nat), j ≤ 8 → ys.length + j ≤ 8 → j < F → pRow S a n ys → ∃ S' zs, L_Row_takeWord_7 F a w (nI (8 * j) + (-8)) S = some (if (ztw w j ys).isSome then 1 else 0, S') ∧ zfr (rg a (a + 2)) S S' ∧ pRow S' a n zs ∧ (∀ us, ztw w j ys = some us → us = zs) := by
  intro j
  induction j with
  | zero =>
    intro F S ys hj hl hF h
    cases F with
    | zero => omega
    | succ F =>
      have e : (nI (8 * 0) + (-8 : Int32)) < 0 := by decide
      have b1 := h.2.2.2.1
      have b2 := h.2.2.2.2.1
      by_cases hy : ys = []
      · subst hy
        refine ⟨S, [], ?_, fr_refl _ _, h, by simp [ztw]⟩
        have r6 := h.2.2.2.2.2.1
        simp only [List.length_nil] at r6
        rw [L_Row_takeWord_7, if_pos e]
        simp (disch := omega) [-Prod.exists, -Prod.forall, zgf, zgr, zpf, zpz, zpr, zga, zgl, zgo, zpa, zpb, zpl, zpo, mm_len, zcl, Option.bind_some, Option.bind_none, mm_hI, mm_hJ, mm_hR, mm_nI, mm_nJ, mm_nR, mm_sI, mm_sJ, mm_sR, mm_RI, mm_RJ, mm_IJ, mm_IR, mm_JI, mm_JR, mm_II, mm_JJ, mm_RR, nn_lit, nI_add, pk_mul, nI_clamp, nI_ltI, nI_leI, nI_eq, nn_in, nn_eqm, nn_meq, nn_ltm, nn_mlt, nn_lem, nn_mle, nn_in_m, h.1, r6, ztw]
      · refine ⟨S, ys, ?_, fr_refl _ _, h, by simp [ztw, hy]⟩
        have hl0 : ¬ ys.length ≤ 0 := by
          have := List.length_pos_iff.2 hy; omega
        rw [L_Row_takeWord_7, if_pos e]
        simp (disch := omega) [-Prod.exists, -Prod.forall, zgf, zgr, zpf, zpz, zpr, zga, zgl, zgo, zpa, zpb, zpl, zpo, mm_len, zcl, Option.bind_some, Option.bind_none, mm_hI, mm_hJ, mm_hR, mm_nI, mm_nJ, mm_nR, mm_sI, mm_sJ, mm_sR, mm_RI, mm_RJ, mm_IJ, mm_IR, mm_JI, mm_JR, mm_II, mm_JJ, mm_RR, nn_lit, nI_add, pk_mul, nI_clamp, nI_ltI, nI_leI, nI_eq, nn_in, nn_eqm, nn_meq, nn_ltm, nn_mlt, nn_lem, nn_mle, nn_in_m, h.1, h.2.2.2.2.2.1, ztw, hy, hl0]
  | succ j ih =>
    intro F S ys hj hl hF h
    cases F with
    | zero => omega
    | succ F =>
      have e0 : nI (8 * (j + 1)) + (-8) = nI (8 * j) := by
        have e1 : nI (8 * (j + 1)) = nI (8 * j) + nI 8 := by rw [nI_add]; rfl
        rw [e1]; show nI (8 * j) + nI 8 + -nI 8 = _
        rw [Int32.add_assoc, Int32.add_right_neg]; simp
      have e : ¬ nI (8 * j) < 0 := nI_pos (by omega)
      have bl := by_lt w j
      have b1 := h.2.2.2.1
      have b2 := h.2.2.2.2.1
      have r6 := h.2.2.2.2.2.1
      rw [e0, L_Row_takeWord_7, if_neg e, by_c w (by omega : j < 8)]
      by_cases hz : zby w j = 0
      · by_cases hy : ys = []
        · subst hy
          obtain ⟨S', zs, g1, g2, g3, g4⟩ := ih F S [] (by omega) (by simp; omega) (by omega) h
          refine ⟨S', zs, ?_, g2, g3, by simpa [ztw, hz] using g4⟩
          have r6' := r6
          simp only [List.length_nil] at r6'
          have ez : nI (zby w j) = 0 := by rw [hz]; rfl
          rw [if_pos ez]
          have : ztw w (j + 1) [] = ztw w j [] := by simp [ztw, hz]
          rw [this]
          rw [← g1]
          simp (disch := omega) [-Prod.exists, -Prod.forall, zgf, zgr, zpf, zpz, zpr, zga, zgl, zgo, zpa, zpb, zpl, zpo, mm_len, zcl, Option.bind_some, Option.bind_none, mm_hI, mm_hJ, mm_hR, mm_nI, mm_nJ, mm_nR, mm_sI, mm_sJ, mm_sR, mm_RI, mm_RJ, mm_IJ, mm_IR, mm_JI, mm_JR, mm_II, mm_JJ, mm_RR, h.1, r6', nI_0]
        · refine ⟨S, ys, ?_, fr_refl _ _, h, by simp [ztw, hz, hy]⟩
          have hl0 : ¬ ys.length = 0 := by
            have := List.length_pos_iff.2 hy; omega
          have ez : nI (zby w j) = 0 := by rw [hz]; rfl
          rw [if_pos ez]
          simp (disch := omega) [-Prod.exists, -Prod.forall, zgf, zgr, zpf, zpz, zpr, zga, zgl, zgo, zpa, zpb, zpl, zpo, mm_len, zcl, Option.bind_some, Option.bind_none, mm_hI, mm_hJ, mm_hR, mm_nI, mm_nJ, mm_nR, mm_sI, mm_sJ, mm_sR, mm_RI, mm_RJ, mm_IJ, mm_IR, mm_JI, mm_JR, mm_II, mm_JJ, mm_RR, nn_lit, nI_add, pk_mul, nI_clamp, nI_ltI, nI_leI, nI_eq, nn_in, nn_eqm, nn_meq, nn_ltm, nn_mlt, nn_lem, nn_mle, nn_in_m, h.1, r6, hz, hl0, ztw, hy]
      · have ez : ¬ nI (zby w j) = 0 := nI_ne0 (by omega) (by omega)
        rw [if_neg ez]
        by_cases hlo : zby w j < 97
        · refine ⟨S, ys, ?_, fr_refl _ _, h, by simp [ztw, hz, hlo]⟩
          simp (disch := omega) [nn_lit, nI_add, pk_mul, nI_clamp, nI_ltI, nI_leI, nI_eq, nn_in, nn_eqm, nn_meq, nn_ltm, nn_mlt, nn_lem, nn_mle, nn_in_m, hlo, ztw, hz]
        · by_cases hhi : zby w j ≤ 104
          · obtain ⟨S1, f1, f2, f3⟩ := row_add h (show ys.length < n by omega) (v := zby w j - 97) (by omega)
            have em : (zby w j - 97) % 8 = zby w j - 97 := by omega
            rw [em] at f3
            obtain ⟨S', zs, g1, g2, g3, g4⟩ := ih F S1 (ys ++ [zby w j - 97]) (by omega) (by simp; omega) (by omega) f3
            have hh : ¬ 104 < zby w j := by omega
            refine ⟨S', zs, ?_, fr_trans f2 g2, g3, by simpa [ztw, hz, hlo, hh] using g4⟩
            have es : nI (zby w j) - 97 = nI (zby w j - 97) := pk_sub (a := zby w j) (b := 97) (by omega)
            have : ztw w (j + 1) ys = ztw w j (ys ++ [zby w j - 97]) := by simp [ztw, hz, hlo, hh]
            rw [this, ← g1, es]
            simp (disch := omega) [nn_lit, nI_add, pk_mul, nI_clamp, nI_ltI, nI_leI, nI_eq, nn_in, nn_eqm, nn_meq, nn_ltm, nn_mlt, nn_lem, nn_mle, nn_in_m, hlo, hhi, zcl, h.1, f1]
          · refine ⟨S, ys, ?_, fr_refl _ _, h, by
              have : 104 < zby w j := by omega
              simp [ztw, hz, this]⟩
            have hh : 104 < zby w j := by omega
            simp (disch := omega) [nn_lit, nI_add, pk_mul, nI_clamp, nI_ltI, nI_leI, nI_eq, nn_in, nn_eqm, nn_meq, nn_ltm, nn_mlt, nn_lem, nn_mle, nn_in_m, hlo, hhi, ztw, hz, hh]
theorem row_take {S : zM} {a n : Nat} {xs : List Nat} (h : pRow S a n xs) (hn : 8 ≤ n) (w : Int64) : ∃ S' zs, f_Row_takeWord a w S = some (if (zwl w).isSome then 1 else 0, S') ∧ zfr (rg a (a + 2)) S S' ∧ pRow S' a n zs ∧ (∀ us, zwl w = some us → us = zs) := by
  obtain ⟨S1, e1, f1, p1⟩ := row_drop h
  obtain ⟨S', zs, g1, g2, g3, g4⟩ := row_take_l (w := w) hn 8 zF S1 [] (by omega) (by simp) (by rw [zF_eq]; omega) p1
  refine ⟨S', zs, ?_, fr_trans f1 g2, g3, g4⟩
  have : nI (8 * 8) + (-8) = 56 := by decide
  rw [this] at g1
  simp [f_Row_takeWord, zcl, h.1, e1]
  exact g1
/-! blocks of twenty letters -/
def zpk (xs : List Nat) : Nat := xs.foldl (fun p x => p * 8 + x) 1
def zblk (xs : List Nat) (b : Nat) : Nat := zpk ((xs.drop (20 * b)).take 20)
theorem pk_snoc (xs : List Nat) (v : Nat) : zpk (xs ++ [v]) = zpk xs * 8 + v := by simp [zpk]
theorem pk_bound : ∀ (n : Nat) (xs : List Nat), xs.length = n → l8 xs → 8 ^ n ≤ zpk xs ∧ zpk xs < 2 * 8 ^ n := by
  intro n
  induction n with
  | zero => intro xs h _; have := List.length_eq_zero_iff.1 h; subst this; simp [zpk]
  | succ n ih =>
    intro xs h h8
    have hne : xs ≠ [] := by intro e; subst e; simp at h
    have e := List.dropLast_concat_getLast hne
    have hl : xs.dropLast.length = n := by simp [h]
    have h1 : l8 xs.dropLast := by
      intro k
      by_cases hk : k < xs.dropLast.length
      · have := h8 k; rw [← e, lg_app1 hk] at this; exact this
      · rw [lg_out (by omega)]; omega
    have h2 : xs.getLast hne < 8 := l8_iff.1 h8 _ (List.getLast_mem hne)
    obtain ⟨i1, i2⟩ := ih _ hl h1
    rw [← e, pk_snoc, Nat.pow_succ]
    omega
theorem pk_inj : ∀ (n : Nat) (xs ys : List Nat), xs.length = n → l8 xs → l8 ys → zpk xs = zpk ys → xs = ys := by
  have lo : ∀ xs : List Nat, l8 xs → xs ≠ [] → 8 ≤ zpk xs := by
    intro xs h hne
    have := (pk_bound _ xs rfl h).1
    have h1 : 0 < xs.length := List.length_pos_iff.2 hne
    have h2 : 8 ^ 1 ≤ 8 ^ xs.length := Nat.pow_le_pow_right (by omega) h1
    omega
  intro n
  induction n with
  | zero =>
    intro xs ys h hx hy e
    have := List.length_eq_zero_iff.1 h; subst this
    by_cases hy0 : ys = []
    · exact hy0.symm
    · have := lo ys hy hy0; simp [zpk] at e; simp [zpk] at this; omega
  | succ n ih =>
    intro xs ys h hx hy e
    have hne : xs ≠ [] := by intro e; subst e; simp at h
    have hyne : ys ≠ [] := by
      intro e2; subst e2
      have := lo xs hx hne; simp [zpk] at e; simp [zpk] at this; omega
    have ex := List.dropLast_concat_getLast hne
    have ey := List.dropLast_concat_getLast hyne
    have d8 : ∀ zs : List Nat, l8 zs → l8 zs.dropLast := fun zs hz => l8_iff.2 (fun x hx => l8_iff.1 hz x (by rw [List.dropLast_eq_take] at hx; exact List.mem_of_mem_take hx))
    have h2 : xs.getLast hne < 8 := l8_iff.1 hx _ (List.getLast_mem hne)
    have h3 : ys.getLast hyne < 8 := l8_iff.1 hy _ (List.getLast_mem hyne)
    rw [← ex, ← ey, pk_snoc, pk_snoc] at e
    have e1 : zpk xs.dropLast = zpk ys.dropLast := by omega
    have e2 : xs.getLast hne = ys.getLast hyne := by omega
    have := ih _ _ (by simp [h]) (d8 _ hx) (d8 _ hy) e1
    rw [← ex, ← ey, this, e2]
theorem l8_drop {xs : List Nat} (h : l8 xs) (n : Nat) : l8 (xs.drop n) := fun k => by rw [lg_drop]; exact h _
theorem l8_take {xs : List Nat} (h : l8 xs) (n : Nat) : l8 (xs.take n) := l8_iff.2 (fun x hx => l8_iff.1 h x (List.mem_of_mem_take hx))
theorem blk_lt {xs : List Nat} (h : l8 xs) (b : Nat) : zblk xs b < 2 ^ 61 := by
  have h1 := (pk_bound _ _ rfl (l8_take (l8_drop h (20 * b)) 20)).2
  have h2 : ((xs.drop (20 * b)).take 20).length ≤ 20 := by simp; omega
  have h3 : 8 ^ ((xs.drop (20 * b)).take 20).length ≤ 8 ^ 20 := Nat.pow_le_pow_right (by omega) h2
  unfold zblk
  omega
theorem blk_inj {xs ys : List Nat} (hx : l8 xs) (hy : l8 ys) (lx : xs.length ≤ 60) (ly : ys.length ≤ 60) (h0 : zblk xs 0 = zblk ys 0) (h1 : zblk xs 1 = zblk ys 1) (h2 : zblk xs 2 = zblk ys 2) : xs = ys := by
  have t8 : ∀ (zs : List Nat) (b : Nat), l8 zs → l8 ((zs.drop (20 * b)).take 20) := fun zs b hz => l8_take (l8_drop hz _) _
  have e0 := pk_inj _ _ _ rfl (t8 xs 0 hx) (t8 ys 0 hy) h0
  have e1 := pk_inj _ _ _ rfl (t8 xs 1 hx) (t8 ys 1 hy) h1
  have e2 := pk_inj _ _ _ rfl (t8 xs 2 hx) (t8 ys 2 hy) h2
  have sp : ∀ zs : List Nat, zs.length ≤ 60 → zs = (zs.drop (20 * 0)).take 20 ++ ((zs.drop (20 * 1)).take 20 ++ (zs.drop (20 * 2)).take 20) := by
    intro zs hz
    have a1 : (zs.drop 40).take 20 = zs.drop 40 := List.take_of_length_le (by simp; omega)
    have a2 : zs.drop 20 = (zs.drop 20).take 20 ++ zs.drop 40 := by
      have := List.take_append_drop 20 (zs.drop 20)
      rw [List.drop_drop] at this; exact this.symm
    simp only [Nat.mul_zero, List.drop_zero, Nat.mul_one, show 20 * 2 = 40 from rfl]
    rw [a1, ← a2, List.take_append_drop]
  rw [sp xs lx, sp ys ly, e0, e1, e2]
theorem row_block_l {S : zM} {a n : Nat} {xs : List Nat} (h : pRow S a n xs) {b : Nat} (hb : b < 3) : ∀ d F j, d + j = 20 → d < F → (∃ v, v = zpk ((xs.drop (20 * b)).take j)) → L_Row_block_12 F a (lN (zpk ((xs.drop (20 * b)).take j))) (nI (20 * b)) (nI (20 * b + j)) S = some (lN (zblk xs b), S) := by
  have h0 := h
  obtain ⟨r1, r2, r3, r4, r5, r6, r7, r8⟩ := h
  have hb31 : 20 * b + 20 < 2 ^ 31 := by omega
  intro d
  induction d with
  | zero =>
    intro F j hj hF _
    cases F with
    | zero => omega
    | succ F =>
      have ej : j = 20 := by omega
      subst ej
      simp (disch := omega) [L_Row_block_12, nn_lit, nI_add, pk_mul, nI_clamp, nI_ltI, nI_leI, nI_eq, nn_in, nn_eqm, nn_meq, nn_ltm, nn_mlt, nn_lem, nn_mle, nn_in_m, zblk]
  | succ d ih =>
    intro F j hj hF _
    cases F with
    | zero => omega
    | succ F =>
      have hj20 : 20 * b + j < 20 * b + 20 := by omega
      by_cases hl : 20 * b + j < xs.length
      · have e1 : (xs.drop (20 * b)).take (j + 1) = (xs.drop (20 * b)).take j ++ [lg xs (20 * b + j)] := by
          have hjl : j < (xs.drop (20 * b)).length := by simp; omega
          rw [List.take_succ_eq_append_getElem hjl, ← lg_get hjl, lg_drop]
        have e2 : (lN (zpk ((xs.drop (20 * b)).take j)) <<< ((3 : Int32).toInt64 &&& 63)) ||| (nI (lg xs (20 * b + j))).toInt64 = lN (zpk ((xs.drop (20 * b)).take (j + 1))) := by
          rw [e1, pk_snoc]
          have l7 := r8 (20 * b + j)
          have := wb_shl (zpk ((xs.drop (20 * b)).take j)) (k := 3) (by omega)
          rw [show (3 : Int32) = nI 3 from rfl, this, nI_l (by omega)]
          have q := fb_or_sumL (a := lg xs (20 * b + j)) (k := 3) (zpk ((xs.drop (20 * b)).take j)) (by omega)
          rw [Nat.mul_comm] at q
          exact q
        have := ih F (j + 1) (by omega) (by omega) ⟨_, rfl⟩
        rw [← this, ← e2]
        simp (disch := omega) [L_Row_block_12, -Prod.exists, -Prod.forall, zgf, zgr, zpf, zpz, zpr, zga, zgl, zgo, zpa, zpb, zpl, zpo, mm_len, zcl, Option.bind_some, Option.bind_none, mm_hI, mm_hJ, mm_hR, mm_nI, mm_nJ, mm_nR, mm_sI, mm_sJ, mm_sR, mm_RI, mm_RJ, mm_IJ, mm_IR, mm_JI, mm_JR, mm_II, mm_JJ, mm_RR, nn_lit, nI_add, pk_mul, nI_clamp, nI_ltI, nI_leI, nI_eq, nn_in, nn_eqm, nn_meq, nn_ltm, nn_mlt, nn_lem, nn_mle, nn_in_m, r1, r6, hl, hj20, row_at h0, atD_nI]
        rfl
      · have e1 : (xs.drop (20 * b)).take j = (xs.drop (20 * b)).take 20 := by
          rw [List.take_of_length_le (by simp; omega), List.take_of_length_le (by simp; omega)]
        simp (disch := omega) [L_Row_block_12, -Prod.exists, -Prod.forall, zgf, zgr, zpf, zpz, zpr, zga, zgl, zgo, zpa, zpb, zpl, zpo, mm_len, zcl, Option.bind_some, Option.bind_none, mm_hI, mm_hJ, mm_hR, mm_nI, mm_nJ, mm_nR, mm_sI, mm_sJ, mm_sR, mm_RI, mm_RJ, mm_IJ, mm_IR, mm_JI, mm_JR, mm_II, mm_JJ, mm_RR, nn_lit, nI_add, pk_mul, nI_clamp, nI_ltI, nI_leI, nI_eq, nn_in, nn_eqm, nn_meq, nn_ltm, nn_mlt, nn_lem, nn_mle, nn_in_m, r1, r6, hl, hj20, zblk, e1]
theorem row_block {S : zM} {a n : Nat} {xs : List Nat} (h : pRow S a n xs) {b : Nat} (hb : b < 3) : f_Row_block a (nI b) S = some (lN (zblk xs b), S) := by
  have := row_block_l h hb 20 zF 0 (by omega) (by rw [zF_eq]; omega) ⟨_, rfl⟩
  rw [← this]
  have e : nI b * 20 = nI (20 * b) := by
    have := pk_mul b 20
    rw [Nat.mul_comm] at this; exact this
  simp [f_Row_block, e, zpk]
  rfl
