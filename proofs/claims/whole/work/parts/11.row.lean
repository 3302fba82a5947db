/-! Row: letters in a row -/
/-- a Row at a, its letters at a + 1, room for n, holding xs -/
def pRow (S : zM) (a n : Nat) (xs : List Nat) : Prop := zh S a = (8, 0) ∧ zR S a 0 = some (a + 1) ∧ zh S (a + 1) = (100, n) ∧ n < 1000 ∧ xs.length ≤ n ∧ zI S a 1 = nI xs.length ∧ (∀ k, k < xs.length → zI S (a + 1) k = nI (lg xs k)) ∧ l8 xs
theorem row_fr {W : Nat → Nat → Prop} {S S' : zM} {a n : Nat} {xs : List Nat} (h : pRow S a n xs) (hf : zfr W S S') (h1 : ∀ j, ¬ W a j) (h2 : ∀ j, ¬ W (a + 1) j) : pRow S' a n xs := by
  obtain ⟨r1, r2, r3, r4, r5, r6, r7, r8⟩ := h
  refine ⟨by rw [fr_h hf]; exact r1, by rw [fr_R hf]; exact r2, by rw [fr_h hf]; exact r3, r4, r5, by rw [fr_I hf (h1 1)]; exact r6, fun k hk => by rw [fr_I hf (h2 k)]; exact r7 k hk, r8⟩
/-- what stands at a place, or another value -/
def zatD (xs : List Nat) (k : Int32) (d : Int32) : Int32 := if k < 0 then d else if k.toNatClampNeg < xs.length then nI (lg xs k.toNatClampNeg) else d
theorem atD_nI {xs : List Nat} {j : Nat} {d : Int32} (h : j < 2 ^ 31) : zatD xs (nI j) d = if j < xs.length then nI (lg xs j) else d := by
  unfold zatD
  rw [if_neg (nI_pos h), nI_clamp h]
theorem atD_neg {xs : List Nat} {d k : Int32} (h : k < 0) : zatD xs k d = d := by
  unfold zatD
  rw [if_pos h]
theorem row_at {S : zM} {a n : Nat} {xs : List Nat} (h : pRow S a n xs) (k : Int32) : f_Row_at a k S = some (zatD xs k (-1), S) := by
  obtain ⟨r1, r2, r3, r4, r5, r6, r7, r8⟩ := h
  unfold f_Row_at
  by_cases hk : k < 0
  · rw [if_pos hk, atD_neg hk]
  · obtain ⟨j, hj, rfl⟩ := nI_of hk
    rw [if_neg hk, atD_nI hj]
    by_cases hl : j < xs.length
    · have : j < n := by omega
      simp (disch := omega) [-Prod.exists, -Prod.forall, zgf, zgr, zpf, zpz, zpr, zga, zgl, zgo, zpa, zpb, zpl, zpo, mm_len, zcl, Option.bind_some, Option.bind_none, mm_hI, mm_hJ, mm_hR, mm_nI, mm_nJ, mm_nR, mm_sI, mm_sJ, mm_sR, mm_RI, mm_RJ, mm_IJ, mm_IR, mm_JI, mm_JR, mm_II, mm_JJ, mm_RR, nn_lit, nI_add, pk_mul, nI_clamp, nI_ltI, nI_leI, nI_eq, nn_in, nn_eqm, nn_meq, nn_ltm, nn_mlt, nn_lem, nn_mle, nn_in_m, r1, r2, r3, r6, r7, hl, this]
    · simp (disch := omega) [-Prod.exists, -Prod.forall, zgf, zgr, zpf, zpz, zpr, zga, zgl, zgo, zpa, zpb, zpl, zpo, mm_len, zcl, Option.bind_some, Option.bind_none, mm_hI, mm_hJ, mm_hR, mm_nI, mm_nJ, mm_nR, mm_sI, mm_sJ, mm_sR, mm_RI, mm_RJ, mm_IJ, mm_IR, mm_JI, mm_JR, mm_II, mm_JJ, mm_RR, nn_lit, nI_add, pk_mul, nI_clamp, nI_ltI, nI_leI, nI_eq, nn_in, nn_eqm, nn_meq, nn_ltm, nn_mlt, nn_lem, nn_mle, nn_in_m, r1, r2, r3, r6, r7, hl]
theorem row_beside {S : zM} {a n : Nat} {xs : List Nat} (h : pRow S a n xs) (k : Int32) : f_Row_beside a k S = some (zatD xs k 8, S) := by
  obtain ⟨r1, r2, r3, r4, r5, r6, r7, r8⟩ := h
  unfold f_Row_beside
  by_cases hk : k < 0
  · rw [if_pos hk, atD_neg hk]
  · obtain ⟨j, hj, rfl⟩ := nI_of hk
    rw [if_neg hk, atD_nI hj]
    by_cases hl : j < xs.length
    · have : j < n := by omega
      simp (disch := omega) [-Prod.exists, -Prod.forall, zgf, zgr, zpf, zpz, zpr, zga, zgl, zgo, zpa, zpb, zpl, zpo, mm_len, zcl, Option.bind_some, Option.bind_none, mm_hI, mm_hJ, mm_hR, mm_nI, mm_nJ, mm_nR, mm_sI, mm_sJ, mm_sR, mm_RI, mm_RJ, mm_IJ, mm_IR, mm_JI, mm_JR, mm_II, mm_JJ, mm_RR, nn_lit, nI_add, pk_mul, nI_clamp, nI_ltI, nI_leI, nI_eq, nn_in, nn_eqm, nn_meq, nn_ltm, nn_mlt, nn_lem, nn_mle, nn_in_m, r1, r2, r3, r6, r7, hl, this]
    · simp (disch := omega) [-Prod.exists, -Prod.forall, zgf, zgr, zpf, zpz, zpr, zga, zgl, zgo, zpa, zpb, zpl, zpo, mm_len, zcl, Option.bind_some, Option.bind_none, mm_hI, mm_hJ, mm_hR, mm_nI, mm_nJ, mm_nR, mm_sI, mm_sJ, mm_sR, mm_RI, mm_RJ, mm_IJ, mm_IR, mm_JI, mm_JR, mm_II, mm_JJ, mm_RR, nn_lit, nI_add, pk_mul, nI_clamp, nI_ltI, nI_leI, nI_eq, nn_in, nn_eqm, nn_meq, nn_ltm, nn_mlt, nn_lem, nn_mle, nn_in_m, r1, r2, r3, r6, r7, hl]
theorem row_drop {S : zM} {a n : Nat} {xs : List Nat} (h : pRow S a n xs) : ∃ S', f_Row_drop a S = some S' ∧ zfr (rg a (a + 2)) S S' ∧ pRow S' a n [] := by
  obtain ⟨r1, r2, r3, r4, r5, r6, r7, r8⟩ := h
  refine ⟨zwI S a 1 0, by simp [f_Row_drop, -Prod.exists, -Prod.forall, zgf, zgr, zpf, zpz, zpr, zga, zgl, zgo, zpa, zpb, zpl, zpo, mm_len, zcl, Option.bind_some, Option.bind_none, mm_hI, mm_hJ, mm_hR, mm_nI, mm_nJ, mm_nR, mm_sI, mm_sJ, mm_sR, mm_RI, mm_RJ, mm_IJ, mm_IR, mm_JI, mm_JR, mm_II, mm_JJ, mm_RR, r1], fr_wI _ _ ⟨by omega, by omega⟩, r1, r2, r3, r4, by simp, by simp [mm_II]; rfl, by simp, l8_nil⟩
theorem row_add {S : zM} {a n : Nat} {xs : List Nat} (h : pRow S a n xs) (hl : xs.length < n) {v : Nat} (hv : v < 2 ^ 32) : ∃ S', f_Row_add a (nI v) S = some (1, S') ∧ zfr (rg a (a + 2)) S S' ∧ pRow S' a n (xs ++ [v % 8]) := by
  obtain ⟨r1, r2, r3, r4, r5, r6, r7, r8⟩ := h
  have e : nI v &&& nI 7 = nI (v % 8) := pk_andN hv 3 (by decide)
  refine ⟨zwI (zwI S (a + 1) xs.length (nI (v % 8))) a 1 (nI (xs.length + 1)), ?_, fr_trans (fr_wI _ _ ⟨by omega, by omega⟩) (fr_wI _ _ ⟨by omega, by omega⟩), r1, r2, r3, r4, by simp; omega, by simp [mm_II], ?_, l8_app r8 (l8_one (by omega))⟩
  · simp (disch := omega) [f_Row_add, -Prod.exists, -Prod.forall, zgf, zgr, zpf, zpz, zpr, zga, zgl, zgo, zpa, zpb, zpl, zpo, mm_len, zcl, Option.bind_some, Option.bind_none, mm_hI, mm_hJ, mm_hR, mm_nI, mm_nJ, mm_nR, mm_sI, mm_sJ, mm_sR, mm_RI, mm_RJ, mm_IJ, mm_IR, mm_JI, mm_JR, mm_II, mm_JJ, mm_RR, nn_lit, nI_add, pk_mul, nI_clamp, nI_ltI, nI_leI, nI_eq, nn_in, nn_eqm, nn_meq, nn_ltm, nn_mlt, nn_lem, nn_mle, nn_in_m, r1, r2, r3, r6, hl, e]
  · intro k hk
    simp only [List.length_append, List.length_cons, List.length_nil] at hk
    by_cases hkl : k = xs.length
    · subst hkl; simp [mm_II, lg_end]
    · have h2 : k < xs.length := by omega
      rw [lg_app1 h2, ← r7 k h2]; simp [mm_II, hkl]
theorem row_addF {S : zM} {a n : Nat} {xs : List Nat} (h : pRow S a n xs) (hl : xs.length = n) (v : Int32) : f_Row_add a v S = some (0, S) := by
  obtain ⟨r1, r2, r3, r4, r5, r6, r7, r8⟩ := h
  have : ¬ xs.length < n := by omega
  simp (disch := omega) [f_Row_add, -Prod.exists, -Prod.forall, zgf, zgr, zpf, zpz, zpr, zga, zgl, zgo, zpa, zpb, zpl, zpo, mm_len, zcl, Option.bind_some, Option.bind_none, mm_hI, mm_hJ, mm_hR, mm_nI, mm_nJ, mm_nR, mm_sI, mm_sJ, mm_sR, mm_RI, mm_RJ, mm_IJ, mm_IR, mm_JI, mm_JR, mm_II, mm_JJ, mm_RR, nn_lit, nI_add, pk_mul, nI_clamp, nI_ltI, nI_leI, nI_eq, nn_in, nn_eqm, nn_meq, nn_ltm, nn_mlt, nn_lem, nn_mle, nn_in_m, r1, r2, r3, r6, this]
theorem row_addAll {S : zM} {a n b m : Nat} {xs ys : List Nat} (h : pRow S a n xs) (h2 : pRow S b m ys) (hl : xs.length + ys.length ≤ n) (hb : b ≠ a) (hb1 : b ≠ a + 1) (hb2 : b + 1 ≠ a) : ∃ S', f_Row_addAll a b S = some (1, S') ∧ zfr (rg a (a + 2)) S S' ∧ pRow S' a n (xs ++ ys) := by
  obtain ⟨r1, r2, r3, r4, r5, r6, r7, r8⟩ := h
  obtain ⟨q1, q2, q3, q4, q5, q6, q7, q8⟩ := h2
  obtain ⟨S', e1, e2, e3⟩ := mm_cp (sp := 0) (dp := xs.length) (c := ys.length) q3 r3 (by omega) (by omega) (by omega) (by omega) (by omega) (by omega)
  refine ⟨zwI S' a 1 (nI (xs.length + ys.length)), ?_, fr_trans (fr_mono e2 (fun b j hh => ⟨by have := hh.1; omega, by have := hh.2; omega⟩)) (fr_wI _ _ ⟨by omega, by omega⟩), ?_⟩
  · have g1 : zI S' a 1 = zI S a 1 := fr_I e2 (fun hh => by have := hh.1; have := hh.2; omega)
    have g2 : zI S' b 1 = zI S b 1 := fr_I e2 (fun hh => by have := hh.1; have := hh.2; omega)
    have g3 := fr_h e2
    have g4 := fr_R e2
    simp (disch := omega) [f_Row_addAll, -Prod.exists, -Prod.forall, zgf, zgr, zpf, zpz, zpr, zga, zgl, zgo, zpa, zpb, zpl, zpo, mm_len, zcl, Option.bind_some, Option.bind_none, mm_hI, mm_hJ, mm_hR, mm_nI, mm_nJ, mm_nR, mm_sI, mm_sJ, mm_sR, mm_RI, mm_RJ, mm_IJ, mm_IR, mm_JI, mm_JR, mm_II, mm_JJ, mm_RR, nn_lit, nI_add, pk_mul, nI_clamp, nI_ltI, nI_leI, nI_eq, nn_in, nn_eqm, nn_meq, nn_ltm, nn_mlt, nn_lem, nn_mle, nn_in_m, r1, r2, r3, r6, q1, q2, q3, q6, hl, e1]
    simp (disch := omega) [-Prod.exists, -Prod.forall, zgf, zgr, zpf, zpz, zpr, zga, zgl, zgo, zpa, zpb, zpl, zpo, mm_len, zcl, Option.bind_some, Option.bind_none, mm_hI, mm_hJ, mm_hR, mm_nI, mm_nJ, mm_nR, mm_sI, mm_sJ, mm_sR, mm_RI, mm_RJ, mm_IJ, mm_IR, mm_JI, mm_JR, mm_II, mm_JJ, mm_RR, nn_lit, nI_add, pk_mul, nI_clamp, nI_ltI, nI_leI, nI_eq, nn_in, nn_eqm, nn_meq, nn_ltm, nn_mlt, nn_lem, nn_mle, nn_in_m, g1, g2, g3, r1, q1, r6, q6]
  · refine ⟨by rw [mm_hI, fr_h e2]; exact r1, by rw [mm_RI, fr_R e2]; exact r2, by rw [mm_hI, fr_h e2]; exact r3, r4, by simp; omega, by simp [mm_II], ?_, l8_app r8 q8⟩
    intro k hk
    simp only [List.length_append] at hk
    rw [mm_II, if_neg (by omega), e3]
    by_cases hkl : k < xs.length
    · rw [if_neg (by omega), lg_app1 hkl, r7 k hkl]
    · rw [if_pos (by omega), lg_app2 (by omega), q7 _ (by omega)]; simp
theorem row_addAllF {S : zM} {a n b m : Nat} {xs ys : List Nat} (h : pRow S a n xs) (h2 : pRow S b m ys) (hl : ¬ xs.length + ys.length ≤ n) : f_Row_addAll a b S = some (0, S) := by
  obtain ⟨r1, r2, r3, r4, r5, r6, r7, r8⟩ := h
  obtain ⟨q1, q2, q3, q4, q5, q6, q7, q8⟩ := h2
  simp (disch := omega) [f_Row_addAll, -Prod.exists, -Prod.forall, zgf, zgr, zpf, zpz, zpr, zga, zgl, zgo, zpa, zpb, zpl, zpo, mm_len, zcl, Option.bind_some, Option.bind_none, mm_hI, mm_hJ, mm_hR, mm_nI, mm_nJ, mm_nR, mm_sI, mm_sJ, mm_sR, mm_RI, mm_RJ, mm_IJ, mm_IR, mm_JI, mm_JR, mm_II, mm_JJ, mm_RR, nn_lit, nI_add, pk_mul, nI_clamp, nI_ltI, nI_leI, nI_eq, nn_in, nn_eqm, nn_meq, nn_ltm, nn_mlt, nn_lem, nn_mle, nn_in_m, r1, r2, r3, r6, q1, q2, q3, q6, hl]
theorem row_copy {S : zM} {a n b m : Nat} {xs ys : List Nat} (h : pRow S a n xs) (h2 : pRow S b m ys) (hl : ys.length ≤ n) (hb : b ≠ a) (hb1 : b ≠ a + 1) (hb2 : b + 1 ≠ a) : ∃ S', f_Row_copy a b S = some S' ∧ zfr (rg a (a + 2)) S S' ∧ pRow S' a n ys := by
  obtain ⟨S1, e1, f1, p1⟩ := row_drop h
  have p2 := row_fr h2 f1 (fun j hh => by have := hh.1; have := hh.2; omega) (fun j hh => by have := hh.1; have := hh.2; omega)
  obtain ⟨S2, e2, f2, p3⟩ := row_addAll p1 p2 (by simpa using hl) hb hb1 hb2
  refine ⟨S2, ?_, fr_trans f1 f2, by simpa using p3⟩
  simp [f_Row_copy, zcl, h.1, e1, p1.1, e2]
theorem row_same_l {S : zM} {a n b m : Nat} {xs ys : List Nat} (h : pRow S a n xs) (h2 : pRow S b m ys) (hl : xs.length = ys.length) : ∀ d f j, d + j = xs.length → d < f → (∀ k, k < j → lg xs k = lg ys k) → L_Row_same_15 f a b (nI j) S = some (if xs = ys then 1 else 0, S) := by
  have h0 := h
  have h20 := h2
  obtain ⟨r1, r2, r3, r4, r5, r6, r7, r8⟩ := h
  obtain ⟨q1, q2, q3, q4, q5, q6, q7, q8⟩ := h2
  intro d
  induction d with
  | zero =>
    intro f j hj hf hs
    cases f with
    | zero => omega
    | succ f =>
      have e : xs = ys := lg_ext hl (fun k hk => hs k (by omega))
      have hx : ¬ j < xs.length := by omega
      have hj2 : j < 2 ^ 31 := by omega
      simp (disch := omega) [L_Row_same_15, -Prod.exists, -Prod.forall, zgf, zgr, zpf, zpz, zpr, zga, zgl, zgo, zpa, zpb, zpl, zpo, mm_len, zcl, Option.bind_some, Option.bind_none, mm_hI, mm_hJ, mm_hR, mm_nI, mm_nJ, mm_nR, mm_sI, mm_sJ, mm_sR, mm_RI, mm_RJ, mm_IJ, mm_IR, mm_JI, mm_JR, mm_II, mm_JJ, mm_RR, nn_lit, nI_add, pk_mul, nI_clamp, nI_ltI, nI_leI, nI_eq, nn_in, nn_eqm, nn_meq, nn_ltm, nn_mlt, nn_lem, nn_mle, nn_in_m, r1, r6, hx]
      exact e
  | succ d ih =>
    intro f j hj hf hs
    cases f with
    | zero => omega
    | succ f =>
      have hjx : j < xs.length := by omega
      have hjn : j < n := by omega
      have hjm : j < m := by omega
      have e1 := r7 j hjx
      have e2 := q7 j (by omega)
      have b1 := r8 j
      have b2 := q8 j
      by_cases e : lg xs j = lg ys j
      · rw [← ih f (j + 1) (by omega) (by omega) (fun k hk => by
          by_cases hkj : k = j
          · subst hkj; exact e
          · exact hs k (by omega))]
        simp (disch := omega) [L_Row_same_15, -Prod.exists, -Prod.forall, zgf, zgr, zpf, zpz, zpr, zga, zgl, zgo, zpa, zpb, zpl, zpo, mm_len, zcl, Option.bind_some, Option.bind_none, mm_hI, mm_hJ, mm_hR, mm_nI, mm_nJ, mm_nR, mm_sI, mm_sJ, mm_sR, mm_RI, mm_RJ, mm_IJ, mm_IR, mm_JI, mm_JR, mm_II, mm_JJ, mm_RR, nn_lit, nI_add, pk_mul, nI_clamp, nI_ltI, nI_leI, nI_eq, nn_in, nn_eqm, nn_meq, nn_ltm, nn_mlt, nn_lem, nn_mle, nn_in_m, r1, r2, r3, r6, q1, q2, q3, hjx, hjn, hjm, e1, e2, e]
      · have ne : xs ≠ ys := fun hh => e (by rw [hh])
        simp (disch := omega) [L_Row_same_15, -Prod.exists, -Prod.forall, zgf, zgr, zpf, zpz, zpr, zga, zgl, zgo, zpa, zpb, zpl, zpo, mm_len, zcl, Option.bind_some, Option.bind_none, mm_hI, mm_hJ, mm_hR, mm_nI, mm_nJ, mm_nR, mm_sI, mm_sJ, mm_sR, mm_RI, mm_RJ, mm_IJ, mm_IR, mm_JI, mm_JR, mm_II, mm_JJ, mm_RR, nn_lit, nI_add, pk_mul, nI_clamp, nI_ltI, nI_leI, nI_eq, nn_in, nn_eqm, nn_meq, nn_ltm, nn_mlt, nn_lem, nn_mle, nn_in_m, r1, r2, r3, r6, q1, q2, q3, hjx, hjn, hjm, e1, e2, e, ne]
theorem row_same {S : zM} {a n b m : Nat} {xs ys : List Nat} (h : pRow S a n xs) (h2 : pRow S b m ys) : f_Row_same a b S = some (if xs = ys then 1 else 0, S) := by
  have hx := h.2.2.2.2.1
  have hx2 := h.2.2.2.1
  have hy := h2.2.2.2.2.1
  have hy2 := h2.2.2.2.1
  by_cases hl : xs.length = ys.length
  · have := row_same_l h h2 hl xs.length zF 0 (by omega) (by rw [zF_eq]; omega) (fun k hk => by omega)
    simp (disch := omega) [f_Row_same, -Prod.exists, -Prod.forall, zgf, zgr, zpf, zpz, zpr, zga, zgl, zgo, zpa, zpb, zpl, zpo, mm_len, zcl, Option.bind_some, Option.bind_none, mm_hI, mm_hJ, mm_hR, mm_nI, mm_nJ, mm_nR, mm_sI, mm_sJ, mm_sR, mm_RI, mm_RJ, mm_IJ, mm_IR, mm_JI, mm_JR, mm_II, mm_JJ, mm_RR, nn_lit, nI_add, pk_mul, nI_clamp, nI_ltI, nI_leI, nI_eq, nn_in, nn_eqm, nn_meq, nn_ltm, nn_mlt, nn_lem, nn_mle, nn_in_m, h.1, h2.1, h.2.2.2.2.2.1, h2.2.2.2.2.2.1, hl, this]
  · have ne : xs ≠ ys := fun hh => hl (by rw [hh])
    simp (disch := omega) [f_Row_same, -Prod.exists, -Prod.forall, zgf, zgr, zpf, zpz, zpr, zga, zgl, zgo, zpa, zpb, zpl, zpo, mm_len, zcl, Option.bind_some, Option.bind_none, mm_hI, mm_hJ, mm_hR, mm_nI, mm_nJ, mm_nR, mm_sI, mm_sJ, mm_sR, mm_RI, mm_RJ, mm_IJ, mm_IR, mm_JI, mm_JR, mm_II, mm_JJ, mm_RR, nn_lit, nI_add, pk_mul, nI_clamp, nI_ltI, nI_leI, nI_eq, nn_in, nn_eqm, nn_meq, nn_ltm, nn_mlt, nn_lem, nn_mle, nn_in_m, h.1, h2.1, h.2.2.2.2.2.1, h2.2.2.2.2.2.1, hl, ne]
