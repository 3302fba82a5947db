/-! words by their places in order -/
def zbw (L : Nat) : Nat → Nat → List Nat
  | 0, _ => []
  | f + 1, i => (if i < L then [] else zbw L f (i / L - 1)) ++ [i % L]
def zword (L i : Nat) : List Nat := zbw L 5 i
def zcnt (L : Nat) : Nat → Nat
  | 0 => 0
  | n + 1 => zcnt L n + L ^ (n + 1)
def zdig (L : Nat) : Nat → Nat → List Nat
  | 0, _ => []
  | m + 1, v => zdig L m (v / L) ++ [v % L]
def zval (xs : List Nat) : Nat := xs.foldl (fun v d => 256 * v + (97 + d)) 0
theorem val_snoc (xs : List Nat) (d : Nat) : zval (xs ++ [d]) = 256 * zval xs + (97 + d) := by simp [zval]
theorem val_lt : ∀ (n : Nat) (xs : List Nat), xs.length = n → l8 xs → zval xs < 256 ^ n := by
  intro n
  induction n with
  | zero => intro xs h _; rw [List.length_eq_zero_iff.1 h]; simp [zval]
  | succ n ih =>
    intro xs h h8
    rcases list_end xs with q | ⟨u, x, q⟩
    · rw [q] at h; simp at h
    · subst q
      rw [List.length_append, List.length_singleton] at h
      have h1 := ih u (by omega) (l8_iff.2 (fun y hy => l8_iff.1 h8 y (List.mem_append.2 (Or.inl hy))))
      have h2 := l8_iff.1 h8 x (List.mem_append.2 (Or.inr (List.mem_singleton.2 rfl)))
      rw [val_snoc, Nat.pow_succ]
      have := Nat.mul_le_mul_left 256 h1
      omega
theorem val_by : ∀ (xs : List Nat) (j : Nat), l8 xs → zval xs / 256 ^ j % 256 = if j < xs.length then 97 + lg xs (xs.length - 1 - j) else 0 := by
  intro xs j
  induction j generalizing xs with
  | zero =>
    intro h8
    rcases list_end xs with q | ⟨u, x, q⟩
    · subst q; simp [zval]
    · subst q
      have h2 := l8_iff.1 h8 x (List.mem_append.2 (Or.inr (List.mem_singleton.2 rfl)))
      rw [val_snoc, List.length_append, List.length_singleton, if_pos (by omega), lg_app2 (by omega), show u.length + 1 - 1 - 0 - u.length = 0 by omega, lg_cons0, Nat.pow_zero, Nat.div_one]
      omega
  | succ j ih =>
    intro h8
    rcases list_end xs with q | ⟨u, x, q⟩
    · subst q; simp [zval]
    · subst q
      have h2 := l8_iff.1 h8 x (List.mem_append.2 (Or.inr (List.mem_singleton.2 rfl)))
      have h1 := ih u (l8_iff.2 (fun y hy => l8_iff.1 h8 y (List.mem_append.2 (Or.inl hy))))
      rw [val_snoc, Nat.pow_succ, Nat.mul_comm (256 ^ j), ← Nat.div_div_eq_div_mul, show (256 * zval u + (97 + x)) / 256 = zval u by omega, h1, List.length_append, List.length_singleton]
      by_cases q : j < u.length
      · rw [if_pos q, if_pos (by omega), lg_app1 (by omega)]
        congr 2; omega
      · rw [if_neg q, if_neg (by omega)]
/-- a word as a long, and back -/
theorem wl_val {xs : List Nat} (h8 : l8 xs) (h0 : 0 < xs.length) (hl : xs.length ≤ 7) : zwl (lN (zval xs)) = some xs := by
  have hlt := val_lt xs.length xs rfl h8
  have hp : (256 : Nat) ^ xs.length ≤ 256 ^ 7 := Nat.pow_le_pow_right (by omega) hl
  have hu : uN (lN (zval xs)) = zval xs := by
    have : zval xs < 2 ^ 64 := by omega
    exact lN_nat this
  have hb : ∀ j, zby (lN (zval xs)) j = if j < xs.length then 97 + lg xs (xs.length - 1 - j) else 0 := by
    intro j
    unfold zby
    rw [hu, Nat.pow_mul, show (2 : Nat) ^ 8 = 256 from rfl]
    exact val_by xs j h8
  have main : ∀ j, j ≤ xs.length → ztw (lN (zval xs)) j (xs.take (xs.length - j)) = some xs := by
    intro j
    induction j with
    | zero =>
      intro _
      rw [ztw, Nat.sub_zero, List.take_length, if_neg (by intro q; rw [q] at h0; simp at h0)]
    | succ j ih =>
      intro hj
      have b8 := h8 (xs.length - 1 - j)
      have vj : zby (lN (zval xs)) j = 97 + lg xs (xs.length - 1 - j) := by rw [hb j, if_pos (by omega)]
      rw [ztw, vj, if_neg (by omega), if_neg (by omega), ← ih (by omega)]
      congr 1
      rw [show xs.length - j = xs.length - (j + 1) + 1 by omega, List.take_succ_eq_append_getElem (by omega)]
      congr 2
      rw [show xs.length - 1 - j = xs.length - (j + 1) by omega, lg_get (by omega)]
      omega
  have skip : ∀ d, xs.length + d ≤ 8 → ztw (lN (zval xs)) (xs.length + d) [] = some xs := by
    intro d
    induction d with
    | zero =>
      intro _
      have := main xs.length (Nat.le_refl _)
      rw [Nat.sub_self, List.take_zero] at this
      exact this
    | succ d ih =>
      intro hd
      have vj : zby (lN (zval xs)) (xs.length + d) = 0 := by rw [hb, if_neg (by omega)]
      rw [← Nat.add_assoc, ztw, vj, if_pos ⟨rfl, rfl⟩]
      exact ih (by omega)
  have := skip (8 - xs.length) (by omega)
  rw [show xs.length + (8 - xs.length) = 8 by omega] at this
  exact this
theorem word_facts : ∀ L, L ∈ [2, 3, 4] → ∀ i, i < 1364 → i < zcnt L 5 → 0 < (zword L i).length ∧ (zword L i).length ≤ 5 ∧ zcnt L ((zword L i).length - 1) ≤ i ∧ i < zcnt L (zword L i).length ∧ zdig L (zword L i).length (i - zcnt L ((zword L i).length - 1)) = zword L i ∧ (zword L i).all (fun d => decide (d < 8)) = true := by decide +kernel
theorem cnt_5 : ∀ L, L ∈ [2, 3, 4] → zcnt L 5 ≤ 1364 ∧ (∀ n, n ≤ 5 → zcnt L n ≤ zcnt L 5) := by decide +kernel
theorem word_ok {L i : Nat} (hL : 2 ≤ L ∧ L ≤ 4) (hi : i < zcnt L 5) : 0 < (zword L i).length ∧ (zword L i).length ≤ 5 ∧ zcnt L ((zword L i).length - 1) ≤ i ∧ i < zcnt L (zword L i).length ∧ zdig L (zword L i).length (i - zcnt L ((zword L i).length - 1)) = zword L i ∧ l8 (zword L i) := by
  have hm : L ∈ [2, 3, 4] := by
    have : L = 2 ∨ L = 3 ∨ L = 4 := by omega
    rcases this with rfl | rfl | rfl <;> simp
  have h5 := (cnt_5 L hm).1
  obtain ⟨a, b, c, d, e, f⟩ := word_facts L hm i (by omega) hi
  refine ⟨a, b, c, d, e, l8_iff.2 (fun x hx => ?_)⟩
  have := List.all_eq_true.1 f x hx
  simpa using this
theorem cnt_le {L n : Nat} (hL : 2 ≤ L ∧ L ≤ 4) (hn : n ≤ 5) : zcnt L n ≤ zcnt L 5 ∧ zcnt L 5 ≤ 1364 := by
  have hm : L ∈ [2, 3, 4] := by
    have : L = 2 ∨ L = 3 ∨ L = 4 := by omega
    rcases this with rfl | rfl | rfl <;> simp
  exact ⟨(cnt_5 L hm).2 n hn, (cnt_5 L hm).1⟩
theorem bw_lt {L : Nat} (h0 : 0 < L) (hL : L ≤ 4) : ∀ f i, l8 (zbw L f i) ∧ (zbw L f i).length ≤ f := by
  intro f
  induction f with
  | zero => intro i; exact ⟨l8_nil, Nat.le_refl _⟩
  | succ f ih =>
    intro i
    have hm := Nat.mod_lt i h0
    rw [zbw]
    split
    · exact ⟨l8_app l8_nil (l8_one (by omega)), by simp⟩
    · exact ⟨l8_app (ih _).1 (l8_one (by omega)), by rw [List.length_append, List.length_singleton]; have := (ih (i / L - 1)).2; omega⟩
/-! the class: words spelled, counts -/
theorem cu_7 {L n : Nat} (hL : L ≤ 4) (hn : n ≤ 5) {S : zM} : ∀ d F k, d + k = n → d < F → L_Cl_countUpTo_7 F (nI L) (nI n) (nI (zcnt L k)) (nI (L ^ k)) (nI k) S = some (nI (zcnt L n), S) := by
  intro d
  induction d with
  | zero =>
    intro F k hd hF
    cases F with
    | zero => omega
    | succ F =>
      have ek : k = n := by omega
      subst ek
      have hx : ¬ nI k < nI k := by rw [nI_ltI (by omega) (by omega)]; omega
      simp [L_Cl_countUpTo_7, hx]
  | succ d ih =>
    intro F k hd hF
    cases F with
    | zero => omega
    | succ F =>
      have hx : nI k < nI n := by rw [nI_ltI (by omega) (by omega)]; omega
      have h5 : nI k < (5 : Int32) := (nI_ltI (b := 5) (by omega) (by omega)).2 (by omega)
      have e1 : nI k + 1 = nI (k + 1) := nI_add k 1
      have em : nI (L ^ k) * nI L = nI (L ^ (k + 1)) := by rw [pk_mul, Nat.pow_succ]
      rw [← ih F (k + 1) (by omega) (by omega), L_Cl_countUpTo_7, if_pos hx, if_pos h5, em, nI_add, e1]
      rfl
theorem c_countUpTo {L n : Nat} (hL : L ≤ 4) (hn : n ≤ 5) {S : zM} : f_Cl_countUpTo (nI L) (nI n) S = some (nI (zcnt L n), S) :=
  cu_7 hL hn n zF 0 (by omega) (by rw [zF_eq]; omega)
theorem mu_7 {L n M : Nat} (hL : L ≤ 4) (hn : n ≤ 5) {S : zM} (hm : sMo S M) (h6 : zI S M 6 = nI L) : ∀ d F k, d + k = n → d < F → L_Mo_manyUpTo_7 F M (nI n) (nI (zcnt L k)) (nI (L ^ k)) (nI k) S = some (nI (zcnt L n), S) := by
  intro d
  induction d with
  | zero =>
    intro F k hd hF
    cases F with
    | zero => omega
    | succ F =>
      have ek : k = n := by omega
      subst ek
      have hx : ¬ nI k < nI k := by rw [nI_ltI (by omega) (by omega)]; omega
      simp [L_Mo_manyUpTo_7, hx]
  | succ d ih =>
    intro F k hd hF
    cases F with
    | zero => omega
    | succ F =>
      have hx : nI k < nI n := by rw [nI_ltI (by omega) (by omega)]; omega
      have e1 : nI k + 1 = nI (k + 1) := nI_add k 1
      have em : nI (L ^ k) * nI L = nI (L ^ (k + 1)) := by rw [pk_mul, Nat.pow_succ]
      rw [← ih F (k + 1) (by omega) (by omega), L_Mo_manyUpTo_7, if_pos hx]
      simp [-Prod.exists, -Prod.forall, ↓bb_gf, ↓bb_gr, ↓bb_len, ↓bb_ga, ↓bb_gl, ↓bb_go, ↓bb_pf, ↓bb_pz, ↓bb_pr, ↓bb_pa, ↓bb_pb, ↓bb_pl, ↓bb_po, ↓bb_cl, ↓bb_some, ↓bb_RI, ↓bb_RJ, mm_hI, mm_hJ, mm_hR, mm_nI, mm_nJ, mm_nR, mm_sI, mm_sJ, mm_sR, mm_RI, mm_RJ, mm_IJ, mm_IR, mm_JI, mm_JR, mm_II, mm_JJ, mm_RR, hm.1, h6, em, nI_add, e1]
      rfl
theorem m_manyUpTo {L n M : Nat} (hL : L ≤ 4) (hn : n ≤ 5) {S : zM} (hm : sMo S M) (h6 : zI S M 6 = nI L) : f_Mo_manyUpTo M (nI n) S = some (nI (zcnt L n), S) :=
  mu_7 hL hn hm h6 n zF 0 (by omega) (by rw [zF_eq]; omega)
theorem sp_30 {S : zM} {E T L : Nat} (hE : zh S E = (2, 0)) (h9 : zR S E 9 = some T) (hT : zh S T = (10, 0)) (h3 : zI S T 3 = nI L) (hL : 2 ≤ L ∧ L ≤ 4) : ∀ f F k acc i, f + k = 5 → f < F → acc < 256 ^ k → i < 2000 → L_Census_spelled_30 F E (lN acc) (nI i) (nI k) S = some (lN (acc + 256 ^ k * zval (zbw L f i)), S) := by
  have n0 : ¬ nI L = 0 := nI_ne0 (by omega) (by omega)
  intro f
  induction f with
  | zero =>
    intro F k acc i hk hF ha hi
    cases F with
    | zero => omega
    | succ F =>
      have ek : k = 5 := by omega
      subst ek
      have hx : ¬ nI 5 < (5 : Int32) := by decide
      simp [L_Census_spelled_30, hx, zbw, zval]
  | succ f ih =>
    intro F k acc i hk hF ha hi
    cases F with
    | zero => omega
    | succ F =>
      have hx : nI k < (5 : Int32) := (nI_ltI (b := 5) (by omega) (by omega)).2 (by omega)
      have l0 : ¬ nI i < 0 := nI_pos (by omega)
      have e1 : nI k + 1 = nI (k + 1) := nI_add k 1
      have ed : nI i / nI L = nI (i / L) := pk_div (by omega) (by omega) (by omega)
      have er : nI i - nI (i / L) * nI L = nI (i % L) := by rw [← ed]; exact pk_rem (by omega) (by omega) (by omega)
      have hm := Nat.mod_lt i (show 0 < L by omega)
      have e97 : (97 : Int32) + nI (i % L) = nI (97 + i % L) := nI_add 97 _
      have e8 : (8 : Int32) * nI k = nI (8 * k) := pk_mul 8 k
      have hp : (2 : Nat) ^ (8 * k) = 256 ^ k := by rw [Nat.pow_mul]
      have hk4 : k ≤ 4 := by omega
      have hp4 : (256 : Nat) ^ k ≤ 256 ^ 4 := Nat.pow_le_pow_right (by omega) hk4
      have hd101 : (97 + i % L) * 256 ^ k ≤ 101 * 256 ^ 4 := Nat.mul_le_mul (by omega) hp4
      have eor : lN acc ||| ((nI (97 + i % L)).toInt64 <<< ((nI (8 * k)).toInt64 &&& 63)) = lN (acc + (97 + i % L) * 256 ^ k) := by
        rw [nI_l (by omega), wb_shl _ (by omega), hp]
        exact g_or' (k := 8 * k) hp ha (by omega)
      have hdl : i / L ≤ i := Nat.div_le_self i L
      have hacc : acc + (97 + i % L) * 256 ^ k < 256 ^ (k + 1) := by
        rw [Nat.pow_succ]
        have : (97 + i % L) * 256 ^ k ≤ 101 * 256 ^ k := Nat.mul_le_mul_right _ (by omega)
        omega
      have st : L_Census_spelled_30 (F + 1) E (lN acc) (nI i) (nI k) S = L_Census_spelled_30 F E (lN (acc + (97 + i % L) * 256 ^ k)) (nI (i / L) - 1) (nI (k + 1)) S := by
        rw [L_Census_spelled_30]
        simp (disch := omega) [-Prod.exists, -Prod.forall, ↓bb_gf, ↓bb_gr, ↓bb_len, ↓bb_ga, ↓bb_gl, ↓bb_go, ↓bb_pf, ↓bb_pz, ↓bb_pr, ↓bb_pa, ↓bb_pb, ↓bb_pl, ↓bb_po, ↓bb_cl, ↓bb_some, ↓bb_RI, ↓bb_RJ, mm_hI, mm_hJ, mm_hR, mm_nI, mm_nJ, mm_nR, mm_sI, mm_sJ, mm_sR, mm_RI, mm_RJ, mm_IJ, mm_IR, mm_JI, mm_JR, mm_II, mm_JJ, mm_RR, hx, l0, hE, ↓bS h9, hT, h3, n0, ed, er, e97, e8, eor, e1]
      rw [st, zbw]
      by_cases q : i < L
      · rw [if_pos q]
        have d0 : i / L = 0 := Nat.div_eq_of_lt q
        have hm1 : nI (i / L) - 1 < 0 := by rw [d0]; decide
        have v1 : zval ([] ++ [i % L]) = 97 + i % L := by simp [zval]
        rw [v1, Nat.mul_comm (256 ^ k)]
        cases F with
        | zero => omega
        | succ F =>
          rw [L_Census_spelled_30]
          by_cases q5 : nI (k + 1) < (5 : Int32)
          · rw [if_pos q5, if_pos hm1]
          · rw [if_neg q5]
      · rw [if_neg q]
        have d1 : 0 < i / L := Nat.div_pos (by omega) (by omega)
        have es : nI (i / L) - 1 = nI (i / L - 1) := pk_sub (b := 1) d1
        rw [es, ih F (k + 1) (acc + (97 + i % L) * 256 ^ k) (i / L - 1) (by omega) (by omega) hacc (by omega), val_snoc]
        congr 3
        rw [Nat.pow_succ, Nat.mul_add, Nat.mul_assoc, Nat.mul_comm (256 ^ k) (97 + i % L)]
        omega
theorem c_spelled {S : zM} {E T L i : Nat} (hE : zh S E = (2, 0)) (h9 : zR S E 9 = some T) (hT : zh S T = (10, 0)) (h3 : zI S T 3 = nI L) (hL : 2 ≤ L ∧ L ≤ 4) (hi : i < 2000) : f_Census_spelled E (nI i) S = some (lN (zval (zword L i)), S) := by
  have l1 : ¬ nI L < 1 := by
    intro w
    have := (nI_ltI (b := 1) (by omega) (by omega)).1 w
    omega
  have := sp_30 hE h9 hT h3 hL 5 zF 0 0 i (by omega) (by rw [zF_eq]; omega) (by omega) hi
  rw [Nat.zero_add, Nat.pow_zero, Nat.one_mul] at this
  rw [show zword L i = zbw L 5 i from rfl, ← this]
  simp (disch := omega) [f_Census_spelled, -Prod.exists, -Prod.forall, ↓bb_gf, ↓bb_gr, ↓bb_len, ↓bb_ga, ↓bb_gl, ↓bb_go, ↓bb_pf, ↓bb_pz, ↓bb_pr, ↓bb_pa, ↓bb_pb, ↓bb_pl, ↓bb_po, ↓bb_cl, ↓bb_some, ↓bb_RI, ↓bb_RJ, mm_hI, mm_hJ, mm_hR, mm_nI, mm_nJ, mm_nR, mm_sI, mm_sJ, mm_sR, mm_RI, mm_RJ, mm_IJ, mm_IR, mm_JI, mm_JR, mm_II, mm_JJ, mm_RR, hE, h9, ↓bS h9, hT, h3, l1]
  rfl
