/-! the reference's reckoning, in plain mathematics -/
def zdr (i fr many : Nat) (D : Nat → Nat) : Nat → Nat := zup D (5 * i + fr) (min many (D (5 * i + fr)))
def zdg1 (pcs : List (Nat × List Nat)) (i fr many j : Nat) (D : Nat → Nat) : Nat → Nat :=
  if zagr (pcL pcs i) fr (pcL pcs j) = true then
    if pl pcs j ≤ pl pcs i - fr then zdr i (fr + pl pcs j) many D
    else zdr j (pl pcs i - fr) (many + (pl pcs j - (pl pcs i - fr))) D
  else D
def zdg (pcs : List (Nat × List Nat)) (i fr many : Nat) (D : Nat → Nat) : Nat → Nat → Nat
  | 0 => D
  | j + 1 => zdg1 pcs i fr many j (zdg pcs i fr many D j)
def zds1 (pcs : List (Nat × List Nat)) (i j : Nat) (D : Nat → Nat) : Nat → Nat :=
  if i ≠ j ∧ pl pcs j ≤ pl pcs i ∧ zagr (pcL pcs i) 0 (pcL pcs j) = true then zdr i (pl pcs j) (pl pcs i) D else D
def zds2 (pcs : List (Nat × List Nat)) (i : Nat) (D : Nat → Nat) : Nat → Nat → Nat
  | 0 => D
  | j + 1 => zds1 pcs i j (zds2 pcs i D j)
def zds (pcs : List (Nat × List Nat)) : Nat → Nat → Nat
  | 0 => fun _ => zFar
  | i + 1 => zds2 pcs i (zds pcs i) pcs.length
/-- what is reached is so -/
def dS (pcs : List (Nat × List Nat)) (D : Nat → Nat) : Prop := ∀ k, D k ≤ zFar ∧ (D k < zFar → k / 5 < pcs.length ∧ k % 5 ≤ pl pcs (k / 5) ∧ (k % 5 < pl pcs (k / 5) → gR pcs (D k) (k / 5, k % 5)) ∧ (k % 5 = pl pcs (k / 5) → gA pcs (D k)))
theorem dr_le (i fr many : Nat) (D : Nat → Nat) : (∀ k, zdr i fr many D k ≤ D k) ∧ zdr i fr many D (5 * i + fr) ≤ many ∧ ∀ k, zdr i fr many D k = D k ∨ zdr i fr many D k = many := by
  unfold zdr
  refine ⟨fun k => ?_, ?_, fun k => ?_⟩
  · unfold zup; split
    · rename_i q; rw [q]; omega
    · omega
  · unfold zup; rw [if_pos rfl]; omega
  · unfold zup; split
    · rename_i q; rw [q]; omega
    · left; rfl
section
variable {pcs : List (Nat × List Nat)}
theorem dr_S {i fr many : Nat} {D : Nat → Nat} (h : dS pcs D) (hi : i < pcs.length) (h5 : fr < 5) (hfr : fr ≤ pl pcs i) (h1 : fr < pl pcs i → gR pcs many (i, fr)) (h2 : fr = pl pcs i → gA pcs many) : dS pcs (zdr i fr many D) := by
  intro k
  have hk := h k
  unfold zdr zup
  by_cases q : k = 5 * i + fr
  · rw [if_pos q]
    have e1 : k / 5 = i := by omega
    have e2 : k % 5 = fr := by omega
    rw [← q, e1, e2]
    rw [e1, e2] at hk
    refine ⟨by omega, fun hlt => ⟨hi, hfr, ?_, ?_⟩⟩
    · intro w
      by_cases q2 : many ≤ D k
      · rw [Nat.min_eq_left q2]; exact h1 w
      · rw [Nat.min_eq_right (by omega)] at hlt ⊢; exact (hk.2 hlt).2.2.1 w
    · intro w
      by_cases q2 : many ≤ D k
      · rw [Nat.min_eq_left q2]; exact h2 w
      · rw [Nat.min_eq_right (by omega)] at hlt ⊢; exact (hk.2 hlt).2.2.2 w
  · rw [if_neg q]; exact hk
theorem dg1_S (hw : wG pcs) {i fr many j : Nat} {D : Nat → Nat} (h : dS pcs D) (hj : j < pcs.length) (hr : gR pcs many (i, fr)) : dS pcs (zdg1 pcs i fr many j D) := by
  have hv := gR_V hr
  have l1 := hw.2 i hv.1
  have l2 := hw.2 j hj
  have hv2 : fr < pl pcs i := hv.2
  unfold zdg1
  split
  · rename_i q
    split
    · rename_i q2
      refine dr_S h hv.1 (by omega) (by omega) (fun w => ?_) (fun w => ?_)
      · have := gR_step hr (u := (i, fr + pl pcs j)) (c := 0) ⟨j, hj, q, Or.inl ⟨by show pl pcs j < pl pcs i - fr; omega, rfl, rfl⟩⟩
        simpa using this
      · exact Or.inr ⟨(i, fr), hr, j, hj, q, by show pl pcs j = pl pcs i - fr; omega⟩
    · rename_i q2
      refine dr_S h hj (by omega) (by omega) (fun w => ?_) (fun w => by omega)
      exact gR_step hr ⟨j, hj, q, Or.inr ⟨by show pl pcs i - fr < pl pcs j; omega, rfl, rfl⟩⟩
  · exact h
theorem dg1_le (i fr many j : Nat) (D : Nat → Nat) : (∀ k, zdg1 pcs i fr many j D k ≤ D k) ∧ ∀ k, zdg1 pcs i fr many j D k = D k ∨ many ≤ zdg1 pcs i fr many j D k := by
  unfold zdg1
  split
  · split
    · obtain ⟨a, b, c⟩ := dr_le i (fr + pl pcs j) many D
      refine ⟨a, fun k => ?_⟩
      rcases c k with x | x
      · exact Or.inl x
      · right; rw [x]; omega
    · obtain ⟨a, b, c⟩ := dr_le j (pl pcs i - fr) (many + (pl pcs j - (pl pcs i - fr))) D
      refine ⟨a, fun k => ?_⟩
      rcases c k with x | x
      · exact Or.inl x
      · right; rw [x]; omega
  · exact ⟨fun k => Nat.le_refl _, fun k => Or.inl rfl⟩
theorem dg1_E {i fr many j : Nat} (D : Nat → Nat) (q : zagr (pcL pcs i) fr (pcL pcs j) = true) : (pl pcs j ≤ pl pcs i - fr → zdg1 pcs i fr many j D (5 * i + (fr + pl pcs j)) ≤ many) ∧ (pl pcs i - fr < pl pcs j → zdg1 pcs i fr many j D (5 * j + (pl pcs i - fr)) ≤ many + (pl pcs j - (pl pcs i - fr))) := by
  unfold zdg1
  rw [if_pos q]
  refine ⟨fun h => ?_, fun h => ?_⟩
  · rw [if_pos h]; exact (dr_le _ _ _ D).2.1
  · rw [if_neg (by omega)]; exact (dr_le _ _ _ D).2.1
theorem dg_ok (hw : wG pcs) {i fr many : Nat} {D : Nat → Nat} (h : dS pcs D) (hr : gR pcs many (i, fr)) : ∀ n, n ≤ pcs.length → dS pcs (zdg pcs i fr many D n) ∧ (∀ k, zdg pcs i fr many D n k ≤ D k) ∧ (∀ k, zdg pcs i fr many D n k = D k ∨ many ≤ zdg pcs i fr many D n k) ∧ ∀ j, j < n → zagr (pcL pcs i) fr (pcL pcs j) = true → (pl pcs j ≤ pl pcs i - fr → zdg pcs i fr many D n (5 * i + (fr + pl pcs j)) ≤ many) ∧ (pl pcs i - fr < pl pcs j → zdg pcs i fr many D n (5 * j + (pl pcs i - fr)) ≤ many + (pl pcs j - (pl pcs i - fr))) := by
  intro n
  induction n with
  | zero => intro _; exact ⟨h, fun k => Nat.le_refl _, fun k => Or.inl rfl, fun j hj => by omega⟩
  | succ n ih =>
    intro hn
    obtain ⟨i1, i2, i3, i4⟩ := ih (by omega)
    obtain ⟨a, b⟩ := dg1_le (pcs := pcs) i fr many n (zdg pcs i fr many D n)
    refine ⟨dg1_S hw i1 (by omega) hr, fun k => Nat.le_trans (a k) (i2 k), fun k => ?_, fun j hj q => ?_⟩
    · rw [zdg]
      rcases b k with x | x
      · rw [x]; exact i3 k
      · exact Or.inr x
    · rw [zdg]
      by_cases q2 : j = n
      · subst q2; exact dg1_E _ q
      · obtain ⟨c, d⟩ := i4 j (by omega) q
        exact ⟨fun x => Nat.le_trans (a _) (c x), fun x => Nat.le_trans (a _) (d x)⟩
theorem ds1_ok (hw : wG pcs) {i j : Nat} {D : Nat → Nat} (h : dS pcs D) (hi : i < pcs.length) (hj : j < pcs.length) : dS pcs (zds1 pcs i j D) ∧ (∀ k, zds1 pcs i j D k ≤ D k) ∧ (i ≠ j → zagr (pcL pcs i) 0 (pcL pcs j) = true → pl pcs j ≤ pl pcs i → zds1 pcs i j D (5 * i + pl pcs j) ≤ pl pcs i) := by
  have l1 := hw.2 i hi
  have l2 := hw.2 j hj
  unfold zds1
  split
  · rename_i q
    obtain ⟨a, b, c⟩ := dr_le i (pl pcs j) (pl pcs i) D
    refine ⟨dr_S h hi (by omega) q.2.1 (fun w => ?_) (fun w => ?_), a, fun _ _ _ => b⟩
    · exact gR_src ⟨i, j, hi, hj, q.1, q.2.2, w, rfl, rfl⟩
    · exact Or.inl ⟨i, j, hi, hj, q.1, q.2.2, w, rfl⟩
  · rename_i q
    exact ⟨h, fun k => Nat.le_refl _, fun x y z => absurd ⟨x, z, y⟩ q⟩
theorem ds2_ok (hw : wG pcs) {i : Nat} {D : Nat → Nat} (h : dS pcs D) (hi : i < pcs.length) : ∀ n, n ≤ pcs.length → dS pcs (zds2 pcs i D n) ∧ (∀ k, zds2 pcs i D n k ≤ D k) ∧ ∀ j, j < n → i ≠ j → zagr (pcL pcs i) 0 (pcL pcs j) = true → pl pcs j ≤ pl pcs i → zds2 pcs i D n (5 * i + pl pcs j) ≤ pl pcs i := by
  intro n
  induction n with
  | zero => intro _; exact ⟨h, fun k => Nat.le_refl _, fun j hj => by omega⟩
  | succ n ih =>
    intro hn
    obtain ⟨i1, i2, i3⟩ := ih (by omega)
    obtain ⟨a, b, c⟩ := ds1_ok hw i1 hi (j := n) (by omega)
    refine ⟨a, fun k => Nat.le_trans (b k) (i2 k), fun j hj x y z => ?_⟩
    rw [zds2]
    by_cases q : j = n
    · subst q; exact c x y z
    · exact Nat.le_trans (b _) (i3 j (by omega) x y z)
theorem ds_ok (hw : wG pcs) : ∀ n, n ≤ pcs.length → dS pcs (zds pcs n) ∧ ∀ i j, i < n → j < pcs.length → i ≠ j → zagr (pcL pcs i) 0 (pcL pcs j) = true → pl pcs j ≤ pl pcs i → zds pcs n (5 * i + pl pcs j) ≤ pl pcs i := by
  intro n
  induction n with
  | zero => intro _; exact ⟨fun k => ⟨Nat.le_refl _, fun he => absurd he (Nat.lt_irrefl _)⟩, fun i j hi => by omega⟩
  | succ n ih =>
    intro hn
    obtain ⟨i1, i2⟩ := ih (by omega)
    obtain ⟨a, b, c⟩ := ds2_ok hw i1 (i := n) (by omega) pcs.length (Nat.le_refl _)
    refine ⟨a, fun i j hi hj x y z => ?_⟩
    rw [zds]
    by_cases q : i = n
    · subst q; exact c j hj x y z
    · exact Nat.le_trans (b _) (i2 i j (by omega) hj x y z)
def ix5 (u : Nat × Nat) : Nat := 5 * u.1 + u.2
/-- the state of the reckoning: what is done is below d0, what isn't is above; the edges of what is done are followed -/
def dJ (pcs : List (Nat × List Nat)) (D : Nat → Nat) (dn : Nat → Bool) (d0 : Nat) : Prop := dS pcs D ∧ (∀ k, k < 80 → dn k = true → D k ≤ d0) ∧ (∀ k, k < 80 → dn k = false → d0 ≤ D k) ∧ (∀ k, k < 80 → dn k = true → k % 5 < pl pcs (k / 5) ∧ (∀ u c, gE pcs (k / 5, k % 5) u c → D (ix5 u) ≤ D k + c) ∧ (gF pcs (k / 5, k % 5) → D (5 * (k / 5) + pl pcs (k / 5)) ≤ D k)) ∧ ∀ i j, i < pcs.length → j < pcs.length → i ≠ j → zagr (pcL pcs i) 0 (pcL pcs j) = true → pl pcs j ≤ pl pcs i → D (5 * i + pl pcs j) ≤ pl pcs i
theorem ix5_v (hw : wG pcs) {v : Nat × Nat} (h : gV pcs v) : ix5 v < 80 ∧ (ix5 v / 5, ix5 v % 5) = v ∧ 5 * v.1 + pl pcs v.1 < 80 ∧ (5 * v.1 + pl pcs v.1) / 5 = v.1 ∧ (5 * v.1 + pl pcs v.1) % 5 = pl pcs v.1 := by
  have h1 := h.1
  have h2 := h.2
  have h3 := hw.2 _ h1
  have h4 := hw.1
  unfold ix5
  exact ⟨by omega, Prod.ext (by simp only; omega) (by simp only; omega), by omega, by omega, by omega⟩
/-- nothing is nearer than what isn't done -/
theorem dj_low (hw : wG pcs) {D : Nat → Nat} {dn : Nat → Bool} {d0 d : Nat} (h : dJ pcs D dn d0) (hd : ∀ k, k < 80 → dn k = false → d ≤ D k) : ∀ w, gA pcs w → d ≤ w := by
  obtain ⟨j1, j2, j3, j4, j5⟩ := h
  have fin : ∀ i, i < pcs.length → dn (5 * i + pl pcs i) = false := by
    intro i hi
    have l := hw.2 i hi
    have l2 := hw.1
    cases e : dn (5 * i + pl pcs i) with
    | false => rfl
    | true =>
      have := (j4 _ (by omega) e).1
      rw [show (5 * i + pl pcs i) / 5 = i by omega, show (5 * i + pl pcs i) % 5 = pl pcs i by omega] at this
      omega
  rintro w (⟨i, k, h1, h2, h3, h4, h5, h6⟩ | ⟨v, ⟨t, p, q, h1, h2, h3⟩, hf⟩)
  · have l := hw.2 i h1
    have l2 := hw.1
    have := j5 i k h1 h2 h3 h4 (by omega)
    rw [h5] at this
    have := hd _ (by omega) (fin i h1)
    omega
  · have hA : ∀ j, j ≤ t → (dn (ix5 (p j)) = true ∧ D (ix5 (p j)) ≤ q j) ∨ d ≤ q j := by
      intro j
      induction j with
      | zero =>
        intro _
        obtain ⟨i, k, g1, g2, g3, g4, g5, g6, g7⟩ := h1.1
        obtain ⟨x1, x2, _⟩ := ix5_v hw (gWk_V h1 0 (by omega))
        have := j5 i k g1 g2 g3 g4 (by omega)
        have e : D (ix5 (p 0)) ≤ q 0 := by rw [g6, g7]; exact this
        cases en : dn (ix5 (p 0)) with
        | true => exact Or.inl ⟨rfl, e⟩
        | false => right; have := hd _ x1 en; omega
      | succ j ih =>
        intro hj
        obtain ⟨c, g1, g2⟩ := h1.2 j (by omega)
        obtain ⟨x1, x2, _⟩ := ix5_v hw (gWk_V h1 j (by omega))
        obtain ⟨y1, y2, _⟩ := ix5_v hw (gWk_V h1 (j + 1) (by omega))
        rcases ih (by omega) with ⟨a, b⟩ | a
        · have := (j4 _ x1 a).2.1 (p (j + 1)) c (by rw [x2]; exact g1)
          cases en : dn (ix5 (p (j + 1))) with
          | true => exact Or.inl ⟨rfl, by omega⟩
          | false => right; have := hd _ y1 en; omega
        · right; omega
    obtain ⟨x1, x2, x3, x4, x5⟩ := ix5_v hw (gWk_V h1 t (by omega))
    rcases hA t (by omega) with ⟨a, b⟩ | a
    · have := (j4 _ x1 a).2.2 (by rw [x2, h2]; exact hf)
      have e1 : ix5 (p t) / 5 = (p t).1 := congrArg Prod.fst x2
      rw [e1] at this
      have := hd _ x3 (fin _ (gWk_V h1 t (by omega)).1)
      omega
    · omega
/-- one vertex more is done -/
theorem dj_pop (hw : wG pcs) {D : Nat → Nat} {dn : Nat → Bool} {d0 k : Nat} (h : dJ pcs D dn d0) (hk : k < 80) (hn : dn k = false) (hF : D k < zFar) (hm : ∀ j, j < 80 → dn j = false → D k ≤ D j) (hf : k % 5 ≠ pl pcs (k / 5)) : gR pcs (D k) (k / 5, k % 5) ∧ dJ pcs (zdg pcs (k / 5) (k % 5) (D k) D pcs.length) (fun q => if q = k then true else dn q) (D k) := by
  have h0 := h
  obtain ⟨j1, j2, j3, j4, j5⟩ := h
  obtain ⟨v1, v2, v3, v4⟩ := (j1 k).2 hF
  have hr := v3 (by omega)
  obtain ⟨a, b, c, e⟩ := dg_ok hw j1 hr pcs.length (Nat.le_refl _)
  have hd0 : d0 ≤ D k := j3 k hk hn
  -- what is done, or is popped, stays
  have keep : ∀ q, q < 80 → (dn q = true ∨ q = k) → zdg pcs (k / 5) (k % 5) (D k) D pcs.length q = D q := by
    intro q hq hor
    have hle : D q ≤ D k := by
      rcases hor with x | x
      · have := j2 q hq x; omega
      · rw [x]; omega
    rcases c q with x | x
    · exact x
    · have := b q; omega
  refine ⟨hr, a, fun q hq hdq => ?_, fun q hq hdq => ?_, fun q hq hdq => ?_, fun i j hi hj x y z => Nat.le_trans (b _) (j5 i j hi hj x y z)⟩
  · by_cases q2 : q = k
    · rw [keep q hq (Or.inr q2), q2]; omega
    · simp only [if_neg q2] at hdq
      rw [keep q hq (Or.inl hdq)]
      have := j2 q hq hdq; omega
  · by_cases q2 : q = k
    · simp [q2] at hdq
    · simp only [if_neg q2] at hdq
      rcases c q with x | x
      · rw [x]; exact hm q hq hdq
      · exact x
  · by_cases q2 : q = k
    · subst q2
      rw [keep q hq (Or.inr rfl)]
      refine ⟨by omega, fun u c' hg => ?_, fun hg => ?_⟩
      · obtain ⟨j, h1, h2, ⟨h3, rfl, rfl⟩ | ⟨h3, rfl, rfl⟩⟩ := hg
        · have := (e j h1 h2).1 (Nat.le_of_lt h3)
          unfold ix5; omega
        · have := (e j h1 h2).2 h3
          unfold ix5; omega
      · obtain ⟨j, h1, h2, h3⟩ := hg
        have h3' : pl pcs j = pl pcs (q / 5) - q % 5 := h3
        have := (e j h1 h2).1 (by omega)
        rw [show q % 5 + pl pcs j = pl pcs (q / 5) by omega] at this
        exact this
    · simp only [if_neg q2] at hdq
      rw [keep q hq (Or.inl hdq)]
      obtain ⟨x1, x2, x3⟩ := j4 q hq hdq
      exact ⟨x1, fun u c' hg => Nat.le_trans (b _) (x2 u c' hg), fun hg => Nat.le_trans (b _) (x3 hg)⟩
end
