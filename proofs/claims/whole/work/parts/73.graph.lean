/-! two unlike rows of pieces that make the same letters: a graph of rests. A vertex: a piece and a place in it -/
abbrev zX3 : Type := (Nat → Nat) × Nat × Int32
section
variable (pcs : List (Nat × List Nat))
def pl (k : Nat) : Nat := (pcL pcs k).length
def gE (v u : Nat × Nat) (c : Nat) : Prop := ∃ k, k < pcs.length ∧ zagr (pcL pcs v.1) v.2 (pcL pcs k) = true ∧ ((pl pcs k < pl pcs v.1 - v.2 ∧ u = (v.1, v.2 + pl pcs k) ∧ c = 0) ∨ (pl pcs v.1 - v.2 < pl pcs k ∧ u = (k, pl pcs v.1 - v.2) ∧ c = pl pcs k - (pl pcs v.1 - v.2)))
def gF (v : Nat × Nat) : Prop := ∃ k, k < pcs.length ∧ zagr (pcL pcs v.1) v.2 (pcL pcs k) = true ∧ pl pcs k = pl pcs v.1 - v.2
def gS (u : Nat × Nat) (w : Nat) : Prop := ∃ i k, i < pcs.length ∧ k < pcs.length ∧ i ≠ k ∧ zagr (pcL pcs i) 0 (pcL pcs k) = true ∧ pl pcs k < pl pcs i ∧ u = (i, pl pcs k) ∧ w = pl pcs i
def gZ (w : Nat) : Prop := ∃ i k, i < pcs.length ∧ k < pcs.length ∧ i ≠ k ∧ zagr (pcL pcs i) 0 (pcL pcs k) = true ∧ pl pcs k = pl pcs i ∧ w = pl pcs i
def gWk (t : Nat) (p : Nat → Nat × Nat) (q : Nat → Nat) : Prop := gS pcs (p 0) (q 0) ∧ ∀ j, j < t → ∃ c, gE pcs (p j) (p (j + 1)) c ∧ q (j + 1) = q j + c
def gR (w : Nat) (v : Nat × Nat) : Prop := ∃ t p q, gWk pcs t p q ∧ p t = v ∧ q t = w
def gA (w : Nat) : Prop := gZ pcs w ∨ ∃ v, gR pcs w v ∧ gF pcs v
/-- pieces that all have letters -/
def wG : Prop := pcs.length ≤ 16 ∧ ∀ k, k < pcs.length → 0 < pl pcs k ∧ pl pcs k ≤ 4
def gV (v : Nat × Nat) : Prop := v.1 < pcs.length ∧ v.2 < pl pcs v.1
end
section
variable {pcs : List (Nat × List Nat)}
theorem agr_sym {a b : List Nat} (h : zagr a 0 b = true) : zagr b 0 a = true := by
  rw [agr_iff] at h ⊢
  intro k h1 h2
  rw [Nat.zero_add] at h2 ⊢
  have := h k h2 (by omega)
  rw [Nat.zero_add] at this
  exact this.symm
theorem gS_V {u : Nat × Nat} {w : Nat} (h : gS pcs u w) : gV pcs u := by
  obtain ⟨i, k, h1, h2, h3, h4, h5, rfl, h7⟩ := h
  exact ⟨h1, h5⟩
theorem gE_V {v u : Nat × Nat} {c : Nat} (hv : gV pcs v) (h : gE pcs v u c) : gV pcs u := by
  obtain ⟨k, h1, h2, ⟨h3, rfl, h5⟩ | ⟨h3, rfl, h5⟩⟩ := h
  · exact ⟨hv.1, by simp only; omega⟩
  · exact ⟨h1, h3⟩
theorem gWk_V {t : Nat} {p : Nat → Nat × Nat} {q : Nat → Nat} (h : gWk pcs t p q) : ∀ j, j ≤ t → gV pcs (p j) := by
  intro j
  induction j with
  | zero => intro _; exact gS_V h.1
  | succ j ih =>
    intro hj
    obtain ⟨c, hc, _⟩ := h.2 j (by omega)
    exact gE_V (ih (by omega)) hc
theorem gR_V {w : Nat} {v : Nat × Nat} (h : gR pcs w v) : gV pcs v := by
  obtain ⟨t, p, q, h1, h2, h3⟩ := h
  rw [← h2]; exact gWk_V h1 t (by omega)
theorem gR_src {u : Nat × Nat} {w : Nat} (h : gS pcs u w) : gR pcs w u := ⟨0, fun _ => u, fun _ => w, ⟨h, fun j hj => by omega⟩, rfl, rfl⟩
def gsp {α : Type} (p : Nat → α) (t : Nat) (u : α) (j : Nat) : α := if j ≤ t then p j else u
theorem gsp_le {α : Type} {p : Nat → α} {t j : Nat} {u : α} (h : j ≤ t) : gsp p t u j = p j := if_pos h
theorem gsp_gt {α : Type} {p : Nat → α} {t j : Nat} {u : α} (h : t < j) : gsp p t u j = u := if_neg (by omega)
theorem gR_step {v u : Nat × Nat} {w c : Nat} (h : gR pcs w v) (he : gE pcs v u c) : gR pcs (w + c) u := by
  obtain ⟨t, p, q, h1, h2, h3⟩ := h
  refine ⟨t + 1, gsp p t u, gsp q t (w + c), ⟨?_, fun j hj => ?_⟩, gsp_gt (by omega), gsp_gt (by omega)⟩
  · rw [gsp_le (by omega), gsp_le (by omega)]; exact h1.1
  · by_cases q1 : j < t
    · obtain ⟨c', a, b⟩ := h1.2 j q1
      refine ⟨c', ?_, ?_⟩
      · rw [gsp_le (show j ≤ t by omega), gsp_le (show j + 1 ≤ t by omega)]; exact a
      · rw [gsp_le (show j ≤ t by omega), gsp_le (show j + 1 ≤ t by omega)]; exact b
    · have : j = t := by omega
      subst this
      refine ⟨c, ?_, ?_⟩
      · rw [gsp_le (show j ≤ j by omega), gsp_gt (show j < j + 1 by omega), h2]; exact he
      · rw [gsp_le (show j ≤ j by omega), gsp_gt (show j < j + 1 by omega), h3]
theorem gWk_mono {t : Nat} {p : Nat → Nat × Nat} {q : Nat → Nat} (h : gWk pcs t p q) : ∀ d j, j + d ≤ t → q j ≤ q (j + d) := by
  intro d
  induction d with
  | zero => intro j _; exact Nat.le_refl _
  | succ d ih =>
    intro j hj
    obtain ⟨c, _, e⟩ := h.2 (j + d) (by omega)
    rw [← Nat.add_assoc, e]
    exact Nat.le_trans (ih j (by omega)) (by omega)
def gcp {α : Type} (p : Nat → α) (a d : Nat) (j : Nat) : α := if j ≤ a then p j else p (j + d)
theorem gcp_le {α : Type} {p : Nat → α} {a d j : Nat} (h : j ≤ a) : gcp p a d j = p j := if_pos h
theorem gcp_gt {α : Type} {p : Nat → α} {a d j : Nat} (h : a < j) : gcp p a d j = p (j + d) := if_neg (by omega)
def gcq (q : Nat → Nat) (a d x : Nat) (j : Nat) : Nat := if j ≤ a then q j else q (j + d) - x
theorem gcq_le {q : Nat → Nat} {a d x j : Nat} (h : j ≤ a) : gcq q a d x j = q j := if_pos h
theorem gcq_gt {q : Nat → Nat} {a d x j : Nat} (h : a < j) : gcq q a d x j = q (j + d) - x := if_neg (by omega)
/-- a walk that comes twice to a vertex can be shortened -/
theorem gWk_cut {t a b : Nat} {p : Nat → Nat × Nat} {q : Nat → Nat} (h : gWk pcs t p q) (hab : a < b) (hb : b ≤ t) (he : p a = p b) : ∃ p' q', gWk pcs (t - (b - a)) p' q' ∧ p' (t - (b - a)) = p t ∧ q' (t - (b - a)) ≤ q t := by
  have hqab : q a ≤ q b := by
    have := gWk_mono h (b - a) a (by omega)
    rwa [show a + (b - a) = b by omega] at this
  refine ⟨gcp p a (b - a), gcq q a (b - a) (q b - q a), ⟨?_, fun j hj => ?_⟩, ?_, ?_⟩
  · rw [gcp_le (by omega), gcq_le (by omega)]; exact h.1
  · by_cases q1 : j < a
    · obtain ⟨c', x, y⟩ := h.2 j (by omega)
      refine ⟨c', ?_, ?_⟩
      · rw [gcp_le (show j ≤ a by omega), gcp_le (show j + 1 ≤ a by omega)]; exact x
      · rw [gcq_le (show j ≤ a by omega), gcq_le (show j + 1 ≤ a by omega)]; exact y
    · obtain ⟨c', x, y⟩ := h.2 (j + (b - a)) (by omega)
      have e2 : j + (b - a) + 1 = j + 1 + (b - a) := by omega
      rw [e2] at x y
      refine ⟨c', ?_, ?_⟩
      · rw [gcp_gt (show a < j + 1 by omega)]
        by_cases q2 : j = a
        · subst q2
          rw [gcp_le (show j ≤ j by omega), he]
          rw [show j + (b - j) = b by omega] at x
          exact x
        · rw [gcp_gt (show a < j by omega)]; exact x
      · rw [gcq_gt (show a < j + 1 by omega), y]
        by_cases q2 : j = a
        · subst q2
          rw [gcq_le (show j ≤ j by omega), show j + (b - j) = b by omega]
          omega
        · rw [gcq_gt (show a < j by omega)]
          have := gWk_mono h (j + (b - a) - b) b (by omega)
          rw [show b + (j + (b - a) - b) = j + (b - a) by omega] at this
          omega
  · by_cases q1 : t - (b - a) ≤ a
    · have : b = t := by omega
      subst this
      rw [gcp_le q1, show b - (b - a) = a by omega]; exact he
    · rw [gcp_gt (by omega)]
      congr 1; omega
  · by_cases q1 : t - (b - a) ≤ a
    · have : b = t := by omega
      subst this
      rw [gcq_le q1, show b - (b - a) = a by omega]; exact hqab
    · rw [gcq_gt (by omega), show t - (b - a) + (b - a) = t by omega]; omega
theorem gWk_short (hw : wG pcs) : ∀ t p q, gWk pcs t p q → ∃ s p' q', s ≤ 63 ∧ gWk pcs s p' q' ∧ p' s = p t ∧ q' s ≤ q t := by
  intro t
  induction t using Nat.strongRecOn with
  | ind t ih =>
    intro p q h
    by_cases ht : t ≤ 63
    · exact ⟨t, p, q, ht, h, rfl, Nat.le_refl _⟩
    · have hf : ∀ j, j < 65 → 4 * (p j).1 + (p j).2 < 64 := by
        intro j hj
        have := gWk_V h j (by omega)
        have h1 := this.1
        have h2 := this.2
        have h3 := hw.2 _ h1
        have h4 := hw.1
        omega
      obtain ⟨a, b, h1, h2, h3⟩ := fb_twice (m := 64) (n := 65) (f := fun j => 4 * (p j).1 + (p j).2) hf (by omega)
      have va := gWk_V h a (by omega)
      have vb := gWk_V h b (by omega)
      have la := hw.2 _ va.1
      have lb := hw.2 _ vb.1
      have he : p a = p b := by
        have x1 := va.2
        have x2 := vb.2
        have e1 : (p a).1 = (p b).1 := by omega
        have e2 : (p a).2 = (p b).2 := by omega
        exact Prod.ext e1 e2
      obtain ⟨p', q', w1, w2, w3⟩ := gWk_cut h h1 (by omega) he
      obtain ⟨s, p2, q2, v1, v2, v3, v4⟩ := ih _ (by omega) p' q' w1
      exact ⟨s, p2, q2, v1, v2, by rw [v3, w2], by omega⟩
theorem gWk_w (hw : wG pcs) {t : Nat} {p : Nat → Nat × Nat} {q : Nat → Nat} (h : gWk pcs t p q) : ∀ j, j ≤ t → q j ≤ 4 + 4 * j := by
  intro j
  induction j with
  | zero =>
    intro _
    obtain ⟨i, k, h1, h2, h3, h4, h5, h6, h7⟩ := h.1
    rw [h7]; have := hw.2 i h1; omega
  | succ j ih =>
    intro hj
    obtain ⟨c, hc, e⟩ := h.2 j (by omega)
    have := ih (by omega)
    have hc4 : c ≤ 4 := by
      obtain ⟨k, h1, h2, ⟨h3, h4, h5⟩ | ⟨h3, h4, h5⟩⟩ := hc
      · omega
      · have := hw.2 k h1; omega
    omega
theorem gA_small (hw : wG pcs) {w : Nat} (h : gA pcs w) : ∃ w', w' ≤ w ∧ w' ≤ 300 ∧ gA pcs w' := by
  rcases h with h | ⟨v, ⟨t, p, q, h1, h2, h3⟩, hf⟩
  · obtain ⟨i, k, g1, g2, g3, g4, g5, g6⟩ := h
    exact ⟨w, Nat.le_refl _, by have := hw.2 i g1; omega, Or.inl ⟨i, k, g1, g2, g3, g4, g5, g6⟩⟩
  · obtain ⟨s, p', q', a1, a2, a3, a4⟩ := gWk_short hw t p q h1
    refine ⟨q' s, by omega, by have := gWk_w hw a2 s (by omega); omega, Or.inr ⟨v, ⟨s, p', q', a2, by rw [a3, h2], rfl⟩, hf⟩⟩
end
/-- the fewest letters that are read in two ways -/
def zuncl (pcs : List (Nat × List Nat)) (r : Option Nat) : Prop := ((∃ k, k < pcs.length ∧ pcL pcs k = []) ∧ r = some 0) ∨ ((∀ k, k < pcs.length → pcL pcs k ≠ []) ∧ match r with
  | none => ∀ w, ¬ gA pcs w
  | some m => gA pcs m ∧ ∀ w, gA pcs w → m ≤ w)
theorem least_ex {A : Nat → Prop} : ∀ n, A n → ∃ m, A m ∧ ∀ w, A w → m ≤ w := by
  intro n
  induction n using Nat.strongRecOn with
  | ind n ih =>
    intro h
    by_cases q : ∃ w, A w ∧ w < n
    · obtain ⟨w, h1, h2⟩ := q
      exact ih w h2 h1
    · exact ⟨n, h, fun w hw => by
        rcases Nat.lt_or_ge w n with x | x
        · exact absurd ⟨w, hw, x⟩ q
        · exact x⟩
theorem uncl_ex (pcs : List (Nat × List Nat)) : ∃ r, zuncl pcs r := by
  by_cases q : ∃ k, k < pcs.length ∧ pcL pcs k = []
  · exact ⟨some 0, Or.inl ⟨q, rfl⟩⟩
  · have q' : ∀ k, k < pcs.length → pcL pcs k ≠ [] := fun k h1 h2 => q ⟨k, h1, h2⟩
    by_cases h : ∃ w, gA pcs w
    · obtain ⟨w, h⟩ := h
      obtain ⟨m, h1, h2⟩ := least_ex w h
      exact ⟨some m, Or.inr ⟨q', h1, h2⟩⟩
    · exact ⟨none, Or.inr ⟨q', fun w hw => h ⟨w, hw⟩⟩⟩
noncomputable def zun (pcs : List (Nat × List Nat)) : Option Nat := Classical.choose (uncl_ex pcs)
theorem uncl_one {pcs : List (Nat × List Nat)} {r s : Option Nat} (h1 : zuncl pcs r) (h2 : zuncl pcs s) : r = s := by
  rcases h1 with ⟨a, b⟩ | ⟨a, b⟩ <;> rcases h2 with ⟨c, d⟩ | ⟨c, d⟩
  · rw [b, d]
  · obtain ⟨k, k1, k2⟩ := a; exact absurd k2 (c k k1)
  · obtain ⟨k, k1, k2⟩ := c; exact absurd k2 (a k k1)
  · cases r with
    | none => cases s with
      | none => rfl
      | some m => exact absurd d.1 (b m)
    | some m => cases s with
      | none => exact absurd b.1 (d m)
      | some m2 => congr 1; have := b.2 _ d.1; have := d.2 _ b.1; omega
theorem uncl_zun {pcs : List (Nat × List Nat)} {r : Option Nat} (h : zuncl pcs r) : r = zun pcs := uncl_one h (Classical.choose_spec (uncl_ex pcs))
