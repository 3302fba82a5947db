/-! the beginnings by number -/
def zcd (t : List Nat) : Nat := ((t.length * 8 + t.getD 0 0) * 8 + t.getD 1 0) * 8 + t.getD 2 0
def zc3 (t : List Nat) : Prop := t.length ≤ 3 ∧ ∀ x, x ∈ t → x < 8
theorem c3_app {t : List Nat} {x : Nat} (h : zc3 (t ++ [x])) : (t = [] ∨ (∃ a, t = [a] ∧ a < 8) ∨ ∃ a b, t = [a, b] ∧ a < 8 ∧ b < 8) ∧ x < 8 := by
  obtain ⟨h1, h2⟩ := h
  refine ⟨?_, h2 x (by simp)⟩
  match t, h1, h2 with
  | [], _, _ => exact Or.inl rfl
  | [a], _, h2 => exact Or.inr (Or.inl ⟨a, rfl, h2 a (by simp)⟩)
  | [a, b], _, h2 => exact Or.inr (Or.inr ⟨a, b, rfl, h2 a (by simp), h2 b (by simp)⟩)
  | a :: b :: c :: r, h1, _ => simp at h1; omega
theorem cd_step {t u : List Nat} {x y : Nat} (ht : zc3 (t ++ [x])) (hu : zc3 (u ++ [y])) (h : zcd t < zcd u) : zcd (t ++ [x]) < zcd (u ++ [y]) := by
  obtain ⟨a1, hx⟩ := c3_app ht
  obtain ⟨a2, hy⟩ := c3_app hu
  rcases a1 with rfl | ⟨a, rfl, ha⟩ | ⟨a, b, rfl, ha, hb⟩ <;> rcases a2 with rfl | ⟨c, rfl, hc⟩ | ⟨c, d, rfl, hc, hd⟩ <;> simp [zcd] at h ⊢ <;> omega
theorem cd_last {t : List Nat} {x y : Nat} (ht : zc3 (t ++ [x])) (hu : zc3 (t ++ [y])) (h : x < y) : zcd (t ++ [x]) < zcd (t ++ [y]) := by
  obtain ⟨a1, hx⟩ := c3_app ht
  rcases a1 with rfl | ⟨a, rfl, ha⟩ | ⟨a, b, rfl, ha, hb⟩ <;> simp [zcd] <;> omega
theorem cd_pos {t : List Nat} {x : Nat} : 0 < zcd (t ++ [x]) := by
  unfold zcd; simp; omega
theorem cd_lt {t : List Nat} (h : zc3 t) : zcd t < 2048 := by
  obtain ⟨h1, h2⟩ := h
  match t, h1, h2 with
  | [], _, _ => simp [zcd]
  | [a], _, h2 => have := h2 a (by simp); simp [zcd]; omega
  | [a, b], _, h2 => have := h2 a (by simp); have := h2 b (by simp); simp [zcd]; omega
  | [a, b, c], _, h2 => have := h2 a (by simp); have := h2 b (by simp); have := h2 c (by simp); simp [zcd]; omega
  | a :: b :: c :: d :: r, h1, _ => simp at h1; omega
theorem list_end (t : List Nat) : t = [] ∨ ∃ u x, t = u ++ [x] := by
  rcases List.eq_nil_or_concat t with h | ⟨u, x, h⟩
  · exact Or.inl h
  · exact Or.inr ⟨u, x, by rw [h]; try simp⟩
theorem idx_inj_ {nd : List (List Nat)} {t u : List Nat} (ht : t ∈ nd) (hu : u ∈ nd) (h : nd.idxOf t = nd.idxOf u) : t = u := by
  have h1 := List.getElem_idxOf (List.idxOf_lt_length_of_mem ht)
  have h2 := List.getElem_idxOf (List.idxOf_lt_length_of_mem hu)
  rw [← h1, ← h2]
  congr 1
theorem cd_mono {nd : List (List Nat)} (hc : ∀ t, t ∈ nd → zc3 t) (hp : ∀ t x, t ++ [x] ∈ nd → t ∈ nd) (ho : wOd nd) (h0 : nd.idxOf [] = 0) : ∀ n t u, nd.idxOf u ≤ n → t ∈ nd → u ∈ nd → nd.idxOf t < nd.idxOf u → zcd t < zcd u := by
  intro n
  induction n with
  | zero => intro t u h1 _ _ h2; omega
  | succ n ih =>
    intro t u hn ht hu hl
    rcases list_end u with rfl | ⟨u, y, rfl⟩
    · omega
    rcases list_end t with rfl | ⟨t, x, rfl⟩
    · have := cd_pos (t := u) (x := y)
      simpa [zcd] using this
    have ct := hc _ ht
    have cu := hc _ hu
    have hx := (c3_app ct).2
    have hy := (c3_app cu).2
    have pt := hp _ _ ht
    have pu := hp _ _ hu
    have q1 := ho.1 _ _ hu
    by_cases e1 : nd.idxOf u * 8 + y < nd.idxOf t * 8 + x
    · have := ho.2 _ _ _ _ hu ht e1; omega
    by_cases e2 : nd.idxOf t = nd.idxOf u
    · have e3 := idx_inj_ pt pu e2
      subst e3
      by_cases e4 : x = y
      · subst e4; omega
      · exact cd_last ct cu (by omega)
    · exact cd_step ct cu (ih t u (by omega) pt pu (by omega))
