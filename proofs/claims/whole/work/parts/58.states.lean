/-! the beginnings by number -/
def zcd (t : List Nat) : Nat := ((t.length * 8 + t.getD 0 0) * 8 + t.getD 1 0) * 8 + t.getD 2 0
def zc3 (t : List Nat) : Prop := t.length ≤ 3 ∧ ∀ x, x ∈ t → x < 8
theorem c3_app {t : List Nat} {x : Nat} (h : zc3 (t ++ [x])) : (t = [] ∨ (∃ a, t = [a] ∧ a < 8) ∨ ∃ a b, t = [a, b] ∧ a < 8 ∧ b < 8) ∧ x < 8 := by
  obtain ⟨h1, h2⟩ := h
  refine ⟨?_, h2 x (by simp)⟩
  match t, h1, h2 with
  | [], _, _ => exact Or.inl rfl
  | [a], _, h2 => exact Or.inr (Or.inl ⟨a, rfl, h2 a (by simp)⟩)
  | [a, b], _, h2 => exact Or.inr (Or.inr ⟨a, b, rfl, h2 a (by simp), h2 b (by simp)⟩)
  | a :: b :: c :: r, h1, _ => simp at h1
theorem cd_step {t u : List Nat} {x y : Nat} (ht : zc3 (t ++ [x])) (hu : zc3 (u ++ [y])) (h : zcd t < zcd u) : zcd (t ++ [x]) < zcd (u ++ [y]) := by
  obtain ⟨a1, hx⟩ := c3_app ht
  obtain ⟨a2, hy⟩ := c3_app hu
  rcases a1 with rfl | ⟨a, rfl, ha⟩ | ⟨a, b, rfl, ha, hb⟩ <;> rcases a2 with rfl | ⟨c, rfl, hc⟩ | ⟨c, d, rfl, hc, hd⟩ <;> simp [zcd] at h ⊢ <;> omega
theorem cd_last {t : List Nat} {x y : Nat} (ht : zc3 (t ++ [x])) (hu : zc3 (t ++ [y])) (h : x < y) : zcd (t ++ [x]) < zcd (t ++ [y]) := by
  obtain ⟨a1, hx⟩ := c3_app ht
  rcases a1 with rfl | ⟨a, rfl, ha⟩ | ⟨a, b, rfl, ha, hb⟩ <;> simp [zcd] <;> omega
theorem cd_pos {t : List Nat} {x : Nat} : 0 < zcd (t ++ [x]) := by
  unfold zcd; simp; omega
theorem cd_lt {t : List Nat} (h : zc3 t) : zcd t < 2048 := by
  obtain ⟨h1, h2⟩ := h
  match t, h1, h2 with
  | [], _, _ => simp [zcd]
  | [a], _, h2 => have := h2 a (by simp); simp [zcd]; omega
  | [a, b], _, h2 => have := h2 a (by simp); have := h2 b (by simp); simp [zcd]; omega
  | [a, b, c], _, h2 => have := h2 a (by simp); have := h2 b (by simp); have := h2 c (by simp); simp [zcd]; omega
  | a :: b :: c :: d :: r, h1, _ => simp at h1
theorem list_end (t : List Nat) : t = [] ∨ ∃ u x, t = u ++ [x] := by
  rcases List.eq_nil_or_concat t with h | ⟨u, x, h⟩
  · exact Or.inl h
  · exact Or.inr ⟨u, x, by rw [h]; try simp⟩
theorem idx_inj_ {nd : List (List Nat)} {t u : List Nat} (ht : t ∈ nd) (hu : u ∈ nd) (h : nd.idxOf t = nd.idxOf u) : t = u := by
  have h1 := List.getElem_idxOf (List.idxOf_lt_length_of_mem ht)
  have h2 := List.getElem_idxOf (List.idxOf_lt_length_of_mem hu)
  rw [← h1, ← h2]
  congr 1
theorem cd_mono {nd : List (List Nat)} (hc : ∀ t, t ∈ nd → zc3 t) (hp : ∀ t x, t ++ [x] ∈ nd → t ∈ nd) (ho : wOd nd) (h0 : nd.idxOf [] = 0) : ∀ n t u, nd.idxOf u ≤ n → t ∈ nd → u ∈ nd → nd.idxOf t < nd.idxOf u → zcd t < zcd u := by
  intro n
  induction n with
  | zero => intro t u h1 _ _ h2; omega
  | succ n ih =>
    intro t u hn ht hu hl
    rcases list_end u with rfl | ⟨u, y, rfl⟩
    · omega
    rcases list_end t with rfl | ⟨t, x, rfl⟩
    · have := cd_pos (t := u) (x := y)
      simpa [zcd] using this
    have ct := hc _ ht
    have cu := hc _ hu
    have hx := (c3_app ct).2
    have hy := (c3_app cu).2
    have pt := hp _ _ ht
    have pu := hp _ _ hu
    have q1 := ho.1 _ _ hu
    by_cases e1 : nd.idxOf u * 8 + y < nd.idxOf t * 8 + x
    · have := ho.2 _ _ _ _ hu ht e1; omega
    by_cases e2 : nd.idxOf t = nd.idxOf u
    · have e3 := idx_inj_ pt pu e2
      subst e3
      by_cases e4 : x = y
      · subst e4; omega
      · exact cd_last ct cu (by omega)
    · exact cd_step ct cu (ih t u (by omega) pt pu (by omega))
/-- the first digits of a beginning's number -/
def zcv (t : List Nat) (e : Nat) : Nat → Nat
  | 0 => e
  | k + 1 => 8 * zcv t e k + (if k < e then lg t k else 0)
theorem cv_cd {t : List Nat} {e : Nat} (h : e ≤ t.length) : zcv t e 3 = zcd (t.take e) := by
  have q : ∀ k, (t.take e).getD k 0 = if k < e then lg t k else 0 := by
    intro k
    split
    · exact lg_take (by assumption)
    · rw [List.getD_eq_getElem?_getD, List.getElem?_eq_none (by simp; omega)]; rfl
  simp only [zcv, zcd, q, List.length_take, Nat.min_eq_left h]
  omega
section
variable {S : zM} {M : Nat}
theorem begin_l {b e : Nat} {ru : zRu} (hm : sMo S M) (hr : mRu S (M + 5) b ru) (hb : b + 11 ≤ 264) (he : e ≤ ru.1.length) (h3 : e ≤ 3) : ∀ d F k, d + k = 3 → d < F → L_Mo_beginning_5 F M (nI b) (nI e) (nI (zcv ru.1 e k)) (nI k) S = some (nI (zcv ru.1 e 3), S) := by
  intro d
  induction d with
  | zero =>
    intro F k hd hF
    cases F with
    | zero => omega
    | succ F =>
      have ek : k = 3 := by omega
      subst ek
      have : ¬ nI 3 < (3 : Int32) := by decide
      simp [L_Mo_beginning_5, this]
  | succ d ih =>
    intro F k hd hF
    cases F with
    | zero => omega
    | succ F =>
      have hk : nI k < (3 : Int32) := (nI_ltI (b := 3) (by omega) (by omega)).2 (by omega)
      have nxt := ih F (k + 1) (by omega) (by omega)
      have e1 : nI k + 1 = nI (k + 1) := nI_add k 1
      have e8 : (8 : Int32) * nI (zcv ru.1 e k) = nI (8 * zcv ru.1 e k) := pk_mul 8 _
      have e4 : nI b + 4 = nI (b + 4) := nI_add b 4
      by_cases c : k < e
      · have zi : zinb (nI (b + 4 + k)) 264 = true := (nn_in (by omega)).2 (by omega)
        have ci : (nI (b + 4 + k)).toNatClampNeg = b + 4 + k := nI_clamp (by omega)
        have x := hr.2.2.2.2.1 k (by omega)
        rw [zcv, if_pos c] at nxt
        rw [← nxt]
        simp (disch := omega) [L_Mo_beginning_5, -Prod.exists, -Prod.forall, ↓bb_gf, ↓bb_gr, ↓bb_len, ↓bb_ga, ↓bb_gl, ↓bb_go, ↓bb_pf, ↓bb_pz, ↓bb_pr, ↓bb_pa, ↓bb_pb, ↓bb_pl, ↓bb_po, ↓bb_cl, ↓bb_some, ↓bb_RI, ↓bb_RJ, mm_hI, mm_hJ, mm_hR, mm_nI, mm_nJ, mm_nR, mm_sI, mm_sJ, mm_sR, mm_RI, mm_RJ, mm_IJ, mm_IR, mm_JI, mm_JR, mm_II, mm_JJ, mm_RR, nI_ltI, hk, c, hm.1, ↓bS (mo_rules hm), mh_rules hm, e4, nI_add, zi, ci, x, e8, e1]
      · rw [zcv, if_neg c] at nxt
        rw [← nxt]
        simp (disch := omega) [L_Mo_beginning_5, nI_ltI, hk, c, e8, e1]
theorem m_begin {b e : Nat} {ru : zRu} (hm : sMo S M) (hr : mRu S (M + 5) b ru) (hb : b + 11 ≤ 264) (he : e ≤ ru.1.length) (h3 : e ≤ 3) : f_Mo_beginning M (nI b) (nI e) S = some (nI (zcd (ru.1.take e)), S) := by
  have := begin_l hm hr hb he h3 3 zF 0 (by omega) (by rw [zF_eq]; omega)
  rw [cv_cd he] at this
  exact this
end
