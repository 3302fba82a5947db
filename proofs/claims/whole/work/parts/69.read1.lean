/-! readings of a row by pieces -/
def zw1 (row : List Nat) (T : Nat → Nat) (fr : Nat) (t : List Nat) : Nat := if t ≠ [] ∧ zheld row fr t = true then T (fr + t.length) else 0
def zwS (row : List Nat) (T : Nat → Nat) (fr : Nat) (pcs : List (Nat × List Nat)) : Nat := (pcs.map (fun q => zw1 row T fr q.2)).sum
/-- the ways from each place on, the last d places reckoned -/
def zwt (pcs : List (Nat × List Nat)) (row : List Nat) : Nat → Nat → Nat
  | 0 => fun j => if j = row.length then 1 else 0
  | d + 1 => zup (zwt pcs row d) (row.length - 1 - d) (zwS row (zwt pcs row d) (row.length - 1 - d) pcs)
def zwy (pcs : List (Nat × List Nat)) (row : List Nat) : Nat → Nat := zwt pcs row row.length
theorem wt_keep {pcs : List (Nat × List Nat)} {row : List Nat} : ∀ e d j, d + e ≤ row.length → row.length ≤ j + d → zwt pcs row (d + e) j = zwt pcs row d j := by
  intro e
  induction e with
  | zero => intro d j h1 h2; rfl
  | succ e ih =>
    intro d j h1 h2
    rw [← Nat.add_assoc, zwt, zup, if_neg (by omega)]
    exact ih d j (by omega) h2
theorem w1_cong {row : List Nat} {T T2 : Nat → Nat} {fr : Nat} {t : List Nat} (h : ∀ j, fr < j → j ≤ row.length → T j = T2 j) : zw1 row T fr t = zw1 row T2 fr t := by
  unfold zw1
  split
  · rename_i q
    have := List.length_pos_iff.2 q.1
    exact h _ (by omega) (held_iff.1 q.2).1
  · rfl
theorem wS_cong {row : List Nat} {T T2 : Nat → Nat} {fr : Nat} {pcs : List (Nat × List Nat)} (h : ∀ j, fr < j → j ≤ row.length → T j = T2 j) : zwS row T fr pcs = zwS row T2 fr pcs := by
  unfold zwS
  congr 1
  exact List.map_congr_left (fun q _ => w1_cong h)
theorem wy_end (pcs : List (Nat × List Nat)) (row : List Nat) : zwy pcs row row.length = 1 := by
  have := wt_keep (pcs := pcs) (row := row) row.length 0 row.length (by omega) (by omega)
  rw [Nat.zero_add] at this
  unfold zwy; rw [this]; simp [zwt]
theorem wy_at {pcs : List (Nat × List Nat)} {row : List Nat} {fr : Nat} (h : fr < row.length) : zwy pcs row fr = zwS row (zwy pcs row) fr pcs := by
  have := wt_keep (pcs := pcs) (row := row) fr (row.length - fr) fr (by omega) (by omega)
  rw [show row.length - fr + fr = row.length by omega] at this
  unfold zwy
  rw [this, show row.length - fr = row.length - 1 - fr + 1 by omega, zwt, zup, show row.length - 1 - (row.length - 1 - fr) = fr by omega, if_pos rfl]
  refine wS_cong (fun j h1 h2 => ?_)
  have := wt_keep (pcs := pcs) (row := row) (fr + 1) (row.length - 1 - fr) j (by omega) (by omega)
  rw [show row.length - 1 - fr + (fr + 1) = row.length by omega] at this
  exact this.symm
theorem w1_le {row : List Nat} {T : Nat → Nat} {fr B : Nat} {t : List Nat} (h : ∀ j, fr < j → j ≤ row.length → T j ≤ B) : zw1 row T fr t ≤ B := by
  unfold zw1
  split
  · rename_i q
    have := List.length_pos_iff.2 q.1
    exact h _ (by omega) (held_iff.1 q.2).1
  · omega
theorem sum_le {α : Type} (f : α → Nat) {B : Nat} : ∀ L : List α, (∀ x, x ∈ L → f x ≤ B) → (L.map f).sum ≤ L.length * B
  | [], _ => by simp
  | x :: L, h => by
    rw [List.map_cons, List.sum_cons, List.length_cons, Nat.add_mul, Nat.one_mul]
    have := sum_le f L (fun y hy => h y (List.mem_cons_of_mem _ hy))
    have := h x (List.mem_cons_self)
    omega
theorem sum_one {x B : Nat} (f : Nat → Nat) (hf : ∀ l, f l ≤ B) (hx : ∀ l, l ≠ x → f l = 0) : ∀ L : List Nat, L.Nodup → (L.map f).sum ≤ B ∧ (x ∉ L → (L.map f).sum = 0)
  | [], _ => by simp
  | y :: L, h => by
    rw [List.nodup_cons] at h
    obtain ⟨h1, h2⟩ := sum_one f hf hx L h.2
    rw [List.map_cons, List.sum_cons]
    by_cases q : y = x
    · subst q
      refine ⟨by have := hf y; have := h2 h.1; omega, fun w => absurd (List.mem_cons_self) w⟩
    · rw [hx y q]
      exact ⟨by omega, fun w => by have := h2 (fun a => w (List.mem_cons_of_mem _ a)); omega⟩
theorem wS_le {row : List Nat} {T : Nat → Nat} {fr B : Nat} {rs : List zRu} {mask : Nat} (h8 : rs.length ≤ 8) (h : ∀ j, fr < j → j ≤ row.length → T j ≤ B) : zwS row T fr (zpcs rs mask) ≤ 9 * B := by
  unfold zwS zpcs
  rw [List.map_append, List.sum_append]
  have a1 := sum_le (fun q => zw1 row T fr q.2) (B := B) (zpc1 rs mask rs.length) (fun q _ => w1_le h)
  have a2 := pc1_len (rs := rs) (mask := mask) (n := rs.length)
  have a3 : (zpc1 rs mask rs.length).length * B ≤ 8 * B := Nat.mul_le_mul_right _ (by omega)
  have a4 : ((zpc2 rs mask 8).map (fun q => zw1 row T fr q.2)).sum ≤ B := by
    unfold zpc2
    rw [List.map_map]
    refine (sum_one (x := lg row fr) (B := B) _ (fun l => w1_le h) (fun l hl => ?_) _ ((List.nodup_range).filter _)).1
    show zw1 row T fr [l] = 0
    unfold zw1
    rw [if_neg]
    rintro ⟨_, q⟩
    have := (held_iff.1 q).2 0 (by simp)
    rw [lg_cons0] at this
    exact hl this.symm
  omega
theorem wy_le {row : List Nat} {rs : List zRu} {mask : Nat} (h8 : rs.length ≤ 8) : ∀ d j, j + d = row.length → zwy (zpcs rs mask) row j ≤ 9 ^ d := by
  intro d
  induction d using Nat.strongRecOn with
  | ind d ih =>
    intro j hj
    cases d with
    | zero => rw [show j = row.length by omega, wy_end]; simp
    | succ d =>
      rw [wy_at (by omega), Nat.pow_succ, Nat.mul_comm]
      refine wS_le h8 (fun k h1 h2 => ?_)
      exact Nat.le_trans (ih (row.length - k) (by omega) k (by omega)) (Nat.pow_le_pow_right (by omega) (by omega))
theorem wy_lt {row : List Nat} {rs : List zRu} {mask j : Nat} (h8 : rs.length ≤ 8) (hr : row.length ≤ 8) (hj : j ≤ row.length) : zwy (zpcs rs mask) row j < 2 ^ 31 := by
  have := wy_le (row := row) (mask := mask) h8 (row.length - j) j (by omega)
  have h2 : (9 : Nat) ^ (row.length - j) ≤ 9 ^ 8 := Nat.pow_le_pow_right (by omega) (by omega)
  omega
/-- the first piece by which there is a reading -/
def zfp (pcs : List (Nat × List Nat)) (row : List Nat) (fr : Nat) : Option Nat := (List.range pcs.length).find? (fun k => decide (zw1 row (zwy pcs row) fr (pcL pcs k) ≠ 0))
def zrdN (pcs : List (Nat × List Nat)) (row : List Nat) : Nat → Nat → Nat → Option Nat
  | 0, _, _ => none
  | f + 1, fr, i => if fr < row.length then
      match zfp pcs row fr with
      | none => none
      | some k => if i = 0 then some (pcN pcs k) else zrdN pcs row f (fr + (pcL pcs k).length) (i - 1)
    else none
theorem fp_some {pcs : List (Nat × List Nat)} {row : List Nat} {fr : Nat} (h : fr < row.length) (h0 : zwy pcs row fr ≠ 0) : ∃ k, zfp pcs row fr = some k ∧ k < pcs.length ∧ zw1 row (zwy pcs row) fr (pcL pcs k) ≠ 0 ∧ ∀ j, j < k → zw1 row (zwy pcs row) fr (pcL pcs j) = 0 := by
  cases e : zfp pcs row fr with
  | none =>
    exfalso
    unfold zfp at e
    rw [List.find?_eq_none] at e
    apply h0
    rw [wy_at h]
    unfold zwS
    have : ∀ q, q ∈ pcs → zw1 row (zwy pcs row) fr q.2 = 0 := by
      intro q hq
      obtain ⟨k, hk, rfl⟩ := List.getElem_of_mem hq
      have := e k (List.mem_range.2 hk)
      simpa [pcL, hk] using this
    have h2 := sum_le (fun q => zw1 row (zwy pcs row) fr q.2) (B := 0) pcs (fun q hq => by rw [this q hq]; omega)
    omega
  | some k =>
    refine ⟨k, rfl, ?_⟩
    unfold zfp at e
    have h1 := List.mem_of_find?_eq_some e
    have h2 := List.find?_some e
    refine ⟨List.mem_range.1 h1, by simpa using h2, fun j hj => ?_⟩
    have h3 := (List.find?_range_eq_some).1 e
    have := h3.2.2 j hj
    simpa using this
theorem w1_ne {row : List Nat} {T : Nat → Nat} {fr : Nat} {t : List Nat} (h : zw1 row T fr t ≠ 0) : 0 < t.length ∧ fr + t.length ≤ row.length ∧ zheld row fr t = true ∧ T (fr + t.length) ≠ 0 := by
  unfold zw1 at h
  split at h
  · rename_i q
    exact ⟨List.length_pos_iff.2 q.1, (held_iff.1 q.2).1, q.2, h⟩
  · exact absurd rfl h
