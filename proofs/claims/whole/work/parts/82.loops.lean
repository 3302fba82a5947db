/-! loops in general -/
theorem loop_g {α β : Type} {N : Nat} (hN : N < 1000000) (Lf : Nat → α → Nat → zM → Option β) (Inv : α → Nat → zM → Prop) (Q : Option β → Prop)
    (h0 : ∀ F a S, Inv a N S → Q (Lf (F + 1) a N S))
    (h1 : ∀ F a i S, i < N → Inv a i S → (∀ a' S', Inv a' (i + 1) S' → Q (Lf F a' (i + 1) S')) → Q (Lf (F + 1) a i S)) : ∀ a i S, i ≤ N → Inv a i S → Q (Lf zF a i S) := by
  have main : ∀ d F a i S, d + i = N → d < F → Inv a i S → Q (Lf F a i S) := by
    intro d
    induction d with
    | zero =>
      intro F a i S hd hF hi
      cases F with
      | zero => omega
      | succ F =>
        have : i = N := by omega
        subst this
        exact h0 F a S hi
    | succ d ih =>
      intro F a i S hd hF hi
      cases F with
      | zero => omega
      | succ F => exact h1 F a i S (by omega) hi (fun a' S' h => ih F a' (i + 1) S' (by omega) (by omega) h)
  intro a i S h h2
  exact main (N - i) zF a i S (by omega) (by rw [zF_eq]; omega) h2
/-- the first below N -/
def zfi (p : Nat → Bool) (N : Nat) : Option Nat := (List.range N).find? p
theorem fi_some {p : Nat → Bool} {N k : Nat} (h : zfi p N = some k) : k < N ∧ p k = true ∧ ∀ j, j < k → p j = false := by
  have h3 := (List.find?_range_eq_some).1 h
  refine ⟨List.mem_range.1 (List.mem_of_find?_eq_some h), by simpa using List.find?_some h, fun j hj => ?_⟩
  have := h3.2.2 j hj
  simpa using this
theorem fi_none {p : Nat → Bool} {N : Nat} (h : zfi p N = none) : ∀ j, j < N → p j = false := by
  intro j hj
  have := (List.find?_eq_none.1 h) j (List.mem_range.2 hj)
  simpa using this
theorem fi_is {p : Nat → Bool} {N k : Nat} (h1 : k < N) (h2 : p k = true) (h3 : ∀ j, j < k → p j = false) : zfi p N = some k := by
  cases e : zfi p N with
  | none => have := fi_none e k h1; rw [h2] at this; cases this
  | some m =>
    obtain ⟨a, b, c⟩ := fi_some e
    rcases Nat.lt_trichotomy k m with q | q | q
    · have := c k q; rw [h2] at this; cases this
    · rw [q]
    · have := h3 m q; rw [b] at this; cases this
theorem fi_no {p : Nat → Bool} {N : Nat} (h : ∀ j, j < N → p j = false) : zfi p N = none := by
  cases e : zfi p N with
  | none => rfl
  | some k =>
    obtain ⟨a, b, c⟩ := fi_some e
    have := h k a; rw [b] at this; cases this
theorem fi_cong {p q : Nat → Bool} {N : Nat} (h : ∀ j, j < N → p j = q j) : zfi p N = zfi q N := by
  cases e : zfi q N with
  | none => exact fi_no (fun j hj => by rw [h j hj]; exact fi_none e j hj)
  | some k =>
    obtain ⟨a, b, c⟩ := fi_some e
    exact fi_is a (by rw [h k a]; exact b) (fun j hj => by rw [h j (by omega)]; exact c j hj)
/-- the one that has w of them ahead -/
def zkt (p : Nat → Bool) (N : Nat) (w : Int32) : Option Nat := zfi (fun k => p k && decide (nI (fb_ct p k) = w)) N
theorem loop_ct {N : Nat} (hN : N < 1000000) (Lf : Nat → Int32 → Nat → Option (Int32 × zM)) {p : Nat → Bool} {S : zM}
    (h0 : ∀ F a, Lf (F + 1) a N = some (a, S))
    (h1 : ∀ F a i, i < N → p i = true → Lf (F + 1) a i = Lf F (a + 1) (i + 1))
    (h2 : ∀ F a i, i < N → p i = false → Lf (F + 1) a i = Lf F (a + 0) (i + 1)) : Lf zF 0 0 = some (nI (fb_ct p N), S) := by
  refine loop_g (α := Int32) hN (fun F a i _ => Lf F a i) (fun a i _ => a = nI (fb_ct p i)) (fun o => o = some (nI (fb_ct p N), S)) (fun F a _ h => by rw [h0, h]) (fun F a i T hi h k => ?_) 0 0 S (by omega) rfl
  cases e : p i with
  | true =>
    have := k (a + 1) T (by rw [h, fb_ct_succ, e]; exact nI_add _ 1)
    rw [h1 F a i hi e]; exact this
  | false =>
    have := k (a + 0) T (by rw [h, fb_ct_succ, e]; exact nI_add _ 0)
    rw [h2 F a i hi e]; exact this
theorem loop_fi {β : Type} {N : Nat} (hN : N < 1000000) (Lf : Nat → Nat → Option β) {p : Nat → Bool} (R : Option Nat → Option β)
    (h0 : ∀ F, Lf (F + 1) N = R none)
    (h1 : ∀ F i, i < N → p i = true → Lf (F + 1) i = R (some i))
    (h2 : ∀ F i, i < N → p i = false → Lf (F + 1) i = Lf F (i + 1)) : Lf zF 0 = R (zfi p N) := by
  refine loop_g (α := Unit) hN (fun F _ i _ => Lf F i) (fun _ i _ => ∀ j, j < i → p j = false) (fun o => o = R (zfi p N)) (fun F a _ h => by rw [h0, fi_no h]) (fun F a i T hi h k => ?_) () 0 ((fun _ _ => 0), (fun _ _ => 0), (fun _ _ => none), (fun _ => (0, 0)), 0, 0) (by omega) (fun j hj => by omega)
  cases e : p i with
  | true => rw [h1 F i hi e, fi_is hi e h]
  | false =>
    have := k () T (fun j hj => by
      by_cases q : j = i
      · subst q; exact e
      · exact h j (by omega))
    rw [h2 F i hi e]; exact this
theorem loop_kt {β : Type} {N : Nat} (hN : N < 1000000) (Lf : Nat → Int32 → Nat → Option β) {p : Nat → Bool} (w : Int32) (R : Option Nat → Option β)
    (h0 : ∀ F a, Lf (F + 1) a N = R none)
    (h1 : ∀ F i, i < N → p i = true → Lf (F + 1) w i = R (some i))
    (h2 : ∀ F a i, i < N → p i = true → ¬ a = w → Lf (F + 1) a i = Lf F (a + 1) (i + 1))
    (h3 : ∀ F a i, i < N → p i = false → Lf (F + 1) a i = Lf F a (i + 1)) : Lf zF 0 0 = R (zkt p N w) := by
  refine loop_g (α := Int32) hN (fun F a i _ => Lf F a i) (fun a i _ => a = nI (fb_ct p i) ∧ ∀ j, j < i → (p j && decide (nI (fb_ct p j) = w)) = false) (fun o => o = R (zkt p N w)) (fun F a _ h => by rw [h0]; unfold zkt; rw [fi_no h.2]) (fun F a i T hi h k => ?_) 0 0 ((fun _ _ => 0), (fun _ _ => 0), (fun _ _ => none), (fun _ => (0, 0)), 0, 0) (by omega) ⟨rfl, fun j hj => by omega⟩
  have ext : (p i && decide (nI (fb_ct p i) = w)) = false → ∀ j, j < i + 1 → (p j && decide (nI (fb_ct p j) = w)) = false := by
    intro hx j hj
    by_cases q : j = i
    · subst q; exact hx
    · exact h.2 j (by omega)
  cases e : p i with
  | true =>
    by_cases q : a = w
    · have : zkt p N w = some i := fi_is hi (by rw [e, ← h.1, q]; simp) h.2
      rw [this, q]
      exact h1 F i hi e
    · have := k (a + 1) T ⟨by rw [h.1, fb_ct_succ, e]; exact nI_add _ 1, ext (by rw [e, ← h.1]; simp [q])⟩
      rw [h2 F a i hi e q]; exact this
  | false =>
    have := k a T ⟨by rw [h.1, fb_ct_succ, e]; simp, ext (by rw [e]; rfl)⟩
    rw [h3 F a i hi e]; exact this
/-- the first of the longest -/
def zlga (oc : Nat → Nat × List Nat) : Nat → Option Nat
  | 0 => none
  | i + 1 => match zlga oc i with
    | none => if (oc i).1 = 0 then some i else none
    | some b => if (oc i).1 = 0 ∧ (oc b).2.length < (oc i).2.length then some i else some b
theorem lga_lt {oc : Nat → Nat × List Nat} : ∀ n b, zlga oc n = some b → b < n ∧ (oc b).1 = 0 := by
  intro n
  induction n with
  | zero => intro b h; cases h
  | succ n ih =>
    intro b h
    rw [zlga] at h
    cases e : zlga oc n with
    | none =>
      rw [e] at h
      simp only at h
      split at h
      · rename_i q; cases h; exact ⟨by omega, q⟩
      · cases h
    | some c =>
      rw [e] at h
      simp only at h
      split at h
      · rename_i q; cases h; exact ⟨by omega, q.1⟩
      · cases h; have := ih _ e; exact ⟨by omega, this.2⟩
