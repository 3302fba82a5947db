/-! the class's reckoning, in plain mathematics: totals by end, fewest, nearer -/
def zFar : Nat := 1000000
def zrea (i fr tot : Nat) (X : zX3) : zX3 := if tot < X.1 (4 * i + fr) then (zup X.1 (4 * i + fr) tot, X.2.1, 1) else X
def zfol (pcs : List (Nat × List Nat)) (i fr tot k : Nat) (X : zX3) : zX3 :=
  if zagr (pcL pcs i) fr (pcL pcs k) = true then
    if pl pcs k = pl pcs i - fr then (X.1, min X.2.1 tot, X.2.2)
    else if pl pcs k < pl pcs i - fr then zrea i (fr + pl pcs k) tot X
    else zrea k (pl pcs i - fr) (tot + (pl pcs k - (pl pcs i - fr))) X
  else X
def zfk (pcs : List (Nat × List Nat)) (e : Nat) (X : zX3) : Nat → zX3
  | 0 => X
  | k + 1 => zfol pcs (e / 4) (e % 4) ((zfk pcs e X k).1 e) k (zfk pcs e X k)
def zfe (pcs : List (Nat × List Nat)) (X : zX3) : Nat → zX3
  | 0 => X
  | e + 1 => if (zfe pcs X e).1 e < (zfe pcs X e).2.1 then zfk pcs e (zfe pcs X e) pcs.length else zfe pcs X e
def zfR (pcs : List (Nat × List Nat)) : Nat → zX3 → zX3
  | 0, X => X
  | t + 1, X => if X.2.2 = 0 then X else zfR pcs t (zfe pcs (X.1, X.2.1, 0) 64)
def zi1 (pcs : List (Nat × List Nat)) (i : Nat) (X : zX3) : Nat → zX3
  | 0 => X
  | k + 1 => if k = i then zi1 pcs i X k else zfol pcs i 0 (pl pcs i) k (zi1 pcs i X k)
def zi0 (pcs : List (Nat × List Nat)) (nr : Int32) : Nat → zX3
  | 0 => (fun _ => zFar, zFar, nr)
  | i + 1 => zi1 pcs i (zi0 pcs nr i) pcs.length
def vE (e : Nat) : Nat × Nat := (e / 4, e % 4)
def xS (pcs : List (Nat × List Nat)) (X : zX3) : Prop := (∀ e, X.1 e ≤ zFar) ∧ (∀ e, X.1 e < zFar → gR pcs (X.1 e) (vE e)) ∧ X.2.1 ≤ zFar ∧ (X.2.1 < zFar → gA pcs X.2.1)
/-- Y is behind X -/
def xL (X Y : zX3) : Prop := (∀ e, Y.1 e ≤ X.1 e) ∧ Y.2.1 ≤ X.2.1 ∧ (Y.2.2 = 1 ∨ (Y.2.2 = X.2.2 ∧ Y.1 = X.1))
theorem xL_refl (X : zX3) : xL X X := ⟨fun _ => Nat.le_refl _, Nat.le_refl _, Or.inr ⟨rfl, rfl⟩⟩
theorem xL_trans {X Y Z : zX3} (h : xL X Y) (h2 : xL Y Z) : xL X Z := by
  refine ⟨fun e => Nat.le_trans (h2.1 e) (h.1 e), Nat.le_trans h2.2.1 h.2.1, ?_⟩
  rcases h2.2.2 with a | ⟨a, b⟩
  · exact Or.inl a
  · rcases h.2.2 with c | ⟨c, d⟩
    · exact Or.inl (by rw [a, c])
    · exact Or.inr ⟨by rw [a, c], by rw [b, d]⟩
section
variable {pcs : List (Nat × List Nat)}
theorem rea_L (i fr tot : Nat) (X : zX3) : xL X (zrea i fr tot X) ∧ (zrea i fr tot X).1 (4 * i + fr) ≤ tot := by
  unfold zrea
  split
  · rename_i h
    refine ⟨⟨fun e => ?_, Nat.le_refl _, Or.inl rfl⟩, ?_⟩
    · show zup X.1 (4 * i + fr) tot e ≤ X.1 e
      unfold zup; split
      · rename_i q; rw [q]; omega
      · omega
    · show zup X.1 (4 * i + fr) tot (4 * i + fr) ≤ tot
      unfold zup; rw [if_pos rfl]; omega
  · exact ⟨xL_refl X, by omega⟩
theorem rea_S {i fr tot : Nat} {X : zX3} (h : xS pcs X) (h4 : fr < 4) (hr : gR pcs tot (i, fr)) : xS pcs (zrea i fr tot X) := by
  unfold zrea
  split
  · rename_i q
    obtain ⟨a, b, c, d⟩ := h
    have a1 := a (4 * i + fr)
    refine ⟨fun e => ?_, fun e he => ?_, c, d⟩
    · show zup X.1 (4 * i + fr) tot e ≤ zFar
      unfold zup; split
      · omega
      · exact a e
    · show gR pcs (zup X.1 (4 * i + fr) tot e) (vE e)
      change zup X.1 (4 * i + fr) tot e < zFar at he
      unfold zup at he ⊢
      by_cases q2 : e = 4 * i + fr
      · rw [if_pos q2]
        have : vE e = (i, fr) := by unfold vE; rw [q2]; congr 1 <;> omega
        rw [this]; exact hr
      · rw [if_neg q2] at he ⊢; exact b e he
  · exact h
theorem fol_L (i fr tot k : Nat) (X : zX3) : xL X (zfol pcs i fr tot k X) := by
  unfold zfol
  split
  · split
    · exact ⟨fun _ => Nat.le_refl _, by show min X.2.1 tot ≤ X.2.1; omega, Or.inr ⟨rfl, rfl⟩⟩
    · split
      · exact (rea_L _ _ _ X).1
      · exact (rea_L _ _ _ X).1
  · exact xL_refl X
/-- from a vertex that is reached -/
theorem fol_S (hw : wG pcs) {i fr tot k : Nat} {X : zX3} (h : xS pcs X) (hk : k < pcs.length) (hr : gR pcs tot (i, fr)) : xS pcs (zfol pcs i fr tot k X) := by
  have hv := gR_V hr
  have l1 := hw.2 i hv.1
  have hv2 : fr < pl pcs i := hv.2
  unfold zfol
  split
  · rename_i q
    split
    · rename_i q2
      obtain ⟨a, b, c, d⟩ := h
      refine ⟨a, b, by show min X.2.1 tot ≤ zFar; omega, fun he => ?_⟩
      show gA pcs (min X.2.1 tot)
      change min X.2.1 tot < zFar at he
      by_cases q3 : X.2.1 ≤ tot
      · rw [Nat.min_eq_left q3] at he ⊢; exact d he
      · rw [Nat.min_eq_right (by omega)]
        exact Or.inr ⟨(i, fr), hr, k, hk, q, q2⟩
    · rename_i q2
      split
      · rename_i q3
        refine rea_S h (by omega) ?_
        have := gR_step hr (u := (i, fr + pl pcs k)) (c := 0) ⟨k, hk, q, Or.inl ⟨q3, rfl, rfl⟩⟩
        simpa using this
      · rename_i q3
        refine rea_S h (by have := hw.2 k hk; omega) ?_
        exact gR_step hr ⟨k, hk, q, Or.inr ⟨by show pl pcs i - fr < pl pcs k; omega, rfl, rfl⟩⟩
  · exact h
/-- from the start -/
theorem fol_S0 (hw : wG pcs) {i k : Nat} {X : zX3} (h : xS pcs X) (hi : i < pcs.length) (hk : k < pcs.length) (hik : i ≠ k) : xS pcs (zfol pcs i 0 (pl pcs i) k X) := by
  have l1 := hw.2 i hi
  have l2 := hw.2 k hk
  unfold zfol
  split
  · rename_i q
    split
    · rename_i q2
      obtain ⟨a, b, c, d⟩ := h
      refine ⟨a, b, by show min X.2.1 _ ≤ zFar; omega, fun he => ?_⟩
      show gA pcs (min X.2.1 (pl pcs i))
      change min X.2.1 (pl pcs i) < zFar at he
      by_cases q3 : X.2.1 ≤ pl pcs i
      · rw [Nat.min_eq_left q3] at he ⊢; exact d he
      · rw [Nat.min_eq_right (by omega)]
        exact Or.inl ⟨i, k, hi, hk, hik, q, by omega, rfl⟩
    · rename_i q2
      split
      · rename_i q3
        refine rea_S h (by omega) (gR_src ⟨i, k, hi, hk, hik, q, by omega, by rw [Nat.zero_add], rfl⟩)
      · rename_i q3
        refine rea_S h (by omega) ?_
        have e : pl pcs i + (pl pcs k - (pl pcs i - 0)) = pl pcs k := by omega
        rw [e]
        exact gR_src ⟨k, i, hk, hi, fun w => hik w.symm, agr_sym q, by omega, by rw [Nat.sub_zero], rfl⟩
  · exact h
/-- what following does -/
theorem fol_E {i fr tot k : Nat} (X : zX3) (hq : zagr (pcL pcs i) fr (pcL pcs k) = true) : (pl pcs k = pl pcs i - fr → (zfol pcs i fr tot k X).2.1 ≤ tot) ∧ (pl pcs k < pl pcs i - fr → (zfol pcs i fr tot k X).1 (4 * i + (fr + pl pcs k)) ≤ tot) ∧ (pl pcs i - fr < pl pcs k → (zfol pcs i fr tot k X).1 (4 * k + (pl pcs i - fr)) ≤ tot + (pl pcs k - (pl pcs i - fr))) := by
  unfold zfol
  rw [if_pos hq]
  refine ⟨fun h => ?_, fun h => ?_, fun h => ?_⟩
  · rw [if_pos h]; show min X.2.1 tot ≤ tot; omega
  · rw [if_neg (by omega), if_pos h]; exact (rea_L _ _ _ X).2
  · rw [if_neg (by omega), if_neg (by omega)]; exact (rea_L _ _ _ X).2
theorem fk_ok (hw : wG pcs) {e : Nat} {X : zX3} (h : xS pcs X) (he : X.1 e < zFar) : ∀ n, n ≤ pcs.length → xS pcs (zfk pcs e X n) ∧ xL X (zfk pcs e X n) ∧ ∀ k, k < n → zagr (pcL pcs (e / 4)) (e % 4) (pcL pcs k) = true → (pl pcs k = pl pcs (e / 4) - e % 4 → (zfk pcs e X n).2.1 ≤ X.1 e) ∧ (pl pcs k < pl pcs (e / 4) - e % 4 → (zfk pcs e X n).1 (4 * (e / 4) + (e % 4 + pl pcs k)) ≤ X.1 e) ∧ (pl pcs (e / 4) - e % 4 < pl pcs k → (zfk pcs e X n).1 (4 * k + (pl pcs (e / 4) - e % 4)) ≤ X.1 e + (pl pcs k - (pl pcs (e / 4) - e % 4))) := by
  intro n
  induction n with
  | zero => intro _; exact ⟨h, xL_refl X, fun k hk => by omega⟩
  | succ n ih =>
    intro hn
    obtain ⟨i1, i2, i3⟩ := ih (by omega)
    have hle := i2.1 e
    have hr : gR pcs ((zfk pcs e X n).1 e) (e / 4, e % 4) := i1.2.1 e (by omega)
    have hL := fol_L (pcs := pcs) (e / 4) (e % 4) ((zfk pcs e X n).1 e) n (zfk pcs e X n)
    refine ⟨fol_S hw i1 (by omega) hr, xL_trans i2 hL, fun k hk q => ?_⟩
    rw [zfk]
    by_cases q2 : k = n
    · subst q2
      obtain ⟨a, b, c⟩ := fol_E (tot := (zfk pcs e X k).1 e) (zfk pcs e X k) q
      exact ⟨fun x => Nat.le_trans (a x) hle, fun x => Nat.le_trans (b x) hle, fun x => by have := c x; omega⟩
    · obtain ⟨a, b, c⟩ := i3 k (by omega) q
      exact ⟨fun x => Nat.le_trans hL.2.1 (a x), fun x => Nat.le_trans (hL.1 _) (b x), fun x => Nat.le_trans (hL.1 _) (c x)⟩
/-- relaxed: the edges of e -/
def xRel (pcs : List (Nat × List Nat)) (d e : Nat) (Y : zX3) : Prop := Y.2.1 ≤ d ∨ ((∀ u c, gE pcs (vE e) u c → Y.1 (4 * u.1 + u.2) ≤ d + c) ∧ (gF pcs (vE e) → Y.2.1 ≤ d))
theorem rel_L {d e : Nat} {Y Z : zX3} (h : xRel pcs d e Y) (hl : xL Y Z) : xRel pcs d e Z := by
  rcases h with h | ⟨h1, h2⟩
  · exact Or.inl (Nat.le_trans hl.2.1 h)
  · exact Or.inr ⟨fun u c q => Nat.le_trans (hl.1 _) (h1 u c q), fun q => Nat.le_trans hl.2.1 (h2 q)⟩
theorem fe_ok (hw : wG pcs) {X : zX3} (h : xS pcs X) : ∀ n, xS pcs (zfe pcs X n) ∧ xL X (zfe pcs X n) ∧ ∀ e, e < n → xRel pcs (X.1 e) e (zfe pcs X n) := by
  intro n
  induction n with
  | zero => exact ⟨h, xL_refl X, fun e he => by omega⟩
  | succ n ih =>
    obtain ⟨i1, i2, i3⟩ := ih
    rw [zfe]
    split
    · rename_i q
      have hfar : (zfe pcs X n).1 n < zFar := by have := i1.2.2.1; omega
      obtain ⟨a, b, c⟩ := fk_ok hw i1 hfar pcs.length (by omega)
      refine ⟨a, xL_trans i2 b, fun e he => ?_⟩
      by_cases q2 : e = n
      · subst q2
        have hle := i2.1 e
        right
        refine ⟨fun u c' hg => ?_, fun hg => ?_⟩
        · obtain ⟨k, h1, h2, ⟨h3, rfl, rfl⟩ | ⟨h3, rfl, rfl⟩⟩ := hg
          · have := (c k h1 h2).2.1 h3
            simp only [vE]; simp only [vE] at h3; omega
          · have := (c k h1 h2).2.2 h3
            simp only [vE]; simp only [vE] at h3; omega
        · obtain ⟨k, h1, h2, h3⟩ := hg
          have := (c k h1 h2).1 h3
          omega
      · exact rel_L (i3 e (by omega)) b
    · rename_i q
      refine ⟨i1, i2, fun e he => ?_⟩
      by_cases q2 : e = n
      · subst q2
        left
        have := i2.1 e
        omega
      · exact i3 e (by omega)
theorem vE_enc {v : Nat × Nat} (hw : wG pcs) (h : gV pcs v) : vE (4 * v.1 + v.2) = v ∧ 4 * v.1 + v.2 < 64 := by
  have h1 := h.1
  have h2 := h.2
  have h3 := hw.2 _ h1
  have h4 := hw.1
  refine ⟨?_, by omega⟩
  unfold vE
  exact Prod.ext (by simp only; omega) (by simp only; omega)
/-- as far as walks of t steps -/
def xC (pcs : List (Nat × List Nat)) (X : zX3) (t : Nat) : Prop := ∀ s p q, gWk pcs s p q → (∀ j, j ≤ s → j ≤ t → X.1 (4 * (p j).1 + (p j).2) ≤ q j ∨ X.2.1 ≤ q j) ∧ (∀ j, j ≤ s → j < t → gF pcs (p j) → X.2.1 ≤ q j)
theorem round_C (hw : wG pcs) {X : zX3} {t : Nat} (h : xS pcs X) (hc : xC pcs X t) : xC pcs (zfe pcs X 64) (t + 1) := by
  obtain ⟨f1, f2, f3⟩ := fe_ok hw h 64
  intro s p q hwk
  obtain ⟨c1, c2⟩ := hc s p q hwk
  refine ⟨fun j hj hjt => ?_, fun j hj hjt hg => ?_⟩
  · by_cases q1 : j ≤ t
    · rcases c1 j hj q1 with a | a
      · left; exact Nat.le_trans (f2.1 _) a
      · right; exact Nat.le_trans f2.2.1 a
    · obtain ⟨j', rfl⟩ : ∃ j', j = j' + 1 := ⟨j - 1, by omega⟩
      have hv := gWk_V hwk j' (by omega)
      obtain ⟨e1, e2⟩ := vE_enc hw hv
      obtain ⟨c, g1, g2⟩ := hwk.2 j' (by omega)
      have hrel := f3 _ e2
      rcases c1 j' (by omega) (by omega) with a | a
      · rcases hrel with b | ⟨b1, b2⟩
        · right; omega
        · left
          rw [e1] at b1
          have := b1 _ _ g1
          omega
      · right
        have := f2.2.1
        omega
  · have hv := gWk_V hwk j (by omega)
    obtain ⟨e1, e2⟩ := vE_enc hw hv
    have hrel := f3 _ e2
    rcases c1 j hj (by omega) with a | a
    · rcases hrel with b | ⟨b1, b2⟩
      · omega
      · rw [e1] at b2
        have := b2 hg
        omega
    · have := f2.2.1
      omega
theorem stop_C (hw : wG pcs) {X : zX3} (h : xS pcs X) (hT : (zfe pcs X 64).1 = X.1) (hc : xC pcs X 0) : ∀ t, xC pcs (zfe pcs X 64) t := by
  obtain ⟨f1, f2, f3⟩ := fe_ok hw h 64
  intro t s p q hwk
  have hA : ∀ j, j ≤ s → (zfe pcs X 64).1 (4 * (p j).1 + (p j).2) ≤ q j ∨ (zfe pcs X 64).2.1 ≤ q j := by
    intro j
    induction j with
    | zero =>
      intro _
      rcases (hc s p q hwk).1 0 (by omega) (by omega) with a | a
      · left; rw [hT]; exact a
      · right; have := f2.2.1; omega
    | succ j ih =>
      intro hj
      obtain ⟨c, g1, g2⟩ := hwk.2 j (by omega)
      have hv := gWk_V hwk j (by omega)
      obtain ⟨e1, e2⟩ := vE_enc hw hv
      have hrel := f3 _ e2
      rcases ih (by omega) with a | a
      · rw [hT] at a
        rcases hrel with b | ⟨b1, b2⟩
        · right; omega
        · left
          rw [e1] at b1
          have := b1 _ _ g1
          omega
      · right; omega
  refine ⟨fun j hj _ => hA j hj, fun j hj _ hg => ?_⟩
  have hv := gWk_V hwk j (by omega)
  obtain ⟨e1, e2⟩ := vE_enc hw hv
  have hrel := f3 _ e2
  rcases hA j hj with a | a
  · rw [hT] at a
    rcases hrel with b | ⟨b1, b2⟩
    · omega
    · rw [e1] at b2
      have := b2 hg
      omega
  · exact a
theorem xC_nr {X : zX3} {nr : Int32} {t : Nat} (h : xC pcs X t) : xC pcs (X.1, X.2.1, nr) t := h
theorem xS_nr {X : zX3} {nr : Int32} (h : xS pcs X) : xS pcs (X.1, X.2.1, nr) := h
/-- all rounds -/
theorem fR_ok (hw : wG pcs) : ∀ t X t0, t + t0 = 64 → xS pcs X → xC pcs X t0 → (X.2.2 = 0 → ∀ t, xC pcs X t) → (∀ w, gZ pcs w → X.2.1 ≤ w) → xS pcs (zfR pcs t X) ∧ xC pcs (zfR pcs t X) 64 ∧ ∀ w, gZ pcs w → (zfR pcs t X).2.1 ≤ w := by
  intro t
  induction t with
  | zero =>
    intro X t0 h0 h1 h2 h3 h4
    have : t0 = 64 := by omega
    subst this
    exact ⟨h1, h2, h4⟩
  | succ t ih =>
    intro X t0 h0 h1 h2 h3 h4
    rw [zfR]
    split
    · rename_i q
      exact ⟨h1, h3 q 64, h4⟩
    · have h1' := xS_nr (nr := 0) h1
      have h2' := xC_nr (nr := 0) h2
      obtain ⟨f1, f2, f3⟩ := fe_ok hw h1' 64
      refine ih _ (t0 + 1) (by omega) f1 (round_C hw h1' h2') (fun q => ?_) (fun w hz => Nat.le_trans f2.2.1 (h4 w hz))
      rcases f2.2.2 with a | ⟨a, b⟩
      · rw [a] at q; exact absurd q (by decide)
      · refine stop_C hw h1' b (fun s p q' hwk => ⟨fun j hj hj0 => ?_, fun j hj hj0 => by omega⟩)
        exact (h2' s p q' hwk).1 j hj (by omega)
theorem i1_ok (hw : wG pcs) {i : Nat} (hi : i < pcs.length) {X : zX3} (h : xS pcs X) : ∀ n, n ≤ pcs.length → xS pcs (zi1 pcs i X n) ∧ xL X (zi1 pcs i X n) ∧ ∀ k, k < n → k ≠ i → zagr (pcL pcs i) 0 (pcL pcs k) = true → (pl pcs k = pl pcs i → (zi1 pcs i X n).2.1 ≤ pl pcs i) ∧ (pl pcs k < pl pcs i → (zi1 pcs i X n).1 (4 * i + pl pcs k) ≤ pl pcs i) := by
  intro n
  induction n with
  | zero => intro _; exact ⟨h, xL_refl X, fun k hk => by omega⟩
  | succ n ih =>
    intro hn
    obtain ⟨i1, i2, i3⟩ := ih (by omega)
    rw [zi1]
    split
    · rename_i q
      exact ⟨i1, i2, fun k hk hne q2 => i3 k (by omega) hne q2⟩
    · rename_i q
      have hL := fol_L (pcs := pcs) i 0 (pl pcs i) n (zi1 pcs i X n)
      refine ⟨fol_S0 hw i1 hi (by omega) (fun w => q w.symm), xL_trans i2 hL, fun k hk hne q2 => ?_⟩
      by_cases q3 : k = n
      · subst q3
        obtain ⟨a, b, c⟩ := fol_E (tot := pl pcs i) (zi1 pcs i X k) q2
        exact ⟨fun x => a (by omega), fun x => by have := b (by omega); rwa [Nat.zero_add] at this⟩
      · obtain ⟨a, b⟩ := i3 k (by omega) hne q2
        exact ⟨fun x => Nat.le_trans hL.2.1 (a x), fun x => Nat.le_trans (hL.1 _) (b x)⟩
theorem i0_ok (hw : wG pcs) {nr : Int32} : ∀ n, n ≤ pcs.length → xS pcs (zi0 pcs nr n) ∧ ∀ i k, i < n → k < pcs.length → k ≠ i → zagr (pcL pcs i) 0 (pcL pcs k) = true → (pl pcs k = pl pcs i → (zi0 pcs nr n).2.1 ≤ pl pcs i) ∧ (pl pcs k < pl pcs i → (zi0 pcs nr n).1 (4 * i + pl pcs k) ≤ pl pcs i) := by
  intro n
  induction n with
  | zero => intro _; exact ⟨⟨fun _ => Nat.le_refl _, fun e he => absurd he (Nat.lt_irrefl _), Nat.le_refl _, fun he => absurd he (Nat.lt_irrefl _)⟩, fun i k hi => by omega⟩
  | succ n ih =>
    intro hn
    obtain ⟨i1, i2⟩ := ih (by omega)
    obtain ⟨j1, j2, j3⟩ := i1_ok hw (i := n) (by omega) i1 pcs.length (by omega)
    refine ⟨j1, fun i k hi hk hne q => ?_⟩
    rw [zi0]
    by_cases q3 : i = n
    · subst q3; exact j3 k hk hne q
    · obtain ⟨a, b⟩ := i2 i k (by omega) hk hne q
      exact ⟨fun x => Nat.le_trans j2.2.1 (a x), fun x => Nat.le_trans (j2.1 _) (b x)⟩
/-- the class's answer is the fewest -/
theorem bell_ok (hw : wG pcs) (nr : Int32) : zuncl pcs (if (zfR pcs 64 ((zi0 pcs nr pcs.length).1, (zi0 pcs nr pcs.length).2.1, 1)).2.1 = zFar then none else some (zfR pcs 64 ((zi0 pcs nr pcs.length).1, (zi0 pcs nr pcs.length).2.1, 1)).2.1) := by
  obtain ⟨i1, i2⟩ := i0_ok hw (nr := nr) pcs.length (Nat.le_refl _)
  obtain ⟨r1, r2, r3⟩ := fR_ok hw 64 ((zi0 pcs nr pcs.length).1, (zi0 pcs nr pcs.length).2.1, 1) 0 rfl (xS_nr i1) (by
    intro s p q hwk
    refine ⟨fun j hj hj0 => ?_, fun j hj hj0 => by omega⟩
    have : j = 0 := by omega
    subst this
    obtain ⟨i, k, h1, h2, h3, h4, h5, h6, h7⟩ := hwk.1
    left
    rw [h6, h7]
    exact (i2 i k h1 h2 (fun w => h3 w.symm) h4).2 h5) (fun q => absurd q (show ¬ (1 : Int32) = 0 by decide)) (by
    rintro w ⟨i, k, h1, h2, h3, h4, h5, h6⟩
    rw [h6]
    exact (i2 i k h1 h2 (fun w => h3 w.symm) h4).1 h5)
  revert r1 r2 r3
  generalize zfR pcs 64 ((zi0 pcs nr pcs.length).1, (zi0 pcs nr pcs.length).2.1, 1) = X
  intro r1 r2 r3
  have hne : ∀ k, k < pcs.length → pcL pcs k ≠ [] := fun k hk q => by
    have := (hw.2 k hk).1
    unfold pl at this
    rw [q] at this
    simp at this
  have low : ∀ w, gA pcs w → X.2.1 ≤ w := by
    rintro w (h | ⟨v, ⟨t, p, q, h1, h2, h3⟩, hf⟩)
    · exact r3 w h
    · obtain ⟨s, p', q', a1, a2, a3, a4⟩ := gWk_short hw t p q h1
      have := (r2 s p' q' a2).2 s (by omega) (by omega) (by rw [a3, h2]; exact hf)
      omega
  right
  refine ⟨hne, ?_⟩
  by_cases q : X.2.1 = zFar
  · rw [if_pos q]
    intro w hw2
    obtain ⟨w', _, b, c⟩ := gA_small hw hw2
    have := low w' c
    rw [q] at this
    unfold zFar at this
    omega
  · rw [if_neg q]
    exact ⟨r1.2.2.2 (by have := r1.2.2.1; omega), low⟩
end
