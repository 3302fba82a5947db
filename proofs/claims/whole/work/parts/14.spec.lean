/-! THE PICTURE IN PLAIN MATHEMATICS: rules, passes, words carried -/
/-- a rule: what it takes, what it gives, what may be ahead and behind (bits) -/
abbrev zRu : Type := List Nat × List Nat × Nat × Nat
def ruT (tn : Bool) (r : zRu) : List Nat := if tn then r.2.1 else r.1
def ruG (tn : Bool) (r : zRu) : List Nat := if tn then r.1 else r.2.1
def zru (rs : List zRu) (i : Nat) : zRu := rs.getD i ([], [], 0, 0)
/-- what stands at a place: a letter, or 8 for the edge -/
def zsd (row : List Nat) (k : Nat) : Nat := if k < row.length then lg row k else 8
def zah (row : List Nat) (at_ : Nat) : Nat := if at_ = 0 then 8 else zsd row (at_ - 1)
def zheld (row : List Nat) (at_ : Nat) (t : List Nat) : Bool := decide (at_ + t.length ≤ row.length) && (List.range t.length).all (fun k => decide (lg row (at_ + k) = lg t k))
theorem held_iff {row t : List Nat} {at_ : Nat} : zheld row at_ t = true ↔ at_ + t.length ≤ row.length ∧ ∀ k, k < t.length → lg row (at_ + k) = lg t k := by
  simp only [zheld, Bool.and_eq_true, decide_eq_true_eq, List.all_eq_true, List.mem_range]
def zfit (tn : Bool) (row : List Nat) (at_ : Nat) (r : zRu) : Bool := decide (ruT tn r ≠ []) && zheld row at_ (ruT tn r) && r.2.2.1.testBit (zah row at_) && r.2.2.2.testBit (zsd row (at_ + (ruT tn r).length))
def zok (rs : List zRu) (mask : Nat) (tn : Bool) (row : List Nat) (at_ i : Nat) : Bool := !mask.testBit i && zfit tn row at_ (zru rs i)
def zlenT (rs : List zRu) (tn : Bool) (i : Nat) : Nat := (ruT tn (zru rs i)).length
def zsv (rs : List zRu) (mask : Nat) (tn : Bool) (row : List Nat) (at_ : Nat) : Nat → Option Nat
  | 0 => none
  | i + 1 => match zsv rs mask tn row at_ i with
    | none => if zok rs mask tn row at_ i then some i else none
    | some b => if zok rs mask tn row at_ i && decide (zlenT rs tn b < zlenT rs tn i) then some i else some b
def zserve (rs : List zRu) (mask : Nat) (tn : Bool) (row : List Nat) (at_ : Nat) : Option Nat := zsv rs mask tn row at_ rs.length
/-- i is the best of the first n -/
def zbest (rs : List zRu) (mask : Nat) (tn : Bool) (row : List Nat) (at_ n i : Nat) : Prop := i < n ∧ zok rs mask tn row at_ i = true ∧ ∀ j, j < n → zok rs mask tn row at_ j = true → zlenT rs tn j < zlenT rs tn i ∨ (zlenT rs tn j = zlenT rs tn i ∧ i ≤ j)
theorem sv_char (rs : List zRu) (mask : Nat) (tn : Bool) (row : List Nat) (at_ : Nat) : ∀ n, match zsv rs mask tn row at_ n with
  | none => ∀ j, j < n → zok rs mask tn row at_ j = false
  | some i => zbest rs mask tn row at_ n i := by
  intro n
  induction n with
  | zero => simp only [zsv]; intro j hj; omega
  | succ n ih =>
    simp only [zsv]
    cases e : zsv rs mask tn row at_ n with
    | none =>
      rw [e] at ih
      simp only at ih ⊢
      cases h : zok rs mask tn row at_ n
      · simp only [Bool.false_eq_true, if_false]
        intro j hj
        by_cases hjn : j = n
        · subst hjn; exact h
        · exact ih j (by omega)
      · simp only [if_true]
        refine ⟨by omega, h, fun j hj hk => ?_⟩
        by_cases hjn : j = n
        · subst hjn; exact Or.inr ⟨rfl, by omega⟩
        · rw [ih j (by omega)] at hk; cases hk
    | some b =>
      rw [e] at ih
      simp only at ih ⊢
      obtain ⟨i1, i2, i3⟩ := ih
      by_cases hc : (zok rs mask tn row at_ n && decide (zlenT rs tn b < zlenT rs tn n)) = true
      · rw [if_pos hc]
        rw [Bool.and_eq_true, decide_eq_true_eq] at hc
        refine ⟨by omega, hc.1, fun j hj hk => ?_⟩
        by_cases hjn : j = n
        · subst hjn; exact Or.inr ⟨rfl, by omega⟩
        · rcases i3 j (by omega) hk with q | q <;> omega
      · rw [if_neg hc]
        refine ⟨by omega, i2, fun j hj hk => ?_⟩
        by_cases hjn : j = n
        · subst hjn
          rw [Bool.and_eq_true, decide_eq_true_eq, not_and] at hc
          have := hc hk
          rcases Nat.lt_or_ge (zlenT rs tn j) (zlenT rs tn b) with q | q
          · exact Or.inl q
          · exact Or.inr ⟨by omega, by omega⟩
        · exact i3 j (by omega) hk
theorem serve_some {rs : List zRu} {mask : Nat} {tn : Bool} {row : List Nat} {at_ i : Nat} (h : zbest rs mask tn row at_ rs.length i) : zserve rs mask tn row at_ = some i := by
  have := sv_char rs mask tn row at_ rs.length
  unfold zserve
  cases e : zsv rs mask tn row at_ rs.length with
  | none => rw [e] at this; have q := this i h.1; rw [h.2.1] at q; cases q
  | some b =>
    rw [e] at this
    have q1 := this.2.2 i h.1 h.2.1
    have q2 := h.2.2 b this.1 this.2.1
    congr 1; omega
theorem serve_none {rs : List zRu} {mask : Nat} {tn : Bool} {row : List Nat} {at_ : Nat} (h : ∀ j, j < rs.length → zok rs mask tn row at_ j = false) : zserve rs mask tn row at_ = none := by
  have := sv_char rs mask tn row at_ rs.length
  unfold zserve
  cases e : zsv rs mask tn row at_ rs.length with
  | none => rfl
  | some b => rw [e] at this; have q := this.2.1; rw [h b this.1] at q; cases q
theorem serve_is {rs : List zRu} {mask : Nat} {tn : Bool} {row : List Nat} {at_ i : Nat} (h : zserve rs mask tn row at_ = some i) : zbest rs mask tn row at_ rs.length i := by
  have := sv_char rs mask tn row at_ rs.length
  unfold zserve at h
  rw [h] at this; exact this
theorem serve_len {rs : List zRu} {mask : Nat} {tn : Bool} {row : List Nat} {at_ i : Nat} (h : zserve rs mask tn row at_ = some i) : i < rs.length ∧ 0 < zlenT rs tn i ∧ at_ + zlenT rs tn i ≤ row.length := by
  obtain ⟨h1, h2, _⟩ := serve_is h
  simp only [zok, zfit, Bool.and_eq_true, decide_eq_true_eq] at h2
  refine ⟨h1, List.length_pos_iff.2 h2.2.1.1.1, (held_iff.1 h2.2.1.1.2).1⟩
/-- a round from a place on: whether it isn't too long, what came, the rules that served -/
def zrnd (rs : List zRu) (mask : Nat) (tn : Bool) (row : List Nat) : Nat → Nat → List Nat → List Nat → Bool × List Nat × List Nat
  | 0, _, out, sv => (true, out, sv)
  | f + 1, at_, out, sv => if row.length ≤ at_ then (true, out, sv) else match zserve rs mask tn row at_ with
    | none => if out.length + 1 ≤ 60 then zrnd rs mask tn row f (at_ + 1) (out ++ [lg row at_]) sv else (false, out, sv)
    | some i => if out.length + (ruG tn (zru rs i)).length ≤ 60 then zrnd rs mask tn row f (at_ + zlenT rs tn i) (out ++ ruG tn (zru rs i)) (sv ++ [i]) else (false, out, sv ++ [i])
def zround (rs : List zRu) (mask : Nat) (tn : Bool) (row : List Nat) : Bool × List Nat × List Nat := zrnd rs mask tn row (row.length + 1) 0 [] []
/-- rounds left, rounds done, row, served: how, what came, rounds, served -/
def zprn (rs : List zRu) (mask : Nat) (ag tn : Bool) : Nat → Nat → List Nat → List Nat → Nat × List Nat × Nat × List Nat
  | 0, r, row, sv => (7, row, r, sv)
  | k + 1, r, row, sv => if (zround rs mask tn row).1 then
      if (zround rs mask tn row).2.1 = row ∨ ag = false then (0, (zround rs mask tn row).2.1, r + 1, sv ++ (zround rs mask tn row).2.2) else zprn rs mask ag tn k (r + 1) (zround rs mask tn row).2.1 (sv ++ (zround rs mask tn row).2.2)
    else (6, row, r + 1, sv ++ (zround rs mask tn row).2.2)
def zprun (rs : List zRu) (mask : Nat) (ag tn : Bool) (row : List Nat) : Nat × List Nat × Nat × List Nat := zprn rs mask ag tn (if ag then 20 else 1) 0 row []
/-- a pass: again, rules -/
abbrev zPs : Type := Bool × List zRu
def zpa_ (ps : List zPs) (p : Nat) : zPs := ps.getD p (false, [])
def zup {α : Type} (f : Nat → α) (p : Nat) (v : α) : Nat → α := fun q => if q = p then v else f q
/-- the first k passes: how, what came, what was behind each, rounds, served (8 p + i) -/
def zal (ps : List zPs) (asd : Nat → Nat) (tn : Bool) (row : List Nat) : Nat → Nat × List Nat × (Nat → List Nat) × (Nat → Nat) × List Nat
  | 0 => (0, row, fun _ => [], fun _ => 0, [])
  | k + 1 => if (zal ps asd tn row k).1 = 0 then
      let p := if tn then ps.length - 1 - k else k
      let Q := zprun (zpa_ ps p).2 (asd p) (zpa_ ps p).1 tn (zal ps asd tn row k).2.1
      (Q.1, Q.2.1, zup (zal ps asd tn row k).2.2.1 p Q.2.1, zup (zal ps asd tn row k).2.2.2.1 p Q.2.2.1, (zal ps asd tn row k).2.2.2.2 ++ Q.2.2.2.map (fun i => 8 * p + i))
    else zal ps asd tn row k
def zcar (ps : List zPs) (asd : Nat → Nat) (tn : Bool) (row : List Nat) : Nat × List Nat × (Nat → List Nat) × (Nat → Nat) × List Nat := zal ps asd tn row ps.length
/-! what a script bears -/
def wRu (r : zRu) : Prop := 0 < r.1.length ∧ r.1.length ≤ 3 ∧ r.2.1.length ≤ 4 ∧ l8 r.1 ∧ l8 r.2.1 ∧ r.2.2.1 < 512 ∧ r.2.2.2 < 512
def wRs (rs : List zRu) : Prop := rs.length ≤ 8 ∧ ∀ r ∈ rs, wRu r
def wPs (ps : List zPs) : Prop := ps.length ≤ 3 ∧ ∀ p ∈ ps, wRs p.2
theorem ru_w {rs : List zRu} (h : wRs rs) {i : Nat} (hi : i < rs.length) : wRu (zru rs i) := by
  have : zru rs i = rs[i] := by simp [zru, hi]
  rw [this]; exact h.2 _ (List.getElem_mem hi)
theorem ps_w {ps : List zPs} (h : wPs ps) {p : Nat} (hp : p < ps.length) : wRs (zpa_ ps p).2 := by
  have : zpa_ ps p = ps[p] := by simp [zpa_, hp]
  rw [this]; exact h.2 _ (List.getElem_mem hp)
theorem ruT_le {r : zRu} (h : wRu r) (tn : Bool) : (ruT tn r).length ≤ 4 ∧ l8 (ruT tn r) := by
  obtain ⟨h0, h1, h2, h3, h4, _⟩ := h
  cases tn
  · exact ⟨by simp [ruT]; omega, by simpa [ruT] using h3⟩
  · exact ⟨by simp [ruT]; omega, by simpa [ruT] using h4⟩
theorem ruG_le {r : zRu} (h : wRu r) (tn : Bool) : (ruG tn r).length ≤ 4 ∧ l8 (ruG tn r) := by
  obtain ⟨h0, h1, h2, h3, h4, _⟩ := h
  cases tn
  · exact ⟨by simp [ruG]; omega, by simpa [ruG] using h4⟩
  · exact ⟨by simp [ruG]; omega, by simpa [ruG] using h3⟩
theorem rnd_w {rs : List zRu} (hw : wRs rs) {mask : Nat} {tn : Bool} {row : List Nat} (h8 : l8 row) : ∀ f at_ out sv, l8 out → out.length ≤ 60 → (∀ i ∈ sv, i < rs.length) → l8 (zrnd rs mask tn row f at_ out sv).2.1 ∧ (zrnd rs mask tn row f at_ out sv).2.1.length ≤ 60 ∧ (∀ i ∈ (zrnd rs mask tn row f at_ out sv).2.2, i < rs.length) := by
  intro f
  induction f with
  | zero => intro at_ out sv h1 h2 h3; exact ⟨h1, h2, h3⟩
  | succ f ih =>
    intro at_ out sv h1 h2 h3
    rw [zrnd]
    split
    · exact ⟨h1, h2, h3⟩
    · cases e : zserve rs mask tn row at_ with
      | none =>
        simp only
        split
        · exact ih _ _ _ (l8_app h1 (l8_one (h8 _))) (by simp; omega) h3
        · exact ⟨h1, h2, h3⟩
      | some i =>
        have hi := (serve_len e).1
        have g := ruG_le (ru_w hw hi) tn
        have h4 : ∀ j ∈ sv ++ [i], j < rs.length := by
          intro j hj
          rcases List.mem_append.1 hj with q | q
          · exact h3 j q
          · rw [List.mem_singleton.1 q]; exact hi
        simp only
        split
        · exact ih _ _ _ (l8_app h1 g.2) (by simp; omega) h4
        · exact ⟨h1, h2, h4⟩
theorem round_w {rs : List zRu} (hw : wRs rs) {mask : Nat} {tn : Bool} {row : List Nat} (h8 : l8 row) : l8 (zround rs mask tn row).2.1 ∧ (zround rs mask tn row).2.1.length ≤ 60 ∧ (∀ i ∈ (zround rs mask tn row).2.2, i < rs.length) := rnd_w hw h8 _ _ _ _ l8_nil (by simp) (by simp)
theorem prn_w {rs : List zRu} (hw : wRs rs) {mask : Nat} {ag tn : Bool} : ∀ k r row sv, l8 row → row.length ≤ 60 → (∀ i ∈ sv, i < rs.length) → l8 (zprn rs mask ag tn k r row sv).2.1 ∧ (zprn rs mask ag tn k r row sv).2.1.length ≤ 60 ∧ (∀ i ∈ (zprn rs mask ag tn k r row sv).2.2.2, i < rs.length) := by
  intro k
  induction k with
  | zero => intro r row sv h1 h2 h3; exact ⟨h1, h2, h3⟩
  | succ k ih =>
    intro r row sv h1 h2 h3
    obtain ⟨q1, q2, q3⟩ := round_w hw (mask := mask) (tn := tn) h1
    have h4 : ∀ j ∈ sv ++ (zround rs mask tn row).2.2, j < rs.length := by
      intro j hj
      rcases List.mem_append.1 hj with q | q
      · exact h3 j q
      · exact q3 j q
    rw [zprn]
    split
    · split
      · exact ⟨q1, q2, h4⟩
      · exact ih _ _ _ q1 q2 h4
    · exact ⟨h1, h2, h4⟩
theorem prun_w {rs : List zRu} (hw : wRs rs) {mask : Nat} {ag tn : Bool} {row : List Nat} (h1 : l8 row) (h2 : row.length ≤ 60) : l8 (zprun rs mask ag tn row).2.1 ∧ (zprun rs mask ag tn row).2.1.length ≤ 60 ∧ (∀ i ∈ (zprun rs mask ag tn row).2.2.2, i < rs.length) := prn_w hw _ _ _ _ h1 h2 (by simp)
