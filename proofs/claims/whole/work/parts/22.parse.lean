/-! THE TEXT OF A SCRIPT, in plain mathematics -/
/-- start, end, sort of a token: 0 the end, 1 a name, 2 a whole number, 3 a mark, 4 none -/
abbrev zTk : Type := Nat × Nat × Nat
def zkd (c : Nat) : Nat := if 97 ≤ c ∧ c ≤ 122 then 1 else if 48 ≤ c ∧ c ≤ 57 then 2 else if c = 59 then 3 else 4
def zskip (tx : List Nat) : Nat → Nat → Nat
  | 0, p => p
  | f + 1, p => if p < tx.length ∧ lg tx p = 32 then zskip tx f (p + 1) else p
def zrun (tx : List Nat) (k : Nat) : Nat → Nat → Nat
  | 0, p => p
  | f + 1, p => if p < tx.length ∧ zkd (lg tx p) = k then zrun tx k f (p + 1) else p
def znext (tx : List Nat) (pos : Nat) : zTk :=
  let s := zskip tx tx.length pos
  if tx.length ≤ s then (s, s, 0) else
  let k := zkd (lg tx s)
  if k = 1 ∨ k = 2 then
    let e := zrun tx k tx.length (s + 1)
    (s, e, if e - s > (if k = 1 then 7 else 1) then 4 else k)
  else (s, s + 1, k)
theorem skip_le (tx : List Nat) : ∀ f p, p ≤ zskip tx f p ∧ (p ≤ tx.length → zskip tx f p ≤ tx.length) := by
  intro f
  induction f with
  | zero => intro p; exact ⟨Nat.le_refl _, fun h => h⟩
  | succ f ih =>
    intro p
    rw [zskip]
    split
    · have := ih (p + 1); exact ⟨by omega, fun _ => this.2 (by omega)⟩
    · exact ⟨Nat.le_refl _, fun h => h⟩
theorem run_le (tx : List Nat) (k : Nat) : ∀ f p, p ≤ zrun tx k f p ∧ (p ≤ tx.length → zrun tx k f p ≤ tx.length) ∧ ∀ i, p ≤ i → i < zrun tx k f p → zkd (lg tx i) = k := by
  intro f
  induction f with
  | zero => intro p; exact ⟨Nat.le_refl _, fun h => h, fun i h1 h2 => by rw [zrun] at h2; omega⟩
  | succ f ih =>
    intro p
    rw [zrun]
    split
    · rename_i h
      obtain ⟨a, b, c⟩ := ih (p + 1)
      refine ⟨by omega, fun _ => b (by omega), fun i h1 h2 => ?_⟩
      by_cases e : i = p
      · subst e; exact h.2
      · exact c i (by omega) h2
    · exact ⟨Nat.le_refl _, fun h => h, fun i h1 h2 => by omega⟩
/-- a token lies in the text, and what is a name is one -/
def wTk (tx : List Nat) (t : zTk) : Prop := t.1 ≤ t.2.1 ∧ t.2.1 ≤ tx.length ∧ t.2.2 < 5 ∧ (t.2.2 = 0 ∨ t.1 < t.2.1) ∧ (t.2.2 = 1 → t.2.1 - t.1 ≤ 7 ∧ ∀ i, t.1 ≤ i → i < t.2.1 → 97 ≤ lg tx i ∧ lg tx i ≤ 122) ∧ (t.2.2 = 2 → t.2.1 = t.1 + 1 ∧ 48 ≤ lg tx t.1 ∧ lg tx t.1 ≤ 57)
theorem kd_1 {c : Nat} (h : zkd c = 1) : 97 ≤ c ∧ c ≤ 122 := by
  unfold zkd at h
  split at h
  · assumption
  · split at h
    · omega
    · split at h <;> omega
theorem kd_2 {c : Nat} (h : zkd c = 2) : 48 ≤ c ∧ c ≤ 57 := by
  unfold zkd at h
  split at h
  · omega
  · split at h
    · assumption
    · split at h <;> omega
theorem kd_lt (c : Nat) : 1 ≤ zkd c ∧ zkd c < 5 := by
  unfold zkd; split
  · omega
  · split
    · omega
    · split <;> omega
theorem next_w {tx : List Nat} {pos : Nat} (h : pos ≤ tx.length) : wTk tx (znext tx pos) ∧ pos ≤ (znext tx pos).1 := by
  have hs := skip_le tx tx.length pos
  unfold znext
  simp only
  split
  · exact ⟨⟨Nat.le_refl _, hs.2 h, by simp, Or.inl rfl, fun q => by simp at q, fun q => by simp at q⟩, hs.1⟩
  · rename_i hlt
    split
    · rename_i hk
      have hr := run_le tx (zkd (lg tx (zskip tx tx.length pos))) tx.length (zskip tx tx.length pos + 1)
      obtain ⟨e, he⟩ : ∃ e, e = zrun tx (zkd (lg tx (zskip tx tx.length pos))) tx.length (zskip tx tx.length pos + 1) := ⟨_, rfl⟩
      rw [← he] at hr ⊢
      obtain ⟨hr1, hr2, hr3⟩ := hr
      have hr2' := hr2 (by omega)
      rcases hk with hk | hk
      · rw [hk] at hr3 ⊢
        have inn : ∀ i, zskip tx tx.length pos ≤ i → i < e → 97 ≤ lg tx i ∧ lg tx i ≤ 122 := fun i h1 h2 => by
          by_cases q : i = zskip tx tx.length pos
          · subst q; exact kd_1 hk
          · exact kd_1 (hr3 i (by omega) h2)
        by_cases hc : e - zskip tx tx.length pos > 7
        · simp only [if_true, if_pos hc]
          exact ⟨⟨by simp only; omega, hr2', by simp, Or.inr (by simp only; omega), fun q => by simp at q, fun q => by simp at q⟩, hs.1⟩
        · simp only [if_true, if_neg hc]
          exact ⟨⟨by simp only; omega, hr2', by simp, Or.inr (by simp only; omega), fun q => ⟨by simp only; omega, inn⟩, fun q => by simp at q⟩, hs.1⟩
      · rw [hk] at hr3 ⊢
        simp only [show ¬ 2 = 1 by omega, if_false]
        by_cases hc : e - zskip tx tx.length pos > 1
        · simp only [if_pos hc]
          exact ⟨⟨by simp only; omega, hr2', by simp, Or.inr (by simp only; omega), fun q => by simp at q, fun q => by simp at q⟩, hs.1⟩
        · simp only [if_neg hc]
          exact ⟨⟨by simp only; omega, hr2', by simp, Or.inr (by simp only; omega), fun q => by simp at q, fun q => ⟨by simp only; omega, kd_2 hk⟩⟩, hs.1⟩
    · rename_i hk
      have k5 := kd_lt (lg tx (zskip tx tx.length pos))
      refine ⟨⟨by simp, by simp only; omega, by simp only; omega, Or.inr (by simp), fun q => ?_, fun q => ?_⟩, hs.1⟩
      · simp only at q; omega
      · simp only at q; omega
/-- the letters of a token -/
def zsl (tx : List Nat) (t : zTk) : List Nat := (tx.drop t.1).take (t.2.1 - t.1)
theorem sl_len {tx : List Nat} {t : zTk} (h : wTk tx t) : (zsl tx t).length = t.2.1 - t.1 := by
  simp [zsl]; have := h.1; have := h.2.1; omega
theorem sl_lg {tx : List Nat} {t : zTk} {k : Nat} (h : k < t.2.1 - t.1) : lg (zsl tx t) k = lg tx (t.1 + k) := by
  rw [zsl, lg_take h, lg_drop]
/-- the String constants as numbers -/
def zwd (w : Nat) : List Nat := (zstr.getD w []).map (fun x => x.toNatClampNeg)
def zisw (tx : List Nat) (t : zTk) (w : Nat) : Bool := decide (t.2.2 = 1) && decide (zsl tx t = zwd w)
def zkept (tx : List Nat) (t : zTk) : Bool := (List.range 12).any (fun w => zisw tx t w)
def zlets (tx : List Nat) (t : zTk) (most : Nat) : Bool := decide (t.2.2 = 1) && decide (t.2.1 - t.1 ≤ most) && (zsl tx t).all (fun c => decide (c ≤ 104))
/-- letters of a token as bits -/
def zlb (cs : List Nat) : Nat := zbits 8 (fun i => cs.contains (97 + i))
/-- what is read so far: letters, names of kinds, kinds, passes -/
abbrev zRt : Type := Nat × List (List Nat) × List Nat × List zPs
def zscriptLine (tx : List Nat) (t : zTk) (st : zRt) : Nat × zTk × zRt :=
  let t1 := znext tx t.2.1
  if zisw tx t1 4 then
    let t2 := znext tx t1.2.1
    if t2.2.2 = 2 then
      if lg tx t2.1 < 50 ∨ 52 < lg tx t2.1 then (2, t2, st) else (0, znext tx t2.2.1, (lg tx t2.1 - 48, st.2))
    else (1, t2, st)
  else (1, t1, st)
def zkindLine (tx : List Nat) (t : zTk) (st : zRt) : Nat × zTk × zRt :=
  if 4 ≤ st.2.2.1.length then (5, t, st) else
  let t1 := znext tx t.2.1
  if t1.2.2 = 1 ∧ 2 ≤ t1.2.1 - t1.1 ∧ zkept tx t1 = false then
    if zsl tx t1 ∈ st.2.1 then (3, t1, st) else
    let t2 := znext tx t1.2.1
    if zisw tx t2 5 then
      let t3 := znext tx t2.2.1
      if zlets tx t3 7 then
        if (zsl tx t3).Nodup then (0, znext tx t3.2.1, (st.1, st.2.1 ++ [zsl tx t1], st.2.2.1 ++ [zlb (zsl tx t3)], st.2.2.2)) else (3, t3, st)
      else (1, t3, st)
    else (1, t2, st)
  else (1, t1, st)
def zpassLine (tx : List Nat) (t : zTk) (st : zRt) : Nat × zTk × zRt :=
  if 3 ≤ st.2.2.2.length then (5, t, st) else
  let t1 := znext tx t.2.1
  if zisw tx t1 6 then (0, znext tx t1.2.1, (st.1, st.2.1, st.2.2.1, st.2.2.2 ++ [(true, [])]))
  else (0, t1, (st.1, st.2.1, st.2.2.1, st.2.2.2 ++ [(false, [])]))
/-- a side: its fault, its bits, the token behind it -/
def zside (tx : List Nat) (t : zTk) (st : zRt) : Nat × Nat × zTk :=
  if zisw tx t 11 then (0, 256, znext tx t.2.1)
  else if zlets tx t 1 then (0, zlb (zsl tx t), znext tx t.2.1)
  else if t.2.2 = 1 ∧ t.2.1 - t.1 ≠ 1 ∧ zkept tx t = false then
    if zsl tx t ∈ st.2.1 then (0, lg st.2.2.1 (st.2.1.idxOf (zsl tx t)), znext tx t.2.1) else (4, 0, t)
  else (1, 0, t)
def zlow (cs : List Nat) : List Nat := cs.map (fun c => c - 97)
/-- the part of a rule behind its match: fault, outcome, token -/
def zoutc (tx : List Nat) (t : zTk) : Nat × List Nat × zTk :=
  if zisw tx t 9 then
    let t1 := znext tx t.2.1
    if zisw tx t1 10 then (0, [], znext tx t1.2.1)
    else if zlets tx t1 4 then (0, zlow (zsl tx t1), znext tx t1.2.1) else (1, [], t1)
  else (1, [], t)
/-- from the match on: fault, token, match, outcome, behind -/
def zrule2 (tx : List Nat) (t : zTk) (st : zRt) : Nat × zTk × List Nat × List Nat × Nat :=
  if zlets tx t 3 then
    let t1 := znext tx t.2.1
    if zisw tx t1 8 then
      let q := zside tx (znext tx t1.2.1) st
      if q.1 = 0 then ((zoutc tx q.2.2).1, (zoutc tx q.2.2).2.2, zlow (zsl tx t), (zoutc tx q.2.2).2.1, q.2.1) else (q.1, q.2.2, [], [], 0)
    else ((zoutc tx t1).1, (zoutc tx t1).2.2, zlow (zsl tx t), (zoutc tx t1).2.1, 511)
  else (1, t, [], [], 0)
def zadd (ps : List zPs) (ru : zRu) : List zPs := ps.dropLast ++ [((zpa_ ps (ps.length - 1)).1, (zpa_ ps (ps.length - 1)).2 ++ [ru])]
def zruleLine (tx : List Nat) (t : zTk) (st : zRt) : Nat × zTk × zRt :=
  if st.2.2.2.length = 0 then (6, t, st) else
  if 8 ≤ (zpa_ st.2.2.2 (st.2.2.2.length - 1)).2.length then (5, t, st) else
  let t1 := znext tx t.2.1
  if zisw tx t1 7 then
    let q := zside tx (znext tx t1.2.1) st
    if q.1 = 0 then ((zrule2 tx q.2.2 st).1, (zrule2 tx q.2.2 st).2.1, (st.1, st.2.1, st.2.2.1, zadd st.2.2.2 ((zrule2 tx q.2.2 st).2.2.1, (zrule2 tx q.2.2 st).2.2.2.1, q.2.1, (zrule2 tx q.2.2 st).2.2.2.2)))
    else (q.1, q.2.2, st)
  else ((zrule2 tx t1 st).1, (zrule2 tx t1 st).2.1, (st.1, st.2.1, st.2.2.1, zadd st.2.2.2 ((zrule2 tx t1 st).2.2.1, (zrule2 tx t1 st).2.2.2.1, 511, (zrule2 tx t1 st).2.2.2.2)))
def zline (tx : List Nat) (first : Bool) (t : zTk) (st : zRt) : Nat × zTk × zRt :=
  if zisw tx t 0 then (if first then zscriptLine tx t st else (3, t, st))
  else if zisw tx t 1 then (if first then (6, t, st) else zkindLine tx t st)
  else if zisw tx t 2 then (if first then (6, t, st) else zpassLine tx t st)
  else if zisw tx t 3 then (if first then (6, t, st) else zruleLine tx t st)
  else (1, t, st)
def zlines (tx : List Nat) : Nat → Nat × zTk × zRt → Nat × zTk × zRt
  | 0, r => r
  | f + 1, r => if r.1 = 0 ∧ r.2.1.2.2 = 3 then zlines tx f (zline tx false (znext tx r.2.1.2.1) r.2.2) else r
def zmany (ps : List zPs) : Nat := (ps.map (fun p => p.2.length)).sum
/-- fault, place, what was read -/
def zparse (tx : List Nat) : Nat × Nat × zRt :=
  let r := zlines tx tx.length (zline tx true (znext tx 0) (0, [], [], []))
  (if r.1 = 0 then (if r.2.1.2.2 = 0 then (if zmany r.2.2.2.2.2 = 0 then 6 else 0) else 1) else r.1, r.2.1.1, r.2.2)
