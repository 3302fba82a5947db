/-! a rule that never served might as well be aside -/
section
variable {rs : List zRu} {mask i : Nat} {tn : Bool} {row : List Nat}
theorem ok_flip {at_ j : Nat} (hb : mask.testBit i = false) : zok rs (mask ^^^ 2 ^ i) tn row at_ j = if j = i then false else zok rs mask tn row at_ j := by
  unfold zok
  rw [fb_bit_flip]
  by_cases q : j = i
  · subst q; simp [hb]
  · simp [q]
theorem serve_flip {at_ : Nat} (hb : mask.testBit i = false) (h : zserve rs mask tn row at_ ≠ some i) : zserve rs (mask ^^^ 2 ^ i) tn row at_ = zserve rs mask tn row at_ := by
  cases e : zserve rs mask tn row at_ with
  | none =>
    refine serve_none (fun j hj => ?_)
    rw [ok_flip hb]
    have := sv_char rs mask tn row at_ rs.length
    unfold zserve at e
    rw [e] at this
    split
    · rfl
    · exact this j hj
  | some b =>
    have hb2 := serve_is e
    have hne : b ≠ i := fun w => h (by rw [e, w])
    refine serve_some ⟨hb2.1, by rw [ok_flip hb, if_neg hne]; exact hb2.2.1, fun j hj hk => ?_⟩
    rw [ok_flip hb] at hk
    split at hk
    · cases hk
    · exact hb2.2.2 j hj hk
theorem rnd_in : ∀ f at_ out sv x, x ∈ sv → x ∈ (zrnd rs mask tn row f at_ out sv).2.2 := by
  intro f
  induction f with
  | zero => intro at_ out sv x h; exact h
  | succ f ih =>
    intro at_ out sv x h
    rw [zrnd]
    split
    · exact h
    · cases e : zserve rs mask tn row at_ with
      | none =>
        simp only
        split
        · exact ih _ _ _ _ h
        · exact h
      | some j =>
        simp only
        split
        · exact ih _ _ _ _ (List.mem_append.2 (Or.inl h))
        · exact List.mem_append.2 (Or.inl h)
theorem rnd_flip (hb : mask.testBit i = false) : ∀ f at_ out sv, i ∉ (zrnd rs mask tn row f at_ out sv).2.2 → zrnd rs (mask ^^^ 2 ^ i) tn row f at_ out sv = zrnd rs mask tn row f at_ out sv := by
  intro f
  induction f with
  | zero => intro at_ out sv _; rfl
  | succ f ih =>
    intro at_ out sv h
    rw [zrnd] at h ⊢
    rw [zrnd]
    split
    · rfl
    · rename_i q
      rw [if_neg q] at h
      cases e : zserve rs mask tn row at_ with
      | none =>
        rw [e] at h
        simp only at h
        rw [serve_flip hb (by rw [e]; simp), e]
        simp only
        split
        · rename_i q2
          rw [if_pos q2] at h
          exact ih _ _ _ h
        · rfl
      | some j =>
        rw [e] at h
        simp only at h
        have hj : j ≠ i := by
          intro w
          subst w
          split at h
          · exact h (rnd_in _ _ _ _ _ (List.mem_append.2 (Or.inr (List.mem_singleton.2 rfl))))
          · exact h (List.mem_append.2 (Or.inr (List.mem_singleton.2 rfl)))
        rw [serve_flip hb (by rw [e]; simp [hj]), e]
        simp only
        split
        · rename_i q2
          rw [if_pos q2] at h
          exact ih _ _ _ h
        · rfl
theorem round_flip (hb : mask.testBit i = false) (h : i ∉ (zround rs mask tn row).2.2) : zround rs (mask ^^^ 2 ^ i) tn row = zround rs mask tn row := rnd_flip hb _ _ _ _ h
end
section
variable {rs : List zRu} {mask i : Nat} {ag tn : Bool}
theorem prn_in : ∀ k r row sv x, x ∈ sv → x ∈ (zprn rs mask ag tn k r row sv).2.2.2 := by
  intro k
  induction k with
  | zero => intro r row sv x h; exact h
  | succ k ih =>
    intro r row sv x h
    have h2 : x ∈ sv ++ (zround rs mask tn row).2.2 := List.mem_append.2 (Or.inl h)
    rw [zprn]
    split
    · split
      · exact h2
      · exact ih _ _ _ _ h2
    · exact h2
theorem prn_flip (hb : mask.testBit i = false) : ∀ k r row sv, i ∉ (zprn rs mask ag tn k r row sv).2.2.2 → zprn rs (mask ^^^ 2 ^ i) ag tn k r row sv = zprn rs mask ag tn k r row sv := by
  intro k
  induction k with
  | zero => intro r row sv _; rfl
  | succ k ih =>
    intro r row sv h
    have hr : i ∉ (zround rs mask tn row).2.2 := by
      intro w
      apply h
      have h2 : i ∈ sv ++ (zround rs mask tn row).2.2 := List.mem_append.2 (Or.inr w)
      rw [zprn]
      split
      · split
        · exact h2
        · exact prn_in _ _ _ _ _ h2
      · exact h2
    rw [zprn] at h ⊢
    rw [zprn, round_flip hb hr]
    split
    · rename_i q
      rw [if_pos q] at h
      split
      · rfl
      · rename_i q2
        rw [if_neg q2] at h
        exact ih _ _ _ h
    · rfl
theorem prun_flip {row : List Nat} (hb : mask.testBit i = false) (h : i ∉ (zprun rs mask ag tn row).2.2.2) : zprun rs (mask ^^^ 2 ^ i) ag tn row = zprun rs mask ag tn row := prn_flip hb _ _ _ _ h
end
section
variable {ps : List zPs} {asd : Nat → Nat} {tn : Bool} {row : List Nat} {p i : Nat}
theorem al_in : ∀ d k x, x ∈ (zal ps asd tn row k).2.2.2.2 → x ∈ (zal ps asd tn row (k + d)).2.2.2.2 := by
  intro d
  induction d with
  | zero => intro k x h; exact h
  | succ d ih =>
    intro k x h
    have := ih k x h
    rw [← Nat.add_assoc, zal]
    split
    · exact List.mem_append.2 (Or.inl this)
    · exact this
theorem al_flip (hw : wPs ps) (hb : (asd p).testBit i = false) (hi : i < 8) (h : 8 * p + i ∉ (zcar ps asd tn row).2.2.2.2) : ∀ k, k ≤ ps.length → zal ps (zasd asd p i) tn row k = zal ps asd tn row k := by
  intro k
  induction k with
  | zero => intro _; rfl
  | succ k ih =>
    intro hk
    have i1 := ih (by omega)
    rw [zal, zal, i1]
    split
    · rename_i q
      by_cases qp : (if tn then ps.length - 1 - k else k) = p
      · have hn : i ∉ (zprun (zpa_ ps p).2 (asd p) (zpa_ ps p).1 tn (zal ps asd tn row k).2.1).2.2.2 := by
          intro w
          apply h
          have h2 : 8 * p + i ∈ (zal ps asd tn row (k + 1)).2.2.2.2 := by
            rw [zal, if_pos q]
            simp only [qp]
            exact List.mem_append.2 (Or.inr (List.mem_map.2 ⟨i, w, rfl⟩))
          have := al_in (ps := ps) (asd := asd) (tn := tn) (row := row) (ps.length - (k + 1)) (k + 1) _ h2
          rw [show k + 1 + (ps.length - (k + 1)) = ps.length by omega] at this
          exact this
        have e : zasd asd p i p = asd p ^^^ 2 ^ i := by unfold zasd zup; rw [if_pos rfl]
        simp only [qp]
        rw [e, prun_flip hb hn]
      · have e : zasd asd p i (if tn then ps.length - 1 - k else k) = asd (if tn then ps.length - 1 - k else k) := by unfold zasd zup; rw [if_neg qp]
        simp only [e]
    · rfl
theorem car_flip (hw : wPs ps) (hb : (asd p).testBit i = false) (hi : i < 8) (h : 8 * p + i ∉ (zcar ps asd tn row).2.2.2.2) : zcar ps (zasd asd p i) tn row = zcar ps asd tn row := al_flip hw hb hi h _ (Nat.le_refl _)
end
theorem oc_flip {L : Nat} {ps : List zPs} {asd : Nat → Nat} {p i k : Nat} (hw : wPs ps) (hb : (asd p).testBit i = false) (hi : i < 8) (h : (zsvl L ps asd k).contains (8 * p + i) = false) : zoc L ps (zasd asd p i) k = zoc L ps asd k := by
  unfold zoc
  rw [car_flip hw hb hi (fun w => by
    have := List.contains_iff_mem.2 w
    unfold zsvl at h
    rw [this] at h
    cases h)]
