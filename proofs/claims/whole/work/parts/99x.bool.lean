/-! booleans stay booleans: the reference's row newAgain while a script is read (written by genb.py) -/
def zBl (S : zM) : Prop := (zh S 417).1 = 102 ∧ ∀ j, zI S 417 j = 0 ∨ zI S 417 j = 1
def zBp {β : Type} (g : β → zM) (o : Option β) : Prop := ∀ r, o = some r → zBl (g r)
theorem bl_wI {S : zM} {a k : Nat} {v : Int32} (h : zBl S) (q : (zh S a).1 ≠ 102 ∨ v = 0 ∨ v = 1) : zBl (zwI S a k v) := ⟨h.1, fun j => by
  rw [mm_II]
  by_cases e : 417 = a ∧ j = k
  · rw [if_pos e]
    rcases q with q | q
    · rw [← e.1] at q; exact absurd h.1 q
    · exact q
  · rw [if_neg e]; exact h.2 j⟩
section
variable {β α : Type} {g : β → zM} {S : zM} {a k : Nat} {v i : Int32}
theorem bk_none : zBp g none := fun r h => by cases h
theorem bk_some {r : β} (h : zBl (g r)) : zBp g (some r) := fun r' e => by cases e; exact h
theorem bk_bind {o : Option α} {f : α → Option β} (h : ∀ x, zBp g (f x)) : zBp g (Option.bind o f) := by
  cases o with
  | none => exact bk_none
  | some x => exact h x
theorem bk_ite {c : Prop} {q : Decidable c} {x y : Option β} (h1 : zBp g x) (h2 : zBp g y) : zBp g (if c then x else y) := by
  split
  · exact h1
  · exact h2
theorem bk_pf {f : zM → Option β} (h : zBl S) (hf : ∀ S', zBl S' → zBp g (f S')) : zBp g (Option.bind (zpf S 12 a k v) f) := by
  unfold zpf
  split
  · rename_i q; exact hf _ (bl_wI h (Or.inl (by rw [q]; decide)))
  · exact bk_none
theorem bk_pz {f : zM → Option β} (h : zBl S) (hf : ∀ S', zBl S' → zBp g (f S')) : zBp g (Option.bind (zpz S 12 a k v) f) := by
  unfold zpz
  split
  · rename_i q; exact hf _ (bl_wI h (Or.inr q.2))
  · exact bk_none
theorem bk_pa {f : zM → Option β} (h : zBl S) (hf : ∀ S', zBl S' → zBp g (f S')) : zBp g (Option.bind (zpa S a i v) f) := by
  unfold zpa
  split
  · rename_i q; exact hf _ (bl_wI h (Or.inl (by rw [q.1]; decide)))
  · exact bk_none
theorem bk_pb {f : zM → Option β} (h : zBl S) (hf : ∀ S', zBl S' → zBp g (f S')) : zBp g (Option.bind (zpb S a i v) f) := by
  unfold zpb
  split
  · rename_i q; exact hf _ (bl_wI h (Or.inr q.2.1))
  · exact bk_none
theorem bk_pl {w : Int64} {f : zM → Option β} (h : zBl S) (hf : ∀ S', zBl S' → zBp g (f S')) : zBp g (Option.bind (zpl S a i w) f) := by
  unfold zpl
  split
  · exact hf _ h
  · exact bk_none
theorem bk_d1 {γ : Type} {o : Option (γ × zM)} {f : γ × zM → Option β} (h : zBp Prod.snd o) (hf : ∀ p, zBl p.2 → zBp g (f p)) : zBp g (Option.bind o f) := by
  cases o with
  | none => exact bk_none
  | some x => exact hf x (h x rfl)
theorem bk_d0 {o : Option zM} {f : zM → Option β} (h : zBp id o) (hf : ∀ p, zBl p → zBp g (f p)) : zBp g (Option.bind o f) := by
  cases o with
  | none => exact bk_none
  | some x => exact hf x (h x rfl)
theorem bk_c1 {γ : Type} {o : Option (γ × zM)} {f : γ × zM → Option β} (h : zBp Prod.snd o) (hf : ∀ p, zBl p.2 → zBp g (f p)) : zBp g (Option.bind (zcl S 12 a o) f) := by
  unfold zcl
  split
  · exact bk_d1 h hf
  · exact bk_none
theorem bk_c0 {o : Option zM} {f : zM → Option β} (h : zBp id o) (hf : ∀ p, zBl p → zBp g (f p)) : zBp g (Option.bind (zcl S 12 a o) f) := by
  unfold zcl
  split
  · exact bk_d0 h hf
  · exact bk_none
end
theorem bk_f_Mo_see   {a0 : Nat} {a1 : Int32} {S : zM} (h : zBl S) : zBp Prod.snd (f_Mo_see  a0 a1 S) := by
  unfold f_Mo_see
  repeat' (first | assumption | exact bk_none | with_reducible apply bk_some | with_reducible apply bk_pf | with_reducible apply bk_pz | with_reducible apply bk_pa | with_reducible apply bk_pb | with_reducible apply bk_pl | with_reducible apply bk_c1 | with_reducible apply bk_c0 | with_reducible apply bk_bind | with_reducible apply bk_ite | intro _)
theorem bk_L_Mo_goesOn_0 {k26 : Nat → zM → Option zM} (hk26 : ∀ (b0 : Nat) (S : zM), zBl S → zBp id (k26 b0 S)) : ∀ (n : Nat) (b0 : Nat) (S : zM), zBl S → zBp id (L_Mo_goesOn_0 k26 n b0 S) := by
  intro n
  induction n with
  | zero => intros; exact bk_none
  | succ n ih =>
    intro b0 S h
    rw [L_Mo_goesOn_0]
    repeat' (first | assumption | exact bk_none | with_reducible apply bk_some | with_reducible apply hk26 | with_reducible apply ih | with_reducible apply bk_f_Mo_see | with_reducible apply bk_pf | with_reducible apply bk_pz | with_reducible apply bk_pa | with_reducible apply bk_pb | with_reducible apply bk_pl | with_reducible apply bk_c1 | with_reducible apply bk_c0 | with_reducible apply bk_bind | with_reducible apply bk_ite | intro _)
theorem bk_f_Mo_in   {a0 : Int32} {a1 : Int32} {a2 : Int32} {S : zM} (h : zBl S) : zBp Prod.snd (f_Mo_in  a0 a1 a2 S) := by
  unfold f_Mo_in
  repeat' (first | assumption | exact bk_none | with_reducible apply bk_some | with_reducible apply bk_pf | with_reducible apply bk_pz | with_reducible apply bk_pa | with_reducible apply bk_pb | with_reducible apply bk_pl | with_reducible apply bk_c1 | with_reducible apply bk_c0 | with_reducible apply bk_bind | with_reducible apply bk_ite | intro _)
theorem bk_F_Mo_goesOn_26 {k65 : Nat → zM → Option zM} {k136 : Nat → zM → Option zM} (hk65 : ∀ (b0 : Nat) (S : zM), zBl S → zBp id (k65 b0 S)) (hk136 : ∀ (b0 : Nat) (S : zM), zBl S → zBp id (k136 b0 S)) {a0 : Nat} {S : zM} (h : zBl S) : zBp id (F_Mo_goesOn_26 k65 k136 a0 S) := by
  unfold F_Mo_goesOn_26
  repeat' (first | assumption | exact bk_none | with_reducible apply bk_some | with_reducible apply hk65 | with_reducible apply hk136 | with_reducible apply bk_f_Mo_see | with_reducible apply bk_f_Mo_in | with_reducible apply bk_pf | with_reducible apply bk_pz | with_reducible apply bk_pa | with_reducible apply bk_pb | with_reducible apply bk_pl | with_reducible apply bk_c1 | with_reducible apply bk_c0 | (with_reducible apply bk_d1; (first | (with_reducible apply bk_f_Mo_in; assumption))) | with_reducible apply bk_bind | with_reducible apply bk_ite | intro _)
theorem bk_L_Mo_goesOn_65 {k96 : Nat → zM → Option zM} (hk96 : ∀ (b0 : Nat) (S : zM), zBl S → zBp id (k96 b0 S)) : ∀ (n : Nat) (b0 : Nat) (S : zM), zBl S → zBp id (L_Mo_goesOn_65 k96 n b0 S) := by
  intro n
  induction n with
  | zero => intros; exact bk_none
  | succ n ih =>
    intro b0 S h
    rw [L_Mo_goesOn_65]
    repeat' (first | assumption | exact bk_none | with_reducible apply bk_some | with_reducible apply hk96 | with_reducible apply ih | with_reducible apply bk_f_Mo_see | with_reducible apply bk_f_Mo_in | with_reducible apply bk_pf | with_reducible apply bk_pz | with_reducible apply bk_pa | with_reducible apply bk_pb | with_reducible apply bk_pl | with_reducible apply bk_c1 | with_reducible apply bk_c0 | (with_reducible apply bk_d1; (first | (with_reducible apply bk_f_Mo_in; assumption))) | with_reducible apply bk_bind | with_reducible apply bk_ite | intro _)
theorem bk_F_Mo_goesOn_96   {a0 : Nat} {S : zM} (h : zBl S) : zBp id (F_Mo_goesOn_96  a0 S) := by
  unfold F_Mo_goesOn_96
  repeat' (first | assumption | exact bk_none | with_reducible apply bk_some | with_reducible apply bk_pf | with_reducible apply bk_pz | with_reducible apply bk_pa | with_reducible apply bk_pb | with_reducible apply bk_pl | with_reducible apply bk_c1 | with_reducible apply bk_c0 | with_reducible apply bk_bind | with_reducible apply bk_ite | intro _)
theorem bk_L_Mo_goesOn_136 {k200 : Nat → zM → Option zM} (hk200 : ∀ (b0 : Nat) (S : zM), zBl S → zBp id (k200 b0 S)) : ∀ (n : Nat) (b0 : Nat) (S : zM), zBl S → zBp id (L_Mo_goesOn_136 k200 n b0 S) := by
  intro n
  induction n with
  | zero => intros; exact bk_none
  | succ n ih =>
    intro b0 S h
    rw [L_Mo_goesOn_136]
    repeat' (first | assumption | exact bk_none | with_reducible apply bk_some | with_reducible apply hk200 | with_reducible apply ih | with_reducible apply bk_f_Mo_see | with_reducible apply bk_f_Mo_in | with_reducible apply bk_pf | with_reducible apply bk_pz | with_reducible apply bk_pa | with_reducible apply bk_pb | with_reducible apply bk_pl | with_reducible apply bk_c1 | with_reducible apply bk_c0 | (with_reducible apply bk_d1; (first | (with_reducible apply bk_f_Mo_in; assumption))) | with_reducible apply bk_bind | with_reducible apply bk_ite | intro _)
theorem bk_F_Mo_goesOn_200   {a0 : Nat} {S : zM} (h : zBl S) : zBp id (F_Mo_goesOn_200  a0 S) := by
  unfold F_Mo_goesOn_200
  repeat' (first | assumption | exact bk_none | with_reducible apply bk_some | with_reducible apply bk_pf | with_reducible apply bk_pz | with_reducible apply bk_pa | with_reducible apply bk_pb | with_reducible apply bk_pl | with_reducible apply bk_c1 | with_reducible apply bk_c0 | with_reducible apply bk_bind | with_reducible apply bk_ite | intro _)
theorem bk_f_Mo_goesOn   {a0 : Nat} {S : zM} (h : zBl S) : zBp id (f_Mo_goesOn  a0 S) := by
  unfold f_Mo_goesOn
  repeat' (first | assumption | exact bk_none | with_reducible apply bk_some | with_reducible apply bk_L_Mo_goesOn_0 | with_reducible apply bk_F_Mo_goesOn_26 | with_reducible apply bk_L_Mo_goesOn_65 | with_reducible apply bk_F_Mo_goesOn_96 | with_reducible apply bk_L_Mo_goesOn_136 | with_reducible apply bk_F_Mo_goesOn_200 | with_reducible apply bk_pf | with_reducible apply bk_pz | with_reducible apply bk_pa | with_reducible apply bk_pb | with_reducible apply bk_pl | with_reducible apply bk_c1 | with_reducible apply bk_c0 | with_reducible apply bk_bind | with_reducible apply bk_ite | intro _)
theorem bk_f_J_length   {a0 : Nat} {S : zM} (h : zBl S) : zBp Prod.snd (f_J_length  a0 S) := by
  unfold f_J_length
  repeat' (first | assumption | exact bk_none | with_reducible apply bk_some | with_reducible apply bk_pf | with_reducible apply bk_pz | with_reducible apply bk_pa | with_reducible apply bk_pb | with_reducible apply bk_pl | with_reducible apply bk_c1 | with_reducible apply bk_c0 | with_reducible apply bk_bind | with_reducible apply bk_ite | intro _)
theorem bk_f_J_charAt   {a0 : Nat} {a1 : Int32} {S : zM} (h : zBl S) : zBp Prod.snd (f_J_charAt  a0 a1 S) := by
  unfold f_J_charAt
  repeat' (first | assumption | exact bk_none | with_reducible apply bk_some | with_reducible apply bk_pf | with_reducible apply bk_pz | with_reducible apply bk_pa | with_reducible apply bk_pb | with_reducible apply bk_pl | with_reducible apply bk_c1 | with_reducible apply bk_c0 | with_reducible apply bk_bind | with_reducible apply bk_ite | intro _)
theorem bk_L_Mo_isWord_28   : ∀ (n : Nat) (b0 : Nat) (b1 : Nat) (b2 : Int32) (S : zM), zBl S → zBp Prod.snd (L_Mo_isWord_28  n b0 b1 b2 S) := by
  intro n
  induction n with
  | zero => intros; exact bk_none
  | succ n ih =>
    intro b0 b1 b2 S h
    rw [L_Mo_isWord_28]
    repeat' (first | assumption | exact bk_none | with_reducible apply bk_some | with_reducible apply ih | with_reducible apply bk_f_J_length | with_reducible apply bk_f_J_charAt | with_reducible apply bk_pf | with_reducible apply bk_pz | with_reducible apply bk_pa | with_reducible apply bk_pb | with_reducible apply bk_pl | with_reducible apply bk_c1 | with_reducible apply bk_c0 | (with_reducible apply bk_d1; (first | (with_reducible apply bk_f_J_length; assumption) | (with_reducible apply bk_f_J_charAt; assumption))) | with_reducible apply bk_bind | with_reducible apply bk_ite | intro _)
theorem bk_f_Mo_isWord   {a0 : Nat} {a1 : Nat} {S : zM} (h : zBl S) : zBp Prod.snd (f_Mo_isWord  a0 a1 S) := by
  unfold f_Mo_isWord
  repeat' (first | assumption | exact bk_none | with_reducible apply bk_some | with_reducible apply bk_f_J_length | with_reducible apply bk_L_Mo_isWord_28 | with_reducible apply bk_pf | with_reducible apply bk_pz | with_reducible apply bk_pa | with_reducible apply bk_pb | with_reducible apply bk_pl | with_reducible apply bk_c1 | with_reducible apply bk_c0 | (with_reducible apply bk_d1; (first | (with_reducible apply bk_f_J_length; assumption))) | with_reducible apply bk_bind | with_reducible apply bk_ite | intro _)
theorem bk_f_Mo_errs   {a0 : Nat} {a1 : Int32} {S : zM} (h : zBl S) : zBp Prod.snd (f_Mo_errs  a0 a1 S) := by
  unfold f_Mo_errs
  repeat' (first | assumption | exact bk_none | with_reducible apply bk_some | with_reducible apply bk_pf | with_reducible apply bk_pz | with_reducible apply bk_pa | with_reducible apply bk_pb | with_reducible apply bk_pl | with_reducible apply bk_c1 | with_reducible apply bk_c0 | with_reducible apply bk_bind | with_reducible apply bk_ite | intro _)
theorem bk_f_Mo_hasScript   {a0 : Nat} {S : zM} (h : zBl S) : zBp Prod.snd (f_Mo_hasScript  a0 S) := by
  unfold f_Mo_hasScript
  repeat' (first | assumption | exact bk_none | with_reducible apply bk_some | with_reducible apply bk_pf | with_reducible apply bk_pz | with_reducible apply bk_pa | with_reducible apply bk_pb | with_reducible apply bk_pl | with_reducible apply bk_c1 | with_reducible apply bk_c0 | with_reducible apply bk_bind | with_reducible apply bk_ite | intro _)
theorem bk_L_Mo_areLetters_28   : ∀ (n : Nat) (b0 : Nat) (b1 : Int32) (S : zM), zBl S → zBp Prod.snd (L_Mo_areLetters_28  n b0 b1 S) := by
  intro n
  induction n with
  | zero => intros; exact bk_none
  | succ n ih =>
    intro b0 b1 S h
    rw [L_Mo_areLetters_28]
    repeat' (first | assumption | exact bk_none | with_reducible apply bk_some | with_reducible apply ih | with_reducible apply bk_pf | with_reducible apply bk_pz | with_reducible apply bk_pa | with_reducible apply bk_pb | with_reducible apply bk_pl | with_reducible apply bk_c1 | with_reducible apply bk_c0 | with_reducible apply bk_bind | with_reducible apply bk_ite | intro _)
theorem bk_f_Mo_areLetters   {a0 : Nat} {a1 : Int32} {S : zM} (h : zBl S) : zBp Prod.snd (f_Mo_areLetters  a0 a1 S) := by
  unfold f_Mo_areLetters
  repeat' (first | assumption | exact bk_none | with_reducible apply bk_some | with_reducible apply bk_L_Mo_areLetters_28 | with_reducible apply bk_pf | with_reducible apply bk_pz | with_reducible apply bk_pa | with_reducible apply bk_pb | with_reducible apply bk_pl | with_reducible apply bk_c1 | with_reducible apply bk_c0 | with_reducible apply bk_bind | with_reducible apply bk_ite | intro _)
theorem bk_L_Mo_readLetters_38   : ∀ (n : Nat) (b0 : Nat) (b1 : Int32) (b2 : Int32) (b3 : Int32) (S : zM), zBl S → zBp Prod.snd (L_Mo_readLetters_38  n b0 b1 b2 b3 S) := by
  intro n
  induction n with
  | zero => intros; exact bk_none
  | succ n ih =>
    intro b0 b1 b2 b3 S h
    rw [L_Mo_readLetters_38]
    repeat' (first | assumption | exact bk_none | with_reducible apply bk_some | with_reducible apply ih | with_reducible apply bk_f_Mo_goesOn | with_reducible apply bk_pf | with_reducible apply bk_pz | with_reducible apply bk_pa | with_reducible apply bk_pb | with_reducible apply bk_pl | with_reducible apply bk_c1 | with_reducible apply bk_c0 | with_reducible apply bk_bind | with_reducible apply bk_ite | intro _)
theorem bk_f_Mo_readLetters   {a0 : Nat} {a1 : Int32} {a2 : Int32} {a3 : Int32} {a4 : Int32} {S : zM} (h : zBl S) : zBp Prod.snd (f_Mo_readLetters  a0 a1 a2 a3 a4 S) := by
  unfold f_Mo_readLetters
  repeat' (first | assumption | exact bk_none | with_reducible apply bk_some | with_reducible apply bk_f_Mo_areLetters | with_reducible apply bk_f_Mo_errs | with_reducible apply bk_L_Mo_readLetters_38 | with_reducible apply bk_pf | with_reducible apply bk_pz | with_reducible apply bk_pa | with_reducible apply bk_pb | with_reducible apply bk_pl | with_reducible apply bk_c1 | with_reducible apply bk_c0 | with_reducible apply bk_bind | with_reducible apply bk_ite | intro _)
theorem bk_f_Mo_needs   {a0 : Nat} {a1 : Nat} {S : zM} (h : zBl S) : zBp Prod.snd (f_Mo_needs  a0 a1 S) := by
  unfold f_Mo_needs
  repeat' (first | assumption | exact bk_none | with_reducible apply bk_some | with_reducible apply bk_f_Mo_isWord | with_reducible apply bk_f_Mo_errs | with_reducible apply bk_f_Mo_goesOn | with_reducible apply bk_pf | with_reducible apply bk_pz | with_reducible apply bk_pa | with_reducible apply bk_pb | with_reducible apply bk_pl | with_reducible apply bk_c1 | with_reducible apply bk_c0 | with_reducible apply bk_bind | with_reducible apply bk_ite | intro _)
theorem bk_f_Mo_isKeyword   {a0 : Nat} {S : zM} (h : zBl S) : zBp Prod.snd (f_Mo_isKeyword  a0 S) := by
  unfold f_Mo_isKeyword
  repeat' (first | assumption | exact bk_none | with_reducible apply bk_some | with_reducible apply bk_f_Mo_isWord | with_reducible apply bk_pf | with_reducible apply bk_pz | with_reducible apply bk_pa | with_reducible apply bk_pb | with_reducible apply bk_pl | with_reducible apply bk_c1 | with_reducible apply bk_c0 | with_reducible apply bk_bind | with_reducible apply bk_ite | intro _)
theorem bk_L_Mo_spelt_7   : ∀ (n : Nat) (b0 : Nat) (b1 : Int64) (b2 : Int32) (S : zM), zBl S → zBp Prod.snd (L_Mo_spelt_7  n b0 b1 b2 S) := by
  intro n
  induction n with
  | zero => intros; exact bk_none
  | succ n ih =>
    intro b0 b1 b2 S h
    rw [L_Mo_spelt_7]
    repeat' (first | assumption | exact bk_none | with_reducible apply bk_some | with_reducible apply ih | with_reducible apply bk_pf | with_reducible apply bk_pz | with_reducible apply bk_pa | with_reducible apply bk_pb | with_reducible apply bk_pl | with_reducible apply bk_c1 | with_reducible apply bk_c0 | with_reducible apply bk_bind | with_reducible apply bk_ite | intro _)
theorem bk_f_Mo_spelt   {a0 : Nat} {S : zM} (h : zBl S) : zBp Prod.snd (f_Mo_spelt  a0 S) := by
  unfold f_Mo_spelt
  repeat' (first | assumption | exact bk_none | with_reducible apply bk_some | with_reducible apply bk_L_Mo_spelt_7 | with_reducible apply bk_pf | with_reducible apply bk_pz | with_reducible apply bk_pa | with_reducible apply bk_pb | with_reducible apply bk_pl | with_reducible apply bk_c1 | with_reducible apply bk_c0 | with_reducible apply bk_bind | with_reducible apply bk_ite | intro _)
theorem bk_L_Mo_kindHere_2   : ∀ (n : Nat) (b0 : Nat) (b1 : Int32) (S : zM), zBl S → zBp Prod.snd (L_Mo_kindHere_2  n b0 b1 S) := by
  intro n
  induction n with
  | zero => intros; exact bk_none
  | succ n ih =>
    intro b0 b1 S h
    rw [L_Mo_kindHere_2]
    repeat' (first | assumption | exact bk_none | with_reducible apply bk_some | with_reducible apply ih | with_reducible apply bk_f_Mo_spelt | with_reducible apply bk_pf | with_reducible apply bk_pz | with_reducible apply bk_pa | with_reducible apply bk_pb | with_reducible apply bk_pl | with_reducible apply bk_c1 | with_reducible apply bk_c0 | with_reducible apply bk_bind | with_reducible apply bk_ite | intro _)
theorem bk_f_Mo_kindHere   {a0 : Nat} {S : zM} (h : zBl S) : zBp Prod.snd (f_Mo_kindHere  a0 S) := by
  unfold f_Mo_kindHere
  repeat' (first | assumption | exact bk_none | with_reducible apply bk_some | with_reducible apply bk_L_Mo_kindHere_2 | with_reducible apply bk_pf | with_reducible apply bk_pz | with_reducible apply bk_pa | with_reducible apply bk_pb | with_reducible apply bk_pl | with_reducible apply bk_c1 | with_reducible apply bk_c0 | with_reducible apply bk_bind | with_reducible apply bk_ite | intro _)
theorem bk_f_Mo_readSide   {a0 : Nat} {S : zM} (h : zBl S) : zBp Prod.snd (f_Mo_readSide  a0 S) := by
  unfold f_Mo_readSide
  repeat' (first | assumption | exact bk_none | with_reducible apply bk_some | with_reducible apply bk_f_Mo_areLetters | with_reducible apply bk_f_Mo_errs | with_reducible apply bk_f_Mo_goesOn | with_reducible apply bk_f_Mo_isWord | with_reducible apply bk_f_Mo_isKeyword | with_reducible apply bk_f_Mo_kindHere | with_reducible apply bk_pf | with_reducible apply bk_pz | with_reducible apply bk_pa | with_reducible apply bk_pb | with_reducible apply bk_pl | with_reducible apply bk_c1 | with_reducible apply bk_c0 | with_reducible apply bk_bind | with_reducible apply bk_ite | intro _)
theorem bk_f_Mo_readRule   {a0 : Nat} {S : zM} (h : zBl S) : zBp Prod.snd (f_Mo_readRule  a0 S) := by
  unfold f_Mo_readRule
  repeat' (first | assumption | exact bk_none | with_reducible apply bk_some | with_reducible apply bk_f_Mo_hasScript | with_reducible apply bk_f_Mo_errs | with_reducible apply bk_f_Mo_goesOn | with_reducible apply bk_f_Mo_isWord | with_reducible apply bk_f_Mo_readLetters | with_reducible apply bk_f_Mo_needs | with_reducible apply bk_f_Mo_readSide | with_reducible apply bk_pf | with_reducible apply bk_pz | with_reducible apply bk_pa | with_reducible apply bk_pb | with_reducible apply bk_pl | with_reducible apply bk_c1 | with_reducible apply bk_c0 | with_reducible apply bk_bind | with_reducible apply bk_ite | intro _)
theorem bk_f_Mo_readPass   {a0 : Nat} {S : zM} (h : zBl S) : zBp Prod.snd (f_Mo_readPass  a0 S) := by
  unfold f_Mo_readPass
  repeat' (first | assumption | exact bk_none | with_reducible apply bk_some | with_reducible apply bk_f_Mo_errs | with_reducible apply bk_f_Mo_hasScript | with_reducible apply bk_f_Mo_goesOn | with_reducible apply bk_f_Mo_isWord | with_reducible apply bk_pf | with_reducible apply bk_pz | with_reducible apply bk_pa | with_reducible apply bk_pb | with_reducible apply bk_pl | with_reducible apply bk_c1 | with_reducible apply bk_c0 | with_reducible apply bk_bind | with_reducible apply bk_ite | intro _)
theorem bk_L_Mo_readKind_130 {k172 : Nat → Int32 → zM → Option (Int32 × zM)} (hk172 : ∀ (b0 : Nat) (b1 : Int32) (S : zM), zBl S → zBp Prod.snd (k172 b0 b1 S)) : ∀ (n : Nat) (b0 : Nat) (b1 : Int32) (b2 : Int32) (S : zM), zBl S → zBp Prod.snd (L_Mo_readKind_130 k172 n b0 b1 b2 S) := by
  intro n
  induction n with
  | zero => intros; exact bk_none
  | succ n ih =>
    intro b0 b1 b2 S h
    rw [L_Mo_readKind_130]
    repeat' (first | assumption | exact bk_none | with_reducible apply bk_some | with_reducible apply hk172 | with_reducible apply ih | with_reducible apply bk_f_Mo_errs | with_reducible apply bk_pf | with_reducible apply bk_pz | with_reducible apply bk_pa | with_reducible apply bk_pb | with_reducible apply bk_pl | with_reducible apply bk_c1 | with_reducible apply bk_c0 | with_reducible apply bk_bind | with_reducible apply bk_ite | intro _)
theorem bk_F_Mo_readKind_172   {a0 : Nat} {a1 : Int32} {S : zM} (h : zBl S) : zBp Prod.snd (F_Mo_readKind_172  a0 a1 S) := by
  unfold F_Mo_readKind_172
  repeat' (first | assumption | exact bk_none | with_reducible apply bk_some | with_reducible apply bk_f_Mo_goesOn | with_reducible apply bk_pf | with_reducible apply bk_pz | with_reducible apply bk_pa | with_reducible apply bk_pb | with_reducible apply bk_pl | with_reducible apply bk_c1 | with_reducible apply bk_c0 | with_reducible apply bk_bind | with_reducible apply bk_ite | intro _)
theorem bk_f_Mo_readKind   {a0 : Nat} {S : zM} (h : zBl S) : zBp Prod.snd (f_Mo_readKind  a0 S) := by
  unfold f_Mo_readKind
  repeat' (first | assumption | exact bk_none | with_reducible apply bk_some | with_reducible apply bk_f_Mo_errs | with_reducible apply bk_f_Mo_hasScript | with_reducible apply bk_f_Mo_goesOn | with_reducible apply bk_f_Mo_isKeyword | with_reducible apply bk_f_Mo_kindHere | with_reducible apply bk_f_Mo_spelt | with_reducible apply bk_f_Mo_needs | with_reducible apply bk_f_Mo_areLetters | with_reducible apply bk_L_Mo_readKind_130 | with_reducible apply bk_F_Mo_readKind_172 | with_reducible apply bk_pf | with_reducible apply bk_pz | with_reducible apply bk_pa | with_reducible apply bk_pb | with_reducible apply bk_pl | with_reducible apply bk_c1 | with_reducible apply bk_c0 | with_reducible apply bk_bind | with_reducible apply bk_ite | intro _)
theorem bk_f_Mo_readScript   {a0 : Nat} {S : zM} (h : zBl S) : zBp Prod.snd (f_Mo_readScript  a0 S) := by
  unfold f_Mo_readScript
  repeat' (first | assumption | exact bk_none | with_reducible apply bk_some | with_reducible apply bk_f_Mo_hasScript | with_reducible apply bk_f_Mo_goesOn | with_reducible apply bk_f_Mo_needs | with_reducible apply bk_f_Mo_in | with_reducible apply bk_f_Mo_errs | with_reducible apply bk_pf | with_reducible apply bk_pz | with_reducible apply bk_pa | with_reducible apply bk_pb | with_reducible apply bk_pl | with_reducible apply bk_c1 | with_reducible apply bk_c0 | (with_reducible apply bk_d1; (first | (with_reducible apply bk_f_Mo_in; assumption))) | with_reducible apply bk_bind | with_reducible apply bk_ite | intro _)
theorem bk_f_Mo_readLine   {a0 : Nat} {S : zM} (h : zBl S) : zBp Prod.snd (f_Mo_readLine  a0 S) := by
  unfold f_Mo_readLine
  repeat' (first | assumption | exact bk_none | with_reducible apply bk_some | with_reducible apply bk_f_Mo_isWord | with_reducible apply bk_f_Mo_errs | with_reducible apply bk_f_Mo_readRule | with_reducible apply bk_f_Mo_readPass | with_reducible apply bk_f_Mo_readKind | with_reducible apply bk_f_Mo_readScript | with_reducible apply bk_pf | with_reducible apply bk_pz | with_reducible apply bk_pa | with_reducible apply bk_pb | with_reducible apply bk_pl | with_reducible apply bk_c1 | with_reducible apply bk_c0 | with_reducible apply bk_bind | with_reducible apply bk_ite | intro _)
theorem bk_L_Mo_readAll_38 {k60 : Nat → zM → Option (Int32 × zM)} (hk60 : ∀ (b0 : Nat) (S : zM), zBl S → zBp Prod.snd (k60 b0 S)) : ∀ (n : Nat) (b0 : Nat) (S : zM), zBl S → zBp Prod.snd (L_Mo_readAll_38 k60 n b0 S) := by
  intro n
  induction n with
  | zero => intros; exact bk_none
  | succ n ih =>
    intro b0 S h
    rw [L_Mo_readAll_38]
    repeat' (first | assumption | exact bk_none | with_reducible apply bk_some | with_reducible apply hk60 | with_reducible apply ih | with_reducible apply bk_f_Mo_goesOn | with_reducible apply bk_f_Mo_readLine | with_reducible apply bk_pf | with_reducible apply bk_pz | with_reducible apply bk_pa | with_reducible apply bk_pb | with_reducible apply bk_pl | with_reducible apply bk_c1 | with_reducible apply bk_c0 | with_reducible apply bk_bind | with_reducible apply bk_ite | intro _)
theorem bk_F_Mo_readAll_60 {k75 : Nat → Int32 → zM → Option (Int32 × zM)} (hk75 : ∀ (b0 : Nat) (b1 : Int32) (S : zM), zBl S → zBp Prod.snd (k75 b0 b1 S)) {a0 : Nat} {S : zM} (h : zBl S) : zBp Prod.snd (F_Mo_readAll_60 k75 a0 S) := by
  unfold F_Mo_readAll_60
  repeat' (first | assumption | exact bk_none | with_reducible apply bk_some | with_reducible apply hk75 | with_reducible apply bk_f_Mo_errs | with_reducible apply bk_pf | with_reducible apply bk_pz | with_reducible apply bk_pa | with_reducible apply bk_pb | with_reducible apply bk_pl | with_reducible apply bk_c1 | with_reducible apply bk_c0 | with_reducible apply bk_bind | with_reducible apply bk_ite | intro _)
theorem bk_L_Mo_readAll_75   : ∀ (n : Nat) (b0 : Nat) (b1 : Int32) (S : zM), zBl S → zBp Prod.snd (L_Mo_readAll_75  n b0 b1 S) := by
  intro n
  induction n with
  | zero => intros; exact bk_none
  | succ n ih =>
    intro b0 b1 S h
    rw [L_Mo_readAll_75]
    repeat' (first | assumption | exact bk_none | with_reducible apply bk_some | with_reducible apply ih | with_reducible apply bk_f_Mo_errs | with_reducible apply bk_pf | with_reducible apply bk_pz | with_reducible apply bk_pa | with_reducible apply bk_pb | with_reducible apply bk_pl | with_reducible apply bk_c1 | with_reducible apply bk_c0 | with_reducible apply bk_bind | with_reducible apply bk_ite | intro _)
theorem bk_f_Mo_readAll   {a0 : Nat} {a1 : Int32} {S : zM} (h : zBl S) : zBp Prod.snd (f_Mo_readAll  a0 a1 S) := by
  unfold f_Mo_readAll
  repeat' (first | assumption | exact bk_none | with_reducible apply bk_some | with_reducible apply bk_f_Mo_goesOn | with_reducible apply bk_f_Mo_readLine | with_reducible apply bk_L_Mo_readAll_38 | with_reducible apply bk_F_Mo_readAll_60 | with_reducible apply bk_L_Mo_readAll_75 | with_reducible apply bk_pf | with_reducible apply bk_pz | with_reducible apply bk_pa | with_reducible apply bk_pb | with_reducible apply bk_pl | with_reducible apply bk_c1 | with_reducible apply bk_c0 | with_reducible apply bk_bind | with_reducible apply bk_ite | intro _)
