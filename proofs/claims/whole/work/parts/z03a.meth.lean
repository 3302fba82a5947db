/-! METHODS: a run of the abstract machine from a method's entry gives its contract -/
/-- nothing is taken away -/
theorem zst_mono {α : Type} {rz : Bool} {E : Nat → zX α} {kr : Option Value → zM → Option α} {k : zK α} {res : α} {nE sE : Nat} (hkr : ∀ v S, kr v S = some res → zn S ≤ nE ∧ zs S ≤ sE)
    (hE : ∀ (i : Nat) (as : List Value) (S : zM) (k' : Option Value → zM → Option α), E i as S k' = some res → ∃ v S', k' v S' = some res ∧ zn S ≤ zn S' ∧ zs S ≤ zs S')
    {en : zE} {lv : zV} {st : List Value} {S : zM} (h : zst rz E en lv st S k kr = some res) (hk : ∀ pc lv st S, k pc lv st S = some res → zn S ≤ nE ∧ zs S ≤ sE) : zn S ≤ nE ∧ zs S ≤ sE := by
  obtain ⟨i, np, r1, r2, r3, v, w, ts⟩ := en
  have hmem : ∀ {S1 : zM} {o : Option zM} (hq : o = some S1) (ho : ∀ S1, o = some S1 → zn S1 = zn S ∧ zs S1 = zs S), zn S1 ≤ nE ∧ zs S1 ≤ sE → zn S ≤ nE ∧ zs S ≤ sE := by
    intro S1 o hq ho hz
    rw [← (ho S1 hq).1, ← (ho S1 hq).2]
    exact hz
  have hcall : ∀ {i : Nat} {as : List Value} {k' : Option Value → zM → Option α}, E i as S k' = some res → (∀ v S', k' v S' = some res → zn S' ≤ nE ∧ zs S' ≤ sE) → zn S ≤ nE ∧ zs S ≤ sE := by
    intro i as k' h1 h2
    obtain ⟨v, S', h3, h4, h5⟩ := hE _ _ _ _ h1
    have := h2 v S' h3
    exact ⟨Nat.le_trans h4 this.1, Nat.le_trans h5 this.2⟩
  cases i
  case ireturn =>
    simp only [zst] at h
    split at h
    · cases rz
      · exact hkr _ _ h
      · simp only [cond_true] at h
        split at h
        · exact hkr _ _ h
        · cases h
    · cases h
  case getfield =>
    simp only [zst] at h
    split at h
    · cases h2 : Nat.beq r3 2 <;> cases h3 : Nat.beq r3 3 <;> simp only [h2, h3, cond_true, cond_false] at h
      · obtain ⟨_, -, h⟩ := zbind h
        exact hk _ _ _ _ h
      · split at h
        · split at h <;> exact hk _ _ _ _ h
        · cases h
      · obtain ⟨_, -, h⟩ := zbind h
        exact hk _ _ _ _ h
      · obtain ⟨_, -, h⟩ := zbind h
        exact hk _ _ _ _ h
    · cases h
  case aaload =>
    simp only [zst] at h
    split at h
    · cases h2 : Nat.beq r3 2 <;> simp only [h2, cond_true, cond_false] at h
      · split at h
        · split at h <;> exact hk _ _ _ _ h
        · cases h
      · obtain ⟨_, -, h⟩ := zbind h
        exact hk _ _ _ _ h
    · cases h
  case putfield =>
    simp only [zst] at h
    split at h
    · cases h1 : Nat.beq r3 1 <;> cases h0 : Nat.beq r3 0 <;> simp only [h1, h0, cond_true, cond_false] at h
      · cases h
      · obtain ⟨_, hq, h⟩ := zbind h
        refine hmem hq (fun S1 hq => ?_) (hk _ _ _ _ h)
        unfold zpf at hq
        split at hq
        · cases hq; exact ⟨rfl, rfl⟩
        · cases hq
      · obtain ⟨_, hq, h⟩ := zbind h
        refine hmem hq (fun S1 hq => ?_) (hk _ _ _ _ h)
        unfold zpz at hq
        split at hq
        · cases hq; exact ⟨rfl, rfl⟩
        · cases hq
      · obtain ⟨_, hq, h⟩ := zbind h
        refine hmem hq (fun S1 hq => ?_) (hk _ _ _ _ h)
        unfold zpz at hq
        split at hq
        · cases hq; exact ⟨rfl, rfl⟩
        · cases hq
    · cases h1 : Nat.beq r3 2 <;> simp only [h1, cond_true, cond_false] at h
      · cases h
      · obtain ⟨_, hq, h⟩ := zbind h
        refine hmem hq (fun S1 hq => ?_) (hk _ _ _ _ h)
        unfold zpr at hq
        split at hq
        · cases hq; exact ⟨rfl, rfl⟩
        · cases hq
    · cases h1 : Nat.beq r3 2 <;> simp only [h1, cond_true, cond_false] at h
      · cases h
      · obtain ⟨_, hq, h⟩ := zbind h
        refine hmem hq (fun S1 hq => ?_) (hk _ _ _ _ h)
        unfold zpr at hq
        split at hq
        · cases hq; exact ⟨rfl, rfl⟩
        · cases hq
    · cases h
  case iastore =>
    simp only [zst] at h
    split at h
    · obtain ⟨_, hq, h⟩ := zbind h
      refine hmem hq (fun S1 hq => ?_) (hk _ _ _ _ h)
      unfold zpa at hq
      split at hq
      · cases hq; exact ⟨rfl, rfl⟩
      · cases hq
    · cases h
  case bastore =>
    simp only [zst] at h
    split at h
    · obtain ⟨_, hq, h⟩ := zbind h
      refine hmem hq (fun S1 hq => ?_) (hk _ _ _ _ h)
      unfold zpb at hq
      split at hq
      · cases hq; exact ⟨rfl, rfl⟩
      · cases hq
    · cases h
  case lastore =>
    simp only [zst] at h
    split at h
    · obtain ⟨_, hq, h⟩ := zbind h
      refine hmem hq (fun S1 hq => ?_) (hk _ _ _ _ h)
      unfold zpl at hq
      split at hq
      · cases hq; exact ⟨rfl, rfl⟩
      · cases hq
    · cases h
  case aastore =>
    simp only [zst] at h
    split at h
    · obtain ⟨_, hq, h⟩ := zbind h
      refine hmem hq (fun S1 hq => ?_) (hk _ _ _ _ h)
      unfold zpo at hq
      split at hq
      · cases hq; exact ⟨rfl, rfl⟩
      · cases hq
    · cases h
  case new =>
    simp only [zst] at h
    have := hk _ _ _ _ h
    have h1 : zn S + 1 ≤ nE := this.1
    have h2 : zs S + r2 ≤ sE := this.2
    exact ⟨by omega, by omega⟩
  case newarray =>
    simp only [zst] at h
    split at h
    · rename_i x r
      split at h
      · cases h
      · have := hk _ _ _ _ h
        have h1 : zn S + 1 ≤ nE := this.1
        have h2 : zs S + x.toNatClampNeg ≤ sE := this.2
        exact ⟨by omega, by omega⟩
    · cases h
  case anewarray =>
    simp only [zst] at h
    split at h
    · rename_i x r
      split at h
      · cases h
      · have := hk _ _ _ _ h
        have h1 : zn S + 1 ≤ nE := this.1
        have h2 : zs S + x.toNatClampNeg ≤ sE := this.2
        exact ⟨by omega, by omega⟩
    · cases h
  case invokevirtual =>
    simp only [zst] at h
    split at h
    · rename_i as r hp
      cases h8 : Nat.ble (zcats r) 8 <;> simp only [h8, cond_true, cond_false] at h
      · cases h
      · exact hcall h (fun v S' h => hk _ _ _ _ h)
    · cases h
  case invokespecial =>
    simp only [zst] at h
    cases hr : Nat.beq r1 999 <;> simp only [hr, cond_true, cond_false] at h
    · split at h
      · rename_i as r hp
        cases h8 : Nat.ble (zcats r) 8 <;> simp only [h8, cond_true, cond_false] at h
        · cases h
        · exact hcall h (fun v S' h => hk _ _ _ _ h)
      · cases h
    · split at h
      · rename_i a r
        cases h8 : Nat.ble (zcats r) 8 <;> simp only [h8, cond_true, cond_false] at h
        · cases h
        · exact hk _ _ _ _ h
      · cases h
  case invokestatic =>
    simp only [zst] at h
    cases hr : Nat.beq r1 998 <;> simp only [hr, cond_true, cond_false] at h
    · cases hr7 : Nat.beq r1 997 <;> simp only [hr7, cond_true, cond_false] at h
      · cases hr6 : Nat.beq r1 996 <;> simp only [hr6, cond_true, cond_false] at h
        · split at h
          · rename_i as r hp
            cases h8 : Nat.ble (zcats r) 8 <;> simp only [h8, cond_true, cond_false] at h
            · cases h
            · exact hcall h (fun v S' h => hk _ _ _ _ h)
          · cases h
        · split at h
          · rename_i y x r
            cases h8 : Nat.ble (zcats r) 8 <;> simp only [h8, cond_true, cond_false] at h
            · cases h
            · exact hk _ _ _ _ h
          · cases h
      · split at h
        · rename_i y x r
          cases h8 : Nat.ble (zcats r) 8 <;> simp only [h8, cond_true, cond_false] at h
          · cases h
          · exact hk _ _ _ _ h
        · cases h
    · split at h
      · rename_i n dp d sp s' r
        cases h8 : Nat.ble (zcats r) 8 <;> simp only [h8, cond_true, cond_false] at h
        · cases h
        · obtain ⟨_, hq, h⟩ := zbind h
          refine hmem hq (fun S1 hq => ?_) (hk _ _ _ _ h)
          unfold zcp at hq
          split at hq
          · cases hq; exact ⟨rfl, rfl⟩
          · cases hq
      · cases h
  case tableswitch =>
    simp only [zst] at h
    split at h
    · rename_i x r
      rcases ztab_spec ts h with ⟨i, q, g1, g2, g3⟩ | ⟨g1, g2⟩
      · exact hk _ _ _ _ g3
      · exact hk _ _ _ _ g2
    · cases h
  case ifCond c' f =>
    simp only [zst] at h
    split at h
    · cases c' <;> simp only [zbr] at h <;> split at h <;> exact hk _ _ _ _ h
    · cases h
  case if_icmp c' f =>
    simp only [zst] at h
    split at h
    · cases c' <;> simp only [zbr] at h <;> split at h <;> exact hk _ _ _ _ h
    · cases h
  case ldc =>
    simp only [zst] at h
    cases hr : Nat.beq r1 1 <;> simp only [hr, cond_true, cond_false] at h <;> exact hk _ _ _ _ h
  case arraylength =>
    simp only [zst] at h
    split at h
    · obtain ⟨_, hq, h⟩ := zbind h
      exact hk _ _ _ _ h
    · cases h
  case iaload =>
    simp only [zst] at h
    split at h
    · obtain ⟨_, hq, h⟩ := zbind h
      exact hk _ _ _ _ h
    · cases h
  case baload =>
    simp only [zst] at h
    split at h
    · obtain ⟨_, hq, h⟩ := zbind h
      exact hk _ _ _ _ h
    · cases h
  case laload =>
    simp only [zst] at h
    split at h
    · obtain ⟨_, hq, h⟩ := zbind h
      exact hk _ _ _ _ h
    · cases h
  all_goals (simp only [zst] at h)
  all_goals first
    | (cases h; done)
    | exact hk _ _ _ _ h
    | exact hkr _ _ h
    | (obtain ⟨_, _, _, -, h⟩ := zi2_spec h; exact hk _ _ _ _ h)
    | (obtain ⟨_, _, _, -, h⟩ := zl2_spec h; exact hk _ _ _ _ h)
    | (obtain ⟨_, _, _, -, h⟩ := zsh_spec h; exact hk _ _ _ _ h)
    | (split at h <;> first | exact hk _ _ _ _ h | exact hkr _ _ h | (cases h; done) | (split at h <;> first | exact hk _ _ _ _ h | (cases h; done)))
/-- from a place on, closed under runs of the abstract machine -/
def zCl {α : Type} (rz : Bool) (T : List (List (Nat × zE))) (E : Nat → zX α) (kr : Option Value → zM → Option α) (res : α) (g : zV → Nat → List Value → zM → Prop) : Prop :=
  ∀ (cut : Nat → Bool) (K : zK α) (f pc : Nat) (lv : zV) (st : List Value) (S : zM), zrt rz T E cut kr K f pc lv st S = some res → (∀ pc lv st S, K pc lv st S = some res → g lv pc st S) → g lv pc st S
def zle : zV → zV → Prop
  | [], _ => True
  | none :: r, [] => zle r []
  | none :: r, _ :: r' => zle r r'
  | some v :: r, u :: r' => u = some v ∧ zle r r'
  | some _ :: _, [] => False
theorem zle_get : ∀ (a b : zV), zle a b → ∀ (j : Nat) (v : Value), a[j]? = some (some v) → b[j]? = some (some v)
  | [], _, _, j, v, h => by simp at h
  | none :: r, u :: r', hl, 0, v, h => by simp at h
  | none :: r, u :: r', hl, j + 1, v, h => by simpa using zle_get r r' hl j v (by simpa using h)
  | some w :: r, u :: r', hl, 0, v, h => by
    simp only [List.getElem?_cons_zero, Option.some.injEq] at h
    rw [List.getElem?_cons_zero, hl.1, h]
  | some w :: r, u :: r', hl, j + 1, v, h => by simpa using zle_get r r' hl.2 j v (by simpa using h)
  | none :: r, [], hl, 0, v, h => by simp at h
  | none :: r, [], hl, j + 1, v, h => by
    have := zle_get r [] hl j v (by simpa using h)
    simp at this
  | some w :: r, [], hl, j, v, h => hl.elim
def zWk (g : zV → Nat → List Value → zM → Prop) : Prop := ∀ (lv lv' : zV) (pc : Nat) (st : List Value) (S : zM), zle lv' lv → g lv' pc st S → g lv pc st S
theorem zle_has {ad : Nat → Nat} {ls : Array Slot} {nL : Nat} {lv lv' : zV} (h : zle lv' lv) (hl : lv_has ls nL (zas ad 0 lv)) : lv_has ls nL (zas ad 0 lv') := by
  refine ⟨hl.1, hl.2.1, fun q hq => ?_⟩
  obtain ⟨k, v, h1, h2⟩ := (zas_mem _ _ _).mp hq
  exact hl.2.2 q ((zas_mem _ _ _).mpr ⟨k, v, zle_get _ _ h k v h1, h2⟩)
theorem zfind_mem : ∀ (l : List (Nat × zE)) (pc : Nat) (en : zE), zfind l pc = some en → (pc, en) ∈ l
  | [], pc, en, h => by cases h
  | q :: r, pc, en, h => by
    simp only [zfind] at h
    cases hb : Nat.beq pc q.1 with
    | true =>
      rw [hb, cond_true] at h
      cases h
      rw [Nat.eq_of_beq_eq_true hb]
      exact List.mem_cons_self
    | false =>
      rw [hb, cond_false] at h
      exact List.mem_cons_of_mem _ (zfind_mem r pc en h)
theorem znth_mem {α : Type} : ∀ (t : List (List α)) (n : Nat) (x : α), x ∈ znth t n → ∃ l ∈ t, x ∈ l
  | [], n, x, h => by simp [znth] at h
  | l :: r, 0, x, h => ⟨l, List.mem_cons_self, h⟩
  | l :: r, n + 1, x, h => by
    obtain ⟨l', h1, h2⟩ := znth_mem r n x h
    exact ⟨l', List.mem_cons_of_mem _ h1, h2⟩
/-- the program's rows are right -/
def zokT (o : Nat) (cs : List Nat) (ini : Bool) (fr lo nL : Nat) (rz : Bool) (rt : Option FieldType) (cc : ByteArray) (T : List (List (Nat × zE))) : Bool := T.all (fun l => l.all (fun q => zokB o cs ini fr lo nL rz rt cc q))
theorem zokT_at {o : Nat} {cs : List Nat} {ini : Bool} {fr lo nL : Nat} {rz : Bool} {rt : Option FieldType} {cc : ByteArray} {T : List (List (Nat × zE))} (h : zokT o cs ini fr lo nL rz rt cc T = true) {pc : Nat} {en : zE} (he : zprog T pc = some en) : zokB o cs ini fr lo nL rz rt cc (pc, en) = true := by
  obtain ⟨l, h1, h2⟩ := znth_mem T _ _ (zfind_mem _ _ _ he)
  exact List.all_eq_true.mp (List.all_eq_true.mp h l h1) _ h2
