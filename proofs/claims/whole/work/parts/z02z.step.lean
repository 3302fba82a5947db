/-! ONE STEP of the abstract machine is one step of the machine -/
/-- where the machine stands, at a place of a method, in a memory -/
def yzGo (p : Program) (l : Launch) (e : Env) (R : Room) (s : State) (m : MethodId) (args : Array Value) (below : List Frame) (meth : Method) (c : Code) (nL : Nat) (HB : Heap) (b L : Nat) (xs : Nat → Int32) (aK : Nat → Nat) (G : va_G) (tc : Nat → ClassId) (n0 s0 nE sE : Nat) (Q : State → Prop) (pc : Nat) (lv : zV) (st : List Value) (S : zM) : Prop :=
  (zn S ≤ nE ∧ zs S ≤ sE) ∧ (n0 ≤ zn S → s0 ≤ zs S → ∀ (H : Heap) (ls : Array Slot) (locs : List Loc), zRH HB b L xs aK G tc S H → (∀ q ∈ locs, HB.size ≤ q.base) → lv_has ls nL (zas (zad HB b aK) 0 lv) → W p l e R s m args below meth c H locs (zn S - n0) (zs S - s0) Q (F0 m pc ls (st.map (yzcv (zad HB b aK)))))
/-- what holds while a method goes -/
def zFx (p : Program) (R : Room) (s : State) (m : MethodId) (args : Array Value) (meth : Method) (c : Code) (cc : ByteArray) (nL : Nat) (HB : Heap) (b L : Nat) (xs : Nat → Int32) (aK aV : Nat → Nat) (G : va_G) (tc : Nat → ClassId) (o : Nat) (ini : Bool) (fr lo n0 s0 nE sE : Nat) : Prop :=
  CallFix p m c cc nL s args zTs (zow.getD o "") ∧ zKS HB b L xs aK aV G tc s ∧ (ini = true → meth.name = "<init>") ∧ fr ≤ R.frames ∧ lo ≤ R.locals ∧ nE - n0 ≤ R.cells ∧ sE - s0 ≤ R.slots ∧ nE < 900000
/-- the ends -/
def zrv (rz : Bool) (i : Instr) (u : List Value) (v : Option Value) : Prop :=
  (i = .ireturn ∧ ∃ x : Int32, u = [.int x] ∧ v = some (.int x) ∧ (rz = true → x = 0 ∨ x = 1)) ∨ (i = .lreturn ∧ ∃ x : Int64, u = [.long x] ∧ v = some (.long x)) ∨ (i = .areturn ∧ ((∃ x : Nat, u = [.ref x] ∧ v = some (.ref x)) ∨ (u = [.null] ∧ v = some .null))) ∨ (i = .return_ ∧ u = [] ∧ v = none)
def zRet {α : Type} (p : Program) (l : Launch) (e : Env) (R : Room) (s : State) (m : MethodId) (args : Array Value) (below : List Frame) (meth : Method) (c : Code) (cc : ByteArray) (nL : Nat) (HB : Heap) (b L : Nat) (xs : Nat → Int32) (aK : Nat → Nat) (G : va_G) (tc : Nat → ClassId) (n0 s0 nE sE : Nat) (Q : State → Prop) (rz : Bool) (rt : Option FieldType) (kr : Option Value → zM → Option α) (res : α) : Prop :=
  ∀ (i : Instr) (u : List Value) (v : Option Value) (S : zM) (pc : Nat), decode cc pc = .ok (i, 1) → zrv rz i u v → ((i = .ireturn → rt = (bif rz then some .boolean else some .int)) ∧ (i = .lreturn → rt = some .long) ∧ (i = .areturn → ∃ n, rt = some (.object n)) ∧ (i = .return_ → rt = none)) → kr v S = some res → (zn S ≤ nE ∧ zs S ≤ sE) ∧
    (n0 ≤ zn S → s0 ≤ zs S → ∀ (H : Heap) (ls : Array Slot) (locs : List Loc), zRH HB b L xs aK G tc S H → (∀ q ∈ locs, HB.size ≤ q.base) → W p l e R s m args below meth c H locs (zn S - n0) (zs S - s0) Q (F0 m pc ls (u.map (yzcv (zad HB b aK)))))
theorem zi2_spec {α : Type} {f : Int32 → Int32 → Int32} {st : List Value} {k : List Value → Option α} {res : α} (h : zi2 f st k = some res) : ∃ x y r, st = .int y :: .int x :: r ∧ k (.int (f x y) :: r) = some res := by
  unfold zi2 at h
  split at h
  · exact ⟨_, _, _, rfl, h⟩
  · cases h
theorem zl2_spec {α : Type} {f : Int64 → Int64 → Int64} {st : List Value} {k : List Value → Option α} {res : α} (h : zl2 f st k = some res) : ∃ x y r, st = .long y :: .long x :: r ∧ k (.long (f x y) :: r) = some res := by
  unfold zl2 at h
  split at h
  · exact ⟨_, _, _, rfl, h⟩
  · cases h
theorem zsh_spec {α : Type} {f : Int64 → Int32 → Int64} {st : List Value} {k : List Value → Option α} {res : α} (h : zsh f st k = some res) : ∃ x y r, st = .int y :: .long x :: r ∧ k (.long (f x y) :: r) = some res := by
  unfold zsh at h
  split at h
  · exact ⟨_, _, _, rfl, h⟩
  · cases h
theorem zbind {α β : Type} {o : Option α} {f : α → Option β} {res : β} (h : Option.bind o f = some res) : ∃ x, o = some x ∧ f x = some res := by
  cases o with
  | none => cases h
  | some x => exact ⟨x, rfl, h⟩
section ZST
variable {p : Program} {l : Launch} {e : Env} {R : Room} {s : State} {m : MethodId} {args : Array Value} {below : List Frame} {meth : Method} {c : Code} {Q : State → Prop}
variable {cc : ByteArray} {HB : Heap} {b L : Nat} {xs : Nat → Int32} {aK aV : Nat → Nat} {G : va_G} {tc : Nat → ClassId} {nL : Nat} {o : Nat} {ini : Bool} {fr lo n0 s0 nE sE : Nat}
/-- a row of the kit that leaves memory and locals as they are -/
theorem zGo_pure {pc pc' : Nat} {lv : zV} {st st' : List Value} {S : zM} (hg : yzGo p l e R s m args below meth c nL HB b L xs aK G tc n0 s0 nE sE Q pc' lv st' S)
    (row : ∀ (H : Heap) (ls : Array Slot) (locs : List Loc) (cells slots : Nat), zRH HB b L xs aK G tc S H → (∀ q ∈ locs, HB.size ≤ q.base) → lv_has ls nL (zas (zad HB b aK) 0 lv) → W p l e R s m args below meth c H locs cells slots Q (F0 m pc' ls (st'.map (yzcv (zad HB b aK)))) → W p l e R s m args below meth c H locs cells slots Q (F0 m pc ls (st.map (yzcv (zad HB b aK))))) :
    yzGo p l e R s m args below meth c nL HB b L xs aK G tc n0 s0 nE sE Q pc lv st S :=
  ⟨hg.1, fun h1 h2 H ls locs hH hlc hls => row H ls locs _ _ hH hlc hls (hg.2 h1 h2 H ls locs hH hlc hls)⟩
/-- one that writes a local -/
theorem zGo_loc {pc pc' : Nat} {lv lv' : zV} {st st' : List Value} {S : zM} (hg : yzGo p l e R s m args below meth c nL HB b L xs aK G tc n0 s0 nE sE Q pc' lv' st' S)
    (row : ∀ (H : Heap) (ls : Array Slot) (locs : List Loc) (cells slots : Nat), zRH HB b L xs aK G tc S H → lv_has ls nL (zas (zad HB b aK) 0 lv) → (∀ ls' : Array Slot, lv_has ls' nL (zas (zad HB b aK) 0 lv') → W p l e R s m args below meth c H locs cells slots Q (F0 m pc' ls' (st'.map (yzcv (zad HB b aK))))) → W p l e R s m args below meth c H locs cells slots Q (F0 m pc ls (st.map (yzcv (zad HB b aK))))) :
    yzGo p l e R s m args below meth c nL HB b L xs aK G tc n0 s0 nE sE Q pc lv st S :=
  ⟨hg.1, fun h1 h2 H ls locs hH hlc hls => row H ls locs _ _ hH hls (fun ls' hl' => hg.2 h1 h2 H ls' locs hH hlc hl')⟩
/-- one that writes memory, making nothing -/
theorem zGo_mem {pc pc' : Nat} {lv : zV} {st st' : List Value} {S S' : zM} (hg : yzGo p l e R s m args below meth c nL HB b L xs aK G tc n0 s0 nE sE Q pc' lv st' S') (hn : zn S' = zn S) (hs : zs S' = zs S)
    (row : ∀ (H : Heap) (ls : Array Slot) (locs : List Loc) (cells slots : Nat), zRH HB b L xs aK G tc S H → (∀ q ∈ locs, HB.size ≤ q.base) → lv_has ls nL (zas (zad HB b aK) 0 lv) → (∀ (H1 : Heap) (locs1 : List Loc), zRH HB b L xs aK G tc S' H1 → (∀ q ∈ locs1, HB.size ≤ q.base) → W p l e R s m args below meth c H1 locs1 cells slots Q (F0 m pc' ls (st'.map (yzcv (zad HB b aK))))) → W p l e R s m args below meth c H locs cells slots Q (F0 m pc ls (st.map (yzcv (zad HB b aK))))) :
    yzGo p l e R s m args below meth c nL HB b L xs aK G tc n0 s0 nE sE Q pc lv st S := by
  refine ⟨by rw [← hn, ← hs]; exact hg.1, fun h1 h2 H ls locs hH hlc hls => row H ls locs _ _ hH hlc hls (fun H1 locs1 hH1 hlc1 => ?_)⟩
  have := hg.2 (by rw [hn]; exact h1) (by rw [hs]; exact h2) H1 ls locs1 hH1 hlc1 hls
  rw [hn, hs] at this
  exact this
/-- one that makes a cell -/
theorem zGo_new {pc pc' : Nat} {lv : zV} {st st' : List Value} {S : zM} {kd len sl : Nat} (hg : yzGo p l e R s m args below meth c nL HB b L xs aK G tc n0 s0 nE sE Q pc' lv st' (zalloc S kd len sl)) (hE1 : nE - n0 ≤ R.cells) (hE2 : sE - s0 ≤ R.slots) (h9 : nE < 900000)
    (row : ∀ (H : Heap) (ls : Array Slot) (locs : List Loc) (cells slots : Nat), zRH HB b L xs aK G tc S H → (∀ q ∈ locs, HB.size ≤ q.base) → lv_has ls nL (zas (zad HB b aK) 0 lv) → zn S + 1 < 900000 → cells + 1 ≤ R.cells → slots + sl ≤ R.slots → (∀ H1 : Heap, zRH HB b L xs aK G tc (zalloc S kd len sl) H1 → W p l e R s m args below meth c H1 locs (cells + 1) (slots + sl) Q (F0 m pc' ls (st'.map (yzcv (zad HB b aK))))) → W p l e R s m args below meth c H locs cells slots Q (F0 m pc ls (st.map (yzcv (zad HB b aK))))) :
    yzGo p l e R s m args below meth c nL HB b L xs aK G tc n0 s0 nE sE Q pc lv st S := by
  have g1 : zn S + 1 ≤ nE := hg.1.1
  have g2 : zs S + sl ≤ sE := hg.1.2
  refine ⟨⟨by omega, by omega⟩, fun h1 h2 H ls locs hH hlc hls => row H ls locs _ _ hH hlc hls (by omega) (by omega) (by omega) (fun H1 hH1 => ?_)⟩
  have := hg.2 (show n0 ≤ zn S + 1 by omega) (show s0 ≤ zs S + sl by omega) H1 ls locs hH1 hlc hls
  have e1 : zn (zalloc S kd len sl) - n0 = zn S - n0 + 1 := by show zn S + 1 - n0 = _; omega
  have e2 : zs (zalloc S kd len sl) - s0 = zs S - s0 + sl := by show zs S + sl - s0 = _; omega
  rw [e1, e2] at this
  exact this
/-- a call -/
theorem zGo_call {pc pc' : Nat} {lv : zV} {st st' : List Value} {S S' : zM} (hg : yzGo p l e R s m args below meth c nL HB b L xs aK G tc n0 s0 nE sE Q pc' lv st' S') (hE1 : nE - n0 ≤ R.cells) (hE2 : sE - s0 ≤ R.slots) (hm : zn S ≤ zn S' ∧ zs S ≤ zs S')
    (row : ∀ (H : Heap) (ls : Array Slot) (locs : List Loc) (cells slots : Nat), zRH HB b L xs aK G tc S H → (∀ q ∈ locs, HB.size ≤ q.base) → lv_has ls nL (zas (zad HB b aK) 0 lv) → cells + (zn S' - zn S) ≤ R.cells → slots + (zs S' - zs S) ≤ R.slots → (∀ (H1 : Heap) (locs1 : List Loc), zRH HB b L xs aK G tc S' H1 → (∀ q ∈ locs1, HB.size ≤ q.base) → W p l e R s m args below meth c H1 locs1 (cells + (zn S' - zn S)) (slots + (zs S' - zs S)) Q (F0 m pc' ls (st'.map (yzcv (zad HB b aK))))) → W p l e R s m args below meth c H locs cells slots Q (F0 m pc ls (st.map (yzcv (zad HB b aK))))) :
    yzGo p l e R s m args below meth c nL HB b L xs aK G tc n0 s0 nE sE Q pc lv st S := by
  have g1 := hg.1.1
  have g2 := hg.1.2
  have m1 := hm.1
  have m2 := hm.2
  refine ⟨⟨by omega, by omega⟩, fun h1 h2 H ls locs hH hlc hls => row H ls locs _ _ hH hlc hls (by omega) (by omega) (fun H1 locs1 hH1 hlc1 => ?_)⟩
  have := hg.2 (by omega) (by omega) H1 ls locs1 hH1 hlc1 hls
  have e1 : zn S' - n0 = zn S - n0 + (zn S' - zn S) := by omega
  have e2 : zs S' - s0 = zs S - s0 + (zs S' - zs S) := by omega
  rw [e1, e2] at this
  exact this
end ZST
