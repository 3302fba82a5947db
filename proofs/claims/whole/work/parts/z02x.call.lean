/-! A METHOD'S CONTRACT, and calls -/
abbrev zY1 (q : zY) : MethodName := q.1
/-- the words of a method: its own code, and the tables' -/
def zws (q : zY) : List Cond := .code q.1 q.2.1 q.2.2.1 q.2.2.2.1 :: zTs
def yzrm (q : zY) (mc ms : Nat) : Room := { frames := q.2.2.2.2.2.2.1, cells := mc, slots := ms, locals := q.2.2.2.2.2.2.2 }
def yzPc (HB : Heap) (b L : Nat) (xs : Nat → Int32) (aK aV : Nat → Nat) (G : va_G) (tc : Nat → ClassId) (as : List Value) (S : zM) : Array Value → State → Prop := va_Pc (as.map (yzcv (zad HB b aK))) (fun U => zKS HB b L xs aK aV G tc U ∧ zRH HB b L xs aK G tc S U.heap)
def zQc (HB : Heap) (b L : Nat) (xs : Nat → Int32) (aK : Nat → Nat) (G : va_G) (tc : Nat → ClassId) (v : Option Value) (S' : zM) : Array Value → State → Outcome → State → Prop := fun _ _ o t => o = .returned (v.map (yzcv (zad HB b aK))) ∧ zRH HB b L xs aK G tc S' t.heap
/-- called with 'as' in the memory S it answers v and leaves S' -/
def zMet (l : Launch) (HB : Heap) (b L : Nat) (xs : Nat → Int32) (aK aV : Nat → Nat) (G : va_G) (tc : Nat → ClassId) (q : zY) (as : List Value) (S : zM) (v : Option Value) (S' : zM) : Prop :=
  (zn S ≤ zn S' ∧ zs S ≤ zs S') ∧ as.length = q.2.2.2.2.2.1 ∧ (q.2.2.2.2.1 ≠ 1 → ∃ a r, as = .ref a :: r) ∧
  (q.2.2.2.2.1 = 0 → ∀ (U : State) (H : Heap), zKS HB b L xs aK aV G tc U → zRH HB b L xs aK G tc S H → ∀ a r, as = .ref a :: r → ∃ cell : Cell, H[zad HB b aK a]? = some cell ∧ cell.vm.isStatics = false ∧ U.vm.findClass q.1.cls = some cell.cls) ∧
  (zn S' < 900000 → Met l q.1 (zws q) (yzrm q (zn S' - zn S) (zs S' - zs S)) (yzPc HB b L xs aK aV G tc as S) (zQc HB b L xs aK G tc v S') (zn S' - zn S) (zs S' - zs S) (fun q => HB.size ≤ q))
theorem zPc_blind {HB : Heap} {b L : Nat} {xs : Nat → Int32} {aK aV : Nat → Nat} {G : va_G} {tc : Nat → ClassId} {as : List Value} {S : zM} : FrameBlind (yzPc HB b L xs aK aV G tc as S) := fun a U g mk h => ⟨h.1, zKS.same (s := U) rfl h.2.1, h.2.2⟩
theorem zpop_spec : ∀ (n : Nat) (st acc as r : List Value), zpop n st acc = some (as, r) → ∃ us, as = us.reverse ++ acc ∧ st = us ++ r ∧ us.length = n
  | 0, st, acc, as, r, h => by
    simp only [zpop, Option.some.injEq, Prod.mk.injEq] at h
    exact ⟨[], by simp [h.1], by simp [h.2], rfl⟩
  | n + 1, [], acc, as, r, h => by simp [zpop] at h
  | n + 1, v :: st, acc, as, r, h => by
    simp only [zpop] at h
    obtain ⟨us, h1, h2, h3⟩ := zpop_spec n st (v :: acc) as r h
    exact ⟨v :: us, by simp [h1], by simp [h2], by simp [h3]⟩
theorem zcats_sum (ad : Nat → Nat) : ∀ r : List Value, ((r.map (yzcv ad)).map fun v => v.category).sum = zcats r
  | [] => rfl
  | v :: r => by
    have ih := zcats_sum ad r
    rw [List.map_cons, List.map_cons, List.sum_cons, ih, zcv_cat]
    cases v <;> rfl
section ZC
variable {p : Program} {l : Launch} {e : Env} {R : Room} {s : State} {m : MethodId} {args : Array Value} {below : List Frame} {meth : Method} {c : Code} {H : Heap} {locs : List Loc} {cells slots : Nat} {Q : State → Prop}
variable {cc : ByteArray} {pc : Nat} {ls : Array Slot} {rest : List Value} {HB : Heap} {b L : Nat} {xs : Nat → Int32} {aK aV : Nat → Nat} {G : va_G} {tc : Nat → ClassId} {S : zM} {nL : Nat} {own : String}
/-- behind a call -/
theorem z_behind {v : Option Value} {S' : zM} {st0 : List Value} {a : Array Value} {mc ms : Nat} (hr : va_Run p l e R s m args below meth c H locs cells slots mc ms (F0 m pc ls st0) rest (zQc HB b L xs aK G tc v S' a) (fun q => HB.size ≤ q)) (hlc : ∀ q ∈ locs, HB.size ≤ q.base)
    (kk : ∀ (H1 : Heap) (locs1 : List Loc), zRH HB b L xs aK G tc S' H1 → (∀ q ∈ locs1, HB.size ≤ q.base) → W p l e R s m args below meth c H1 locs1 (cells + mc) (slots + ms) Q (F0 m (pc + 3) ls ((v.map (yzcv (zad HB b aK))).toList ++ rest))) : W p l e R s m args below meth c H locs cells slots Q (F0 m pc ls st0) := by
  intro T hT X
  obtain ⟨v', st₀, t, T', L', h0, X', hL, e1, e2, ⟨hv, hR⟩, st⟩ := hr T hT X
  cases hv
  obtain ⟨t2, a1, b1⟩ := kk T'.heap (locs ++ L') (by rw [e1]; exact hR) (fun q hq => by
    rcases List.mem_append.mp hq with h | h
    · exact hlc q h
    · exact hL q h) T' rfl X'
  exact ⟨t2, st t2 a1, b1⟩
/-- what the tables say of a call: own class and place, callee, nest mate or not -/
def zlnk (own : String) (idx : Nat) (q : zY) (args : Array Value) (s : State) : Prop := (Cond.methodLink own idx q.1).before args s = true ∨ va_Nw (.methodLinkNest own idx q.1 "CarriedLetters") s
theorem zgood {q : zY} (hq : ∀ w ∈ zwY q, w ∈ zTs) : Cond.code q.1 q.2.1 q.2.2.1 q.2.2.2.1 ∈ zTs ∧ Cond.initialized q.1.cls ∈ zTs ∧ (q.2.2.2.2.1 ≠ 1 → Cond.instanceMethod q.1 ∈ zTs) ∧ (q.2.2.2.2.1 = 0 → Cond.selects q.1.cls q.1 q.1 ∈ zTs) ∧ (q.2.2.2.2.1 = 1 → Cond.static q.1 ∈ zTs) := by
  obtain ⟨y, cd, ml, rt, kd, na, fr, lo⟩ := q
  unfold zwY at hq
  simp only at hq ⊢
  match kd, hq with
  | 0, hq => exact ⟨hq _ (by simp), hq _ (by simp), fun _ => hq _ (by simp), fun _ => hq _ (by simp), fun h => by omega⟩
  | 1, hq => exact ⟨hq _ (by simp), hq _ (by simp), fun h => by omega, fun h => by omega, fun _ => hq _ (by simp)⟩
  | n + 2, hq => exact ⟨hq _ (by simp), hq _ (by simp), fun _ => hq _ (by simp), fun h => by omega, fun h => by omega⟩
theorem zTs_good {w : Cond} (h : w ∈ zTs) : goodWord w = true := (List.mem_filter.mp h).2
theorem zws_good {q : zY} (hq : ∀ w ∈ zwY q, w ∈ zTs) : GoodIn zTs (zws q) := by
  intro w hw
  rcases List.mem_cons.mp hw with h | h
  · subst h
    exact ⟨(zgood hq).1, good_of_word (zTs_good (zgood hq).1)⟩
  · exact ⟨h, good_of_word (zTs_good h)⟩
/-- a method of the table can be called: its class, and how many arguments its descriptor has -/
def zfine (q : zY) : Bool := plainName q.1.cls && decide (q.1.cls ≠ "java/lang/invoke/MethodHandle") && decide (q.1.cls ≠ "java/lang/invoke/VarHandle") && ((parseMethodDescriptor q.1.desc).map (fun d => d.parameters.length) == some (bif Nat.beq q.2.2.2.2.1 1 then q.2.2.2.2.2.1 else q.2.2.2.2.2.1 - 1)) && (bif Nat.beq q.2.2.2.2.1 2 then decide (q.1.name = "<init>") && decide (q.2.2.2.1 = none) else true)
theorem z_callV (S0 : CallFix p m c cc nL s args zTs own) {q : zY} (hq : ∀ w ∈ zwY q, w ∈ zTs) (hf : zfine q = true) (hkd : q.2.2.2.2.1 = 0) {idx : Nat} (hl : zlnk own idx q args s) (hK : zKS HB b L xs aK aV G tc s) (hH : zRH HB b L xs aK G tc S H) (hlc : ∀ q ∈ locs, HB.size ≤ q.base)
    {as : List Value} {v : Option Value} {S' : zM} (hM : zMet l HB b L xs aK aV G tc q as S v S') (h9 : zn S' < 900000) {st r : List Value} (hp : zpop q.2.2.2.2.2.1 st [] = some (as, r)) (h8 : zcats r ≤ 8) (hsz : ls.size = nL) (hR1 : q.2.2.2.2.2.2.1 + 1 ≤ R.frames) (hR2 : 19 + q.2.2.1 + q.2.2.2.2.2.2.2 ≤ R.locals) (hc1 : cells + (zn S' - zn S) ≤ R.cells) (hc2 : slots + (zs S' - zs S) ≤ R.slots) (hdg : decode cc pc = .ok (.invokevirtual idx, 3))
    (kk : ∀ (H1 : Heap) (locs1 : List Loc), zRH HB b L xs aK G tc S' H1 → (∀ q ∈ locs1, HB.size ≤ q.base) → W p l e R s m args below meth c H1 locs1 (cells + (zn S' - zn S)) (slots + (zs S' - zs S)) Q (F0 m (pc + 3) ls ((v.toList ++ r).map (yzcv (zad HB b aK))))) : W p l e R s m args below meth c H locs cells slots Q (F0 m pc ls (st.map (yzcv (zad HB b aK)))) := by
  obtain ⟨-, hlen, hrec, hcell, hmet⟩ := hM
  have hmet := hmet h9
  obtain ⟨a, r0, rfl⟩ := hrec (by omega)
  obtain ⟨us, h1, h2, h3⟩ := zpop_spec _ _ _ _ _ hp
  obtain ⟨g1, g2, g3, g4, g5⟩ := zgood hq
  unfold zfine at hf
  simp only [Bool.and_eq_true, decide_eq_true_eq, hkd] at hf
  obtain ⟨⟨⟨⟨f1, f2⟩, f3⟩, f4⟩, f5⟩ := hf
  have f4' := eq_of_beq f4
  have hmap : ((v.toList ++ r).map (yzcv (zad HB b aK))) = (v.map (yzcv (zad HB b aK))).toList ++ r.map (yzcv (zad HB b aK)) := by
    rw [List.map_append]
    cases v <;> rfl
  rw [hmap] at kk
  have hst : st.map (yzcv (zad HB b aK)) = (r0.map (yzcv (zad HB b aK))).reverse ++ Value.ref (zad HB b aK a) :: r.map (yzcv (zad HB b aK)) := by
    have hus : us = r0.reverse ++ [.ref a] := by
      have := congrArg List.reverse h1
      simpa using this.symm
    rw [h2, hus]
    simp [yzcv]
  have hn : (r0.map (yzcv (zad HB b aK))).length = q.2.2.2.2.2.1 - 1 := by
    rw [List.length_map, ← hlen]
    simp
  have hPre : ∀ U : State, U.heap = H → s.WarmedH U.vm → yzPc HB b L xs aK aV G tc (.ref a :: r0) S (Value.ref (zad HB b aK a) :: r0.map (yzcv (zad HB b aK))).toArray U := fun U hU hW => ⟨rfl, hK.warm hW, by rw [hU]; exact hH⟩
  have hrun : 2 * (F0 m pc ls (st.map (yzcv (zad HB b aK)))).monitorRoom + ((r.map (yzcv (zad HB b aK))).map fun v => v.category).sum ≤ 8 := lv_room (by rw [zcats_sum]; exact h8)
  refine z_behind (mc := zn S' - zn S) (ms := zs S' - zs S) (v := v) (S' := S') (a := (Value.ref (zad HB b aK a) :: r0.map (yzcv (zad HB b aK))).toArray) (rest := r.map (yzcv (zad HB b aK))) ?_ hlc kk
  rcases hl with hl | hl
  · exact va_runV (n := q.2.2.2.2.2.1 - 1) (C := q.1.cls) S0 hmet ⟨callB_of _ S0.2.2.2.2 (zws_good hq) rfl rfl rfl (S0.2.2.2.2 _ g2) hl ⟨f2, f3, f4'⟩ ⟨hR1, by show 8 + (q.2.2.1 + 11) + q.2.2.2.2.2.2.2 ≤ R.locals; omega⟩, S0.2.2.2.2 _ (g3 (by omega)), S0.2.2.2.2 _ (g4 hkd)⟩ ⟨zPc_blind, hcell hkd s H hK hH a r0 rfl, hPre⟩ rfl hn hsz hst hrun hdg ⟨hc1, hc2⟩
  · exact va_runVN (n := q.2.2.2.2.2.1 - 1) (C := q.1.cls) S0 hmet ⟨va_cnB _ S0.2.2.2.2 (zws_good hq) rfl rfl rfl hl (S0.2.2.2.2 _ g2) ⟨f2, f3, f4'⟩ ⟨hR1, by show 8 + (q.2.2.1 + 11) + q.2.2.2.2.2.2.2 ≤ R.locals; omega⟩, S0.2.2.2.2 _ (g3 (by omega)), S0.2.2.2.2 _ (g4 hkd)⟩ ⟨zPc_blind, hcell hkd s H hK hH a r0 rfl, hPre⟩ rfl hn hsz hst hrun hdg ⟨hc1, hc2⟩
theorem z_callI (S0 : CallFix p m c cc nL s args zTs own) {q : zY} (hq : ∀ w ∈ zwY q, w ∈ zTs) (hf : zfine q = true) (hkd : q.2.2.2.2.1 = 2) {idx : Nat} (hl : zlnk own idx q args s) (hK : zKS HB b L xs aK aV G tc s) (hH : zRH HB b L xs aK G tc S H) (hlc : ∀ q ∈ locs, HB.size ≤ q.base)
    {as : List Value} {v : Option Value} {S' : zM} (hM : zMet l HB b L xs aK aV G tc q as S v S') (h9 : zn S' < 900000) {st r : List Value} (hp : zpop q.2.2.2.2.2.1 st [] = some (as, r)) (h8 : zcats r ≤ 8) (hsz : ls.size = nL) (hR1 : q.2.2.2.2.2.2.1 + 1 ≤ R.frames) (hR2 : 19 + q.2.2.1 + q.2.2.2.2.2.2.2 ≤ R.locals) (hc1 : cells + (zn S' - zn S) ≤ R.cells) (hc2 : slots + (zs S' - zs S) ≤ R.slots) (hdg : decode cc pc = .ok (.invokespecial idx, 3))
    (kk : ∀ (H1 : Heap) (locs1 : List Loc), zRH HB b L xs aK G tc S' H1 → (∀ q ∈ locs1, HB.size ≤ q.base) → W p l e R s m args below meth c H1 locs1 (cells + (zn S' - zn S)) (slots + (zs S' - zs S)) Q (F0 m (pc + 3) ls ((v.toList ++ r).map (yzcv (zad HB b aK))))) : W p l e R s m args below meth c H locs cells slots Q (F0 m pc ls (st.map (yzcv (zad HB b aK)))) := by
  obtain ⟨-, hlen, hrec, hcell, hmet⟩ := hM
  have hmet := hmet h9
  obtain ⟨a, r0, rfl⟩ := hrec (by omega)
  obtain ⟨us, h1, h2, h3⟩ := zpop_spec _ _ _ _ _ hp
  obtain ⟨g1, g2, g3, g4, g5⟩ := zgood hq
  unfold zfine at hf
  simp only [Bool.and_eq_true, decide_eq_true_eq, hkd] at hf
  obtain ⟨⟨⟨⟨f1, f2⟩, f3⟩, f4⟩, f5⟩ := hf
  have f4' := eq_of_beq f4
  have f5' : q.1.name = "<init>" ∧ q.2.2.2.1 = none := by simpa using f5
  have hmap : ((v.toList ++ r).map (yzcv (zad HB b aK))) = (v.map (yzcv (zad HB b aK))).toList ++ r.map (yzcv (zad HB b aK)) := by
    rw [List.map_append]
    cases v <;> rfl
  rw [hmap] at kk
  have hst : st.map (yzcv (zad HB b aK)) = (r0.map (yzcv (zad HB b aK))).reverse ++ Value.ref (zad HB b aK a) :: r.map (yzcv (zad HB b aK)) := by
    have hus : us = r0.reverse ++ [.ref a] := by
      have := congrArg List.reverse h1
      simpa using this.symm
    rw [h2, hus]
    simp [yzcv]
  have hn : (r0.map (yzcv (zad HB b aK))).length = q.2.2.2.2.2.1 - 1 := by
    rw [List.length_map, ← hlen]
    simp
  have hPre : ∀ U : State, U.heap = H → s.WarmedH U.vm → yzPc HB b L xs aK aV G tc (.ref a :: r0) S (Value.ref (zad HB b aK a) :: r0.map (yzcv (zad HB b aK))).toArray U := fun U hU hW => ⟨rfl, hK.warm hW, by rw [hU]; exact hH⟩
  have hrun : 2 * (F0 m pc ls (st.map (yzcv (zad HB b aK)))).monitorRoom + ((r.map (yzcv (zad HB b aK))).map fun v => v.category).sum ≤ 8 := lv_room (by rw [zcats_sum]; exact h8)
  refine z_behind (mc := zn S' - zn S) (ms := zs S' - zs S) (v := v) (S' := S') (a := (Value.ref (zad HB b aK a) :: r0.map (yzcv (zad HB b aK))).toArray) (rest := r.map (yzcv (zad HB b aK))) ?_ hlc kk
  rcases hl with hl | hl
  · exact va_runI (n := q.2.2.2.2.2.1 - 1) (bytes := q.2.1) (maxL := q.2.2.1) S0 hmet ⟨by rw [← f5'.2]; exact callB_of _ S0.2.2.2.2 (zws_good hq) rfl rfl rfl (S0.2.2.2.2 _ g2) hl ⟨f2, f3, f4'⟩ ⟨hR1, by show 8 + (q.2.2.1 + 11) + q.2.2.2.2.2.2.2 ≤ R.locals; omega⟩, f5'.1, S0.2.2.2.2 _ (g3 (by omega))⟩ ⟨zPc_blind, hPre⟩ rfl hn hsz hst hrun hdg ⟨hc1, hc2⟩
  · exact va_runIN (n := q.2.2.2.2.2.1 - 1) (bytes := q.2.1) (maxL := q.2.2.1) S0 hmet ⟨by rw [← f5'.2]; exact va_cnB _ S0.2.2.2.2 (zws_good hq) rfl rfl rfl hl (S0.2.2.2.2 _ g2) ⟨f2, f3, f4'⟩ ⟨hR1, by show 8 + (q.2.2.1 + 11) + q.2.2.2.2.2.2.2 ≤ R.locals; omega⟩, f5'.1, S0.2.2.2.2 _ (g3 (by omega))⟩ ⟨zPc_blind, hPre⟩ rfl hn hsz hst hrun hdg ⟨hc1, hc2⟩
theorem z_callS (S0 : CallFix p m c cc nL s args zTs own) {q : zY} (hq : ∀ w ∈ zwY q, w ∈ zTs) (hf : zfine q = true) (hkd : q.2.2.2.2.1 = 1) {idx : Nat} (hl : zlnk own idx q args s) (hK : zKS HB b L xs aK aV G tc s) (hH : zRH HB b L xs aK G tc S H) (hlc : ∀ q ∈ locs, HB.size ≤ q.base)
    {as : List Value} {v : Option Value} {S' : zM} (hM : zMet l HB b L xs aK aV G tc q as S v S') (h9 : zn S' < 900000) {st r : List Value} (hp : zpop q.2.2.2.2.2.1 st [] = some (as, r)) (h8 : zcats r ≤ 8) (hsz : ls.size = nL) (hR1 : q.2.2.2.2.2.2.1 + 1 ≤ R.frames) (hR2 : 19 + q.2.2.1 + q.2.2.2.2.2.2.2 ≤ R.locals) (hc1 : cells + (zn S' - zn S) ≤ R.cells) (hc2 : slots + (zs S' - zs S) ≤ R.slots) (hdg : decode cc pc = .ok (.invokestatic idx, 3))
    (kk : ∀ (H1 : Heap) (locs1 : List Loc), zRH HB b L xs aK G tc S' H1 → (∀ q ∈ locs1, HB.size ≤ q.base) → W p l e R s m args below meth c H1 locs1 (cells + (zn S' - zn S)) (slots + (zs S' - zs S)) Q (F0 m (pc + 3) ls ((v.toList ++ r).map (yzcv (zad HB b aK))))) : W p l e R s m args below meth c H locs cells slots Q (F0 m pc ls (st.map (yzcv (zad HB b aK)))) := by
  obtain ⟨-, hlen, -, -, hmet⟩ := hM
  have hmet := hmet h9
  obtain ⟨us, h1, h2, h3⟩ := zpop_spec _ _ _ _ _ hp
  obtain ⟨g1, g2, g3, g4, g5⟩ := zgood hq
  unfold zfine at hf
  simp only [Bool.and_eq_true, decide_eq_true_eq, hkd] at hf
  obtain ⟨⟨⟨⟨f1, f2⟩, f3⟩, f4⟩, f5⟩ := hf
  have f4' := eq_of_beq f4
  have hmap : ((v.toList ++ r).map (yzcv (zad HB b aK))) = (v.map (yzcv (zad HB b aK))).toList ++ r.map (yzcv (zad HB b aK)) := by
    rw [List.map_append]
    cases v <;> rfl
  rw [hmap] at kk
  have hst : st.map (yzcv (zad HB b aK)) = (as.map (yzcv (zad HB b aK))).reverse ++ r.map (yzcv (zad HB b aK)) := by
    have hus : us = as.reverse := by
      have := congrArg List.reverse h1
      simpa using this.symm
    rw [h2, hus]
    simp
  have hn : (as.map (yzcv (zad HB b aK))).length = q.2.2.2.2.2.1 := by
    rw [List.length_map, ← hlen]
  have hPre : ∀ U : State, U.heap = H → s.WarmedH U.vm → yzPc HB b L xs aK aV G tc as S (as.map (yzcv (zad HB b aK))).toArray U := fun U hU hW => ⟨rfl, hK.warm hW, by rw [hU]; exact hH⟩
  have hrun : 2 * (F0 m pc ls (st.map (yzcv (zad HB b aK)))).monitorRoom + ((r.map (yzcv (zad HB b aK))).map fun v => v.category).sum ≤ 8 := lv_room (by rw [zcats_sum]; exact h8)
  refine z_behind (mc := zn S' - zn S) (ms := zs S' - zs S) (v := v) (S' := S') (a := (as.map (yzcv (zad HB b aK))).toArray) (rest := r.map (yzcv (zad HB b aK))) ?_ hlc kk
  rcases hl with hl | hl
  · exact va_runS (n := q.2.2.2.2.2.1) S0 hmet ⟨callB_of _ S0.2.2.2.2 (zws_good hq) rfl rfl rfl (S0.2.2.2.2 _ g2) hl ⟨f2, f3, f4'⟩ ⟨hR1, by show 8 + (q.2.2.1 + 11) + q.2.2.2.2.2.2.2 ≤ R.locals; omega⟩, S0.2.2.2.2 _ (g5 hkd)⟩ ⟨zPc_blind, hPre⟩ rfl hn hsz hst hrun hdg ⟨hc1, hc2⟩
  · exact va_runSN (n := q.2.2.2.2.2.1) S0 hmet ⟨va_cnB _ S0.2.2.2.2 (zws_good hq) rfl rfl rfl hl (S0.2.2.2.2 _ g2) ⟨f2, f3, f4'⟩ ⟨hR1, by show 8 + (q.2.2.1 + 11) + q.2.2.2.2.2.2.2 ≤ R.locals; omega⟩, S0.2.2.2.2 _ (g5 hkd), trivial⟩ ⟨zPc_blind, hPre⟩ rfl hn hsz hst hrun hdg ⟨hc1, hc2⟩
end ZC
