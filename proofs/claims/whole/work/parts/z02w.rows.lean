section ZR3
variable {p : Program} {l : Launch} {e : Env} {R : Room} {s : State} {m : MethodId} {args : Array Value} {below : List Frame} {meth : Method} {c : Code} {H : Heap} {locs : List Loc} {cells slots : Nat} {Q : State → Prop}
variable {cc : ByteArray} {pc : Nat} {ls : Array Slot} {rest : List Value} {HB : Heap} {b L : Nat} {xs : Nat → Int32} {aK aV : Nat → Nat} {G : va_G} {tc : Nat → ClassId} {S : zM}
theorem zh_alloc_old {kd len sl j : Nat} (h : j ≤ zn S) : zh (zalloc S kd len sl) j = zh S j := by
  show (if j = zn S + 1 then (kd, len) else zh S j) = _
  rw [if_neg (by omega)]
theorem zh_alloc_new {kd len sl : Nat} : zh (zalloc S kd len sl) (zn S + 1) = (kd, len) := by
  show (if zn S + 1 = zn S + 1 then (kd, len) else _) = _
  rw [if_pos rfl]
theorem zok_alloc {kd len sl : Nat} (h : yzok L xs S) (hn : zn S + 1 < 900000) : yzok L xs (zalloc S kd len sl) := by
  refine ⟨⟨by rw [zh_alloc_old (Nat.zero_le _)]; exact h.1.1, h.1.2⟩, hn, fun a ha => ?_⟩
  have ha' : zn S + 1 < a := ha
  obtain ⟨h1, h2, h3, h4⟩ := h.2.2 a (by omega)
  refine ⟨?_, h2, h3, h4⟩
  show (if a = zn S + 1 then (kd, len) else zh S a) = _
  rw [if_neg (by omega)]
  exact h1
/-- behind a new cell -/
theorem z_closeN {kd len sl : Nat} (hH : zRH HB b L xs aK G tc S H) (hlc : ∀ q ∈ locs, HB.size ≤ q.base) (hn : zn S + 1 < 900000) {H1 : Heap} (e1 : va_at G vwC (H.size, zent (zad HB b aK) tc (zalloc S kd len sl) (zn S + 1)) H1) (z : H1.size = H.size + 1) (oq : ∀ q : Nat, q < H.size → H1[q]? = H[q]?) :
    zRH HB b L xs aK G tc (zalloc S kd len sl) H1 := by
  have had : zad HB b aK (zn S + 1) = H.size := by rw [zad_in (by omega), hH.2.1]
  refine ⟨fun q hq => by rw [oq q (by rw [hH.2.1]; omega)]; exact hH.1 q hq, by rw [z, hH.2.1]; show _ = HB.size + (zn S + 1); omega, ?_, zok_alloc hH.2.2.2 hn⟩
  rw [zwl_new (S := S) (S' := zalloc S kd len sl) rfl (fun j hj => zent_congr (zh_alloc_old hj) rfl rfl rfl)]
  have hk : ∀ (k : Nat) (x : Nat × va_E), (yzwl (zad HB b aK) tc S)[k]? = some x → H1[x.1]? = H[x.1]? := fun k x hx => oq x.1 ((hH.2.2.1 k x hx).lt)
  refine (hH.2.2.1.kept hk).app (fun k x hx => ?_)
  have hz : k < 1 := (List.getElem?_eq_some_iff.mp hx).1
  rw [show k = 0 by omega] at hx
  cases hx
  rw [had]
  exact e1
theorem z_new (hx : p.tables.exec = Jvm.exec) (hb : c.code = cc) {own : String} {idx ci : Nat} {C : String} {T : u_T} {N : Nat} {ty : Nat → FieldType} (hC : zCls ci C T N ty) (hts : ∀ w ∈ zTs, w.before args s = true) (hown : s.vm.findClass own = some m.cls) (hK : zKS HB b L xs aK aV G tc s) (hH : zRH HB b L xs aK G tc S H) (hlc : ∀ q ∈ locs, HB.size ≤ q.base)
    (hlink : (Cond.classLink own idx C).before args s = true) (hci : ci < 13) (hn : zn S + 1 < 900000) (hcells : cells + 1 ≤ R.cells) (hslots : slots + N ≤ R.slots) (hdg : decode cc pc = .ok (.new idx, 3))
    (kk : ∀ H1 : Heap, zRH HB b L xs aK G tc (zalloc S ci 0 N) H1 → W p l e R s m args below meth c H1 locs (cells + 1) (slots + N) Q (F0 m (pc + 3) ls (.ref (zad HB b aK (zn S + 1)) :: rest))) : W p l e R s m args below meth c H locs cells slots Q (F0 m pc ls rest) := by
  obtain ⟨c1, c2, c3, c4, c5, c6, c7, c8, c9, c10⟩ := hC
  have hKn := hK.1.1 ci _ c1
  have had : zad HB b aK (zn S + 1) = H.size := by rw [zad_in (by omega), hH.2.1]
  rw [had] at kk
  refine W.newcK hx hb hown hlink (hts _ c9) (hts _ c10) rfl hdg hcells hslots hKn.2.1 rfl fun H1 kC hkC e1 z1 o1 => ?_
  refine kk H1 (z_closeN hH hlc hn ?_ z1 o1)
  rw [zent_obj (ci := ci) (by rw [zh_alloc_new]) (by omega)]
  refine ⟨_, c1, (u_born ty hts c4 hKn hkC e1 c5).to (fun j hj => ?_)⟩
  have h0 := hH.2.2.2.2.2 (zn S + 1) (by omega)
  have hv : vp_V ((List.range (zfn.getD ci 0)).map (zfv (zad HB b aK) (zalloc S ci 0 N) ci (zn S + 1))) j = zfv (zad HB b aK) (zalloc S ci 0 N) ci (zn S + 1) j := by
    unfold vp_V
    rw [List.getD_eq_getElem?_getD, List.getElem?_map, List.getElem?_range (by rw [c2]; exact hj)]
    rfl
  rw [hv]
  unfold zfv
  have h1 : zI (zalloc S ci 0 N) (zn S + 1) j = 0 := h0.2.1 j
  have h2 : zR (zalloc S ci 0 N) (zn S + 1) j = none := h0.2.2.2 j
  rw [h1, h2, ← c7 j hj]
  have h7 := c7 j hj
  have h8 := (c8 j hj).2
  rw [← h7] at h8
  cases hty : ty j <;> simp [defaultValue, va_rf]
  all_goals (rw [hty] at h8; simp at h8)
theorem z_kd {kd : Nat} (h : kd = 100 ∨ kd = 101 ∨ kd = 102) : ∃ (t0 : Nat) (ty : FieldType) (at_ : ArrayType), (ztys tc)[t0]? = some (tc kd, ty) ∧ newarray.typeOf at_ = ty ∧ (kd = 100 → at_ = .int) ∧ (kd = 101 → at_ = .long) ∧ (kd = 102 → at_ = .boolean) := by
  rcases h with rfl | rfl | rfl
  · exact ⟨0, .int, .int, rfl, rfl, fun _ => rfl, fun h => by omega, fun h => by omega⟩
  · exact ⟨1, .long, .long, rfl, rfl, fun h => by omega, fun _ => rfl, fun h => by omega⟩
  · exact ⟨2, .boolean, .boolean, rfl, rfl, fun h => by omega, fun h => by omega, fun _ => rfl⟩
/-- a new row of numbers -/
theorem z_newa (hx : p.tables.exec = Jvm.exec) (hb : c.code = cc) {kd t0 : Nat} {atype : ArrayType} {ty : FieldType} (hty : newarray.typeOf atype = ty) (ht : (ztys tc)[t0]? = some (tc kd, ty)) (hprim : ∀ C, ty ≠ .object C) (harr : (Cond.arrayClass ty).before args s = true) (hK : zKS HB b L xs aK aV G tc s) (hH : zRH HB b L xs aK G tc S H) (hlc : ∀ q ∈ locs, HB.size ≤ q.base)
    {x : Int32} (h0 : ¬ x < 0) (h1 : ¬ 10000 ≤ x.toNatClampNeg) (hb8 : componentBytes ty ≤ 8) (hent : ∀ cA : ClassId, cA = tc kd → vp_cell cA (match zent (zad HB b aK) tc (zalloc S kd x.toNatClampNeg x.toNatClampNeg) (zn S + 1) with
      | .inl q => q.2
      | .inr _ => (0, .inl (fun _ => 0))) = arrV cA x.toNatClampNeg (fun _ => defaultValue ty)) (hinl : ∃ q, zent (zad HB b aK) tc (zalloc S kd x.toNatClampNeg x.toNatClampNeg) (zn S + 1) = .inl (tc kd, q))
    (hn : zn S + 1 < 900000) (hcells : cells + 1 ≤ R.cells) (hslots : slots + x.toNatClampNeg ≤ R.slots) (hdg : decode cc pc = .ok (.newarray atype, 2))
    (kk : ∀ H1 : Heap, zRH HB b L xs aK G tc (zalloc S kd x.toNatClampNeg x.toNatClampNeg) H1 → W p l e R s m args below meth c H1 locs (cells + 1) (slots + x.toNatClampNeg) Q (F0 m (pc + 2) ls (.ref (zad HB b aK (zn S + 1)) :: rest))) : W p l e R s m args below meth c H locs cells slots Q (F0 m pc ls (.int x :: rest)) := by
  have had : zad HB b aK (zn S + 1) = H.size := by rw [zad_in (by omega), hH.2.1]
  rw [had] at kk
  subst hty
  refine va_newaK hx hb harr rfl hdg rfl h0 rfl (by have := Nat.mul_le_mul (Nat.le_of_lt (Nat.lt_of_not_le h1)) hb8; omega) hcells hslots rfl fun H1 cA e1 z1 o1 hAr hNm => ?_
  have hcA : cA = tc kd := by
    have h2 := (hK.1.2 t0 _ ht).2
    cases hq : newarray.typeOf atype with
    | object C => exact absurd hq (hprim C)
    | _ =>
      rw [hq] at h2 hNm
      exact Option.some.inj (hNm.symm.trans h2)
  refine kk H1 (z_closeN hH hlc hn ?_ z1 o1)
  obtain ⟨q, hq⟩ := hinl
  have h3 := hent cA hcA
  rw [hq] at h3 ⊢
  show H1[H.size]? = some (vp_cell _ _)
  rw [← hcA]
  simp only at h3
  rw [h3]
  exact e1
/-- a new row of objects -/
theorem z_newq (hx : p.tables.exec = Jvm.exec) (hb : c.code = cc) {own : String} {idx ci : Nat} (hci : ci = 5 ∨ ci = 8 ∨ ci = 9) (hown : s.vm.findClass own = some m.cls) (hlink : (Cond.classLink own idx (zow.getD ci "")).before args s = true) (hK : zKS HB b L xs aK aV G tc s) (hH : zRH HB b L xs aK G tc S H) (hlc : ∀ q ∈ locs, HB.size ≤ q.base)
    {x : Int32} (h0 : ¬ x < 0) (h1 : ¬ 10000 ≤ x.toNatClampNeg) (hn : zn S + 1 < 900000) (hcells : cells + 1 ≤ R.cells) (hslots : slots + x.toNatClampNeg ≤ R.slots) (hdg : decode cc pc = .ok (.anewarray idx, 3))
    (kk : ∀ H1 : Heap, zRH HB b L xs aK G tc (zalloc S (110 + ci) x.toNatClampNeg x.toNatClampNeg) H1 → W p l e R s m args below meth c H1 locs (cells + 1) (slots + x.toNatClampNeg) Q (F0 m (pc + 3) ls (.ref (zad HB b aK (zn S + 1)) :: rest))) : W p l e R s m args below meth c H locs cells slots Q (F0 m pc ls (.int x :: rest)) := by
  have had : zad HB b aK (zn S + 1) = H.size := by rw [zad_in (by omega), hH.2.1]
  rw [had] at kk
  obtain ⟨t0, C, ht, hC, hc13⟩ := z_rows (tc := tc) hci
  rw [hC] at hlink
  have hover : va_AO C s := by
    obtain ⟨-, -, -, -, -, h5, h6, h7, -⟩ := hK
    rcases hci with rfl | rfl | rfl
    · rw [← hC]; exact h5
    · rw [← hC]; exact h6
    · rw [← hC]; exact h7
  refine W.anew hx hb hown hlink (va_AO.use hover) rfl hdg rfl h0 (by omega) hcells hslots fun cA kA comp f1 f2 f3 f4 => ?_
  generalize hH1 : H.push ({ cls := cA, slots := Array.replicate x.toNatClampNeg .null, vm := .none } : Cell) = H1
  have z1 : H1.size = H.size + 1 := by rw [← hH1, Array.size_push]
  have e1 : H1[H.size]? = some (arrV cA x.toNatClampNeg (fun _ => .null)) := by rw [← hH1, Array.getElem?_push_size, ← arrV_new]
  have o1 : ∀ q : Nat, q < H.size → H1[q]? = H[q]? := fun q hq => by rw [← hH1, Array.getElem?_push, if_neg (Nat.ne_of_lt hq)]
  have hcA : cA = tc (110 + ci) := by
    obtain ⟨_, _, _, _, _, h4⟩ := (hK.1.2 t0 _ ht).2
    exact Option.some.inj (f1.symm.trans h4)
  refine kk H1 (z_closeN hH hlc hn ?_ z1 o1)
  rw [zent_ref (kd := 110 + ci) (by rw [zh_alloc_new]) (by omega)]
  show H1[H.size]? = some (vp_cell _ _)
  rw [vp_cell_q, e1, ← hcA]
  congr 1
  have hr : ∀ j, zR (zalloc S (110 + ci) x.toNatClampNeg x.toNatClampNeg) (zn S + 1) j = none := (hH.2.2.2.2.2 (zn S + 1) (by omega)).2.2.2
  rw [zh_alloc_new]
  congr 1
  funext j
  rw [hr j]
  rfl
/-- System.arraycopy of int rows -/
theorem z_copy (hx : p.tables.exec = Jvm.exec) (hb : c.code = cc) (hml : c.maxLocals = ls.size) {own : String} {index : Nat} (hown : s.vm.findClass own = some m.cls) (hlink : (Cond.methodLink own index arraycopyName).before args s = true) (hnat : (Cond.native arraycopyName).before args s = true) (hstat : (Cond.static arraycopyName).before args s = true) (hini : (Cond.initialized "java/lang/System").before args s = true)
    (hK : zKS HB b L xs aK aV G tc s) (hH : zRH HB b L xs aK G tc S H) (hlc : ∀ q ∈ locs, HB.size ≤ q.base) {a0 a : Nat} {sp dp n : Int32} {S' : zM} (hcp : zcp S a0 sp a dp n = some S')
    (hframes : 1 ≤ R.frames) (hlocals : (rest.map fun v => v.category).sum + (nativeFrameWords "java/lang/System" "arraycopy" 5 + 11) ≤ R.locals) (hdg : decode cc pc = .ok (.invokestatic index, 3))
    (kk : ∀ (H1 : Heap) (locs1 : List Loc), zRH HB b L xs aK G tc S' H1 → (∀ q ∈ locs1, HB.size ≤ q.base) → W p l e R s m args below meth c H1 locs1 cells slots Q (F0 m (pc + 3) ls rest)) : W p l e R s m args below meth c H locs cells slots Q (F0 m pc ls (.int n :: .int dp :: .ref (zad HB b aK a) :: .int sp :: .ref (zad HB b aK a0) :: rest)) := by
  unfold zcp at hcp
  split at hcp
  · rename_i hc
    obtain ⟨k0, k1, z0, z1, h1, h2, h3, h4, h5⟩ := hc
    cases hcp
    have ha := hH.2.2.2.le k1 (by omega)
    have he0 := z_at hH k0 (by omega) z0
    rw [zent_int k0 (Or.inl rfl)] at he0
    have he1 := z_at hH k1 (by omega) z1
    rw [zent_int k1 (Or.inl rfl)] at he1
    have nn : ∀ z : Int32, ¬ z < 0 → z.toInt = (z.toNatClampNeg : Int) := by
      intro z hz
      have hz0 : (0 : Int) ≤ z.toInt := by
        have := Int32.not_lt.mp hz
        simpa using Int32.le_iff_toInt_le.mp this
      show z.toInt = ((z.toInt.toNat : Nat) : Int)
      omega
    intro T hT X
    have hc0 : H[zad HB b aK a0]? = some (vp_cell (tc 100) ((zh S a0).2, .inl (zI S a0))) := hH.2.2.1 _ _ he0
    have hc1 : H[zad HB b aK a]? = some (vp_cell (tc 100) ((zh S a).2, .inl (zI S a))) := hH.2.2.1 _ _ he1
    obtain ⟨-, k0', hk0, cm0, hkk0⟩ := (hK.1.2 0 _ rfl).1 (zh S a0).2 (fun j => .int (zI S a0 j))
    obtain ⟨-, k1', hk1, cm1, hkk1⟩ := (hK.1.2 0 _ rfl).1 (zh S a).2 (fun j => .int (zI S a j))
    obtain ⟨vm', X', step⟩ := X.arraycopy hx hown hlink hnat hstat hini (src := zad HB b aK a0) (dst := zad HB b aK a) (cs := vp_cell (tc 100) ((zh S a0).2, .inl (zI S a0))) (cd := vp_cell (tc 100) ((zh S a).2, .inl (zI S a))) (srcPos := sp) (destPos := dp) (n := n) (by rw [hT]; exact hc0) (by rw [hT]; exact hc1)
      (fun _ h => by cases h) (fun _ h => by cases h) (fun h => by cases h) (fun h => by cases h) hk0 hk1 hkk0 hkk1 (by simp [refKind]) h1 h2 h3
      (by rw [nn sp h1, nn n h3]; show ¬ _ > ((arrV (tc 100) (zh S a0).2 (fun j => .int (zI S a0 j))).slots.size : Int); rw [arrV_size]; omega)
      (by rw [nn dp h2, nn n h3]; show ¬ _ > ((arrV (tc 100) (zh S a).2 (fun j => .int (zI S a j))).slots.size : Int); rw [arrV_size]; omega)
      (fun vm₁ _ i hi => by
        have e : (vp_cell (tc 100) ((zh S a0).2, .inl (zI S a0))).slots.getD (sp.toNatClampNeg + i) .null = .int (zI S a0 (sp.toNatClampNeg + i)) := by
          show (arrV (tc 100) (zh S a0).2 (fun j => .int (zI S a0 j))).slots.getD _ _ = _
          rw [Array.getD_eq_getD_getElem?, arrV_read _ _ (by omega)]
          rfl
        refine ⟨?_, ?_⟩
        · rw [e]
          rfl
        · rw [e]
          exact trivial)
      (g := F0 m pc ls (.int n :: .int dp :: .ref (zad HB b aK a) :: .int sp :: .ref (zad HB b aK a0) :: rest)) rfl (by rw [hml]) (rest := rest) rfl (by rw [hb]; exact hdg) hframes (by show 2 * 0 + _ + _ ≤ _; omega)
    have e1 : copied (vp_cell (tc 100) ((zh S a0).2, .inl (zI S a0))) (vp_cell (tc 100) ((zh S a).2, .inl (zI S a))) sp dp n = vp_cell (tc 100) ((zh S a).2, .inl (va_cpy (zI S a0) (zI S a) sp.toNatClampNeg dp.toNatClampNeg n.toNatClampNeg)) := va_copied (fun z => .int z) (tc 100) (tc 100) (zI S a0) (zI S a) h4
    rw [e1] at X' step
    have hl : zad HB b aK a < H.size := (Array.getElem?_eq_some_iff.mp hc1).1
    have hheap : ((T.setVm vm').setCell (zad HB b aK a) (vp_cell (tc 100) ((zh S a).2, .inl (va_cpy (zI S a0) (zI S a) sp.toNatClampNeg dp.toNatClampNeg n.toNatClampNeg)))).heap = H.setIfInBounds (zad HB b aK a) (vp_cell (tc 100) ((zh S a).2, .inl (va_cpy (zI S a0) (zI S a) sp.toNatClampNeg dp.toNatClampNeg n.toNatClampNeg))) := by rw [← hT]; rfl
    have oq : ∀ q : Nat, q ≠ zad HB b aK a → (H.setIfInBounds (zad HB b aK a) (vp_cell (tc 100) ((zh S a).2, .inl (va_cpy (zI S a0) (zI S a) sp.toNatClampNeg dp.toNatClampNeg n.toNatClampNeg))))[q]? = H[q]? := fun q hq => by simp [Array.getElem?_setIfInBounds, Ne.symm hq]
    have hgc := z_close (k := 0) (S' := ((fun b j => if b = a then zcpf (S.1 a0) (S.1 a) sp.toNatClampNeg dp.toNatClampNeg n.toNatClampNeg j else S.1 b j), S.2)) hH hlc z1 ha rfl (fun j hj => zent_congr rfl (by
        show (fun k => if j = a then _ else S.1 j k) = S.1 j
        funext k
        rw [if_neg hj]) rfl rfl) (by
        refine ⟨⟨hH.2.2.2.1.1, fun j hj => ?_⟩, hH.2.2.2.2.1, fun q hq => ⟨(hH.2.2.2.2.2 q hq).1, fun j => ?_, (hH.2.2.2.2.2 q hq).2.2⟩⟩
        · show (if 0 = a then _ else S.1 0 j) = _
          rw [if_neg (Ne.symm z1)]
          exact hH.2.2.2.1.2 j hj
        · show (if q = a then _ else S.1 q j) = _
          have hq' : zn S < q := hq
          rw [if_neg (by omega)]
          exact (hH.2.2.2.2.2 q hq).2.1 j) (H1 := H.setIfInBounds (zad HB b aK a) (vp_cell (tc 100) ((zh S a).2, .inl (va_cpy (zI S a0) (zI S a) sp.toNatClampNeg dp.toNatClampNeg n.toNatClampNeg)))) (by
        rw [zent_int (S := ((fun b j => if b = a then zcpf (S.1 a0) (S.1 a) sp.toNatClampNeg dp.toNatClampNeg n.toNatClampNeg j else S.1 b j), S.2)) (kd := 100) k1 (Or.inl rfl)]
        show (H.setIfInBounds (zad HB b aK a) _)[zad HB b aK a]? = some (vp_cell _ _)
        rw [Array.getElem?_setIfInBounds, if_pos rfl, if_pos hl]
        congr 4
        funext k
        show _ = (if a = a then _ else _)
        rw [if_pos rfl]
        rfl) (by simp) oq
    have hlc1 := hgc.2 ⟨zad HB b aK a, 0⟩ (by simp)
    obtain ⟨t, a1, b1⟩ := kk _ _ hgc.1 (fun q hq => by
      rcases List.mem_append.mp hq with h | h
      · exact hlc q h
      · obtain ⟨z, -, hz⟩ := List.mem_map.mp h
        rw [← hz]
        exact hlc1) _ hheap X'
    exact ⟨t, step t a1, b1⟩
  · cases hcp
end ZR3
