/-! STRING CONSTANTS: length() and charAt() of the twelve words and one more -/
def qcoder : zY := (yJ0_coder_7d493, cJ0_coder_7d493, 1, some .byte, 0, 1, 0, 0)
def qisl : zY := (yJ0_isLatin1_aae02, cJ0_isLatin1_aae02, 1, some .boolean, 0, 1, 0, 0)
def ql1 : zY := (yJ1_charAt_3b067, cJ1_charAt_3b067, 2, some .char, 1, 2, 2, 60)
def qlen : zY := (yJ0_length_8abf5, cJ0_length_8abf5, 1, some .int, 0, 1, 2, 80)
def qcha : zY := (yJ0_charAt_5068e, cJ0_charAt_5068e, 2, some .char, 0, 2, 4, 130)
set_option maxRecDepth 100000 in
theorem qcoder_ok : ∀ w ∈ zwY qcoder, w ∈ zTs := List.forall_mem_cons.mpr ⟨zTg (zt2 (List.mem_of_getElem? (i := 175) rfl)) rfl, List.forall_mem_cons.mpr ⟨zTg (zt1 (List.mem_of_getElem? (i := 13) rfl)) rfl, List.forall_mem_cons.mpr ⟨zTg (zt2 (List.mem_of_getElem? (i := 173) rfl)) rfl, List.forall_mem_cons.mpr ⟨zTg (zt2 (List.mem_of_getElem? (i := 174) rfl)) rfl, fun _ h => absurd h List.not_mem_nil⟩⟩⟩⟩
set_option maxRecDepth 100000 in
theorem qisl_ok : ∀ w ∈ zwY qisl, w ∈ zTs := List.forall_mem_cons.mpr ⟨zTg (zt2 (List.mem_of_getElem? (i := 189) rfl)) rfl, List.forall_mem_cons.mpr ⟨zTg (zt1 (List.mem_of_getElem? (i := 13) rfl)) rfl, List.forall_mem_cons.mpr ⟨zTg (zt2 (List.mem_of_getElem? (i := 187) rfl)) rfl, List.forall_mem_cons.mpr ⟨zTg (zt2 (List.mem_of_getElem? (i := 188) rfl)) rfl, fun _ h => absurd h List.not_mem_nil⟩⟩⟩⟩
set_option maxRecDepth 100000 in
theorem ql1_ok : ∀ w ∈ zwY ql1, w ∈ zTs := List.forall_mem_cons.mpr ⟨zTg (zt2 (List.mem_of_getElem? (i := 192) rfl)) rfl, List.forall_mem_cons.mpr ⟨zTg (zt1 (List.mem_of_getElem? (i := 14) rfl)) rfl, List.forall_mem_cons.mpr ⟨zTg (zt2 (List.mem_of_getElem? (i := 191) rfl)) rfl, fun _ h => absurd h List.not_mem_nil⟩⟩⟩
set_option maxRecDepth 100000 in
theorem wS38 : Cond.fieldLink "java/lang/String" 38 "java/lang/String" "COMPACT_STRINGS" "Z" ∈ zTs := zTg (zt2 (List.mem_of_getElem? (i := 176) rfl)) rfl
set_option maxRecDepth 100000 in
theorem wS15 : Cond.fieldLink "java/lang/String" 15 "java/lang/String" "coder" "B" ∈ zTs := zTg (zt9 (List.mem_of_getElem? (i := 112) rfl)) rfl
set_option maxRecDepth 100000 in
theorem wS9 : Cond.fieldLink "java/lang/String" 9 "java/lang/String" "value" "[B" ∈ zTs := zTg (zt9 (List.mem_of_getElem? (i := 111) rfl)) rfl
set_option maxRecDepth 100000 in
theorem wS1053 : Cond.fieldLink "java/lang/String" 1053 "jdk/internal/util/Preconditions" "SIOOBE_FORMATTER" "Ljava/util/function/BiFunction;" ∈ zTs := zTg (zt2 (List.mem_of_getElem? (i := 196) rfl)) rfl
set_option maxRecDepth 100000 in
theorem wS335 : Cond.methodLink "java/lang/String" 335 yJ0_coder_7d493 ∈ zTs := zTg (zt2 (List.mem_of_getElem? (i := 172) rfl)) rfl
set_option maxRecDepth 100000 in
theorem wS492 : Cond.methodLink "java/lang/String" 492 yJ0_isLatin1_aae02 ∈ zTs := zTg (zt2 (List.mem_of_getElem? (i := 186) rfl)) rfl
set_option maxRecDepth 100000 in
theorem wS495 : Cond.methodLink "java/lang/String" 495 yJ1_charAt_3b067 ∈ zTs := zTg (zt2 (List.mem_of_getElem? (i := 190) rfl)) rfl
set_option maxRecDepth 100000 in
theorem wL9 : Cond.methodLink "java/lang/StringLatin1" 9 yJ0_checkIndex_df160 ∈ zTs := zTg (zt2 (List.mem_of_getElem? (i := 193) rfl)) rfl
set_option maxRecDepth 100000 in
theorem wS1059 : Cond.methodLink "java/lang/String" 1059 yJ3_checkIndex_8e157 ∈ zTs := zTg (zt2 (List.mem_of_getElem? (i := 198) rfl)) rfl
set_option maxRecDepth 100000 in
theorem wck1 : Cond.code yJ0_checkIndex_df160 cJ0_checkIndex_df160 2 none ∈ zTs := zTg (zt2 (List.mem_of_getElem? (i := 195) rfl)) rfl
set_option maxRecDepth 100000 in
theorem wck2 : Cond.static yJ0_checkIndex_df160 ∈ zTs := zTg (zt2 (List.mem_of_getElem? (i := 194) rfl)) rfl
set_option maxRecDepth 100000 in
theorem wck3 : Cond.initialized "java/lang/String" ∈ zTs := zTg (zt1 (List.mem_of_getElem? (i := 13) rfl)) rfl
set_option maxRecDepth 100000 in
theorem wpk1 : Cond.code yJ3_checkIndex_8e157 cJ3_checkIndex_8e157 3 (some .int) ∈ zTs := zTg (zt2 (List.mem_of_getElem? (i := 200) rfl)) rfl
set_option maxRecDepth 100000 in
theorem wpk2 : Cond.static yJ3_checkIndex_8e157 ∈ zTs := zTg (zt2 (List.mem_of_getElem? (i := 199) rfl)) rfl
set_option maxRecDepth 100000 in
theorem wpk3 : Cond.initialized "jdk/internal/util/Preconditions" ∈ zTs := zTg (zt1 (List.mem_of_getElem? (i := 15) rfl)) rfl
section ZSTR
variable {l : Launch} {HB : Heap} {b L : Nat} {xs : Nat → Int32} {aK aV : Nat → Nat} {G : va_G} {tc : Nat → ClassId} {S : zM}
theorem zad_str {a : Nat} (h : 1000000 ≤ a) : zad HB b aK a = aK (a - 1000000) := by
  unfold zad
  rw [if_neg (by omega), if_neg (by omega)]
theorem zstr_recv {a : Nat} (ha : 1000000 ≤ a ∧ a < 1000013) {U : State} {H : Heap} (hK : zKS HB b L xs aK aV G tc U) (hH : zRH HB b L xs aK G tc S H) : ∃ cell : Cell, H[zad HB b aK a]? = some cell ∧ cell.vm.isStatics = false ∧ U.vm.findClass "java/lang/String" = some cell.cls := by
  rw [zad_str ha.1]
  obtain ⟨cell, h1, h2, h3, h4⟩ := (hK.2.2.2.2.1.1 (a - 1000000) (by omega)).1
  have hl : aK (a - 1000000) < HB.size := (Array.getElem?_eq_some_iff.mp h1).1
  exact ⟨cell, by rw [hH.1 _ hl]; exact h1, h2, h3⟩
set_option maxHeartbeats 4000000 in
set_option maxRecDepth 100000 in
theorem zm_coder {a : Nat} (ha : 1000000 ≤ a ∧ a < 1000013) : zMet l HB b L xs aK aV G tc qcoder [.ref a] S (some (.int 0)) S := by
  refine ⟨⟨Nat.le_refl _, Nat.le_refl _⟩, rfl, fun _ => ⟨_, _, rfl⟩, fun _ U H hK hH a' r e => by cases e; exact zstr_recv ha hK hH, fun _ => ?_⟩
  refine Met.ofW (cc := cJ0_coder_7d493) (maxL := 1) (ret := some .byte) (by decide) rfl ?_
  intro p e s m args below meth c s₁ B hml hv
  obtain ⟨rfl, hK, hH⟩ := hv
  have hx := B.exec
  have hb := B.bytes
  have hr := B.returns
  have hlocks := B.notSynchronized
  have hts0 := atoms_spec (ws := zws qcoder) B.pre
  have hts : ∀ w ∈ zTs, w.before ([Value.ref a].map (yzcv (zad HB b aK))).toArray s = true := fun w hw => hts0 w (List.mem_cons_of_mem _ hw)
  have hown : s.vm.findClass "java/lang/String" = some m.cls := findClass_of_methodNamed B.named
  have hkp : ∀ q : Nat, q < HB.size → ¬ (fun q => HB.size ≤ q) q → s.heap[q]? = HB[q]? := fun q hq _ => hH.1 q hq
  have hSt := hK.2.2.2.2.1.kept hkp
  have hZ := hK.2.2.2.2.2.2.2.2.2.1.kept hkp
  have hS : va_S (fun q => HB.size ≤ q) s.heap s.heap [] := va_S.rf
  have hl := lv_entry ([Value.ref a].map (yzcv (zad HB b aK))) (n := 1) (Nat.le_of_ble_eq_true rfl)
  rw [lg_entry_eq]
  generalize (lg_sl ([Value.ref a].map (yzcv (zad HB b aK))) ++ List.replicate (1 - (lg_sl ([Value.ref a].map (yzcv (zad HB b aK)))).length) Slot.unset).toArray = ls at hl ⊢
  have hl : lv_has ls 1 [(0, .ref (zad HB b aK a))] := hl
  rw [zad_str ha.1] at hl
  have hE := hSt.1 (a - 1000000) (by omega)
  have d0 : decode cJ0_coder_7d493 0 = .ok (.getstatic 38, 3) := by decide +kernel
  have d3 : decode cJ0_coder_7d493 3 = .ok (.ifCond .eq 10, 3) := by decide +kernel
  have d6 : decode cJ0_coder_7d493 6 = .ok (.aload_n 0, 1) := by decide +kernel
  have d7 : decode cJ0_coder_7d493 7 = .ok (.getfield 15, 3) := by decide +kernel
  have d10 : decode cJ0_coder_7d493 10 = .ok (.goto 4, 3) := by decide +kernel
  have d14 : decode cJ0_coder_7d493 14 = .ok (.ireturn, 1) := by decide +kernel
  rw [Nat.sub_self, Nat.sub_self]
  refine va_gets hx hb hZ hS hown (hts _ wS38) (fun _ h => h) d0 ?_
  refine lv_if_eq (tgt := 13) hx hb d3 (by decide) (fun z => absurd z (by decide)) (fun _ => ?_)
  refine lv_aload_n hx hb d6 rfl (lv_at hl 0 rfl) ?_
  refine vk_getf hx hb hE.2.1 hS hown (hts _ wS15) (fun _ h => h) d7 ?_
  refine lv_goto (tgt := 14) hx hb d10 (by decide) ?_
  exact W.zret hx hb hr rfl (fun t ht _ => ⟨rfl, by rw [ht]; exact hH⟩) (fun q hq => by cases hq) d14 hlocks
set_option maxHeartbeats 4000000 in
set_option maxRecDepth 100000 in
theorem zm_isl {a : Nat} (ha : 1000000 ≤ a ∧ a < 1000013) : zMet l HB b L xs aK aV G tc qisl [.ref a] S (some (.int 1)) S := by
  refine ⟨⟨Nat.le_refl _, Nat.le_refl _⟩, rfl, fun _ => ⟨_, _, rfl⟩, fun _ U H hK hH a' r e => by cases e; exact zstr_recv ha hK hH, fun _ => ?_⟩
  refine Met.ofW (cc := cJ0_isLatin1_aae02) (maxL := 1) (ret := some .boolean) (by decide) rfl ?_
  intro p e s m args below meth c s₁ B hml hv
  obtain ⟨rfl, hK, hH⟩ := hv
  have hx := B.exec
  have hb := B.bytes
  have hr := B.returns
  have hlocks := B.notSynchronized
  have hts0 := atoms_spec (ws := zws qisl) B.pre
  have hts : ∀ w ∈ zTs, w.before ([Value.ref a].map (yzcv (zad HB b aK))).toArray s = true := fun w hw => hts0 w (List.mem_cons_of_mem _ hw)
  have hown : s.vm.findClass "java/lang/String" = some m.cls := findClass_of_methodNamed B.named
  have hkp : ∀ q : Nat, q < HB.size → ¬ (fun q => HB.size ≤ q) q → s.heap[q]? = HB[q]? := fun q hq _ => hH.1 q hq
  have hSt := hK.2.2.2.2.1.kept hkp
  have hZ := hK.2.2.2.2.2.2.2.2.2.1.kept hkp
  have hS : va_S (fun q => HB.size ≤ q) s.heap s.heap [] := va_S.rf
  have hl := lv_entry ([Value.ref a].map (yzcv (zad HB b aK))) (n := 1) (Nat.le_of_ble_eq_true rfl)
  rw [lg_entry_eq]
  generalize (lg_sl ([Value.ref a].map (yzcv (zad HB b aK))) ++ List.replicate (1 - (lg_sl ([Value.ref a].map (yzcv (zad HB b aK)))).length) Slot.unset).toArray = ls at hl ⊢
  have hl : lv_has ls 1 [(0, .ref (zad HB b aK a))] := hl
  rw [zad_str ha.1] at hl
  have hE := hSt.1 (a - 1000000) (by omega)
  have d0 : decode cJ0_isLatin1_aae02 0 = .ok (.getstatic 38, 3) := by decide +kernel
  have d3 : decode cJ0_isLatin1_aae02 3 = .ok (.ifCond .eq 14, 3) := by decide +kernel
  have d6 : decode cJ0_isLatin1_aae02 6 = .ok (.aload_n 0, 1) := by decide +kernel
  have d7 : decode cJ0_isLatin1_aae02 7 = .ok (.getfield 15, 3) := by decide +kernel
  have d10 : decode cJ0_isLatin1_aae02 10 = .ok (.ifCond .ne 7, 3) := by decide +kernel
  have d13 : decode cJ0_isLatin1_aae02 13 = .ok (.iconst 1, 1) := by decide +kernel
  have d14 : decode cJ0_isLatin1_aae02 14 = .ok (.goto 4, 3) := by decide +kernel
  have d18 : decode cJ0_isLatin1_aae02 18 = .ok (.ireturn, 1) := by decide +kernel
  rw [Nat.sub_self, Nat.sub_self]
  refine va_gets hx hb hZ hS hown (hts _ wS38) (fun _ h => h) d0 ?_
  refine lv_if_eq (tgt := 17) hx hb d3 (by decide) (fun z => absurd z (by decide)) (fun _ => ?_)
  refine lv_aload_n hx hb d6 rfl (lv_at hl 0 rfl) ?_
  refine vk_getf hx hb hE.2.1 hS hown (hts _ wS15) (fun _ h => h) d7 ?_
  refine lv_if_ne (tgt := 17) hx hb d10 (by decide) (fun z => absurd rfl z) (fun _ => ?_)
  refine lv_iconst (v := 1) hx hb d13 (by decide) ?_
  refine lv_goto (tgt := 18) hx hb d14 (by decide) ?_
  exact W.zret hx hb hr rfl (fun t ht _ => ⟨rfl, by rw [ht]; exact hH⟩) (fun q hq => by cases hq) d18 hlocks
set_option maxHeartbeats 4000000 in
set_option maxRecDepth 100000 in
theorem zm_len {a : Nat} (ha : 1000000 ≤ a ∧ a < 1000013) : zMet l HB b L xs aK aV G tc qlen [.ref a] S (some (.int (Int32.ofNat (zstr.getD (a - 1000000) []).length))) S := by
  refine ⟨⟨Nat.le_refl _, Nat.le_refl _⟩, rfl, fun _ => ⟨_, _, rfl⟩, fun _ U H hK hH a' r e => by cases e; exact zstr_recv ha hK hH, fun _ => ?_⟩
  refine Met.ofW (cc := cJ0_length_8abf5) (maxL := 1) (ret := some .int) (by decide) rfl ?_
  intro p e s m args below meth c s₁ B hml hv
  obtain ⟨rfl, hK, hH⟩ := hv
  have hx := B.exec
  have hb := B.bytes
  have hr := B.returns
  have hlocks := B.notSynchronized
  have hts0 := atoms_spec (ws := zws qlen) B.pre
  have hts : ∀ w ∈ zTs, w.before ([Value.ref a].map (yzcv (zad HB b aK))).toArray s = true := fun w hw => hts0 w (List.mem_cons_of_mem _ hw)
  have hown : s.vm.findClass "java/lang/String" = some m.cls := findClass_of_methodNamed B.named
  have hkp : ∀ q : Nat, q < HB.size → ¬ (fun q => HB.size ≤ q) q → s.heap[q]? = HB[q]? := fun q hq _ => hH.1 q hq
  have hSt := hK.2.2.2.2.1.kept hkp
  have hZ := hK.2.2.2.2.2.2.2.2.2.1.kept hkp
  have hS : va_S (fun q => HB.size ≤ q) s.heap s.heap [] := va_S.rf
  have hl := lv_entry ([Value.ref a].map (yzcv (zad HB b aK))) (n := 1) (Nat.le_of_ble_eq_true rfl)
  rw [lg_entry_eq]
  generalize (lg_sl ([Value.ref a].map (yzcv (zad HB b aK))) ++ List.replicate (1 - (lg_sl ([Value.ref a].map (yzcv (zad HB b aK)))).length) Slot.unset).toArray = ls at hl ⊢
  have hl : lv_has ls 1 [(0, .ref (zad HB b aK a))] := hl
  have hE := hSt.1 (a - 1000000) (by omega)
  have d0 : decode cJ0_length_8abf5 0 = .ok (.aload_n 0, 1) := by decide +kernel
  have d1 : decode cJ0_length_8abf5 1 = .ok (.getfield 9, 3) := by decide +kernel
  have d4 : decode cJ0_length_8abf5 4 = .ok (.arraylength, 1) := by decide +kernel
  have d5 : decode cJ0_length_8abf5 5 = .ok (.aload_n 0, 1) := by decide +kernel
  have d6 : decode cJ0_length_8abf5 6 = .ok (.invokevirtual 335, 3) := by decide +kernel
  have d9 : decode cJ0_length_8abf5 9 = .ok (.ishr, 1) := by decide +kernel
  have d10 : decode cJ0_length_8abf5 10 = .ok (.ireturn, 1) := by decide +kernel
  have hz0 : zn S - zn S = 0 := Nat.sub_self _
  have hz1 : zs S - zs S = 0 := Nat.sub_self _
  rw [hz0, hz1]
  refine lv_aload_n hx hb d0 rfl (lv_at hl 0 rfl) ?_
  rw [zad_str ha.1]
  refine vk_getf hx hb hE.2.2.1 hS hown (hts _ wS9) (fun _ h => h) d1 ?_
  refine va_tlen hx hb hE.2.2.2 hS rfl d4 ?_
  refine lv_aload_n hx hb d5 rfl (lv_at hl 0 rfl) ?_
  have hlen : ((zstr.map List.length).getD (a - 1000000) 0) = (zstr.getD (a - 1000000) []).length := by
    rw [List.getD_eq_getElem?_getD, List.getD_eq_getElem?_getD, List.getElem?_map]
    cases zstr[a - 1000000]? <;> rfl
  rw [hlen]
  refine z_callV (st := [.ref a, .int (Int32.ofNat (zstr.getD (a - 1000000) []).length)]) (r := [.int (Int32.ofNat (zstr.getD (a - 1000000) []).length)]) (own := "java/lang/String") ⟨hx, hb, hml, hown, hts⟩ qcoder_ok (by decide +kernel) rfl (Or.inl (hts _ wS335)) hK hH (fun q hq => by cases hq) (zm_coder ha) hH.2.2.2.2.1 rfl (Nat.le_of_ble_eq_true rfl) hl.1 (Nat.le_of_ble_eq_true rfl) (Nat.le_of_ble_eq_true rfl) (by rw [hz0]; exact Nat.zero_le _) (by rw [hz1]; exact Nat.zero_le _) d6 (fun H1 locs1 hH1 hlc1 => ?_)
  rw [hz0, hz1]
  refine lv_ishr hx hb d9 ?_
  have e1 : (Int32.ofNat (zstr.getD (a - 1000000) []).length) >>> ((0 : Int32) &&& 31) = Int32.ofNat (zstr.getD (a - 1000000) []).length := by
    have : ∀ x : Int32, x >>> ((0 : Int32) &&& 31) = x := by
      intro x
      have h1 : ((0 : Int32) &&& 31) = 0 := by decide
      rw [h1]
      simp
    exact this _
  rw [e1]
  exact W.iret hx hb hr (fun t ht _ => ⟨rfl, by rw [ht]; exact hH1⟩) hlc1 d10 hlocks
set_option maxHeartbeats 4000000 in
set_option maxRecDepth 100000 in
theorem zchk3 {i n : Int32} {f : Value} {H0 : Heap} (hi : ¬ i < 0) (hn : i < n) (hf : f = .null ∨ ∃ t, f = .ref t) : Met l yJ3_checkIndex_8e157 (.code yJ3_checkIndex_8e157 cJ3_checkIndex_8e157 3 (some .int) :: zTs) { frames := 0, cells := 0, slots := 0, locals := 0 } (fun a U => a = #[.int i, .int n, f] ∧ U.heap = H0) (fun _ _ o t => o = .returned (some (.int i)) ∧ t.heap = H0) 0 0 (fun _ => False) := by
  refine Met.ofW (cc := cJ3_checkIndex_8e157) (maxL := 3) (ret := some .int) (by decide) rfl ?_
  intro p e s m args below meth c s₁ B hml hv
  obtain ⟨rfl, hh⟩ := hv
  have hx := B.exec
  have hb := B.bytes
  have hr := B.returns
  have hlocks := B.notSynchronized
  have hl := lv_entry ([.int i, .int n, f]) (n := 3) (by rcases hf with rfl | ⟨t, rfl⟩ <;> exact Nat.le_of_ble_eq_true rfl)
  rw [show (#[.int i, .int n, f] : Array Value) = ([.int i, .int n, f] : List Value).toArray from rfl, lg_entry_eq]
  generalize (lg_sl ([.int i, .int n, f]) ++ List.replicate (3 - (lg_sl ([.int i, .int n, f])).length) Slot.unset).toArray = ls at hl ⊢
  have h0 : ls[0]? = some (.val (.int i)) := hl.2.2 (0, .int i) (by simp [lv_args])
  have h1 : ls[1]? = some (.val (.int n)) := hl.2.2 (1, .int n) (by simp [lv_args, Value.category])
  have d0 : decode cJ3_checkIndex_8e157 0 = .ok (.iload_n 0, 1) := by decide +kernel
  have d1 : decode cJ3_checkIndex_8e157 1 = .ok (.ifCond .lt 8, 3) := by decide +kernel
  have d4 : decode cJ3_checkIndex_8e157 4 = .ok (.iload_n 0, 1) := by decide +kernel
  have d5 : decode cJ3_checkIndex_8e157 5 = .ok (.iload_n 1, 1) := by decide +kernel
  have d6 : decode cJ3_checkIndex_8e157 6 = .ok (.if_icmp .lt 10, 3) := by decide +kernel
  have d16 : decode cJ3_checkIndex_8e157 16 = .ok (.iload_n 0, 1) := by decide +kernel
  have d17 : decode cJ3_checkIndex_8e157 17 = .ok (.ireturn, 1) := by decide +kernel
  refine lv_iload_n hx hb d0 rfl h0 ?_
  refine lv_if_lt (tgt := 9) hx hb d1 (by decide) (fun z => absurd z hi) (fun _ => ?_)
  refine lv_iload_n hx hb d4 rfl h0 ?_
  refine lv_iload_n hx hb d5 rfl h1 ?_
  refine lv_icmp_lt (tgt := 16) hx hb d6 (by decide) (fun _ => ?_) (fun z => absurd hn z)
  refine lv_iload_n hx hb d16 rfl h0 ?_
  exact W.iret hx hb hr (fun t ht _ => ⟨rfl, by rw [ht]; exact hh⟩) (fun q hq => by cases hq) d17 hlocks
theorem z_same {p : Program} {l : Launch} {e : Env} {R : Room} {s : State} {m : MethodId} {args : Array Value} {below : List Frame} {meth : Method} {c : Code} {H : Heap} {locs : List Loc} {cells slots : Nat} {Q : State → Prop} {pc : Nat} {ls : Array Slot} {rest st0 : List Value} {v : Option Value} {Qa : State → Outcome → State → Prop} (hr : va_Run p l e R s m args below meth c H locs cells slots 0 0 (F0 m pc ls st0) rest Qa (fun _ => False)) (hQ : ∀ st o t, st.heap = H → Qa st o t → o = .returned v ∧ t.heap = H)
    (kk : W p l e R s m args below meth c H locs cells slots Q (F0 m (pc + 3) ls (v.toList ++ rest))) : W p l e R s m args below meth c H locs cells slots Q (F0 m pc ls st0) := by
  intro T hT X
  obtain ⟨v', st₀, t, T', L', h0, X', hL, e1, e2, hq, st⟩ := hr T hT X
  obtain ⟨hv, hh⟩ := hQ st₀ _ t h0 hq
  cases hv
  obtain ⟨t2, a1, b1⟩ := kk T' (by rw [e1, hh]) (Stand.forget X' (fun q h => (hL q h).elim))
  exact ⟨t2, st t2 a1, b1⟩
set_option maxHeartbeats 4000000 in
set_option maxRecDepth 100000 in
theorem zchk2 {i n : Int32} {H0 : Heap} (hi : ¬ i < 0) (hn : i < n) : Met l yJ0_checkIndex_df160 (.code yJ0_checkIndex_df160 cJ0_checkIndex_df160 2 none :: zTs) { frames := 1, cells := 0, slots := 0, locals := 22 } (fun a U => a = #[.int i, .int n] ∧ U.heap = H0 ∧ zKS HB b L xs aK aV G tc U ∧ zRH HB b L xs aK G tc S U.heap) (fun _ _ o t => o = .returned none ∧ t.heap = H0) 0 0 (fun _ => False) := by
  refine Met.ofW (cc := cJ0_checkIndex_df160) (maxL := 2) (ret := none) (by decide) rfl ?_
  intro p e s m args below meth c s₁ B hml hv
  obtain ⟨rfl, hh, hK, hH⟩ := hv
  have hx := B.exec
  have hb := B.bytes
  have hr := B.returns
  have hlocks := B.notSynchronized
  have hts0 := atoms_spec (ws := .code yJ0_checkIndex_df160 cJ0_checkIndex_df160 2 none :: zTs) B.pre
  have hts : ∀ w ∈ zTs, w.before #[.int i, .int n] s = true := fun w hw => hts0 w (List.mem_cons_of_mem _ hw)
  have hown : s.vm.findClass "java/lang/String" = some m.cls := findClass_of_methodNamed B.named
  have hkp : ∀ q : Nat, q < HB.size → ¬ (fun q => HB.size ≤ q) q → s.heap[q]? = HB[q]? := fun q hq _ => hH.1 q hq
  have hZq := hK.2.2.2.2.2.2.2.2.2.2.1.kept hkp
  have hS : va_S (fun q => HB.size ≤ q) s.heap s.heap [] := va_S.rf
  have hl := lv_entry ([.int i, .int n]) (n := 2) (Nat.le_of_ble_eq_true rfl)
  rw [show (#[.int i, .int n] : Array Value) = ([.int i, .int n] : List Value).toArray from rfl, lg_entry_eq]
  generalize (lg_sl ([.int i, .int n]) ++ List.replicate (2 - (lg_sl ([.int i, .int n])).length) Slot.unset).toArray = ls at hl ⊢
  have hl : lv_has ls 2 [(0, .int i), (1, .int n)] := hl
  have d0 : decode cJ0_checkIndex_df160 0 = .ok (.iload_n 0, 1) := by decide +kernel
  have d1 : decode cJ0_checkIndex_df160 1 = .ok (.iload_n 1, 1) := by decide +kernel
  have d2 : decode cJ0_checkIndex_df160 2 = .ok (.getstatic 1053, 3) := by decide +kernel
  have d5 : decode cJ0_checkIndex_df160 5 = .ok (.invokestatic 1059, 3) := by decide +kernel
  have d8 : decode cJ0_checkIndex_df160 8 = .ok (.pop, 1) := by decide +kernel
  have d9 : decode cJ0_checkIndex_df160 9 = .ok (.return_, 1) := by decide +kernel
  refine lv_iload_n hx hb d0 rfl (lv_at hl 0 rfl) ?_
  refine lv_iload_n hx hb d1 rfl (lv_at hl 1 rfl) ?_
  have hget : ∃ f : Value, (f = .null ∨ ∃ t, f = .ref t) ∧ va_Z "jdk/internal/util/Preconditions" "SIOOBE_FORMATTER" "Ljava/util/function/BiFunction;" f (fun q => HB.size ≤ q) s s.heap := by
    rcases hZq with h | ⟨t, h⟩
    · exact ⟨_, Or.inl rfl, h⟩
    · exact ⟨_, Or.inr ⟨t, rfl⟩, h⟩
  obtain ⟨f, hf, hZ⟩ := hget
  refine va_gets hx hb hZ hS hown (hts _ wS1053) (fun _ h => h) d2 ?_
  refine z_same (v := some (.int i)) (rest := []) (va_runS (As := [.int i, .int n, f]) (rest := []) (nL := 2) (own := "java/lang/String") (Ts := zTs) ⟨hx, hb, hml, hown, hts⟩ (zchk3 (H0 := s.heap) hi hn hf) ⟨callB_of 3 hts (fun w hw => by
      rcases List.mem_cons.mp hw with h | h
      · subst h; exact ⟨wpk1, good_of_word (zTs_good wpk1)⟩
      · exact ⟨h, good_of_word (zTs_good h)⟩) rfl rfl rfl (hts _ wpk3) (hts _ wS1059) ⟨by decide, by decide, by decide +kernel⟩ ⟨Nat.le_of_ble_eq_true rfl, Nat.le_of_ble_eq_true rfl⟩, hts _ wpk2⟩ ⟨fun a U g mk h => ⟨h.1, h.2⟩, fun U hU _ => ⟨rfl, hU⟩⟩ rfl rfl hl.1 rfl (lv_room (Nat.le_of_ble_eq_true rfl)) d5 ⟨Nat.zero_le _, Nat.zero_le _⟩) (fun st o t h0 hq => hq) ?_
  refine lv_pop hx hb d8 rfl ?_
  exact W.vret hx hb hr (fun t ht _ => ⟨rfl, by rw [ht]; exact hh⟩) (fun q hq => by cases hq) d9 hlocks
set_option maxHeartbeats 4000000 in
set_option maxRecDepth 100000 in
theorem zbyte : ∀ r ∈ zstr, ∀ x ∈ r, ((x &&& 255).toUInt32 % 65536).toInt32 = x ∧ narrow .char (.int x) = .int x := by decide +kernel
theorem zchar_at {k : Nat} {i : Int32} (hi : zinb i (zstr.getD k []).length = true) : (zstr.getD k []).getD i.toNatClampNeg 0 ∈ zstr.getD k [] ∧ zstr.getD k [] ∈ zstr := by
  unfold zinb at hi
  simp only [Bool.and_eq_true, decide_eq_true_eq] at hi
  refine ⟨?_, ?_⟩
  · generalize zstr.getD k [] = r at hi ⊢
    rw [List.getD_eq_getElem?_getD, List.getElem?_eq_getElem hi.2]
    exact List.getElem_mem hi.2
  · rw [List.getD_eq_getElem?_getD] at hi ⊢
    cases hq : zstr[k]? with
    | none => rw [hq] at hi; simp at hi
    | some r => exact List.mem_of_getElem? hq
set_option maxHeartbeats 4000000 in
set_option maxRecDepth 100000 in
theorem zm_l1 {k : Nat} {i : Int32} (hk : k < 13) (hi : zinb i (zstr.getD k []).length = true) : zMet l HB b L xs aK aV G tc ql1 [.ref (2000000 + k), .int i] S (some (.int ((zstr.getD k []).getD i.toNatClampNeg 0))) S := by
  refine ⟨⟨Nat.le_refl _, Nat.le_refl _⟩, rfl, fun q => absurd rfl q, (fun q => by cases q), fun _ => ?_⟩
  refine Met.ofW (cc := cJ1_charAt_3b067) (maxL := 2) (ret := some .char) (by decide) rfl ?_
  intro p e s m args below meth c s₁ B hml hv
  obtain ⟨rfl, hK, hH⟩ := hv
  have hx := B.exec
  have hb := B.bytes
  have hr := B.returns
  have hlocks := B.notSynchronized
  have hts0 := atoms_spec (ws := zws ql1) B.pre
  have hts : ∀ w ∈ zTs, w.before ([Value.ref (2000000 + k), Value.int i].map (yzcv (zad HB b aK))).toArray s = true := fun w hw => hts0 w (List.mem_cons_of_mem _ hw)
  have hown : s.vm.findClass "java/lang/StringLatin1" = some m.cls := findClass_of_methodNamed B.named
  have hkp : ∀ q : Nat, q < HB.size → ¬ (fun q => HB.size ≤ q) q → s.heap[q]? = HB[q]? := fun q hq _ => hH.1 q hq
  have hSt := hK.2.2.2.2.1.kept hkp
  have hZ := hK.2.2.2.2.2.2.2.2.2.1.kept hkp
  have hS : va_S (fun q => HB.size ≤ q) s.heap s.heap [] := va_S.rf
  have hl := lv_entry ([Value.ref (2000000 + k), Value.int i].map (yzcv (zad HB b aK))) (n := 2) (Nat.le_of_ble_eq_true rfl)
  rw [lg_entry_eq]
  generalize (lg_sl ([Value.ref (2000000 + k), Value.int i].map (yzcv (zad HB b aK))) ++ List.replicate (2 - (lg_sl ([Value.ref (2000000 + k), Value.int i].map (yzcv (zad HB b aK)))).length) Slot.unset).toArray = ls at hl ⊢
  have hl : lv_has ls 2 [(0, .ref (zad HB b aK (2000000 + k))), (1, .int i)] := hl
  have had : zad HB b aK (2000000 + k) = aV k := by
    rw [zad_str (by omega), show 2000000 + k - 1000000 = 1000000 + k by omega]
    exact hK.2.2.2.2.2.2.2.2.1 k hk
  rw [had] at hl
  have hE := hSt.1 k hk
  have hlen : ((zstr.map List.length).getD k 0) = (zstr.getD k []).length := by
    rw [List.getD_eq_getElem?_getD, List.getD_eq_getElem?_getD, List.getElem?_map]
    cases zstr[k]? <;> rfl
  obtain ⟨hm1, hm2⟩ := zchar_at hi
  obtain ⟨hv1, hv2⟩ := zbyte _ hm2 _ hm1
  have hvp := zin_vp hi
  have h0 : ¬ i < 0 := fun q => hvp (Or.inl q)
  have h1 : i < Int32.ofNat (zstr.getD k []).length := by
    have hlt : i.toNatClampNeg < (zstr.getD k []).length := Nat.not_le.mp fun q => hvp (Or.inr q)
    have hs : (zstr.getD k []).length < 100 := by
      have : ∀ r ∈ zstr, r.length < 100 := by decide +kernel
      exact this _ hm2
    rw [Int32.lt_iff_toInt_lt]
    have e1 : (Int32.ofNat (zstr.getD k []).length).toInt = ((zstr.getD k []).length : Int) := by
      rw [Int32.toInt_ofNat']
      have hz : Int32.size = 4294967296 := rfl
      rw [Int.bmod_eq_of_le (by omega) (by omega)]
    rw [e1]
    have e2 : i.toInt ≤ (i.toNatClampNeg : Int) := by show i.toInt ≤ ((i.toInt.toNat : Nat) : Int); omega
    omega
  have d0 : decode cJ1_charAt_3b067 0 = .ok (.iload_n 1, 1) := by decide +kernel
  have d1 : decode cJ1_charAt_3b067 1 = .ok (.aload_n 0, 1) := by decide +kernel
  have d2 : decode cJ1_charAt_3b067 2 = .ok (.arraylength, 1) := by decide +kernel
  have d3 : decode cJ1_charAt_3b067 3 = .ok (.invokestatic 9, 3) := by decide +kernel
  have d6 : decode cJ1_charAt_3b067 6 = .ok (.aload_n 0, 1) := by decide +kernel
  have d7 : decode cJ1_charAt_3b067 7 = .ok (.iload_n 1, 1) := by decide +kernel
  have d8 : decode cJ1_charAt_3b067 8 = .ok (.baload, 1) := by decide +kernel
  have d9 : decode cJ1_charAt_3b067 9 = .ok (.sipush 255, 3) := by decide +kernel
  have d12 : decode cJ1_charAt_3b067 12 = .ok (.iand, 1) := by decide +kernel
  have d13 : decode cJ1_charAt_3b067 13 = .ok (.i2c, 1) := by decide +kernel
  have d14 : decode cJ1_charAt_3b067 14 = .ok (.ireturn, 1) := by decide +kernel
  rw [Nat.sub_self, Nat.sub_self]
  refine lv_iload_n hx hb d0 rfl (lv_at hl 1 rfl) ?_
  refine lv_aload_n hx hb d1 rfl (lv_at hl 0 rfl) ?_
  refine va_tlen hx hb hE.2.2.2 hS rfl d2 ?_
  rw [hlen]
  refine z_same (v := none) (rest := []) (va_runS (As := [.int i, .int (Int32.ofNat (zstr.getD k []).length)]) (rest := []) (nL := 2) (own := "java/lang/StringLatin1") (Ts := zTs) ⟨hx, hb, hml, hown, hts⟩ (zchk2 (HB := HB) (b := b) (L := L) (xs := xs) (aK := aK) (aV := aV) (G := G) (tc := tc) (S := S) (H0 := s.heap) h0 h1) ⟨callB_of 2 hts (fun w hw => by
      rcases List.mem_cons.mp hw with h | h
      · subst h; exact ⟨wck1, good_of_word (zTs_good wck1)⟩
      · exact ⟨h, good_of_word (zTs_good h)⟩) rfl rfl rfl (hts _ wck3) (hts _ wL9) ⟨by decide, by decide, by decide +kernel⟩ ⟨Nat.le_of_ble_eq_true rfl, Nat.le_of_ble_eq_true rfl⟩, hts _ wck2⟩ ⟨fun a U g mk h => ⟨h.1, h.2.1, zKS.same (s := U) rfl h.2.2.1, h.2.2.2⟩, fun U hU hW => ⟨rfl, hU, hK.warm hW, by rw [hU]; exact hH⟩⟩ rfl rfl hl.1 rfl (lv_room (Nat.le_of_ble_eq_true rfl)) d3 ⟨Nat.zero_le _, Nat.zero_le _⟩) (fun st o t h0 hq => hq) ?_
  refine lv_aload_n hx hb d6 rfl (lv_at hl 0 rfl) ?_
  refine lv_iload_n hx hb d7 rfl (lv_at hl 1 rfl) ?_
  refine va_tb hx hb hE.2.2.2 hS (by rw [hlen]; exact hvp) rfl d8 ?_
  refine lv_sipush (v := 255) hx hb d9 (by decide) ?_
  refine lv_iand hx hb d12 ?_
  refine lv_i2c hx hb d13 hv1 ?_
  exact W.zret hx hb hr hv2 (fun t ht _ => ⟨rfl, by rw [ht]; exact hH⟩) (fun q hq => by cases hq) d14 hlocks
set_option maxHeartbeats 4000000 in
set_option maxRecDepth 100000 in
theorem zm_cha {a : Nat} {i : Int32} (ha : 1000000 ≤ a ∧ a < 1000013) (hi : zinb i (zstr.getD (a - 1000000) []).length = true) : zMet l HB b L xs aK aV G tc qcha [.ref a, .int i] S (some (.int ((zstr.getD (a - 1000000) []).getD i.toNatClampNeg 0))) S := by
  refine ⟨⟨Nat.le_refl _, Nat.le_refl _⟩, rfl, fun _ => ⟨_, _, rfl⟩, fun _ U H hK hH a' r e => by cases e; exact zstr_recv ha hK hH, fun _ => ?_⟩
  refine Met.ofW (cc := cJ0_charAt_5068e) (maxL := 2) (ret := some .char) (by decide) rfl ?_
  intro p e s m args below meth c s₁ B hml hv
  obtain ⟨rfl, hK, hH⟩ := hv
  have hx := B.exec
  have hb := B.bytes
  have hr := B.returns
  have hlocks := B.notSynchronized
  have hts0 := atoms_spec (ws := zws qcha) B.pre
  have hts : ∀ w ∈ zTs, w.before ([Value.ref a, Value.int i].map (yzcv (zad HB b aK))).toArray s = true := fun w hw => hts0 w (List.mem_cons_of_mem _ hw)
  have hown : s.vm.findClass "java/lang/String" = some m.cls := findClass_of_methodNamed B.named
  have hkp : ∀ q : Nat, q < HB.size → ¬ (fun q => HB.size ≤ q) q → s.heap[q]? = HB[q]? := fun q hq _ => hH.1 q hq
  have hSt := hK.2.2.2.2.1.kept hkp
  have hZ := hK.2.2.2.2.2.2.2.2.2.1.kept hkp
  have hS : va_S (fun q => HB.size ≤ q) s.heap s.heap [] := va_S.rf
  have hl := lv_entry ([Value.ref a, Value.int i].map (yzcv (zad HB b aK))) (n := 2) (Nat.le_of_ble_eq_true rfl)
  rw [lg_entry_eq]
  generalize (lg_sl ([Value.ref a, Value.int i].map (yzcv (zad HB b aK))) ++ List.replicate (2 - (lg_sl ([Value.ref a, Value.int i].map (yzcv (zad HB b aK)))).length) Slot.unset).toArray = ls at hl ⊢
  have hl : lv_has ls 2 [(0, .ref (zad HB b aK a)), (1, .int i)] := hl
  have hE := hSt.1 (a - 1000000) (by omega)
  obtain ⟨hm1, hm2⟩ := zchar_at hi
  obtain ⟨hv1, hv2⟩ := zbyte _ hm2 _ hm1
  have d0 : decode cJ0_charAt_5068e 0 = .ok (.aload_n 0, 1) := by decide +kernel
  have d1 : decode cJ0_charAt_5068e 1 = .ok (.invokevirtual 492, 3) := by decide +kernel
  have d4 : decode cJ0_charAt_5068e 4 = .ok (.ifCond .eq 12, 3) := by decide +kernel
  have d7 : decode cJ0_charAt_5068e 7 = .ok (.aload_n 0, 1) := by decide +kernel
  have d8 : decode cJ0_charAt_5068e 8 = .ok (.getfield 9, 3) := by decide +kernel
  have d11 : decode cJ0_charAt_5068e 11 = .ok (.iload_n 1, 1) := by decide +kernel
  have d12 : decode cJ0_charAt_5068e 12 = .ok (.invokestatic 495, 3) := by decide +kernel
  have d15 : decode cJ0_charAt_5068e 15 = .ok (.ireturn, 1) := by decide +kernel
  have hz0 : zn S - zn S = 0 := Nat.sub_self _
  have hz1 : zs S - zs S = 0 := Nat.sub_self _
  rw [hz0, hz1]
  refine lv_aload_n hx hb d0 rfl (lv_at hl 0 rfl) ?_
  refine z_callV (st := [.ref a]) (r := []) (own := "java/lang/String") ⟨hx, hb, hml, hown, hts⟩ qisl_ok (by decide +kernel) rfl (Or.inl (hts _ wS492)) hK hH (fun q hq => by cases hq) (zm_isl ha) hH.2.2.2.2.1 rfl (Nat.le_of_ble_eq_true rfl) hl.1 (Nat.le_of_ble_eq_true rfl) (Nat.le_of_ble_eq_true rfl) (by rw [hz0]; exact Nat.zero_le _) (by rw [hz1]; exact Nat.zero_le _) d1 (fun H1 locs1 hH1 hlc1 => ?_)
  rw [hz0, hz1]
  refine lv_if_eq (tgt := 16) hx hb d4 (by decide) (fun z => absurd z (by decide)) (fun _ => ?_)
  refine lv_aload_n hx hb d7 rfl (lv_at hl 0 rfl) ?_
  rw [zad_str ha.1]
  have hS1 : va_S (fun q => HB.size ≤ q) s.heap H1 locs1 := ⟨by rw [hH.2.1, hH1.2.1]; exact Nat.le_refl _, fun q h1 h2 => by
    have h3 : q < HB.size := Nat.lt_of_not_le h2
    rw [hH1.1 q h3, hH.1 q h3], hlc1⟩
  refine vk_getf hx hb hE.2.2.1 hS1 hown (hts _ wS9) (fun _ h => h) d8 ?_
  refine lv_iload_n hx hb d11 rfl (lv_at hl 1 rfl) ?_
  have had : zad HB b aK (2000000 + (a - 1000000)) = aV (a - 1000000) := by
    rw [zad_str (by omega), show 2000000 + (a - 1000000) - 1000000 = 1000000 + (a - 1000000) by omega]
    exact hK.2.2.2.2.2.2.2.2.1 (a - 1000000) (by omega)
  rw [← had]
  refine z_callS (st := [.int i, .ref (2000000 + (a - 1000000))]) (r := []) (own := "java/lang/String") ⟨hx, hb, hml, hown, hts⟩ ql1_ok (by decide +kernel) rfl (Or.inl (hts _ wS495)) hK hH1 hlc1 (zm_l1 (by omega) hi) hH.2.2.2.2.1 rfl (Nat.le_of_ble_eq_true rfl) hl.1 (Nat.le_of_ble_eq_true rfl) (Nat.le_of_ble_eq_true rfl) (by rw [hz0]; exact Nat.zero_le _) (by rw [hz1]; exact Nat.zero_le _) d12 (fun H2 locs2 hH2 hlc2 => ?_)
  rw [hz0, hz1]
  exact W.zret hx hb hr hv2 (fun t ht _ => ⟨rfl, by rw [ht]; exact hH2⟩) hlc2 d15 hlocks
end ZSTR
