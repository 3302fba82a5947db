section ZR2
variable {p : Program} {l : Launch} {e : Env} {R : Room} {s : State} {m : MethodId} {args : Array Value} {below : List Frame} {meth : Method} {c : Code} {H : Heap} {locs : List Loc} {cells slots : Nat} {Q : State → Prop}
variable {cc : ByteArray} {pc : Nat} {ls : Array Slot} {rest : List Value} {HB : Heap} {b L : Nat} {xs : Nat → Int32} {aK aV : Nat → Nat} {G : va_G} {tc : Nat → ClassId} {S : zM}
theorem z_at (hH : zRH HB b L xs aK G tc S H) {a kd : Nat} (hk : (zh S a).1 = kd) (h9 : kd ≠ 999) (h0 : a ≠ 0) : (yzwl (zad HB b aK) tc S)[a - 1]? = some (zad HB b aK a, zent (zad HB b aK) tc S a) := zwl_get (by omega) (hH.2.2.2.le hk h9)
/-- an int row is read, the script too -/
theorem z_iald (hx : p.tables.exec = Jvm.exec) (hb : c.code = cc) (hK : zKS HB b L xs aK aV G tc s) (hH : zRH HB b L xs aK G tc S H) (hlc : ∀ q ∈ locs, HB.size ≤ q.base) {a : Nat} {i : Int32} (hkd : (zh S a).1 = 100) (hin : zinb i (zh S a).2 = true) (hdg : decode cc pc = .ok (.iaload, 1))
    (kk : W p l e R s m args below meth c H locs cells slots Q (F0 m (pc + 1) ls (.int (zI S a i.toNatClampNeg) :: rest))) : W p l e R s m args below meth c H locs cells slots Q (F0 m pc ls (.int i :: .ref (zad HB b aK a) :: rest)) := by
  by_cases h0 : a = 0
  · subst h0
    have hL : (zh S 0).2 = L := by rw [hH.2.2.2.1.1]
    rw [hL] at hin
    have hv : zI S 0 i.toNatClampNeg = xs i.toNatClampNeg := hH.2.2.2.1.2 _ (by
      unfold zinb at hin
      simp only [Bool.and_eq_true, decide_eq_true_eq] at hin
      exact hin.2)
    rw [hv] at kk
    exact va_sld hx hb hK.2.2.2.1.1 hK.2.2.2.1.2 (by show ¬ HB.size ≤ b; have := hK.2.2.2.1.2; omega) (zRH_S hH hlc) (zin_vp hin) hdg kk
  · have he := z_at hH hkd (by omega) h0
    rw [zent_int hkd (Or.inl rfl)] at he
    exact va_iald hx hb hK.1 hH.2.2.1 (a - 1) 0 he rfl (zin_vp hin) hdg kk
theorem z_zald (hx : p.tables.exec = Jvm.exec) (hb : c.code = cc) (hK : zKS HB b L xs aK aV G tc s) (hH : zRH HB b L xs aK G tc S H) {a : Nat} {i : Int32} (hkd : (zh S a).1 = 102) (hin : zinb i (zh S a).2 = true) (hdg : decode cc pc = .ok (.baload, 1))
    (kk : W p l e R s m args below meth c H locs cells slots Q (F0 m (pc + 1) ls (.int (zI S a i.toNatClampNeg) :: rest))) : W p l e R s m args below meth c H locs cells slots Q (F0 m pc ls (.int i :: .ref (zad HB b aK a) :: rest)) := by
  have h0 : a ≠ 0 := by have := hH.2.2.2.pos hkd (by omega); omega
  have he := z_at hH hkd (by omega) h0
  rw [zent_int hkd (Or.inr rfl)] at he
  exact va_zald hx hb hK.1 hH.2.2.1 (a - 1) 2 he rfl (zin_vp hin) hdg kk
theorem z_lald (hx : p.tables.exec = Jvm.exec) (hb : c.code = cc) (hK : zKS HB b L xs aK aV G tc s) (hH : zRH HB b L xs aK G tc S H) {a : Nat} {i : Int32} (hkd : (zh S a).1 = 101) (hin : zinb i (zh S a).2 = true) (hdg : decode cc pc = .ok (.laload, 1))
    (kk : W p l e R s m args below meth c H locs cells slots Q (F0 m (pc + 1) ls (.long (zJ S a i.toNatClampNeg) :: rest))) : W p l e R s m args below meth c H locs cells slots Q (F0 m pc ls (.int i :: .ref (zad HB b aK a) :: rest)) := by
  have h0 : a ≠ 0 := by have := hH.2.2.2.pos hkd (by omega); omega
  have he := z_at hH hkd (by omega) h0
  rw [zent_long hkd] at he
  exact va_lald hx hb hK.1 hH.2.2.1 (a - 1) 1 he rfl (zin_vp hin) hdg kk
theorem z_rows {tc : Nat → ClassId} {ci : Nat} (h : ci = 5 ∨ ci = 8 ∨ ci = 9) : ∃ (t0 : Nat) (C : String), (ztys tc)[t0]? = some (tc (110 + ci), FieldType.object C) ∧ zow.getD ci "" = C ∧ ci < 13 := by
  rcases h with rfl | rfl | rfl
  · exact ⟨3, RX5, rfl, rfl, by omega⟩
  · exact ⟨4, RX8, rfl, rfl, by omega⟩
  · exact ⟨5, RX9, rfl, rfl, by omega⟩
theorem z_aald (hx : p.tables.exec = Jvm.exec) (hb : c.code = cc) (hK : zKS HB b L xs aK aV G tc s) (hH : zRH HB b L xs aK G tc S H) {a ci : Nat} {i : Int32} (hci : ci = 5 ∨ ci = 8 ∨ ci = 9) (hkd : (zh S a).1 = 110 + ci) (hin : zinb i (zh S a).2 = true) (hdg : decode cc pc = .ok (.aaload, 1))
    (kk : W p l e R s m args below meth c H locs cells slots Q (F0 m (pc + 1) ls (va_rf ((zR S a i.toNatClampNeg).map (zad HB b aK)) :: rest))) : W p l e R s m args below meth c H locs cells slots Q (F0 m pc ls (.int i :: .ref (zad HB b aK a) :: rest)) := by
  have h0 : a ≠ 0 := by have := hH.2.2.2.pos hkd (by omega); omega
  have he := z_at hH hkd (by omega) h0
  rw [zent_ref hkd (by omega)] at he
  obtain ⟨t0, C, ht, -, -⟩ := z_rows (tc := tc) hci
  exact va_aldq hx hb hK.1 hH.2.2.1 (a - 1) t0 he ht (zin_vp hin) hdg kk
theorem z_alen (hx : p.tables.exec = Jvm.exec) (hb : c.code = cc) (hK : zKS HB b L xs aK aV G tc s) (hH : zRH HB b L xs aK G tc S H) (hlc : ∀ q ∈ locs, HB.size ≤ q.base) {a : Nat} (hkd : (zh S a).1 = 100) (hdg : decode cc pc = .ok (.arraylength, 1))
    (kk : W p l e R s m args below meth c H locs cells slots Q (F0 m (pc + 1) ls (.int (Int32.ofNat (zh S a).2) :: rest))) : W p l e R s m args below meth c H locs cells slots Q (F0 m pc ls (.ref (zad HB b aK a) :: rest)) := by
  by_cases h0 : a = 0
  · subst h0
    have hL : (zh S 0).2 = L := by rw [hH.2.2.2.1.1]
    rw [hL] at kk
    exact va_slen hx hb hK.2.2.2.1.1 hK.2.2.2.1.2 (by show ¬ HB.size ≤ b; have := hK.2.2.2.1.2; omega) (zRH_S hH hlc) hdg kk
  · have he := z_at hH hkd (by omega) h0
    rw [zent_int hkd (Or.inl rfl)] at he
    exact va_alen hx hb hK.1 hH.2.2.1 (a - 1) 0 he (ty := .int) rfl rfl hdg kk
theorem z2_ne {α : Type} {f : Nat → Nat → α} {a k c : Nat} {v : α} (h : c ≠ a) : z2 f a k v c = f c := by
  funext j
  simp [z2, h]
theorem z2_at {α : Type} (f : Nat → Nat → α) (a k : Nat) (v : α) : z2 f a k v a k = v := by simp [z2]
theorem z2_at_ne {α : Type} {f : Nat → Nat → α} {a k j : Nat} {v : α} (h : j ≠ k) : z2 f a k v a j = f a j := by simp [z2, h]
theorem zent_congr {ad : Nat → Nat} {S S' : zM} {j : Nat} (h1 : zh S' j = zh S j) (h2 : zI S' j = zI S j) (h3 : zJ S' j = zJ S j) (h4 : zR S' j = zR S j) : zent ad tc S' j = zent ad tc S j := by
  unfold zent
  rw [h1, h2, h3, h4]
  have : zfv ad S' (zh S j).1 j = zfv ad S (zh S j).1 j := by
    funext k
    unfold zfv
    rw [h2, h4]
  rw [this]
theorem zok_wI {a k : Nat} {v : Int32} (h : yzok L xs S) (h0 : a ≠ 0) (hn : a ≤ zn S) : yzok L xs (zwI S a k v) := by
  refine ⟨⟨h.1.1, fun j hj => ?_⟩, h.2.1, fun c hc => ⟨(h.2.2 c hc).1, fun j => ?_, (h.2.2 c hc).2.2⟩⟩
  · show z2 S.1 a k v 0 j = _
    rw [z2_ne (Ne.symm h0)]
    exact h.1.2 j hj
  · show z2 S.1 a k v c j = _
    have hc' : zn S < c := hc
    rw [z2_ne (by omega)]
    exact (h.2.2 c hc).2.1 j
theorem zok_wJ {a k : Nat} {v : Int64} (h : yzok L xs S) (hn : a ≤ zn S) : yzok L xs (zwJ S a k v) := by
  refine ⟨h.1, h.2.1, fun c hc => ⟨(h.2.2 c hc).1, (h.2.2 c hc).2.1, fun j => ?_, (h.2.2 c hc).2.2.2⟩⟩
  show z2 S.2.1 a k v c j = _
  have hc' : zn S < c := hc
  rw [z2_ne (by omega)]
  exact (h.2.2 c hc).2.2.1 j
theorem zok_wR {a k : Nat} {v : Option Nat} (h : yzok L xs S) (hn : a ≤ zn S) : yzok L xs (zwR S a k v) := by
  refine ⟨h.1, h.2.1, fun c hc => ⟨(h.2.2 c hc).1, (h.2.2 c hc).2.1, (h.2.2 c hc).2.2.1, fun j => ?_⟩⟩
  show z2 S.2.2.1 a k v c j = _
  have hc' : zn S < c := hc
  rw [z2_ne (by omega)]
  exact (h.2.2 c hc).2.2.2 j
/-- behind a store into cell a -/
theorem z_close {S' : zM} {a k : Nat} (hH : zRH HB b L xs aK G tc S H) (hlc : ∀ q ∈ locs, HB.size ≤ q.base) (h0 : a ≠ 0) (ha : a ≤ zn S) (hn : zn S' = zn S) (hoth : ∀ j, j ≠ a → zent (zad HB b aK) tc S' j = zent (zad HB b aK) tc S j) (hok : yzok L xs S') {H1 : Heap} (e1 : va_at G vwC (zad HB b aK a, zent (zad HB b aK) tc S' a) H1) (z : H1.size = H.size) (oq : ∀ q : Nat, q ≠ zad HB b aK a → H1[q]? = H[q]?) :
    zRH HB b L xs aK G tc S' H1 ∧ ∀ q ∈ locs ++ [(⟨zad HB b aK a, k⟩ : Loc)], HB.size ≤ q.base := by
  have he : (yzwl (zad HB b aK) tc S)[a - 1]? = some (zad HB b aK a, zent (zad HB b aK) tc S a) := zwl_get (by omega) ha
  have hD := zwl_D (HB := HB) (b := b) (aK := aK) (tc := tc) hH.2.2.2
  refine zRH_mk ((zRH_S hH hlc).put z oq (hD.2 _ _ he)) (by rw [z, hH.2.1, hn]) ?_ hok
  rw [zwl_set (by omega) ha hn hoth]
  exact hH.2.2.1.set hD he e1 oq
/-- an int row is written -/
theorem z_iast (hx : p.tables.exec = Jvm.exec) (hb : c.code = cc) (hK : zKS HB b L xs aK aV G tc s) (hH : zRH HB b L xs aK G tc S H) (hlc : ∀ q ∈ locs, HB.size ≤ q.base) {a : Nat} {i x : Int32} (hkd : (zh S a).1 = 100) (h0 : a ≠ 0) (hin : zinb i (zh S a).2 = true) (hdg : decode cc pc = .ok (.iastore, 1))
    (kk : ∀ (H1 : Heap) (locs1 : List Loc), zRH HB b L xs aK G tc (zwI S a i.toNatClampNeg x) H1 → (∀ q ∈ locs1, HB.size ≤ q.base) → W p l e R s m args below meth c H1 locs1 cells slots Q (F0 m (pc + 1) ls rest)) : W p l e R s m args below meth c H locs cells slots Q (F0 m pc ls (.int x :: .int i :: .ref (zad HB b aK a) :: rest)) := by
  have ha := hH.2.2.2.le hkd (by omega)
  have he := z_at hH hkd (by omega) h0
  rw [zent_int hkd (Or.inl rfl)] at he
  refine W.iast hx hb (hH.2.2.1 _ _ he) ((hK.1.2 0 _ rfl).1 _ (fun j => .int (zI S a j))) (fun q => by cases q) (by show ¬ (i < 0 ∨ (arrV _ _ _).slots.size ≤ _); rw [arrV_size]; exact zin_vp hin) rfl rfl hdg fun H1 e z oq => ?_
  obtain ⟨g1, g2⟩ := z_close (k := i.toNatClampNeg) (S' := zwI S a i.toNatClampNeg x) hH hlc h0 ha rfl (fun j hj => zent_congr rfl (z2_ne hj) rfl rfl) (zok_wI hH.2.2.2 h0 ha) (by
    rw [zent_int (S := zwI S a i.toNatClampNeg x) (kd := 100) hkd (Or.inl rfl)]
    show H1[_]? = some (vp_cell _ _)
    rw [e]
    rw [vp_cell_i, vp_cell_i, arrV_store]
    congr 2
    funext q
    by_cases hq : q = i.toNatClampNeg
    · subst hq
      simp [updV, zI, zwI, z2]
    · simp [updV, zI, zwI, z2, hq]) z oq
  exact kk H1 _ g1 g2
theorem z_nar {x : Int32} (h : x = 0 ∨ x = 1) : vp_nar .boolean x = x := by rcases h with rfl | rfl <;> rfl
theorem z_zast (hx : p.tables.exec = Jvm.exec) (hb : c.code = cc) (hK : zKS HB b L xs aK aV G tc s) (hH : zRH HB b L xs aK G tc S H) (hlc : ∀ q ∈ locs, HB.size ≤ q.base) {a : Nat} {i x : Int32} (hkd : (zh S a).1 = 102) (h01 : x = 0 ∨ x = 1) (hin : zinb i (zh S a).2 = true) (hdg : decode cc pc = .ok (.bastore, 1))
    (kk : ∀ (H1 : Heap) (locs1 : List Loc), zRH HB b L xs aK G tc (zwI S a i.toNatClampNeg x) H1 → (∀ q ∈ locs1, HB.size ≤ q.base) → W p l e R s m args below meth c H1 locs1 cells slots Q (F0 m (pc + 1) ls rest)) : W p l e R s m args below meth c H locs cells slots Q (F0 m pc ls (.int x :: .int i :: .ref (zad HB b aK a) :: rest)) := by
  have ha := hH.2.2.2.le hkd (by omega)
  have h0 : a ≠ 0 := by have := hH.2.2.2.pos hkd (by omega); omega
  have he := z_at hH hkd (by omega) h0
  rw [zent_int hkd (Or.inr rfl)] at he
  refine W.zast hx hb (hH.2.2.1 _ _ he) ((hK.1.2 2 _ rfl).1 _ (fun j => .int (zI S a j))) (fun q => by cases q) (by show ¬ (i < 0 ∨ (arrV _ _ _).slots.size ≤ _); rw [arrV_size]; exact zin_vp hin) rfl rfl hdg fun H1 e z oq => ?_
  obtain ⟨g1, g2⟩ := z_close (k := i.toNatClampNeg) (S' := zwI S a i.toNatClampNeg x) hH hlc h0 ha rfl (fun j hj => zent_congr rfl (z2_ne hj) rfl rfl) (zok_wI hH.2.2.2 h0 ha) (by
    rw [zent_int (S := zwI S a i.toNatClampNeg x) (kd := 102) hkd (Or.inr rfl)]
    show H1[_]? = some (vp_cell _ _)
    rw [e]
    rw [vp_cell_i, vp_cell_i, arrV_store]
    congr 2
    funext q
    by_cases hq : q = i.toNatClampNeg
    · subst hq
      rcases h01 with rfl | rfl <;> simp [updV, zI, zwI, z2] <;> rfl
    · simp [updV, zI, zwI, z2, hq]) z oq
  exact kk H1 _ g1 g2
theorem z_last (hx : p.tables.exec = Jvm.exec) (hb : c.code = cc) (hK : zKS HB b L xs aK aV G tc s) (hH : zRH HB b L xs aK G tc S H) (hlc : ∀ q ∈ locs, HB.size ≤ q.base) {a : Nat} {i : Int32} {x : Int64} (hkd : (zh S a).1 = 101) (hin : zinb i (zh S a).2 = true) (hdg : decode cc pc = .ok (.lastore, 1))
    (kk : ∀ (H1 : Heap) (locs1 : List Loc), zRH HB b L xs aK G tc (zwJ S a i.toNatClampNeg x) H1 → (∀ q ∈ locs1, HB.size ≤ q.base) → W p l e R s m args below meth c H1 locs1 cells slots Q (F0 m (pc + 1) ls rest)) : W p l e R s m args below meth c H locs cells slots Q (F0 m pc ls (.long x :: .int i :: .ref (zad HB b aK a) :: rest)) := by
  have ha := hH.2.2.2.le hkd (by omega)
  have h0 : a ≠ 0 := by have := hH.2.2.2.pos hkd (by omega); omega
  have he := z_at hH hkd (by omega) h0
  rw [zent_long hkd] at he
  refine W.last hx hb (hH.2.2.1 _ _ he) ((hK.1.2 1 _ rfl).1 _ (fun j => .long (zJ S a j))) (fun q => by cases q) (by show ¬ (i < 0 ∨ (arrV _ _ _).slots.size ≤ _); rw [arrV_size]; exact zin_vp hin) rfl rfl hdg fun H1 e z oq => ?_
  obtain ⟨g1, g2⟩ := z_close (k := i.toNatClampNeg) (S' := zwJ S a i.toNatClampNeg x) hH hlc h0 ha rfl (fun j hj => zent_congr rfl rfl (z2_ne hj) rfl) (zok_wJ hH.2.2.2 ha) (by
    rw [zent_long (S := zwJ S a i.toNatClampNeg x) hkd]
    show H1[_]? = some (vp_cell _ _)
    rw [e]
    rw [vp_cell_l, vp_cell_l, arrV_store]
    congr 2
    funext q
    by_cases hq : q = i.toNatClampNeg
    · subst hq
      simp [updV, zJ, zwJ, z2]
    · simp [updV, zJ, zwJ, z2, hq]) z oq
  exact kk H1 _ g1 g2
theorem z_aast (hx : p.tables.exec = Jvm.exec) (hb : c.code = cc) (hK : zKS HB b L xs aK aV G tc s) (hH : zRH HB b L xs aK G tc S H) (hlc : ∀ q ∈ locs, HB.size ≤ q.base) {a ci v : Nat} {i : Int32} (hci : ci = 5 ∨ ci = 8 ∨ ci = 9) (hkd : (zh S a).1 = 110 + ci) (hkv : (zh S v).1 = ci) (hin : zinb i (zh S a).2 = true) (hdg : decode cc pc = .ok (.aastore, 1))
    (kk : ∀ (H1 : Heap) (locs1 : List Loc), zRH HB b L xs aK G tc (zwR S a i.toNatClampNeg (some v)) H1 → (∀ q ∈ locs1, HB.size ≤ q.base) → W p l e R s m args below meth c H1 locs1 cells slots Q (F0 m (pc + 1) ls rest)) : W p l e R s m args below meth c H locs cells slots Q (F0 m pc ls (.ref (zad HB b aK v) :: .int i :: .ref (zad HB b aK a) :: rest)) := by
  have ha := hH.2.2.2.le hkd (by omega)
  have h0 : a ≠ 0 := by have := hH.2.2.2.pos hkd (by omega); omega
  have hv0 : v ≠ 0 := by have := hH.2.2.2.pos hkv (by omega); omega
  have he := z_at hH hkd (by omega) h0
  rw [zent_ref hkd (by omega)] at he
  have hev := z_at hH hkv (by omega) hv0
  rw [zent_obj hkv (by omega)] at hev
  obtain ⟨t0, C, ht, hC, hc13⟩ := z_rows (tc := tc) hci
  obtain ⟨C', T, N, ty, c1, c2, c3, -⟩ := zcls_ok ci hc13
  have hCC : C' = C := c3.symm.trans hC
  subst hCC
  have hin' := zin_vp hin
  have hlt : i.toNatClampNeg < (zh S a).2 := Nat.not_le.mp fun q => hin' (Or.inr q)
  have h00 : ¬ i < 0 := fun q => hin' (Or.inl q)
  obtain ⟨r', hr', cellV, g1, g2, g3, -⟩ := hH.2.2.1 _ _ hev
  have hcls := (hK.1.1 ci _ c1).2
  obtain ⟨kA, comp, k1, k2, k3, -⟩ := (hK.1.2 t0 _ ht).2
  have hcomp : comp = G.1 ci := Option.some.inj (k3.symm.trans hcls.1)
  subst hcomp
  obtain ⟨kC, hkC, -⟩ := hcls.2
  refine W.aast hx hb (hH.2.2.1 _ _ he) (fun q h => by cases h) (fun h => by cases h) k1 k2 rfl hkC ⟨h00, by show _ < (arrV _ _ _).slots.size; rw [arrV_size]; exact hlt⟩ g1 (fun q h => by rw [g3] at h; cases h) (by rw [g2]; exact hkC) (by rw [g2]; exact va_assign hcls) rfl rfl hdg fun H1 e z oq => ?_
  obtain ⟨g1, g2⟩ := z_close (k := i.toNatClampNeg) (S' := zwR S a i.toNatClampNeg (some v)) hH hlc h0 ha rfl (fun j hj => zent_congr rfl rfl rfl (z2_ne hj)) (zok_wR hH.2.2.2 ha) (by
    rw [zent_ref (S := zwR S a i.toNatClampNeg (some v)) (kd := 110 + ci) hkd (by omega)]
    show H1[_]? = some (vp_cell _ _)
    rw [e]
    rw [vp_cell_q, vp_cell_q, arrV_store]
    congr 2
    funext q
    by_cases hq : q = i.toNatClampNeg
    · subst hq
      simp [updV, zR, zwR, z2, va_rf]
    · simp [updV, zR, zwR, z2, hq]) z oq
  exact kk H1 _ g1 g2
end ZR2
