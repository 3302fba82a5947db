/-! ROWS: what an instruction that reads or writes memory does to the world of a memory -/
theorem zent_obj {ad : Nat → Nat} {tc : Nat → ClassId} {S : zM} {a ci : Nat} (hk : (zh S a).1 = ci) (hc : ci < 100) : zent ad tc S a = .inr (ci, (List.range (zfn.getD ci 0)).map (zfv ad S ci a)) := by
  unfold zent
  rw [hk, if_pos hc]
theorem zent_int {ad : Nat → Nat} {tc : Nat → ClassId} {S : zM} {a kd : Nat} (hk : (zh S a).1 = kd) (hc : kd = 100 ∨ kd = 102) : zent ad tc S a = .inl (tc kd, (zh S a).2, .inl (zI S a)) := by
  unfold zent
  rw [hk]
  rcases hc with rfl | rfl <;> rfl
theorem zent_long {ad : Nat → Nat} {tc : Nat → ClassId} {S : zM} {a : Nat} (hk : (zh S a).1 = 101) : zent ad tc S a = .inl (tc 101, (zh S a).2, .inr (.inl (zJ S a))) := by
  unfold zent
  rw [hk]
  rfl
theorem zent_ref {ad : Nat → Nat} {tc : Nat → ClassId} {S : zM} {a kd : Nat} (hk : (zh S a).1 = kd) (hc : 110 ≤ kd) : zent ad tc S a = .inl (tc kd, (zh S a).2, .inr (.inr (.inr (.inr (fun j => (zR S a j).map ad))))) := by
  unfold zent
  rw [hk, if_neg (by omega), if_neg (by omega), if_neg (by omega)]
theorem zin_vp {i : Int32} {n : Nat} (h : zinb i n = true) : vp_in i n := by
  unfold zinb at h
  simp only [Bool.and_eq_true, decide_eq_true_eq] at h
  rintro (q | q)
  · exact h.1 q
  · omega
section ZR
variable {p : Program} {l : Launch} {e : Env} {R : Room} {s : State} {m : MethodId} {args : Array Value} {below : List Frame} {meth : Method} {c : Code} {H : Heap} {locs : List Loc} {cells slots : Nat} {Q : State → Prop}
variable {cc : ByteArray} {pc : Nat} {ls : Array Slot} {rest : List Value} {HB : Heap} {b L : Nat} {xs : Nat → Int32} {aK aV : Nat → Nat} {G : va_G} {tc : Nat → ClassId} {S : zM}
theorem zRH_S (hH : zRH HB b L xs aK G tc S H) (hl : ∀ q ∈ locs, HB.size ≤ q.base) : va_S (fun q => HB.size ≤ q) HB H locs := ⟨by rw [hH.2.1]; omega, fun q h1 _ => hH.1 q h1, hl⟩
theorem zRH_mk {S' : zM} {H1 : Heap} {locs1 : List Loc} (hS : va_S (fun q => HB.size ≤ q) HB H1 locs1) (hz : H1.size = HB.size + zn S') (hP : va_P G vwC (yzwl (zad HB b aK) tc S') H1) (ho : yzok L xs S') : zRH HB b L xs aK G tc S' H1 ∧ ∀ q ∈ locs1, HB.size ≤ q.base := ⟨⟨fun q h => hS.2.1 q h (by show ¬ HB.size ≤ q; omega), hz, hP, ho⟩, hS.2.2⟩
/-- a field is read -/
theorem z_get (hx : p.tables.exec = Jvm.exec) (hb : c.code = cc) {own : String} {idx ci k : Nat} {C : String} {T : u_T} {N : Nat} {ty : Nat → FieldType} (hC : zCls ci C T N ty) (hts : ∀ w ∈ zTs, w.before args s = true) (hown : s.vm.findClass own = some m.cls) (hK : zKS HB b L xs aK aV G tc s) (hH : zRH HB b L xs aK G tc S H)
    (hlink : (Cond.fieldLink own idx (T k).1 (T k).2.1 (T k).2.2.1).before args s = true ∨ ∃ host, (Cond.fieldLinkNest own idx (T k).1 (T k).2.1 (T k).2.2.1 host).before args s = true) (hci : ci < 13) (hk : k < N) {a : Nat} (hkd : (zh S a).1 = ci) (hdg : decode cc pc = .ok (.getfield idx, 3))
    (kk : W p l e R s m args below meth c H locs cells slots Q (F0 m (pc + 3) ls (zfv (zad HB b aK) S ci a k :: rest))) : W p l e R s m args below meth c H locs cells slots Q (F0 m pc ls (.ref (zad HB b aK a) :: rest)) := by
  obtain ⟨c1, c2, c3, c4, c5, c6, c7, c8, -⟩ := hC
  have ha := hH.2.2.2.le hkd (by omega)
  have ha1 := hH.2.2.2.pos hkd (by omega)
  have he : (yzwl (zad HB b aK) tc S)[a - 1]? = some (zad HB b aK a, .inr (ci, (List.range (zfn.getD ci 0)).map (zfv (zad HB b aK) S ci a))) := by
    rw [zwl_get ha1 ha, zent_obj hkd (by omega)]
  have hv : ((List.range (zfn.getD ci 0)).map (zfv (zad HB b aK) S ci a))[k]? = some (zfv (zad HB b aK) S ci a k) := by
    rw [List.getElem?_map, List.getElem?_range (by rw [c2]; exact hk)]
    rfl
  rcases hlink with hl | ⟨host, hl⟩
  · exact va_get hx hb hts c4 hown hK.1 hH.2.2.1 (a - 1) he c1 k hk hl (fun _ h => h) hv hdg kk
  · exact va_getN hx hb hts c4 hown hK.1 hH.2.2.1 (a - 1) he c1 k hk hl (fun _ h => h) hv hdg kk
theorem zfv_set {ad : Nat → Nat} {S S' : zM} {ci a k : Nat} {v : Value} (hv : zfv ad S' ci a k = v) (ho : ∀ j, j ≠ k → zfv ad S' ci a j = zfv ad S ci a j) : (List.range (zfn.getD ci 0)).map (zfv ad S' ci a) = ((List.range (zfn.getD ci 0)).map (zfv ad S ci a)).set k v := by
  apply List.ext_getElem?
  intro j
  rw [List.getElem?_set, List.getElem?_map, List.getElem?_map, List.length_map, List.length_range]
  by_cases hj : k = j
  · subst hj
    rw [if_pos rfl]
    by_cases hl : k < zfn.getD ci 0
    · rw [if_pos hl, List.getElem?_range hl]
      simp [hv]
    · rw [if_neg hl, List.getElem?_eq_none (by simpa using hl)]
      rfl
  · rw [if_neg hj]
    by_cases hl : j < zfn.getD ci 0
    · rw [List.getElem?_range hl]
      simp [ho j (Ne.symm hj)]
    · rw [List.getElem?_eq_none (by simpa using hl)]
      rfl
/-- a field is written: S' is S but for the field k of a -/
theorem z_put (hx : p.tables.exec = Jvm.exec) (hb : c.code = cc) {own : String} {idx ci k : Nat} {C : String} {T : u_T} {N : Nat} {ty : Nat → FieldType} (hC : zCls ci C T N ty) (hts : ∀ w ∈ zTs, w.before args s = true) (hown : s.vm.findClass own = some m.cls) (hK : zKS HB b L xs aK aV G tc s) (hH : zRH HB b L xs aK G tc S H) (hlc : ∀ q ∈ locs, HB.size ≤ q.base)
    (hlink : (Cond.fieldLink own idx (T k).1 (T k).2.1 (T k).2.2.1).before args s = true ∨ ((T k).2.2.2 = false ∧ ∃ host, (Cond.fieldLinkNest own idx (T k).1 (T k).2.1 (T k).2.2.1 host).before args s = true)) (hci : ci < 13) (hk : k < N) {a : Nat} (hkd : (zh S a).1 = ci)
    (hfin : (T k).2.2.2 = false ∨ (meth.name = "<init>" ∧ C = own)) {v : Value} {S' : zM} (hnar : narrow (ty k) v = v) (hfit : fits (ty k) v = true)
    (hn : zn S' = zn S) (hsh : zh S' = zh S) (hv : zfv (zad HB b aK) S' ci a k = v) (hsame : ∀ j, j ≠ k → zfv (zad HB b aK) S' ci a j = zfv (zad HB b aK) S ci a j) (hoth : ∀ j, j ≠ a → zent (zad HB b aK) tc S' j = zent (zad HB b aK) tc S j) (hok : yzok L xs S')
    (hdg : decode cc pc = .ok (.putfield idx, 3))
    (kk : ∀ (H1 : Heap) (locs1 : List Loc), zRH HB b L xs aK G tc S' H1 → (∀ q ∈ locs1, HB.size ≤ q.base) → W p l e R s m args below meth c H1 locs1 cells slots Q (F0 m (pc + 3) ls rest)) : W p l e R s m args below meth c H locs cells slots Q (F0 m pc ls (v :: .ref (zad HB b aK a) :: rest)) := by
  obtain ⟨c1, c2, c3, c4, c5, c6, c7, c8, -⟩ := hC
  have ha := hH.2.2.2.le hkd (by omega)
  have ha1 := hH.2.2.2.pos hkd (by omega)
  have he : (yzwl (zad HB b aK) tc S)[a - 1]? = some (zad HB b aK a, .inr (ci, (List.range (zfn.getD ci 0)).map (zfv (zad HB b aK) S ci a))) := by
    rw [zwl_get ha1 ha, zent_obj hkd (by omega)]
  have hwl : (yzwl (zad HB b aK) tc S).set (a - 1) (zad HB b aK a, .inr (ci, ((List.range (zfn.getD ci 0)).map (zfv (zad HB b aK) S ci a)).set k v)) = yzwl (zad HB b aK) tc S' := by
    rw [zwl_set ha1 ha hn hoth, zent_obj (ci := ci) (by rw [hsh]; exact hkd) (by omega), zfv_set hv hsame]
  have fin : ∀ (H1 : Heap) (locs1 : List Loc), va_P G vwC ((yzwl (zad HB b aK) tc S).set (a - 1) (zad HB b aK a, .inr (ci, ((List.range (zfn.getD ci 0)).map (zfv (zad HB b aK) S ci a)).set k v))) H1 → va_S (fun q => HB.size ≤ q) HB H1 locs1 → H1.size = H.size → zRH HB b L xs aK G tc S' H1 ∧ ∀ q ∈ locs1, HB.size ≤ q.base := by
    intro H1 locs1 hP1 hS1 hz
    exact zRH_mk hS1 (by rw [hz, hH.2.1, hn]) (by rw [← hwl]; exact hP1) hok
  have hll : k < ((List.range (zfn.getD ci 0)).map (zfv (zad HB b aK) S ci a)).length := by rw [List.length_map, List.length_range, c2]; exact hk
  have hap := va_apart (own := own) hts c4 ty c5 c6 hK.1 c1
  obtain ⟨r, h1, cell, q1, q2, q3, q4⟩ := hH.2.2.1 (a - 1) _ he
  have hr : r = (C, T, N) := Option.some.inj (h1.symm.trans c1)
  subst hr
  obtain ⟨hSl, hfc, kC, hkC, hkind⟩ := hK.1.1 ci _ c1
  obtain ⟨cf, kf, fi, f, hi, hsl⟩ := hSl k hk
  have hlay := hts _ (c4 _ (u_in_lay hk))
  have hst := (u_facts hfc hkC (u_lays hts c4 hk) hi).1
  have build : ∀ H' : Heap, H'[zad HB b aK a]? = some (cell.setSlot (G.2 ci k) v) → H'.size = H.size → (∀ q, q ≠ zad HB b aK a → H'[q]? = H[q]?) → ∀ locs1, locs1 = locs ++ [⟨zad HB b aK a, G.2 ci k⟩] → zRH HB b L xs aK G tc S' H' ∧ ∀ q ∈ locs1, HB.size ≤ q.base := by
    intro H' e1 e2 e3 locs1 hl1
    subst hl1
    have hD := zwl_D (HB := HB) (b := b) (aK := aK) (tc := tc) hH.2.2.2
    exact fin H' _ (hH.2.2.1.set hD he ⟨_, c1, t_OB.to (V := updV (vp_V _) k v) ⟨_, e1, q2, q3, t_set q4 hap hk v⟩ (fun j _ => vp_updV_set hll v j)⟩ e3) ((zRH_S hH hlc).put e2 e3 (hD.2 _ _ he)) e2
  unfold u_lay at hlay
  by_cases hf : (T k).2.2.2 = false
  · rw [if_neg (by rw [hf]; decide)] at hlay
    have h6 := u_store hfc hkC hkind hlay hi (c5 k hk) hnar hfit
    rcases hlink with hl | ⟨-, host, hl⟩
    · refine W.putK hx hb (f := f) ⟨hown, hl, ⟨_, _, _, hi⟩, hst⟩ (by rw [q2]; exact h6) q1 q3 (by rw [hsl]; exact k2_hasslot (q4 k hk)) rfl rfl hdg fun H' e1 e2 e3 => ?_
      rw [hsl] at e1 ⊢
      obtain ⟨g1, g2⟩ := build H' e1 e2 e3 _ rfl
      exact kk H' _ g1 g2
    · refine va_WputK hx hb (f := f) hown hl hi hst (by rw [q2]; exact h6) q1 q3 (by rw [hsl]; exact k2_hasslot (q4 k hk)) rfl rfl hdg fun H' e1 e2 e3 => ?_
      rw [hsl] at e1 ⊢
      obtain ⟨g1, g2⟩ := build H' e1 e2 e3 _ rfl
      exact kk H' _ g1 g2
  · rcases hfin with hq | ⟨hm1, hm2⟩
    · exact absurd hq hf
    rcases hlink with hl | ⟨hq, -⟩
    · have hft : (T k).2.2.2 = true := by simpa using hf
      rw [if_pos hft] at hlay
      have hcf : m.cls = cf := by
        obtain ⟨_, _, c', _, _, _, -, -, hf', -, -, -, hown2, -⟩ := Cond.laysFinal_spec hlay
        have e1 : c' = cf := by have := hi.symm.trans hf'; simp at this; exact this.1.symm
        rw [(c8 k hk).1, hm2] at hown2
        rw [← e1]; exact Option.some.inj (hown.symm.trans hown2)
      have h6 := u_fits hfc hkC hkind (Or.inr hlay) hi (c5 k hk) hnar hfit
      refine W.putFinK hx hb hown hl hi hst hcf hm1 (by rw [q2]; exact h6) q1 q3 (by rw [hsl]; exact k2_hasslot (q4 k hk)) rfl rfl hdg fun H' e1 e2 e3 => ?_
      rw [hsl] at e1 ⊢
      obtain ⟨g1, g2⟩ := build H' e1 e2 e3 _ rfl
      exact kk H' _ g1 g2
    · exact absurd hq hf
end ZR
