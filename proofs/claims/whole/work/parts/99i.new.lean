/-! new cells -/
section
variable {S : zM} {k l s : Nat}
theorem al_h (b : Nat) : zh (zalloc S k l s) b = if b = zn S + 1 then (k, l) else zh S b := rfl
theorem al_I : zI (zalloc S k l s) = zI S := rfl
theorem al_J : zJ (zalloc S k l s) = zJ S := rfl
theorem al_R : zR (zalloc S k l s) = zR S := rfl
theorem al_n : zn (zalloc S k l s) = zn S + 1 := rfl
theorem al_s : zs (zalloc S k l s) = zs S + s := rfl
end
/-- the cells K are kept -/
def zkq (K : Nat → Prop) (S S' : zM) : Prop := ∀ b, K b → zh S' b = zh S b ∧ ∀ j, zI S' b j = zI S b j ∧ zJ S' b j = zJ S b j ∧ zR S' b j = zR S b j
theorem kq_refl (K : Nat → Prop) (S : zM) : zkq K S S := fun b _ => ⟨rfl, fun j => ⟨rfl, rfl, rfl⟩⟩
theorem kq_trans {K : Nat → Prop} {S S' S'' : zM} (h : zkq K S S') (h2 : zkq K S' S'') : zkq K S S'' := fun b hb => ⟨(h2 b hb).1.trans (h b hb).1, fun j => ⟨((h2 b hb).2 j).1.trans ((h b hb).2 j).1, ((h2 b hb).2 j).2.1.trans ((h b hb).2 j).2.1, ((h2 b hb).2 j).2.2.trans ((h b hb).2 j).2.2⟩⟩
theorem kq_mono {K K' : Nat → Prop} {S S' : zM} (h : zkq K S S') (hk : ∀ b, K' b → K b) : zkq K' S S' := fun b hb => h b (hk b hb)
theorem kq_row {K : Nat → Prop} {S S' : zM} {a n : Nat} {xs : List Nat} (h : pRow S a n xs) (q : zkq K S S') (h1 : K a) (h2 : K (a + 1)) : pRow S' a n xs := by
  obtain ⟨r1, r2, r3, r4, r5, r6, r7, r8⟩ := h
  exact ⟨by rw [(q a h1).1]; exact r1, by rw [((q a h1).2 0).2.2]; exact r2, by rw [(q _ h2).1]; exact r3, r4, r5, by rw [((q a h1).2 1).1]; exact r6, fun k hk => by rw [((q _ h2).2 k).1]; exact r7 k hk, r8⟩
theorem kq_al (S : zM) (k l s : Nat) : zkq (fun b => b ≤ zn S) S (zalloc S k l s) := fun b hb => ⟨by rw [al_h, if_neg (by omega)], fun j => ⟨rfl, rfl, rfl⟩⟩
theorem kq_wR (S : zM) (a k : Nat) (v : Option Nat) : zkq (fun b => b ≠ a) S (zwR S a k v) := fun b hb => ⟨rfl, fun j => ⟨rfl, rfl, by simp [-Prod.exists, -Prod.forall, zgf, zgr, zpf, zpz, zpr, zga, zgl, zgo, zpa, zpb, zpl, zpo, mm_len, zcl, Option.bind_some, Option.bind_none, mm_hI, mm_hJ, mm_hR, mm_nI, mm_nJ, mm_nR, mm_sI, mm_sJ, mm_sR, mm_RI, mm_RJ, mm_IJ, mm_IR, mm_JI, mm_JR, mm_II, mm_JJ, mm_RR, hb]⟩⟩
theorem fz_al {S : zM} {k l s : Nat} (h : zfz S) : zfz (zalloc S k l s) := fun b j hb => h b j (by rw [al_n] at hb; omega)
theorem fz_wR {S : zM} {a k : Nat} {v : Option Nat} (h : zfz S) (ha : a ≤ zn S) : zfz (zwR S a k v) := fun b j hb => by
  have hb' : zn S < b := hb
  have : b ≠ a := by omega
  refine ⟨(h b j hb').1, (h b j hb').2.1, ?_⟩
  simp [-Prod.exists, -Prod.forall, zgf, zgr, zpf, zpz, zpr, zga, zgl, zgo, zpa, zpb, zpl, zpo, mm_len, zcl, Option.bind_some, Option.bind_none, mm_hI, mm_hJ, mm_hR, mm_nI, mm_nJ, mm_nR, mm_sI, mm_sJ, mm_sR, mm_RI, mm_RJ, mm_IJ, mm_IR, mm_JI, mm_JR, mm_II, mm_JJ, mm_RR, this, (h b j hb').2.2]
/-- a new row -/
theorem row_new {S : zM} (hz : zfz S) {n : Nat} (hn : n < 1000) : ∃ S', f_Row_init (zn S + 1) (nI n) (zalloc S 8 0 2) = some S' ∧ zn S' = zn S + 2 ∧ zs S' = zs S + 2 + n ∧ zkq (fun b => b ≤ zn S) S S' ∧ zfz S' ∧ pRow S' (zn S + 1) n [] := by
  have z1 : zfz (zalloc (zalloc S 8 0 2) 100 n n) := fz_al (fz_al hz)
  have c0 : ¬ nI n < 0 := nI_pos (by omega)
  have c1 : ¬ (nI n < 0 ∨ 10000 ≤ (nI n).toNatClampNeg) := by
    rw [nI_clamp (by omega)]
    rintro (q | q)
    · exact c0 q
    · omega
  have hh : zh (zalloc (zalloc S 8 0 2) 100 n n) (zn S + 1) = (8, 0) := by rw [al_h, al_n, if_neg (by omega), al_h, if_pos rfl]
  have e := hz (zn S + 1)
  refine ⟨zwR (zalloc (zalloc S 8 0 2) 100 n n) (zn S + 1) 0 (some (zn S + 2)), ?_, rfl, rfl, ?_, fz_wR z1 (by rw [al_n, al_n]; omega), ?_⟩
  · rw [f_Row_init, if_neg c0, if_neg c1, nI_clamp (by omega)]
    simp [-Prod.exists, -Prod.forall, ↓bb_gf, ↓bb_gr, ↓bb_len, ↓bb_ga, ↓bb_gl, ↓bb_go, ↓bb_pf, ↓bb_pz, ↓bb_pr, ↓bb_pa, ↓bb_pb, ↓bb_pl, ↓bb_po, ↓bb_cl, ↓bb_some, ↓bb_RI, ↓bb_RJ, mm_hI, mm_hJ, mm_hR, mm_nI, mm_nJ, mm_nR, mm_sI, mm_sJ, mm_sR, mm_RI, mm_RJ, mm_IJ, mm_IR, mm_JI, mm_JR, mm_II, mm_JJ, mm_RR, hh]
    rfl
  · exact kq_trans (kq_trans (kq_al S 8 0 2) (kq_mono (kq_al _ 100 n n) (fun b hb => by rw [al_n]; omega))) (kq_mono (kq_wR _ _ _ _) (fun b hb => by omega))
  · refine ⟨hh, by simp [-Prod.exists, -Prod.forall, zgf, zgr, zpf, zpz, zpr, zga, zgl, zgo, zpa, zpb, zpl, zpo, mm_len, zcl, Option.bind_some, Option.bind_none, mm_hI, mm_hJ, mm_hR, mm_nI, mm_nJ, mm_nR, mm_sI, mm_sJ, mm_sR, mm_RI, mm_RJ, mm_IJ, mm_IR, mm_JI, mm_JR, mm_II, mm_JJ, mm_RR], ?_, hn, by simp, ?_, fun k hk => by simp at hk, fun k => by simp [lg]⟩
    · rw [mm_hR, al_h, al_n, if_pos rfl]
    · have : zI S (zn S + 1) 1 = 0 := (hz _ 1 (by omega)).1
      simp [-Prod.exists, -Prod.forall, zgf, zgr, zpf, zpz, zpr, zga, zgl, zgo, zpa, zpb, zpl, zpo, mm_len, zcl, Option.bind_some, Option.bind_none, mm_hI, mm_hJ, mm_hR, mm_nI, mm_nJ, mm_nR, mm_sI, mm_sJ, mm_sR, mm_RI, mm_RJ, mm_IJ, mm_IR, mm_JI, mm_JR, mm_II, mm_JJ, mm_RR, al_I, this]; rfl
/-- a new array, put into a field of a -/
theorem arr_new {S : zM} (hz : zfz S) {a ci f k l : Nat} (ha : a ≤ zn S) (hh : (zh S a).1 = ci) : zpr (zalloc S k l l) ci a f (some (zn S + 1)) = some (zwR (zalloc S k l l) a f (some (zn S + 1))) ∧ zfz (zwR (zalloc S k l l) a f (some (zn S + 1))) ∧ zkq (fun b => b ≤ zn S ∧ b ≠ a) S (zwR (zalloc S k l l) a f (some (zn S + 1))) := by
  refine ⟨?_, fz_wR (fz_al hz) (by rw [al_n]; omega), kq_trans (kq_mono (kq_al S k l l) (fun b hb => hb.1)) (kq_mono (kq_wR _ _ _ _) (fun b hb => hb.2))⟩
  have : (zh (zalloc S k l l) a).1 = ci := by rw [al_h, if_neg (by omega)]; exact hh
  rw [zpr, if_pos this]
/-- a reference put into a field -/
theorem put_ex {S : zM} (hz : zfz S) {a ci f : Nat} {v : Option Nat} (ha : a ≤ zn S) (hh : (zh S a).1 = ci) : ∃ S', zpr S ci a f v = some S' ∧ zn S' = zn S ∧ zs S' = zs S ∧ zfz S' ∧ zkq (fun b => b ≠ a) S S' ∧ zh S' = zh S ∧ zR S' a f = v ∧ (∀ j, j ≠ f → zR S' a j = zR S a j) ∧ zI S' = zI S ∧ zJ S' = zJ S := by
  refine ⟨zwR S a f v, by rw [zpr, if_pos hh], rfl, rfl, fz_wR hz ha, kq_wR _ _ _ _, rfl, by simp [-Prod.exists, -Prod.forall, zgf, zgr, zpf, zpz, zpr, zga, zgl, zgo, zpa, zpb, zpl, zpo, mm_len, zcl, Option.bind_some, Option.bind_none, mm_hI, mm_hJ, mm_hR, mm_nI, mm_nJ, mm_nR, mm_sI, mm_sJ, mm_sR, mm_RI, mm_RJ, mm_IJ, mm_IR, mm_JI, mm_JR, mm_II, mm_JJ, mm_RR], fun j hj => by simp [-Prod.exists, -Prod.forall, zgf, zgr, zpf, zpz, zpr, zga, zgl, zgo, zpa, zpb, zpl, zpo, mm_len, zcl, Option.bind_some, Option.bind_none, mm_hI, mm_hJ, mm_hR, mm_nI, mm_nJ, mm_nR, mm_sI, mm_sJ, mm_sR, mm_RI, mm_RJ, mm_IJ, mm_IR, mm_JI, mm_JR, mm_II, mm_JJ, mm_RR, hj], rfl, rfl⟩
/-- a new array put into a field -/
theorem arr_ex {S : zM} (hz : zfz S) {a ci f : Nat} (k l : Nat) (ha : a ≤ zn S) (hh : (zh S a).1 = ci) : ∃ S', zpr (zalloc S k l l) ci a f (some (zn S + 1)) = some S' ∧ zn S' = zn S + 1 ∧ zs S' = zs S + l ∧ zfz S' ∧ zkq (fun b => b ≤ zn S ∧ b ≠ a) S S' ∧ zh S' a = zh S a ∧ zR S' a f = some (zn S + 1) ∧ (∀ j, j ≠ f → zR S' a j = zR S a j) ∧ zI S' = zI S ∧ zJ S' = zJ S ∧ zh S' (zn S + 1) = (k, l) := by
  have : (zh (zalloc S k l l) a).1 = ci := by rw [al_h, if_neg (by omega)]; exact hh
  obtain ⟨S', p1, p2, p3, p4, p5, p6, p7, p8, p9, p10⟩ := put_ex (fz_al (k := k) (l := l) (s := l) hz) (f := f) (v := some (zn S + 1)) (show a ≤ zn (zalloc S k l l) by rw [al_n]; omega) this
  refine ⟨S', p1, p2, p3, p4, kq_trans (kq_mono (kq_al S k l l) (fun b hb => hb.1)) (kq_mono p5 (fun b hb => hb.2)), by rw [p6, al_h, if_neg (by omega)], p7, p8, p9, p10, by rw [p6, al_h, if_pos rfl]⟩
/-- a new row put into a field -/
theorem row_ex {S : zM} (hz : zfz S) {a ci f n : Nat} (hn : n < 1000) (ha : a ≤ zn S) (hh : (zh S a).1 = ci) : ∃ S1 S', f_Row_init (zn S + 1) (nI n) (zalloc S 8 0 2) = some S1 ∧ (zh (zalloc S 8 0 2) (zn S + 1)).1 = 8 ∧ zpr S1 ci a f (some (zn S + 1)) = some S' ∧ zn S' = zn S + 2 ∧ zs S' = zs S + 2 + n ∧ zfz S' ∧ zkq (fun b => b ≤ zn S ∧ b ≠ a) S S' ∧ zh S' a = zh S a ∧ zR S' a f = some (zn S + 1) ∧ (∀ j, j ≠ f → zR S' a j = zR S a j) ∧ (∀ j, zI S' a j = zI S a j) ∧ pRow S' (zn S + 1) n [] := by
  obtain ⟨S1, r1, r2, r3, r4, r5, r6⟩ := row_new hz hn
  obtain ⟨S', p1, p2, p3, p4, p5, p6, p7, p8, p9, p10⟩ := put_ex r5 (a := a) (ci := ci) (f := f) (v := some (zn S + 1)) (by omega) (by rw [(r4 a ha).1]; exact hh)
  exact ⟨S1, S', r1, by rw [al_h, if_pos rfl], p1, by omega, by omega, p4, kq_trans (kq_mono r4 (fun b hb => hb.1)) (kq_mono p5 (fun b hb => hb.2)), by rw [p6]; exact (r4 a ha).1, p7, fun j hj => (p8 j hj).trans ((r4 a ha).2 j).2.2, fun j => by rw [p9]; exact ((r4 a ha).2 j).1, kq_row r6 p5 (by omega) (by omega)⟩
/-- a new object -/
theorem obj_ex {S : zM} (hz : zfz S) (k s : Nat) : ∃ S', S' = zalloc S k 0 s ∧ zn S' = zn S + 1 ∧ zs S' = zs S + s ∧ zfz S' ∧ zkq (fun b => b ≤ zn S) S S' ∧ zh S' (zn S + 1) = (k, 0) ∧ (∀ j, zI S' (zn S + 1) j = 0 ∧ zR S' (zn S + 1) j = none) :=
  ⟨_, rfl, rfl, rfl, fz_al hz, kq_al _ _ _ _, by rw [al_h, if_pos rfl], fun j => ⟨(hz _ j (by omega)).1, (hz _ j (by omega)).2.2⟩⟩
/-- new outcomes -/
theorem out_new {S : zM} (hz : zfz S) : ∃ S', f_Outcomes_init (zn S + 1) (zalloc S 4 0 3) = some S' ∧ zn S' = zn S + 4 ∧ zs S' = zs S + 7507 ∧ zkq (fun b => b ≤ zn S) S S' ∧ zfz S' ∧ sOut S' (zn S + 1) ∧ zI S' = zI S := by
  have t1 : (1364 : Int32).toNatClampNeg = 1364 := by decide
  have t2 : (4092 : Int32).toNatClampNeg = 4092 := by decide
  have t3 : (2048 : Int32).toNatClampNeg = 2048 := by decide
  have c1 : ¬ ((1364 : Int32) < 0 ∨ 10000 ≤ (1364 : Int32).toNatClampNeg) := by decide
  have c2 : ¬ ((4092 : Int32) < 0 ∨ 10000 ≤ (4092 : Int32).toNatClampNeg) := by decide
  have c3 : ¬ ((2048 : Int32) < 0 ∨ 10000 ≤ (2048 : Int32).toNatClampNeg) := by decide
  obtain ⟨S0, e0, n0, s0, z0, k0, h0, i0⟩ := obj_ex hz 4 3
  rw [← e0]
  obtain ⟨S1, a1, n1, s1, z1, k1, h1, r1, o1, i1, j1, g1⟩ := arr_ex z0 (a := zn S + 1) (ci := 4) (f := 0) 100 1364 (by omega) (by rw [h0])
  obtain ⟨S2, a2, n2, s2, z2, k2, h2, r2, o2, i2, j2, g2⟩ := arr_ex z1 (a := zn S + 1) (ci := 4) (f := 1) 101 4092 (by omega) (by rw [h1, h0])
  obtain ⟨S3, a3, n3, s3, z3, k3, h3, r3, o3, i3, j3, g3⟩ := arr_ex z2 (a := zn S + 1) (ci := 4) (f := 2) 100 2048 (by omega) (by rw [h2, h1, h0])
  refine ⟨S3, ?_, by omega, by omega, kq_trans (kq_trans (kq_trans k0 (kq_mono k1 (fun b hb => by omega))) (kq_mono k2 (fun b hb => by omega))) (kq_mono k3 (fun b hb => by omega)), z3, ?_, by rw [i3, i2, i1, e0]; rfl⟩
  · rw [f_Outcomes_init, if_neg c1, t1, a1]
    simp only [Option.bind_some]
    rw [if_neg c2, t2, a2]
    simp only [Option.bind_some]
    rw [if_neg c3, t3, a3]
    rfl
  · rw [n0] at g1 r1
    rw [n1, n0] at g2 r2
    rw [n2, n1, n0] at g3 r3
    refine ⟨by rw [h3, h2, h1, h0], by rw [o3 _ (by omega), o2 _ (by omega), r1], by rw [(k3 _ ⟨by omega, by omega⟩).1, (k2 _ ⟨by omega, by omega⟩).1]; exact g1, by rw [o3 _ (by omega), r2], by rw [(k3 _ ⟨by omega, by omega⟩).1]; exact g2, r3, g3⟩
/-- a new carrier -/
theorem car_new {S : zM} (hz : zfz S) : ∃ S', f_Carrier_init (zn S + 1) (zalloc S 1 0 6) = some S' ∧ zn S' = zn S + 14 ∧ zs S' = zs S + 346 ∧ zkq (fun b => b ≤ zn S) S S' ∧ zfz S' ∧ aCar S' (zn S + 1) (zn S + 5) (zn S + 7) := by
  have t1 : (3 : Int32).toNatClampNeg = 3 := by decide
  have t3 : (24 : Int32).toNatClampNeg = 24 := by decide
  have c1 : ¬ ((3 : Int32) < 0 ∨ 10000 ≤ (3 : Int32).toNatClampNeg) := by decide
  have c3 : ¬ ((24 : Int32) < 0 ∨ 10000 ≤ (24 : Int32).toNatClampNeg) := by decide
  obtain ⟨S0, e0, n0, s0, z0, k0, h0, i0⟩ := obj_ex hz 1 6
  rw [← e0]
  obtain ⟨S1, a1, n1, s1, z1, k1, h1, r1, o1, i1, j1, g1⟩ := arr_ex z0 (a := zn S + 1) (ci := 1) (f := 0) 118 3 (by omega) (by rw [h0])
  obtain ⟨S2, a2, n2, s2, z2, k2, h2, r2, o2, i2, j2, g2⟩ := arr_ex z1 (a := zn S + 1) (ci := 1) (f := 1) 100 3 (by omega) (by rw [h1, h0])
  obtain ⟨S3, a3, n3, s3, z3, k3, h3, r3, o3, i3, j3, g3⟩ := arr_ex z2 (a := zn S + 1) (ci := 1) (f := 2) 100 24 (by omega) (by rw [h2, h1, h0])
  obtain ⟨P4, S4, b4, q4, a4, n4, s4, z4, k4, h4, r4, o4, i4, w4⟩ := row_ex z3 (a := zn S + 1) (ci := 1) (f := 3) (n := 60) (by omega) (by omega) (by rw [h3, h2, h1, h0])
  obtain ⟨P5, S5, b5, q5, a5, n5, s5, z5, k5, h5, r5, o5, i5, w5⟩ := row_ex z4 (a := zn S + 1) (ci := 1) (f := 4) (n := 60) (by omega) (by omega) (by rw [h4, h3, h2, h1, h0])
  have hh5 : zh S5 (zn S + 1) = (1, 0) := by rw [h5, h4, h3, h2, h1, h0]
  have rr5 : zR S5 (zn S + 1) 0 = some (zn S + 2) := by rw [o5 _ (by omega), o4 _ (by omega), o3 _ (by omega), o2 _ (by omega), r1]; simp only [Option.some.injEq]; omega
  have ha5 : zh S5 (zn S + 2) = (118, 3) := by
    rw [(k5 _ ⟨by omega, by omega⟩).1, (k4 _ ⟨by omega, by omega⟩).1, (k3 _ ⟨by omega, by omega⟩).1, (k2 _ ⟨by omega, by omega⟩).1]
    rw [n0] at g1; exact g1
  -- three rows behind
  have step : ∀ (i : Nat) (X : zM), i < 3 → zfz X → zn S + 8 ≤ zn X → zh X (zn S + 1) = (1, 0) → zR X (zn S + 1) 0 = some (zn S + 2) → zh X (zn S + 2) = (118, 3) → ∃ Y, (∀ F, L_Carrier_init_55 (F + 1) (zn S + 1) (nI i) X = L_Carrier_init_55 F (zn S + 1) (nI (i + 1)) Y) ∧ zn Y = zn X + 2 ∧ zs Y = zs X + 62 ∧ zfz Y ∧ zkq (fun b => b ≤ zn X ∧ b ≠ zn S + 2) X Y ∧ zh Y (zn S + 2) = (118, 3) ∧ zR Y (zn S + 2) i = some (zn X + 1) ∧ (∀ j, j ≠ i → zR Y (zn S + 2) j = zR X (zn S + 2) j) ∧ pRow Y (zn X + 1) 60 [] := by
    intro i X hi zX nX hX rX aX
    obtain ⟨Y1, y1, y2, y3, y4, y5, y6⟩ := row_new zX (n := 60) (by omega)
    have y1 : f_Row_init (zn X + 1) 60 (zalloc X 8 0 2) = some Y1 := y1
    have v1 : (zh (zalloc X 8 0 2) (zn X + 1)).1 = 8 := by rw [al_h, if_pos rfl]
    have v2 : zh Y1 (zn S + 2) = (118, 3) := by rw [(y4 _ (by omega)).1]; exact aX
    have v3 : (zh Y1 (zn X + 1)).1 = 8 := by rw [y6.1]
    have z : zinb (nI i) 3 = true := (nn_in (by omega)).2 (by omega)
    have c : (nI i).toNatClampNeg = i := nI_clamp (by omega)
    have lt : nI i < (3 : Int32) := (nI_ltI (b := 3) (by omega) (by omega)).2 hi
    have e1 : nI i + 1 = nI (i + 1) := nI_add i 1
    refine ⟨zwR Y1 (zn S + 2) i (some (zn X + 1)), fun F => ?_, y2, by show zs Y1 = _; omega, fz_wR y5 (by omega), kq_trans (kq_mono y4 (fun b hb => hb.1)) (kq_mono (kq_wR _ _ _ _) (fun b hb => hb.2)), v2, by simp [-Prod.exists, -Prod.forall, zgf, zgr, zpf, zpz, zpr, zga, zgl, zgo, zpa, zpb, zpl, zpo, mm_len, zcl, Option.bind_some, Option.bind_none, mm_hI, mm_hJ, mm_hR, mm_nI, mm_nJ, mm_nR, mm_sI, mm_sJ, mm_sR, mm_RI, mm_RJ, mm_IJ, mm_IR, mm_JI, mm_JR, mm_II, mm_JJ, mm_RR], fun j hj => by simp [-Prod.exists, -Prod.forall, zgf, zgr, zpf, zpz, zpr, zga, zgl, zgo, zpa, zpb, zpl, zpo, mm_len, zcl, Option.bind_some, Option.bind_none, mm_hI, mm_hJ, mm_hR, mm_nI, mm_nJ, mm_nR, mm_sI, mm_sJ, mm_sR, mm_RI, mm_RJ, mm_IJ, mm_IR, mm_JI, mm_JR, mm_II, mm_JJ, mm_RR, hj]; exact ((y4 _ (by omega)).2 j).2.2, kq_row y6 (kq_wR _ _ _ _) (by omega) (by omega)⟩
    rw [L_Carrier_init_55, if_pos lt]
    simp [-Prod.exists, -Prod.forall, ↓bb_gf, ↓bb_gr, ↓bb_len, ↓bb_ga, ↓bb_gl, ↓bb_go, ↓bb_pf, ↓bb_pz, ↓bb_pr, ↓bb_pa, ↓bb_pb, ↓bb_pl, ↓bb_po, ↓bb_cl, ↓bb_some, ↓bb_RI, ↓bb_RJ, mm_hI, mm_hJ, mm_hR, mm_nI, mm_nJ, mm_nR, mm_sI, mm_sJ, mm_sR, mm_RI, mm_RJ, mm_IJ, mm_IR, mm_JI, mm_JR, mm_II, mm_JJ, mm_RR, hX, ↓bS rX, v1, ↓bS y1, v2, v3, z, c, e1]
  obtain ⟨S6, f6, n6, s6, z6, k6, h6, r6, o6, w6⟩ := step 0 S5 (by omega) z5 (by omega) hh5 rr5 ha5
  have ca6 : zh S6 (zn S + 1) = (1, 0) := by rw [(k6 _ ⟨by omega, by omega⟩).1]; exact hh5
  have cr6 : zR S6 (zn S + 1) 0 = some (zn S + 2) := by rw [((k6 _ ⟨by omega, by omega⟩).2 0).2.2]; exact rr5
  obtain ⟨S7, f7, n7, s7, z7, k7, h7, r7, o7, w7⟩ := step 1 S6 (by omega) z6 (by omega) ca6 cr6 h6
  have ca7 : zh S7 (zn S + 1) = (1, 0) := by rw [(k7 _ ⟨by omega, by omega⟩).1]; exact ca6
  have cr7 : zR S7 (zn S + 1) 0 = some (zn S + 2) := by rw [((k7 _ ⟨by omega, by omega⟩).2 0).2.2]; exact cr6
  obtain ⟨S8, f8, n8, s8, z8, k8, h8, r8, o8, w8⟩ := step 2 S7 (by omega) z7 (by omega) ca7 cr7 h7
  have kk : ∀ b, b ≤ zn S5 → b ≠ zn S + 2 → zh S8 b = zh S5 b ∧ ∀ j, zI S8 b j = zI S5 b j ∧ zJ S8 b j = zJ S5 b j ∧ zR S8 b j = zR S5 b j := fun b q1 q2 => kq_trans (K := fun c => c = b) (kq_trans (kq_mono k6 (fun c hc => ⟨by omega, by omega⟩)) (kq_mono k7 (fun c hc => ⟨by omega, by omega⟩))) (kq_mono k8 (fun c hc => ⟨by omega, by omega⟩)) b rfl
  have lp : L_Carrier_init_55 zF (zn S + 1) 0 S5 = some S8 := by
    obtain ⟨F, hF⟩ : ∃ F, zF = F + 4 := ⟨zF - 4, by rw [zF_eq]⟩
    rw [hF]
    have g0 := f6 (F + 3)
    have g1 := f7 (F + 2)
    have g2 := f8 (F + 1)
    have x0 : nI 0 = (0 : Int32) := rfl
    rw [x0] at g0
    rw [g0, g1, g2, L_Carrier_init_55, if_neg (by decide)]
  have w4' : pRow S8 (zn S + 5) 60 [] := by
    rw [n3, n2, n1, n0] at w4
    exact kq_row (K := fun b => b = zn S + 5 ∨ b = zn S + 6) (kq_row w4 k5 ⟨by omega, by omega⟩ ⟨by omega, by omega⟩) (fun b hb => kk b (by omega) (by omega)) (by omega) (by omega)
  have w5' : pRow S8 (zn S + 7) 60 [] := by
    rw [n4, n3, n2, n1, n0] at w5
    exact kq_row (K := fun b => b = zn S + 7 ∨ b = zn S + 8) w5 (fun b hb => kk b (by omega) (by omega)) (by omega) (by omega)
  have w6' : pRow S8 (zn S + 9) 60 [] := by
    rw [n5, n4, n3, n2, n1, n0] at w6
    exact kq_row (kq_row w6 k7 ⟨by omega, by omega⟩ ⟨by omega, by omega⟩) k8 ⟨by omega, by omega⟩ ⟨by omega, by omega⟩
  have w7' : pRow S8 (zn S + 11) 60 [] := by
    rw [n6, n5, n4, n3, n2, n1, n0] at w7
    exact kq_row w7 k8 ⟨by omega, by omega⟩ ⟨by omega, by omega⟩
  have w8' : pRow S8 (zn S + 13) 60 [] := by
    rw [n7, n6, n5, n4, n3, n2, n1, n0] at w8
    exact w8
  refine ⟨S8, ?_, by omega, by omega, ?_, z8, ⟨?_, ⟨[], w4'⟩, ⟨[], w5'⟩, ?_⟩⟩
  · rw [f_Carrier_init, if_neg c1, t1, a1]
    simp only [Option.bind_some]
    rw [if_neg (show ¬ ((3 : Int32) < 0 ∨ 10000 ≤ 3) by decide), a2]
    simp only [Option.bind_some]
    rw [if_neg c3, t3, a3]
    have b4 : f_Row_init (zn S3 + 1) 60 (zalloc S3 8 0 2) = some P4 := b4
    have b5 : f_Row_init (zn S4 + 1) 60 (zalloc S4 8 0 2) = some P5 := b5
    simp only [Option.bind_some, zcl, q4, if_true, b4, a4, q5, b5, a5]
    exact lp
  · intro b hb
    have x1 := kk b (by omega) (by omega)
    have x2 := kq_trans (K := fun c => c = b) (kq_trans (kq_trans (kq_trans (kq_trans (kq_mono k0 (fun c hc => by omega)) (kq_mono k1 (fun c hc => ⟨by omega, by omega⟩))) (kq_mono k2 (fun c hc => ⟨by omega, by omega⟩))) (kq_mono k3 (fun c hc => ⟨by omega, by omega⟩))) (kq_mono k4 (fun c hc => ⟨by omega, by omega⟩))) (kq_mono k5 (fun c hc => ⟨by omega, by omega⟩))
    exact kq_trans (K := fun c => c = b) x2 (fun c hc => by rw [hc]; exact x1) b rfl
  · have ka := kk (zn S + 1) (by omega) (by omega)
    have e : ∀ j, zR S8 (zn S + 1) j = zR S5 (zn S + 1) j := fun j => (ka.2 j).2.2
    rw [n0] at g1
    rw [n1, n0] at g2 r2
    rw [n2, n1, n0] at g3 r3
    rw [n3, n2, n1, n0] at r4
    rw [n4, n3, n2, n1, n0] at r5
    refine ⟨by rw [ka.1]; exact hh5, by rw [e]; exact rr5, h8, fun p hp => ?_, ?_, ?_, ?_, ?_, ?_, ?_, ?_⟩
    · have : p = 0 ∨ p = 1 ∨ p = 2 := by omega
      rcases this with rfl | rfl | rfl
      · rw [o8 _ (by omega), o7 _ (by omega), r6]; simp only [Option.some.injEq]; omega
      · rw [o8 _ (by omega), r7]; simp only [Option.some.injEq]; omega
      · rw [r8]; simp only [Option.some.injEq]; omega
    · rw [e, o5 _ (by omega), o4 _ (by omega), o3 _ (by omega), r2]
    · rw [(kk _ (by omega) (by omega)).1, (k5 _ ⟨by omega, by omega⟩).1, (k4 _ ⟨by omega, by omega⟩).1, (k3 _ ⟨by omega, by omega⟩).1]; exact g2
    · rw [e, o5 _ (by omega), o4 _ (by omega), r3]
    · rw [(kk _ (by omega) (by omega)).1, (k5 _ ⟨by omega, by omega⟩).1, (k4 _ ⟨by omega, by omega⟩).1]; exact g3
    · rw [e, o5 _ (by omega), r4]
    · rw [e, r5]
    · left; exact ⟨by omega, by omega⟩
  · intro p hp
    have : p = 0 ∨ p = 1 ∨ p = 2 := by omega
    rcases this with rfl | rfl | rfl
    · exact ⟨[], w6'⟩
    · exact ⟨[], w7'⟩
    · exact ⟨[], w8'⟩
