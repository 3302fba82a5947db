/-! a new census -/
theorem obj_put {S S1 : zM} (hz : zfz S1) {a ci f c : Nat} (hk : zkq (fun b => b ≤ zn S) S S1) (ha : a ≤ zn S) (hn : zn S ≤ zn S1) (hh : (zh S a).1 = ci) : ∃ S', zpr S1 ci a f (some c) = some S' ∧ zn S' = zn S1 ∧ zs S' = zs S1 ∧ zfz S' ∧ zkq (fun b => b ≤ zn S ∧ b ≠ a) S S' ∧ zkq (fun b => b ≠ a) S1 S' ∧ zh S' = zh S1 ∧ zh S' a = zh S a ∧ zR S' a f = some c ∧ (∀ j, j ≠ f → zR S' a j = zR S a j) ∧ (∀ j, zI S' a j = zI S a j) ∧ zI S' = zI S1 := by
  obtain ⟨S', p1, p2, p3, p4, p5, p6, p7, p8, p9, p10⟩ := put_ex hz (a := a) (ci := ci) (f := f) (v := some c) (by omega) (by rw [(hk a ha).1]; exact hh)
  exact ⟨S', p1, p2, p3, p4, kq_trans (kq_mono hk (fun b hb => hb.1)) (kq_mono p5 (fun b hb => hb.2)), p5, p6, by rw [p6]; exact (hk a ha).1, p7, fun j hj => (p8 j hj).trans ((hk a ha).2 j).2.2, fun j => by rw [p9]; exact ((hk a ha).2 j).1, p9⟩
theorem kq_out {K : Nat → Prop} {S S' : zM} {O : Nat} (h : sOut S O) (q : zkq K S S') (h1 : ∀ i, i < 4 → K (O + i)) : sOut S' O := by
  obtain ⟨s1, s2, s3, s4, s5, s6, s7⟩ := h
  have k0 := q O (h1 0 (by omega))
  exact ⟨by rw [k0.1]; exact s1, by rw [(k0.2 _).2.2]; exact s2, by rw [(q _ (h1 1 (by omega))).1]; exact s3, by rw [(k0.2 _).2.2]; exact s4, by rw [(q _ (h1 2 (by omega))).1]; exact s5, by rw [(k0.2 _).2.2]; exact s6, by rw [(q _ (h1 3 (by omega))).1]; exact s7⟩
theorem kq_car {K : Nat → Prop} {S S' : zM} {c x y : Nat} (h : aCar S c x y) (q : zkq K S S') (h1 : ∀ i, i < 14 → K (c + i)) : aCar S' c x y := by
  obtain ⟨⟨a1, a2, a3, a4, a5, a6, a7, a8, a9, a10, a11⟩, ⟨xs, b1⟩, ⟨ys, b2⟩, b3⟩ := h
  have k0 := q c (h1 0 (by omega))
  have k1 := q (c + 1) (h1 1 (by omega))
  have kr : ∀ a, c ≤ a → a < c + 14 → K a := fun a p1 p2 => by have := h1 (a - c) (by omega); rw [show c + (a - c) = a by omega] at this; exact this
  refine ⟨⟨by rw [k0.1]; exact a1, by rw [(k0.2 _).2.2]; exact a2, by rw [k1.1]; exact a3, fun p hp => by rw [(k1.2 _).2.2]; exact a4 p hp, by rw [(k0.2 _).2.2]; exact a5, by rw [(q _ (h1 2 (by omega))).1]; exact a6, by rw [(k0.2 _).2.2]; exact a7, by rw [(q _ (h1 3 (by omega))).1]; exact a8, by rw [(k0.2 _).2.2]; exact a9, by rw [(k0.2 _).2.2]; exact a10, a11⟩, ⟨xs, kq_row b1 q (kr _ (by omega) (by omega)) (kr _ (by omega) (by omega))⟩, ⟨ys, kq_row b2 q (kr _ (by omega) (by omega)) (kr _ (by omega) (by omega))⟩, fun p hp => ?_⟩
  obtain ⟨zs, b⟩ := b3 p hp
  exact ⟨zs, kq_row b q (kr _ (by omega) (by omega)) (kr _ (by omega) (by omega))⟩
theorem fill_5 {S0 : zM} {a n : Nat} (hh : zh S0 a = (100, n)) (ha : a ≠ 0) (hn : n < 10000) (v : Int32) : ∃ S', f_J_fill a v S0 = some S' ∧ zfr (fun b _ => b = a) S0 S' ∧ ∀ k, k < n → zI S' a k = v := by
  obtain ⟨S', l1, l2, l3⟩ := loop_st (N := n) (by omega) (fun F i S => L_J_fill_5 F a v (nI i) (nI n) S) (fun S => some S) (W := fun b _ => b = a) (S0 := S0) (fun i S => zwI S a i v) (fun i S => zI S a i = v)
    (fun F S hf => by
      show L_J_fill_5 (F + 1) _ _ _ _ _ = _
      have : ¬ nI n < nI n := by rw [nI_ltI (by omega) (by omega)]; omega
      rw [L_J_fill_5, if_neg this])
    (fun F i S hi hf => by
      have lt : nI i < nI n := (nI_ltI (by omega) (by omega)).2 hi
      have e1 : nI i + 1 = nI (i + 1) := nI_add i 1
      have z : zinb (nI i) n = true := (nn_in (by omega)).2 hi
      have c : (nI i).toNatClampNeg = i := nI_clamp (by omega)
      have hS : zh S a = (100, n) := by rw [fr_h hf]; exact hh
      show L_J_fill_5 (F + 1) _ _ _ _ _ = _
      rw [L_J_fill_5, if_pos lt]
      simp [-Prod.exists, -Prod.forall, ↓bb_gf, ↓bb_gr, ↓bb_len, ↓bb_ga, ↓bb_gl, ↓bb_go, ↓bb_pf, ↓bb_pz, ↓bb_pr, ↓bb_pa, ↓bb_pb, ↓bb_pl, ↓bb_po, ↓bb_cl, ↓bb_some, ↓bb_RI, ↓bb_RJ, mm_hI, mm_hJ, mm_hR, mm_nI, mm_nJ, mm_nR, mm_sI, mm_sJ, mm_sR, mm_RI, mm_RJ, mm_IJ, mm_IR, mm_JI, mm_JR, mm_II, mm_JJ, mm_RR, hS, ha, z, c, e1])
    (fun i S hi => fr_wI _ _ rfl) (fun i S hi hf => by simp [-Prod.exists, -Prod.forall, zgf, zgr, zpf, zpz, zpr, zga, zgl, zgo, zpa, zpb, zpl, zpo, mm_len, zcl, Option.bind_some, Option.bind_none, mm_hI, mm_hJ, mm_hR, mm_nI, mm_nJ, mm_nR, mm_sI, mm_sJ, mm_sR, mm_RI, mm_RJ, mm_IJ, mm_IR, mm_JI, mm_JR, mm_II, mm_JJ, mm_RR]) (fun i j S hi hj hp => by
      have : i ≠ j := by omega
      simp [-Prod.exists, -Prod.forall, zgf, zgr, zpf, zpz, zpr, zga, zgl, zgo, zpa, zpb, zpl, zpo, mm_len, zcl, Option.bind_some, Option.bind_none, mm_hI, mm_hJ, mm_hR, mm_nI, mm_nJ, mm_nR, mm_sI, mm_sJ, mm_sR, mm_RI, mm_RJ, mm_IJ, mm_IR, mm_JI, mm_JR, mm_II, mm_JJ, mm_RR, this, hp])
  refine ⟨S', ?_, l2, l3⟩
  have : zlen S0 a = some (nI n) := by rw [zlen, hh]; rfl
  rw [f_J_fill, this]
  exact l1
/-- what a new census is -/
theorem cen_new {S : zM} (hz : zfz S) : ∃ S', f_Census_init (zn S + 1) (zalloc S 2 0 12) = some S' ∧ zn S' = zn S + 31 ∧ zs S' ≤ zs S + 30000 ∧ zkq (fun b => b ≤ zn S) S S' ∧ zfz S' ∧ kCen S' (zn S + 1) ∧ rCen S' (zn S + 1) ∧ (∀ b j, zn S < b → b ≤ zn S + 9 → zI S' b j = 0) ∧ ∀ k, k < 6 → zI S' (zn S + 31) k = -3 := by
  have t1 : (1364 : Int32).toNatClampNeg = 1364 := by decide
  have t3 : (6 : Int32).toNatClampNeg = 6 := by decide
  have c1 : ¬ ((1364 : Int32) < 0 ∨ 10000 ≤ 1364) := by decide
  have c3 : ¬ ((6 : Int32) < 0 ∨ 10000 ≤ 6) := by decide
  obtain ⟨S0, e0, n0, s0, z0, k0, h0, i0⟩ := obj_ex hz 2 12
  rw [← e0]
  have m0 : (zh S0 (zn S + 1)).1 = 2 := by rw [h0]
  obtain ⟨P1, p1, pn1, ps1, pk1, pz1, po1, pi1⟩ := out_new z0
  obtain ⟨S1, a1, n1, s1, z1, k1, kb1, hh1, h1, r1, o1, i1, ii1⟩ := obj_put (f := 0) (c := zn S0 + 1) pz1 pk1 (a := zn S + 1) (ci := 2) (by omega) (by omega) m0
  have m1 : (zh S1 (zn S + 1)).1 = 2 := by rw [h1, h0]
  obtain ⟨P2, p2, pn2, ps2, pk2, pz2, po2, pi2⟩ := out_new z1
  obtain ⟨S2, a2, n2, s2, z2, k2, kb2, hh2, h2, r2, o2, i2, ii2⟩ := obj_put (f := 1) (c := zn S1 + 1) pz2 pk2 (a := zn S + 1) (ci := 2) (by omega) (by omega) m1
  have m2 : (zh S2 (zn S + 1)).1 = 2 := by rw [h2, h1, h0]
  obtain ⟨P3, p3, pn3, ps3, pk3, pz3, po3⟩ := car_new z2
  obtain ⟨S3, a3, n3, s3, z3, k3, kb3, hh3, h3, r3, o3, i3, ii3⟩ := obj_put (f := 2) (c := zn S2 + 1) pz3 pk3 (a := zn S + 1) (ci := 2) (by omega) (by omega) m2
  have m3 : (zh S3 (zn S + 1)).1 = 2 := by rw [h3, h2, h1, h0]
  obtain ⟨P4, S4, b4, q4, a4, n4, s4, z4, k4, h4, r4, o4, i4, w4⟩ := row_ex z3 (a := zn S + 1) (ci := 2) (f := 3) (n := 8) (by omega) (by omega) m3
  have m4 : (zh S4 (zn S + 1)).1 = 2 := by rw [h4, h3, h2, h1, h0]
  obtain ⟨P5, S5, b5, q5, a5, n5, s5, z5, k5, h5, r5, o5, i5, w5⟩ := row_ex z4 (a := zn S + 1) (ci := 2) (f := 4) (n := 60) (by omega) (by omega) m4
  have m5 : (zh S5 (zn S + 1)).1 = 2 := by rw [h5, h4, h3, h2, h1, h0]
  obtain ⟨S6, a6, n6, s6, z6, k6, h6, r6, o6, i6, j6, g6⟩ := arr_ex z5 (a := zn S + 1) (ci := 2) (f := 5) 100 1364 (by omega) m5
  have m6 : (zh S6 (zn S + 1)).1 = 2 := by rw [h6]; exact m5
  obtain ⟨S7, a7, n7, s7, z7, k7, h7, r7, o7, i7, j7, g7⟩ := arr_ex z6 (a := zn S + 1) (ci := 2) (f := 6) 100 1364 (by omega) m6
  have m7 : (zh S7 (zn S + 1)).1 = 2 := by rw [h7]; exact m6
  obtain ⟨S8, a8, n8, s8, z8, k8, h8, r8, o8, i8, j8, g8⟩ := arr_ex z7 (a := zn S + 1) (ci := 2) (f := 7) 102 1364 (by omega) m7
  have m8 : (zh S8 (zn S + 1)).1 = 2 := by rw [h8]; exact m7
  obtain ⟨S9, a9, n9, s9, z9, k9, h9, r9, o9, i9, j9, g9⟩ := arr_ex z8 (a := zn S + 1) (ci := 2) (f := 8) 100 6 (by omega) m8
  have m9 : zh S9 (zn S + 1) = (2, 0) := by rw [h9, h8, h7, h6, h5, h4, h3, h2, h1, h0]
  have N0 : zn S0 = zn S + 1 := n0
  have N1 : zn S1 = zn S + 5 := by omega
  have N2 : zn S2 = zn S + 9 := by omega
  have N3 : zn S3 = zn S + 23 := by omega
  have N4 : zn S4 = zn S + 25 := by omega
  have N5 : zn S5 = zn S + 27 := by omega
  have N6 : zn S6 = zn S + 28 := by omega
  have N7 : zn S7 = zn S + 29 := by omega
  have N8 : zn S8 = zn S + 30 := by omega
  rw [N8] at g9 r9
  rw [N7] at g8 r8
  rw [N6] at g7 r7
  rw [N5] at g6 r6
  rw [N4] at r5 w5
  rw [N3] at r4 w4
  rw [N2] at r3 po3
  rw [N1] at r2 po2
  rw [N0] at r1 po1
  obtain ⟨S10, f1, f2, f3⟩ := fill_5 g9 (by omega) (by omega) (-3)
  have fk : zkq (fun b => b ≠ zn S + 31) S9 S10 := fun b hb => ⟨by rw [fr_h f2], fun j => ⟨fr_I f2 hb, fr_J f2 hb, by rw [fr_R f2]⟩⟩
  -- what later steps keep
  have K9 : ∀ b, b ≤ zn S8 → b ≠ zn S + 1 → zkq (fun c => c = b) S8 S10 := fun b q1 q2 => kq_trans (kq_mono k9 (fun c hc => ⟨by omega, by omega⟩)) (kq_mono fk (fun c hc => by omega))
  have K8 : ∀ b, b ≤ zn S7 → b ≠ zn S + 1 → zkq (fun c => c = b) S7 S10 := fun b q1 q2 => kq_trans (kq_mono k8 (fun c hc => ⟨by omega, by omega⟩)) (K9 b (by omega) q2)
  have K7 : ∀ b, b ≤ zn S6 → b ≠ zn S + 1 → zkq (fun c => c = b) S6 S10 := fun b q1 q2 => kq_trans (kq_mono k7 (fun c hc => ⟨by omega, by omega⟩)) (K8 b (by omega) q2)
  have K6 : ∀ b, b ≤ zn S5 → b ≠ zn S + 1 → zkq (fun c => c = b) S5 S10 := fun b q1 q2 => kq_trans (kq_mono k6 (fun c hc => ⟨by omega, by omega⟩)) (K7 b (by omega) q2)
  have K5 : ∀ b, b ≤ zn S4 → b ≠ zn S + 1 → zkq (fun c => c = b) S4 S10 := fun b q1 q2 => kq_trans (kq_mono k5 (fun c hc => ⟨by omega, by omega⟩)) (K6 b (by omega) q2)
  have K4 : ∀ b, b ≤ zn S3 → b ≠ zn S + 1 → zkq (fun c => c = b) S3 S10 := fun b q1 q2 => kq_trans (kq_mono k4 (fun c hc => ⟨by omega, by omega⟩)) (K5 b (by omega) q2)
  have K3 : ∀ b, b ≤ zn S2 → b ≠ zn S + 1 → zkq (fun c => c = b) S2 S10 := fun b q1 q2 => kq_trans (kq_mono k3 (fun c hc => ⟨by omega, by omega⟩)) (K4 b (by omega) q2)
  have K2 : ∀ b, b ≤ zn S1 → b ≠ zn S + 1 → zkq (fun c => c = b) S1 S10 := fun b q1 q2 => kq_trans (kq_mono k2 (fun c hc => ⟨by omega, by omega⟩)) (K3 b (by omega) q2)
  have K1 : ∀ b, b ≤ zn S0 → b ≠ zn S + 1 → zkq (fun c => c = b) S0 S10 := fun b q1 q2 => kq_trans (kq_mono k1 (fun c hc => ⟨by omega, by omega⟩)) (K2 b (by omega) q2)
  have P3K : ∀ b, b ≤ zn P3 → b ≠ zn S + 1 → zkq (fun c => c = b) P3 S10 := fun b q1 q2 => kq_trans (kq_mono kb3 (fun c hc => by omega)) (K4 b (by omega) q2)
  have P2K : ∀ b, b ≤ zn P2 → b ≠ zn S + 1 → zkq (fun c => c = b) P2 S10 := fun b q1 q2 => kq_trans (kq_mono kb2 (fun c hc => by omega)) (K3 b (by omega) q2)
  have P1K : ∀ b, b ≤ zn P1 → b ≠ zn S + 1 → zkq (fun c => c = b) P1 S10 := fun b q1 q2 => kq_trans (kq_mono kb1 (fun c hc => by omega)) (K2 b (by omega) q2)
  have eR : ∀ j, zR S10 (zn S + 1) j = zR S9 (zn S + 1) j := fun j => by rw [fr_R f2]
  have eH : zh S10 = zh S9 := fr_h f2
  refine ⟨S10, ?_, ?_, ?_, fun b hb => ?_, ?_, ?_, ?_, ?_, f3⟩
  · have b4 : f_Row_init (zn S3 + 1) 8 (zalloc S3 8 0 2) = some P4 := b4
    have b5 : f_Row_init (zn S4 + 1) 60 (zalloc S4 8 0 2) = some P5 := b5
    have v1 : (zh (zalloc S0 4 0 3) (zn S0 + 1)).1 = 4 := by rw [al_h, if_pos rfl]
    have v2 : (zh (zalloc S1 4 0 3) (zn S1 + 1)).1 = 4 := by rw [al_h, if_pos rfl]
    have v3 : (zh (zalloc S2 1 0 6) (zn S2 + 1)).1 = 1 := by rw [al_h, if_pos rfl]
    have r9' : zR S9 (zn S + 1) 8 = some (zn S + 31) := r9
    simp only [f_Census_init, zcl, v1, v2, v3, q4, q5, if_true, p1, Option.bind_some, a1, p2, a2, p3, a3, b4, a4, b5, a5, t1, t3, if_neg c1, if_neg c3, a6, a7, a8, a9, zgr, m9, r9', f1]
  · rw [show zn S10 = zn S9 from congrArg (fun q => q.2.2.1) f2.1]; omega
  · rw [show zs S10 = zs S9 from congrArg (fun q => q.2.2.2) f2.1]; omega
  · exact kq_trans (K := fun c => c = b) (kq_mono k0 (fun c hc => by omega)) (K1 b (by omega) (by omega)) b rfl
  · intro b j hb
    rw [show zn S10 = zn S9 from congrArg (fun q => q.2.2.1) f2.1] at hb
    rw [fr_I f2 (by omega), fr_J f2 (by omega), fr_R f2]
    exact z9 b j hb
  · refine ⟨by rw [eH]; exact m9, ?_, kq_out po1 (K := fun b => zn S + 2 ≤ b ∧ b ≤ zn S + 5) (fun b hb => P1K b (by omega) (by omega) b rfl) (fun i hi => by omega), ?_, kq_out po2 (K := fun b => zn S + 6 ≤ b ∧ b ≤ zn S + 9) (fun b hb => P2K b (by omega) (by omega) b rfl) (fun i hi => by omega), ?_, ?_, ?_, ?_, ?_, ?_, ?_, ?_, ?_, ?_, ?_⟩
    · rw [eR, o9 _ (by omega), o8 _ (by omega), o7 _ (by omega), o6 _ (by omega), o5 _ (by omega), o4 _ (by omega), o3 _ (by omega), o2 _ (by omega), r1]
    · rw [eR, o9 _ (by omega), o8 _ (by omega), o7 _ (by omega), o6 _ (by omega), o5 _ (by omega), o4 _ (by omega), o3 _ (by omega), r2]
    · rw [eR, o9 _ (by omega), o8 _ (by omega), o7 _ (by omega), o6 _ (by omega), o5 _ (by omega), o4 _ (by omega), r3]
    · rw [eR, o9 _ (by omega), o8 _ (by omega), o7 _ (by omega), o6 _ (by omega), o5 _ (by omega), r4]
    · rw [eR, o9 _ (by omega), o8 _ (by omega), o7 _ (by omega), o6 _ (by omega), r5]
    · rw [eR, o9 _ (by omega), o8 _ (by omega), o7 _ (by omega), r6]
    · rw [(K7 (zn S + 28) (by omega) (by omega) _ rfl).1]; exact g6
    · rw [eR, o9 _ (by omega), o8 _ (by omega), r7]
    · rw [(K8 (zn S + 29) (by omega) (by omega) _ rfl).1]; exact g7
    · rw [eR, o9 _ (by omega), r8]
    · rw [(K9 (zn S + 30) (by omega) (by omega) _ rfl).1]; exact g8
    · rw [eR, r9]
    · rw [eH]; exact g9
  · refine ⟨⟨_, _, kq_car po3 (K := fun b => zn S + 10 ≤ b ∧ b ≤ zn S + 23) (fun b hb => P3K b (by omega) (by omega) b rfl) (fun i hi => by omega)⟩, ⟨[], kq_row w4 (K := fun b => zn S + 24 ≤ b ∧ b ≤ zn S + 25) (fun b hb => K5 b (by omega) (by omega) b rfl) (by omega) (by omega)⟩, ⟨[], kq_row w5 (K := fun b => zn S + 26 ≤ b ∧ b ≤ zn S + 27) (fun b hb => K6 b (by omega) (by omega) b rfl) (by omega) (by omega)⟩⟩
  · intro b j q1 q2
    have z0' : zI S0 b j = 0 := by rw [e0]; exact (hz b j q1).1
    have x1 : zI S1 b j = 0 := by rw [ii1, pi1]; exact z0'
    have x2 : zI S2 b j = 0 := by rw [ii2, pi2]; exact x1
    by_cases qb : b = zn S + 1
    · subst qb
      rw [fr_I f2 (by omega), i9, i8, i7, i6, i5, i4, i3]; exact x2
    · rw [((K3 b (by omega) qb b rfl).2 j).1]; exact x2
