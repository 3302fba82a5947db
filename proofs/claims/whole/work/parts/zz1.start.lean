/-! both objects are made; the law (written by genst.py) -/
def zw0 : zWs := ([], (0, [], []), (fun _ => 0), [], none, 0, 0, 0)
theorem cl_new {S : zM} (hz : zfz S) (hn : zn S = 0) : ∃ S', f_Cl_init 1 (zalloc S 11 0 18) = some S' ∧ zn S' = 407 ∧ zs S' = zs S + 7114 ∧ zfz S' ∧ zKp 0 (fun _ => False) S S' ∧ ∀ Sf, zKp 407 (fun _ => False) S' Sf → 446 ≤ zn Sf → zfz Sf → zs Sf = zs Sf → pCl Sf zw0 := by
  obtain ⟨S0, e0, n0, s0, z0, k0, h0, i0⟩ := obj_ex hz 11 18
  rw [hn] at n0 h0 i0 k0
  rw [← e0]
  have m0 : zn S0 = 1 := n0
  have g0 : (zh S0 1).1 = 11 := by rw [h0]
  obtain ⟨S1, a1, n1, s1, z1, kk1, hh1, r1, o1, ii1, j1, w1⟩ := arr_ex z0 (a := 1) (ci := 11) (f := 0) 100 900 (by omega) g0
  have k1 := kp_q kk1 hh1
  have i1 : ∀ j, zI S1 1 j = zI S0 1 j := fun j => by rw [ii1]
  have m1 : zn S1 = 2 := by omega
  have g1 : (zh S1 1).1 = 11 := by rw [k1.1 _ (by omega)]; exact g0
  rw [m0] at r1 w1 k1
  obtain ⟨P2, S2, b2, q2, a2, n2, s2, z2, k2, r2, o2, i2, w2⟩ := nw_put nw_rdr z1 (a := 1) (ci := 11) 1 (by omega) g1
  have m2 : zn S2 = 4 := by omega
  have g2 : (zh S2 1).1 = 11 := by rw [k2.1 _ (by omega)]; exact g1
  rw [m1] at r2 w2 k2
  obtain ⟨P3, S3, b3, q3, a3, n3, s3, z3, k3, r3, o3, i3, w3⟩ := nw_put nw_car z2 (a := 1) (ci := 11) 2 (by omega) g2
  have m3 : zn S3 = 18 := by omega
  have g3 : (zh S3 1).1 = 11 := by rw [k3.1 _ (by omega)]; exact g2
  rw [m2] at r3 w3 k3
  obtain ⟨P4, S4, b4, q4, a4, n4, s4, z4, k4, r4, o4, i4, w4⟩ := nw_put nw_car z3 (a := 1) (ci := 11) 3 (by omega) g3
  have m4 : zn S4 = 32 := by omega
  have g4 : (zh S4 1).1 = 11 := by rw [k4.1 _ (by omega)]; exact g3
  rw [m3] at r4 w4 k4
  obtain ⟨P5, S5, b5, q5, a5, n5, s5, z5, k5, r5, o5, i5, w5⟩ := nw_put (nw_row 8 (by omega)) z4 (a := 1) (ci := 11) 4 (by omega) g4
  have b5 : f_Row_init (zn S4 + 1) 8 (zalloc S4 8 0 2) = some P5 := b5
  have m5 : zn S5 = 34 := by omega
  have g5 : (zh S5 1).1 = 11 := by rw [k5.1 _ (by omega)]; exact g4
  rw [m4] at r5 w5 k5
  obtain ⟨P6, S6, b6, q6, a6, n6, s6, z6, k6, r6, o6, i6, w6⟩ := nw_put (nw_row 8 (by omega)) z5 (a := 1) (ci := 11) 5 (by omega) g5
  have b6 : f_Row_init (zn S5 + 1) 8 (zalloc S5 8 0 2) = some P6 := b6
  have m6 : zn S6 = 36 := by omega
  have g6 : (zh S6 1).1 = 11 := by rw [k6.1 _ (by omega)]; exact g5
  rw [m5] at r6 w6 k6
  obtain ⟨P7, S7, b7, q7, a7, n7, s7, z7, k7, r7, o7, i7, w7⟩ := nw_put (nw_row 60 (by omega)) z6 (a := 1) (ci := 11) 6 (by omega) g6
  have b7 : f_Row_init (zn S6 + 1) 60 (zalloc S6 8 0 2) = some P7 := b7
  have m7 : zn S7 = 38 := by omega
  have g7 : (zh S7 1).1 = 11 := by rw [k7.1 _ (by omega)]; exact g6
  rw [m6] at r7 w7 k7
  obtain ⟨S8, a8, n8, s8, z8, kk8, hh8, r8, o8, ii8, j8, w8⟩ := arr_ex z7 (a := 1) (ci := 11) (f := 7) 100 61 (by omega) g7
  have k8 := kp_q kk8 hh8
  have i8 : ∀ j, zI S8 1 j = zI S7 1 j := fun j => by rw [ii8]
  have m8 : zn S8 = 39 := by omega
  have g8 : (zh S8 1).1 = 11 := by rw [k8.1 _ (by omega)]; exact g7
  rw [m7] at r8 w8 k8
  obtain ⟨P9, S9, b9, q9, a9, n9, s9, z9, k9, r9, o9, i9, w9⟩ := nw_put nw_pcs z8 (a := 1) (ci := 11) 8 (by omega) g8
  have m9 : zn S9 = 61 := by omega
  have g9 : (zh S9 1).1 = 11 := by rw [k9.1 _ (by omega)]; exact g8
  rw [m8] at r9 w9 k9
  obtain ⟨P10, S10, b10, q10, a10, n10, s10, z10, k10, r10, o10, i10, w10⟩ := nw_put nw_act z9 (a := 1) (ci := 11) 9 (by omega) g9
  have m10 : zn S10 = 63 := by omega
  have g10 : (zh S10 1).1 = 11 := by rw [k10.1 _ (by omega)]; exact g9
  rw [m9] at r10 w10 k10
  obtain ⟨P11, S11, b11, q11, a11, n11, s11, z11, k11, r11, o11, i11, w11⟩ := nw_put nw_scr z10 (a := 1) (ci := 11) 10 (by omega) g10
  have m11 : zn S11 = 235 := by omega
  have g11 : (zh S11 1).1 = 11 := by rw [k11.1 _ (by omega)]; exact g10
  rw [m10] at r11 w11 k11
  obtain ⟨P12, S12, b12, q12, a12, n12, s12, z12, k12, r12, o12, i12, w12⟩ := nw_put nw_scr z11 (a := 1) (ci := 11) 11 (by omega) g11
  have m12 : zn S12 = 407 := by omega
  have g12 : (zh S12 1).1 = 11 := by rw [k12.1 _ (by omega)]; exact g11
  rw [m11] at r12 w12 k12
  have K12 : zKp 407 (fun b => b = 1) S12 S12 := kp_refl _ _ _
  have K11 : zKp 235 (fun b => b = 1) S11 S12 := kp_trans k12 K12 (by omega) (fun b _ q => q)
  have K10 : zKp 63 (fun b => b = 1) S10 S12 := kp_trans k11 K11 (by omega) (fun b _ q => q)
  have K9 : zKp 61 (fun b => b = 1) S9 S12 := kp_trans k10 K10 (by omega) (fun b _ q => q)
  have K8 : zKp 39 (fun b => b = 1) S8 S12 := kp_trans k9 K9 (by omega) (fun b _ q => q)
  have K7 : zKp 38 (fun b => b = 1) S7 S12 := kp_trans k8 K8 (by omega) (fun b _ q => q)
  have K6 : zKp 36 (fun b => b = 1) S6 S12 := kp_trans k7 K7 (by omega) (fun b _ q => q)
  have K5 : zKp 34 (fun b => b = 1) S5 S12 := kp_trans k6 K6 (by omega) (fun b _ q => q)
  have K4 : zKp 32 (fun b => b = 1) S4 S12 := kp_trans k5 K5 (by omega) (fun b _ q => q)
  have K3 : zKp 18 (fun b => b = 1) S3 S12 := kp_trans k4 K4 (by omega) (fun b _ q => q)
  have K2 : zKp 4 (fun b => b = 1) S2 S12 := kp_trans k3 K3 (by omega) (fun b _ q => q)
  have K1 : zKp 2 (fun b => b = 1) S1 S12 := kp_trans k2 K2 (by omega) (fun b _ q => q)
  have K0 : zKp 1 (fun b => b = 1) S0 S12 := kp_trans k1 K1 (by omega) (fun b _ q => q)
  refine ⟨S12, ?_, m12, by omega, z12, kp_trans (kp_q0 (kq_mono k0 (fun b hb => by omega))) K0 (by omega) (fun b hb q => by omega), fun Sf kf nf zf _ => ?_⟩
  · simp only [f_Cl_init, tn_61, cn_61, tn_900, cn_900, if_false, ↓bb_cl, if_true, ↓bS a1, q2, ↓bS b2, ↓bS a2, q3, ↓bS b3, ↓bS a3, q4, ↓bS b4, ↓bS a4, q5, ↓bS b5, ↓bS a5, q6, ↓bS b6, ↓bS a6, q7, ↓bS b7, ↓bS a7, ↓bS a8, q9, ↓bS b9, ↓bS a9, q10, ↓bS b10, ↓bS a10, q11, ↓bS b11, ↓bS a11, q12, ↓bS b12, ↓bS a12]
  have R0 : zR Sf 1 0 = some 2 := by rw [(kf.2 1 0 (by omega) (fun q => q)).2.2, o12 0 (by omega), o11 0 (by omega), o10 0 (by omega), o9 0 (by omega), o8 0 (by omega), o7 0 (by omega), o6 0 (by omega), o5 0 (by omega), o4 0 (by omega), o3 0 (by omega), o2 0 (by omega), r1]
  have R1 : zR Sf 1 1 = some 3 := by rw [(kf.2 1 1 (by omega) (fun q => q)).2.2, o12 1 (by omega), o11 1 (by omega), o10 1 (by omega), o9 1 (by omega), o8 1 (by omega), o7 1 (by omega), o6 1 (by omega), o5 1 (by omega), o4 1 (by omega), o3 1 (by omega), r2]
  have R2 : zR Sf 1 2 = some 5 := by rw [(kf.2 1 2 (by omega) (fun q => q)).2.2, o12 2 (by omega), o11 2 (by omega), o10 2 (by omega), o9 2 (by omega), o8 2 (by omega), o7 2 (by omega), o6 2 (by omega), o5 2 (by omega), o4 2 (by omega), r3]
  have R3 : zR Sf 1 3 = some 19 := by rw [(kf.2 1 3 (by omega) (fun q => q)).2.2, o12 3 (by omega), o11 3 (by omega), o10 3 (by omega), o9 3 (by omega), o8 3 (by omega), o7 3 (by omega), o6 3 (by omega), o5 3 (by omega), r4]
  have R4 : zR Sf 1 4 = some 33 := by rw [(kf.2 1 4 (by omega) (fun q => q)).2.2, o12 4 (by omega), o11 4 (by omega), o10 4 (by omega), o9 4 (by omega), o8 4 (by omega), o7 4 (by omega), o6 4 (by omega), r5]
  have R5 : zR Sf 1 5 = some 35 := by rw [(kf.2 1 5 (by omega) (fun q => q)).2.2, o12 5 (by omega), o11 5 (by omega), o10 5 (by omega), o9 5 (by omega), o8 5 (by omega), o7 5 (by omega), r6]
  have R6 : zR Sf 1 6 = some 37 := by rw [(kf.2 1 6 (by omega) (fun q => q)).2.2, o12 6 (by omega), o11 6 (by omega), o10 6 (by omega), o9 6 (by omega), o8 6 (by omega), r7]
  have R7 : zR Sf 1 7 = some 39 := by rw [(kf.2 1 7 (by omega) (fun q => q)).2.2, o12 7 (by omega), o11 7 (by omega), o10 7 (by omega), o9 7 (by omega), r8]
  have R8 : zR Sf 1 8 = some 40 := by rw [(kf.2 1 8 (by omega) (fun q => q)).2.2, o12 8 (by omega), o11 8 (by omega), o10 8 (by omega), r9]
  have R9 : zR Sf 1 9 = some 62 := by rw [(kf.2 1 9 (by omega) (fun q => q)).2.2, o12 9 (by omega), o11 9 (by omega), r10]
  have R10 : zR Sf 1 10 = some 64 := by rw [(kf.2 1 10 (by omega) (fun q => q)).2.2, o12 10 (by omega), r11]
  have R11 : zR Sf 1 11 = some 236 := by rw [(kf.2 1 11 (by omega) (fun q => q)).2.2, r12]
  have R12 : zR Sf 1 12 = none := by rw [(kf.2 1 12 (by omega) (fun q => q)).2.2, o12 12 (by omega), o11 12 (by omega), o10 12 (by omega), o9 12 (by omega), o8 12 (by omega), o7 12 (by omega), o6 12 (by omega), o5 12 (by omega), o4 12 (by omega), o3 12 (by omega), o2 12 (by omega), o1 12 (by omega)]; exact (i0 12).2
  have I1 : ∀ j, zI Sf 1 j = 0 := fun j => by rw [(kf.2 1 j (by omega) (fun q => q)).1, i12, i11, i10, i9, i8, i7, i6, i5, i4, i3, i2, i1]; exact (i0 j).1
  have F : ∀ n, n ≤ 407 → ∀ T, zKp n (fun b => b = 1) T S12 → zKp n (fun b => b = 1) T Sf := fun n hn T k => kp_trans k kf hn (fun b _ q => absurd q (fun x => x))
  have V0 : zKp 1 (fun b => b = 1) S0 Sf := F 1 (by omega) S0 K0
  have V1 : zKp 2 (fun b => b = 1) S1 Sf := F 2 (by omega) S1 K1
  have V2 : zKp 4 (fun b => b = 1) S2 Sf := F 4 (by omega) S2 K2
  have V3 : zKp 18 (fun b => b = 1) S3 Sf := F 18 (by omega) S3 K3
  have V4 : zKp 32 (fun b => b = 1) S4 Sf := F 32 (by omega) S4 K4
  have V5 : zKp 34 (fun b => b = 1) S5 Sf := F 34 (by omega) S5 K5
  have V6 : zKp 36 (fun b => b = 1) S6 Sf := F 36 (by omega) S6 K6
  have V7 : zKp 38 (fun b => b = 1) S7 Sf := F 38 (by omega) S7 K7
  have V8 : zKp 39 (fun b => b = 1) S8 Sf := F 39 (by omega) S8 K8
  have V9 : zKp 61 (fun b => b = 1) S9 Sf := F 61 (by omega) S9 K9
  have V10 : zKp 63 (fun b => b = 1) S10 Sf := F 63 (by omega) S10 K10
  have V11 : zKp 235 (fun b => b = 1) S11 Sf := F 235 (by omega) S11 K11
  have V12 : zKp 407 (fun b => b = 1) S12 Sf := F 407 (by omega) S12 K12
  have h1 : zh Sf 1 = (11, 0) := by rw [V0.1 1 (by omega)]; exact h0
  have h2 : zh Sf 2 = (100, 900) := by rw [V1.1 2 (by omega)]; exact w1
  have h39 : zh Sf 39 = (100, 61) := by rw [V8.1 39 (by omega)]; exact w8
  have p3 : zh Sf 3 = (7, 0) := st_rdr S2 Sf 3 4 _ w2 V2 (by omega) (fun b hb => by omega)
  have p5 : aCar Sf 5 9 11 := st_car S3 Sf 5 18 _ w3 V3 (by omega) (fun b hb => by omega)
  have p19 : aCar Sf 19 23 25 := st_car S4 Sf 19 32 _ w4 V4 (by omega) (fun b hb => by omega)
  have p33 : pRow Sf 33 8 [] := st_row 8 [] S5 Sf 33 34 _ w5 V5 (by omega) (fun b hb => by omega)
  have p35 : pRow Sf 35 8 [] := st_row 8 [] S6 Sf 35 36 _ w6 V6 (by omega) (fun b hb => by omega)
  have p37 : pRow Sf 37 60 [] := st_row 60 [] S7 Sf 37 38 _ w7 V7 (by omega) (fun b hb => by omega)
  have p40 : sPcs Sf 40 := st_pcs S9 Sf 40 61 _ w9 V9 (by omega) (fun b hb => by omega)
  have p62 : nAct Sf 62 := st_act S10 Sf 62 63 _ w10 V10 (by omega) (fun b hb => by omega)
  have p64 : nScr Sf 64 := st_scr S11 Sf 64 235 _ w11 V11 (by omega) (fun b hb => by omega)
  have p236 : nScr Sf 236 := st_scr S12 Sf 236 407 _ w12 V12 (by omega) (fun b hb => by omega)
  refine ⟨64, 236, ⟨⟨h1, R0, h2, R1, p3, R2, R3, R4, R5, R6, R7, h39, R8, R9, p62.1, p62.2.1, p62.2.2.1, R10, R11, Or.inl ⟨rfl, rfl⟩, nf⟩, ⟨I1 13, fun k hk => absurd hk (Nat.not_lt_zero k), p62.2.2.2, fun k hk => absurd hk (Nat.not_lt_zero k), I1 14, I1 15, I1 17⟩, ⟨?_, p236.1, p64.1⟩, ⟨9, 11, p5, fun c hc => by cases hc⟩, Or.inl ⟨R12, zf⟩⟩, ⟨⟨23, 25, p19⟩, ⟨[], p33⟩, ⟨[], p35⟩, ⟨[], p37⟩, p40⟩, I1 16⟩
  refine ⟨p64.1.1, p64.2.1, p64.2.2.1, p64.2.2.2, fun k hk => absurd hk (Nat.not_lt_zero k), fun p hp => absurd hp (Nat.not_lt_zero p), by decide, by decide, fun k => ?_, ⟨by decide, fun p hp => absurd hp (List.not_mem_nil)⟩⟩
  show lg [] k < 256
  rw [lg_nil]; omega
def moA : List (Nat × Nat × Nat) := [(4, 100, 900), (10, 100, 4), (11, 100, 3), (12, 102, 3), (13, 100, 264), (17, 100, 4), (18, 101, 4), (19, 100, 3), (20, 102, 3), (21, 100, 264), (30, 100, 73), (32, 100, 16), (33, 100, 16), (34, 100, 64), (36, 100, 80), (37, 102, 80), (38, 100, 9), (39, 102, 24), (40, 100, 64), (42, 100, 64), (44, 100, 24), (45, 100, 3), (46, 100, 3), (47, 100, 180), (50, 100, 60), (51, 100, 24), (52, 100, 3), (53, 100, 3), (54, 100, 180), (55, 100, 60), (57, 100, 61), (58, 100, 1365), (59, 100, 1365), (60, 101, 5460), (63, 101, 4), (64, 100, 5), (65, 100, 12)]
theorem moA_moT : ∀ e ∈ moT, moA[e.2.1 - 1]? = some (e.1, e.2.2.1, e.2.2.2) ∧ 1 ≤ e.2.1 ∧ e.2.1 ≤ 37 := by decide
theorem mo_new {S : zM} (hz : zfz S) (hn : zn S = 407) : ∃ S', f_Mo_init 408 (zalloc S 12 0 67) = some S' ∧ zn S' = 445 ∧ zs S' = zs S + 10821 ∧ zfz S' ∧ zKp 407 (fun _ => False) S S' ∧ ∀ Sf, zKp 445 (fun _ => False) S' Sf → pMo Sf zw0 ∧ zBl Sf := by
  obtain ⟨S0, e0, n0, s0, z0, k0, h0, i0⟩ := obj_ex hz 12 67
  rw [hn] at n0 h0 i0 k0
  rw [← e0]
  obtain ⟨S1, hS1⟩ : ∃ S1, S1 = zwI S0 408 3 (-1) := ⟨_, rfl⟩
  have f1 : zfr (fun b j => b = 408 ∧ j = 3) S0 S1 := by rw [hS1]; exact fr_wI _ _ ⟨rfl, rfl⟩
  have z1 : zfz S1 := fun b j hb => by
    rw [fr_n f1] at hb
    rw [fr_I f1 (by omega), fr_J f1 (by omega), fr_R f1]
    exact z0 b j hb
  have h1 : zh S1 408 = (12, 0) := by rw [fr_h f1]; exact h0
  have n1 : zn S1 = 408 := by rw [fr_n f1]; exact n0
  obtain ⟨S2, a2, n2, s2, z2, k2, o2, g2, i2, j2⟩ := arrs_ex (ci := 12) (a := 408) moA S1 z1 (by omega) (by rw [h1]) (by decide)
  have e : f_Mo_init 408 S0 = zAr 12 408 moA some S1 := by
    have d : (zh S0 408).1 = 12 := by rw [h0]
    simp only [f_Mo_init, tn_3, cn_3, tn_4, cn_4, tn_5, cn_5, tn_9, cn_9, tn_12, cn_12, tn_16, cn_16, tn_24, cn_24, tn_60, cn_60, tn_61, cn_61, tn_64, cn_64, tn_73, cn_73, tn_80, cn_80, tn_180, cn_180, tn_264, cn_264, tn_900, cn_900, tn_1365, cn_1365, tn_5460, cn_5460, if_false, ↓bb_pf, d, if_true, hS1]
    rfl
  have al : zAl moA = 10754 := by decide +kernel
  have ln : moA.length = 37 := by decide
  have n3 : zn S2 = 445 := by rw [n2, n1, ln]
  have kk : zKp 407 (fun _ => False) S0 S1 := ⟨fun b _ => by rw [fr_h f1], fun b j hb _ => ⟨fr_I f1 (by omega), fr_J f1 (by omega), by rw [fr_R f1]⟩⟩
  rw [n1] at g2 k2
  refine ⟨S2, by rw [e, a2], n3, (by have q := s2; have q2 := fr_s f1; omega), z2, kp_trans (kp_trans (kp_q0 k0) kk (by omega) (fun b _ q => q)) k2 (by omega) (fun b hb q => by omega), fun Sf kf => ?_⟩
  have I : ∀ b j, 408 ≤ b → b ≤ 445 → ¬ (b = 408 ∧ j = 3) → zI Sf b j = 0 := fun b j q1 q2 q3 => by
    rw [(kf.2 b j q2 (fun q => q)).1, i2, fr_I f1 q3]
    by_cases e : b = 408
    · subst e; exact (i0 j).1
    · exact (z0 b j (by omega)).1
  have sm : sMo Sf 408 := by
    refine ⟨by rw [kf.1 _ (by omega), k2.1 _ (by omega)]; exact h1, fun e he => ?_⟩
    obtain ⟨x1, x2, x3⟩ := moA_moT e he
    obtain ⟨y1, y2⟩ := g2 (e.2.1 - 1) _ x1
    rw [show 408 + 1 + (e.2.1 - 1) = 408 + e.2.1 by omega] at y1 y2
    exact ⟨by rw [(kf.2 408 _ (by omega) (fun q => q)).2.2]; exact y1, by rw [kf.1 _ (by omega)]; exact y2⟩
  refine ⟨⟨⟨sm, ⟨I _ _ (by omega) (by omega) (by omega), I _ _ (by omega) (by omega) (by omega), I _ _ (by omega) (by omega) (by omega), I _ _ (by omega) (by omega) (by omega), fun k hk => absurd hk (Nat.not_lt_zero k), fun p hp => ?_, fun p hp => absurd hp (Nat.not_lt_zero p), fun p i hp => absurd hp (Nat.not_lt_zero p), fun p i hp hi => ?_, by decide, by decide, fun k => ?_, ⟨by decide, fun p hp => absurd hp (List.not_mem_nil)⟩⟩, I _ _ (by omega) (by omega) (by omega), fun k hk => absurd hk (Nat.not_lt_zero k), I _ _ (by omega) (by omega) (by omega), I _ _ (by omega) (by omega) (by omega), fun k hk => absurd hk (Nat.not_lt_zero k), I _ _ (by omega) (by omega) (by omega), fun c hc => by cases hc⟩, I _ _ (by omega) (by omega) (by omega), fun q => by cases q⟩, ⟨by rw [mh_newAgain sm], fun j => Or.inl (I _ _ (by omega) (by omega) (by omega))⟩⟩
  · rw [I _ _ (by omega) (by omega) (by omega)]
    show (0 : Int32) = nI (zpa_ [] p).2.length
    rw [pa_out (Nat.zero_le _)]; rfl
  · rw [I _ _ (by omega) (by omega) (by omega)]
    show (0 : Int32) = if (0 : Nat).testBit i = true then 1 else 0
    rw [Nat.zero_testBit]; rfl
  · show lg [] k < 256
    rw [lg_nil]; omega
theorem nI_subN {a b : Nat} (h : b ≤ a) : nI a - nI b = nI (a - b) := by
  have e : nI (a - b) + nI b = nI a := by rw [nI_add, show a - b + b = a by omega]
  rw [← e]
  exact Int32.add_sub_cancel _ _
theorem okW_0 : okW zw0 := by
  refine ⟨Nat.zero_le _, fun k => ?_, fun h => absurd h (Nat.lt_irrefl 0), Nat.zero_le _, fun a ha => absurd ha (List.not_mem_nil), (fun c hc => by cases hc), by decide, fun _ => rfl, Nat.zero_le _, fun p hp => absurd hp (Nat.not_lt_zero p)⟩
  show lg [] k < 256
  rw [lg_nil]; omega
theorem law_loop {L : Nat} {sc : Nat → Int32} (hL : L ≤ 3072) : ∀ d F i S w, i + 6 * d > L → i % 6 = 0 → i ≤ L → d < F → zIv L sc S w i → ∃ S', L_Law_law_23 F 0 1 408 446 (nI i) S = some (1, S') ∧ ∃ w' i', i' ≤ L ∧ zIv L sc S' w' i' := by
  intro d
  induction d with
  | zero => intro F i S w h1 h2 h3 h4 h5; omega
  | succ d ih =>
    intro F i S w h1 h2 h3 h4 h5
    obtain ⟨F, rfl⟩ : ∃ G, F = G + 1 := ⟨F - 1, by omega⟩
    have q := h5.2.2.2.2.1
    have ln : zlen S 0 = some (nI L) := by unfold zlen; rw [q.1]; rfl
    rw [law_unf]
    simp only [↓bS ln]
    by_cases c : i + 6 ≤ L
    · have le : nI i ≤ nI L - 6 := by
        have e : nI L - (6 : Int32) = nI (L - 6) := nI_subN (b := 6) (by omega)
        rw [e]; exact (nI_leI (by omega) (by omega)).2 (by omega)
      have rd : zga S 100 0 (nI i) = some (sc i) := by
        have := rd_sc q c (d := 0) (by omega) hL
        have z : nI i + nI 0 = nI i := by rw [nI_add]; rfl
        rw [z] at this; exact this
      obtain ⟨S', w', I, e⟩ := go_all c hL (sc i) S w h5
      have e := e (L_Law_law_23 F)
      simp only [if_pos le, ↓bS rd]
      have e : B_all (L_Law_law_23 F) 0 1 408 446 (nI i) (sc i) S = L_Law_law_23 F 0 1 408 446 (nI i + 6) S' := e
      rw [e, show nI i + (6 : Int32) = nI (i + 6) from nI_add i 6]
      exact ih F (i + 6) S' w' (by omega) (by omega) (by omega) (by omega) I
    · have le : ¬ nI i ≤ nI L - 6 := by
        by_cases l6 : 6 ≤ L
        · have e : nI L - (6 : Int32) = nI (L - 6) := nI_subN (b := 6) (by omega)
          rw [e]; intro x; have := (nI_leI (by omega) (by omega)).1 x; omega
        · have : i = 0 := by omega
          subst this
          have : L = 0 ∨ L = 1 ∨ L = 2 ∨ L = 3 ∨ L = 4 ∨ L = 5 := by omega
          rcases this with rfl | rfl | rfl | rfl | rfl | rfl <;> decide
      refine ⟨S, ?_, w, i, h3, h5⟩
      simp only [if_neg le]
      rfl
/-- the law answers 1 -/
theorem law_one {L : Nat} {S : zM} (hL : L ≤ 3072) (hz : zfz S) (hn : zn S = 0) (hh : zh S 0 = (100, L)) (hs : zs S ≤ 4000) : ∃ S', f_Law_law 0 S = some (1, S') ∧ zn S' ≤ 10000 ∧ zs S' ≤ 100000 := by
  obtain ⟨S1, a1, a2, a3, a4, a5, a6⟩ := cl_new hz hn
  obtain ⟨S2, b1, b2, b3, b4, b5, b6⟩ := mo_new a4 a2
  have k3 : zKp 445 (fun _ => False) S2 (zalloc S2 101 1 1) := by
    have := kp_q0 (kq_al S2 101 1 1)
    rw [b2] at this; exact this
  have kS : zKp 407 (fun _ => False) S1 (zalloc S2 101 1 1) := kp_trans b5 k3 (by omega) (fun b _ q => q)
  have n3 : zn (zalloc S2 101 1 1) = 446 := by rw [al_n, b2]
  have z3 : zfz (zalloc S2 101 1 1) := fz_al b4
  have pc := a6 _ kS (by omega) z3 rfl
  obtain ⟨pm, pb⟩ := b6 _ k3
  have k0 : zKp 0 (fun _ => False) S (zalloc S2 101 1 1) := kp_trans a5 kS (by omega) (fun b _ q => q)
  have hc : zh (zalloc S2 101 1 1) 0 = (100, L) := by rw [k0.1 0 (by omega)]; exact hh
  have h446 : zh (zalloc S2 101 1 1) 446 = (101, 1) := by rw [al_h, b2, if_pos rfl]
  have h1 : zh (zalloc S2 101 1 1) 1 = (11, 0) := by
    obtain ⟨T, U, hm, _, _⟩ := pc
    exact hm.1.1
  have iv : zIv L (fun k => zI (zalloc S2 101 1 1) 0 k) (zalloc S2 101 1 1) zw0 0 := by
    refine ⟨pc, pm, okW_0, pb, ⟨hc, fun k => rfl, h446, h1, pm.1.1.1⟩, ?_, ?_⟩
    · omega
    · show zs S2 + 1 ≤ _; omega
  obtain ⟨S', e, w', i', hi', iv'⟩ := law_loop hL 600 zF 0 _ _ (by omega) (by omega) (by omega) (by rw [zF_eq]; omega) iv
  refine ⟨S', ?_, ?_, ?_⟩
  · have t1 : (zh (zalloc S 11 0 18) 1).1 = 11 := by rw [al_h, hn]; rfl
    have t2 : (zh (zalloc S1 12 0 67) 408).1 = 12 := by rw [al_h, a2]; rfl
    have c1 : ((1 : Int32) < 0 ∨ 10000 ≤ 1) = False := eq_false (by decide)
    have t3 : (1 : Int32).toNatClampNeg = 1 := by decide
    simp only [f_Law_law, hn, Nat.zero_add, ↓bb_cl, t1, if_true, ↓bS a1, a2, t2, ↓bS b1, b2, t3, c1, if_false]
    exact e
  · have := iv'.2.2.2.2.2.1
    split at this <;> omega
  · have := iv'.2.2.2.2.2.2
    split at this <;> omega
