/-! script, the class -/
theorem lines_c {tx : List Nat} : ∀ f r, r.1 < 7 → (zlines tx f r).1 < 7 := by
  intro f
  induction f with
  | zero => intro r h; exact h
  | succ f ih =>
    intro r h
    rw [zlines]
    split
    · exact ih _ (line_c false)
    · exact h
theorem parse_c {tx : List Nat} : (zparse tx).1 < 7 := by
  obtain ⟨r, hr⟩ : ∃ r, r = zlines tx tx.length (zline tx true (znext tx 0) (0, [], [], [])) := ⟨_, rfl⟩
  have z1 : (zparse tx).1 = if r.1 = 0 then (if r.2.1.2.2 = 0 then (if zmany r.2.2.2.2.2 = 0 then 6 else 0) else 1) else r.1 := by rw [hr]; rfl
  have := lines_c (tx := tx) tx.length (zline tx true (znext tx 0) (0, [], [], [])) (line_c (tx := tx) (t := znext tx 0) (st := (0, [], [], [])) true)
  rw [← hr] at this
  rw [z1]
  repeat' split
  all_goals omega
theorem hk_script (a : Int32) : zHk (sp_script a) := fun S w ho hp => by
  unfold sp_script at hp ⊢
  cases e : zix a ((wTp w).length + 1) with
  | none => exact okW_tr ho (by omega)
  | some n =>
    rw [e] at hp
    simp only at hp ⊢
    by_cases z0 : (zparse ((wTp w).take n)).1 = 0
    · rw [if_pos z0] at hp ⊢
      refine okW_new (parse_two z0) hp ?_
      obtain ⟨T, U, hm, _, _⟩ := hp
      by_cases q : 0 < (zparse ((wTp w).take n)).2.2.2.2.2.length
      · exact q
      · exfalso
        have hz : zmany (zparse ((wTp w).take n)).2.2.2.2.2 = 0 := by
          have : (zparse ((wTp w).take n)).2.2.2.2.2 = [] := List.length_eq_zero_iff.1 (by omega)
          rw [this]; rfl
        obtain ⟨r, hr⟩ : ∃ r, r = zlines ((wTp w).take n) ((wTp w).take n).length (zline ((wTp w).take n) true (znext ((wTp w).take n) 0) (0, [], [], [])) := ⟨_, rfl⟩
        have z1 : (zparse ((wTp w).take n)).1 = if r.1 = 0 then (if r.2.1.2.2 = 0 then (if zmany r.2.2.2.2.2 = 0 then 6 else 0) else 1) else r.1 := by rw [hr]; rfl
        have z2 : (zparse ((wTp w).take n)).2.2 = r.2.2 := by rw [hr]; rfl
        rw [z2] at hz
        rw [z1, if_pos hz] at z0
        split at z0
        · split at z0
          · cases z0
          · cases z0
        · rename_i q; exact q z0
    · rw [if_neg z0]; exact okW_bad ho
theorem hc_script (a : Int32) : zHc (f_Cl_script 1 a) (sp_script a) := fun S w h ho => by
  obtain ⟨T, U, hm, hs, ht⟩ := h
  have hTU := wTU hm
  have hm0 := hm
  obtain ⟨h1, r0, h2, r1, h3, r2, r3, r4, r5, r6, r7, h39, r8, r9, h62, r62, h63, r10, r11, tu, n4⟩ := hm.1
  obtain ⟨d1, d2, d3, d4, d5, d6, d7⟩ := hm.2.1
  have l9 := ho.1
  have rf : f_Cl_refuse 1 2 S = some (-1, zwI S 1 16 (nI 2)) := cl_refuse h1 2
  obtain ⟨e0, e1⟩ := hc_same hm hs 2
  unfold sp_script
  cases e : zix a ((wTp w).length + 1) with
  | none =>
    rcases ix_none e with q | ⟨j, q1, q2, q3⟩
    · exact ⟨_, by simp [f_Cl_script, -Prod.exists, -Prod.forall, ↓bb_gf, ↓bb_gr, ↓bb_len, ↓bb_ga, ↓bb_gl, ↓bb_go, ↓bb_pf, ↓bb_pz, ↓bb_pr, ↓bb_pa, ↓bb_pb, ↓bb_pl, ↓bb_po, ↓bb_cl, ↓bb_some, ↓bb_RI, ↓bb_RJ, mm_hI, mm_hJ, mm_hR, mm_nI, mm_nJ, mm_nR, mm_sI, mm_sJ, mm_sR, mm_RI, mm_RJ, mm_IJ, mm_IR, mm_JI, mm_JR, mm_II, mm_JJ, mm_RR, q, h1, ↓bS rf, zrf] <;> rfl, e0, e1⟩
    · have n0 : ¬ nI j < 0 := nI_pos q2
      have le : ¬ nI j ≤ nI (wTp w).length := fun x => by have := (nI_leI (by omega) (by omega)).1 x; omega
      exact ⟨_, by simp [f_Cl_script, -Prod.exists, -Prod.forall, ↓bb_gf, ↓bb_gr, ↓bb_len, ↓bb_ga, ↓bb_gl, ↓bb_go, ↓bb_pf, ↓bb_pz, ↓bb_pr, ↓bb_pa, ↓bb_pb, ↓bb_pl, ↓bb_po, ↓bb_cl, ↓bb_some, ↓bb_RI, ↓bb_RJ, mm_hI, mm_hJ, mm_hR, mm_nI, mm_nJ, mm_nR, mm_sI, mm_sJ, mm_sR, mm_RI, mm_RJ, mm_IJ, mm_IR, mm_JI, mm_JR, mm_II, mm_JJ, mm_RR, q1, n0, h1, d1, le, ↓bS rf, zrf] <;> rfl, e0, e1⟩
  | some n =>
    obtain ⟨q1, q2, q3⟩ := ix_some e
    have n0 : ¬ nI n < 0 := nI_pos q3
    have le : nI n ≤ nI (wTp w).length := (nI_leI (by omega) (by omega)).2 (by omega)
    obtain ⟨S4, c1, g11, g4, a4, i7, i13, ok⟩ := cl_read hm ho (n := n) (by omega)
    obtain ⟨z, hz⟩ : ∃ z, z = zparse ((wTp w).take n) := ⟨_, rfl⟩
    simp only
    rw [← hz] at c1 g11 i7 ok ⊢
    have x1 : zh S4 1 = (11, 0) := by rw [fq_h g4]; exact h1
    have x3 : zh S4 3 = (7, 0) := by rw [fq_h g4]; exact h3
    have y1 : zR S4 1 1 = some 3 := by rw [fq_R g4 (by omega)]; exact r1
    have y10 : zR S4 1 10 = some T := by rw [fq_R g4 (by omega)]; exact r10
    have y11 : zR S4 1 11 = some U := by rw [fq_R g4 (by omega)]; exact r11
    have y9 : zR S4 1 9 = some 62 := by rw [fq_R g4 (by omega)]; exact r9
    have x62 : zh S4 62 = (0, 0) := by rw [fq_h g4]; exact h62
    obtain ⟨SB, hB⟩ : ∃ SB, SB = zwI (zwI S4 1 14 (nI z.1)) 1 15 (nI z.2.1) := ⟨_, rfl⟩
    rw [← hB] at g11
    have xB : zh SB 1 = (11, 0) := by rw [fq_h g11]; exact h1
    have v14 : zI SB 1 14 = nI z.1 := by rw [hB]; simp [-Prod.exists, -Prod.forall, zgf, zgr, zpf, zpz, zpr, zga, zgl, zgo, zpa, zpb, zpl, zpo, mm_len, zcl, Option.bind_some, Option.bind_none, mm_hI, mm_hJ, mm_hR, mm_nI, mm_nJ, mm_nR, mm_sI, mm_sJ, mm_sR, mm_RI, mm_RJ, mm_IJ, mm_IR, mm_JI, mm_JR, mm_II, mm_JJ, mm_RR]
    have v15 : zI SB 1 15 = nI z.2.1 := by rw [hB]; simp [-Prod.exists, -Prod.forall, zgf, zgr, zpf, zpz, zpr, zga, zgl, zgo, zpa, zpb, zpl, zpo, mm_len, zcl, Option.bind_some, Option.bind_none, mm_hI, mm_hJ, mm_hR, mm_nI, mm_nJ, mm_nR, mm_sI, mm_sJ, mm_sR, mm_RI, mm_RJ, mm_IJ, mm_IR, mm_JI, mm_JR, mm_II, mm_JJ, mm_RR]
    have v13 : zI SB 1 13 = 0 := by rw [hB]; simp [-Prod.exists, -Prod.forall, zgf, zgr, zpf, zpz, zpr, zga, zgl, zgo, zpa, zpb, zpl, zpo, mm_len, zcl, Option.bind_some, Option.bind_none, mm_hI, mm_hJ, mm_hR, mm_nI, mm_nJ, mm_nR, mm_sI, mm_sJ, mm_sR, mm_RI, mm_RJ, mm_IJ, mm_IR, mm_JI, mm_JR, mm_II, mm_JJ, mm_RR, i13]
    have fB : zfr (fun b j => b = 1 ∧ (j = 14 ∨ j = 15)) S4 SB := by rw [hB]; exact fr_trans (fr_wI _ _ (by omega)) (fr_wI _ _ (by omega))
    have low : ∀ b j, wRe U b j ∨ b = 3 → b < 447 := fun b j q => by unfold wRe at q; omega
    have sT : zsm T (T + 172) S SB := sm_fq g11 (fun b j p1 p2 => ⟨by unfold wRe; omega, by omega⟩)
    have gI : ∀ b j, ¬ wRe U b j → zI SB b j = zI S b j := fun b j q => fq_I g11 q
    have pre : f_Cl_script 1 (nI n) S = (if nI z.1 = (0 : Int32) then
        Option.bind (zgr SB 11 1 10) (fun q13 =>
        Option.bind (zgr SB 11 1 11) (fun q14 =>
        Option.bind (zpr SB 11 1 10 (some q14)) (fun S15 =>
        Option.bind (zpr S15 11 1 11 (some q13)) (fun S16 =>
        Option.bind (zpz S16 11 1 17 (0 : Int32)) (fun S17 =>
        Option.bind (zgr S17 11 1 9) (fun q18 =>
        Option.bind (zcl S17 0 q18 (f_Acts_drop q18 S17)) (fun p19 =>
        Option.bind (zcl p19 11 1 (f_Cl_forgetWords 1 p19)) (fun p20 =>
        Option.bind (zgr p20 11 1 10) (fun q21 =>
        Option.bind (zgf p20 10 q21 5) (fun x22 =>
        Option.bind (zcl p20 11 1 (f_Cl_answer 1 x22 p20)) (fun p23 =>
        some (p23.1, p23.2))))))))))))
      else
        Option.bind (zcl SB 11 1 (f_Cl_refuse 1 (4 : Int32) SB)) (fun p24 =>
        some (p24.1, p24.2))) := by
      have w14 : zI (zwI (zwI S4 1 14 (nI z.1)) 1 15 (nI z.2.1)) 1 14 = nI z.1 := by simp [-Prod.exists, -Prod.forall, zgf, zgr, zpf, zpz, zpr, zga, zgl, zgo, zpa, zpb, zpl, zpo, mm_len, zcl, Option.bind_some, Option.bind_none, mm_hI, mm_hJ, mm_hR, mm_nI, mm_nJ, mm_nR, mm_sI, mm_sJ, mm_sR, mm_RI, mm_RJ, mm_IJ, mm_IR, mm_JI, mm_JR, mm_II, mm_JJ, mm_RR]
      have k7 : zI (zwI S4 1 14 (nI z.1)) 3 7 = nI z.2.1 := by simp [-Prod.exists, -Prod.forall, zgf, zgr, zpf, zpz, zpr, zga, zgl, zgo, zpa, zpb, zpl, zpo, mm_len, zcl, Option.bind_some, Option.bind_none, mm_hI, mm_hJ, mm_hR, mm_nI, mm_nJ, mm_nR, mm_sI, mm_sJ, mm_sR, mm_RI, mm_RJ, mm_IJ, mm_IR, mm_JI, mm_JR, mm_II, mm_JJ, mm_RR, i7]
      rw [hB]
      simp only [f_Cl_script, n0, if_false, ↓bb_gf, h1, if_true, d1, le, ↓bb_pf, ↓bb_gr, mm_hI, mm_RI, ↓bS r1, ↓bS r0, ↓bS r11, ↓bb_cl, h3, ↓bS c1, x1, ↓bS y1, x3, k7, w14]
    rw [q1, pre]
    by_cases z0 : z.1 = 0
    · rw [if_pos z0, if_pos (by rw [z0]; rfl)]
      obtain ⟨ps, p0⟩ := ok z0
      obtain ⟨S19, h19⟩ : ∃ S19, S19 = zwI (zwI (zwR (zwR SB 1 10 (some U)) 1 11 (some T)) 1 17 0) 62 1 0 := ⟨_, rfl⟩
      have f19 : zfq (fun b j => (b = 1 ∧ j = 17) ∨ (b = 62 ∧ j = 1)) (fun b j => b = 1 ∧ (j = 10 ∨ j = 11)) SB S19 := by
        rw [h19]
        exact fq_trans (fq_trans (fq_trans (fq_wR _ _ (by omega)) (fq_wR _ _ (by omega))) (fq_fr (fr_wI _ _ (by omega)))) (fq_fr (fr_wI _ _ (by omega)))
      have gA : zfq (fun b j => wRe U b j ∨ (b = 1 ∧ j = 17) ∨ (b = 62 ∧ j = 1)) (fun b j => b = 3 ∨ (b = 1 ∧ (j = 10 ∨ j = 11))) S S19 := fq_trans (fq_mono g11 (fun b j q => Or.inl q) (fun b j q => Or.inl q)) (fq_mono f19 (fun b j q => Or.inr q) (fun b j q => Or.inr q))
      have j19 : jCe S19 := jCe_fq (cCe_j hm.2.2.2.2) gA (fun b j q => by unfold wRe at q; omega) (by omega) n4
      obtain ⟨S20, g1, g2, g3⟩ := cl_forget j19 (by rw [fq_h gA]; exact h1) (sNew z)
      have gG : zfq (fun b j => (wRe U b j ∨ (b = 1 ∧ j = 17) ∨ (b = 62 ∧ j = 1)) ∨ 447 ≤ b) (fun b j => b = 3 ∨ (b = 1 ∧ (j = 10 ∨ j = 11))) S S20 := fq_trans (fq_mono gA (fun b j q => Or.inl q) (fun b j q => q)) (fq_fr (fr_mono g2 (fun b j q => Or.inr q)))
      have hh20 : ∀ b, zh S20 b = zh S b := fun b => by rw [fq_h gG]
      have E : ∀ b j, ¬ ((wRe U b j ∨ (b = 1 ∧ j = 17) ∨ (b = 62 ∧ j = 1)) ∨ 447 ≤ b) → zI S20 b j = zI S b j := fun b j q => fq_I gG q
      have RR : ∀ b j, ¬ (b = 3 ∨ (b = 1 ∧ (j = 10 ∨ j = 11))) → zR S20 b j = zR S b j := fun b j q => fq_R gG q
      have q10 : zR S20 1 10 = some U := by rw [fr_R g2, h19]; simp [mm_RR, mm_RI]
      have q11 : zR S20 1 11 = some T := by rw [fr_R g2, h19]; simp [mm_RR, mm_RI]
      have E2 : ∀ b j, b < 447 → zI S20 b j = zI S19 b j := fun b j q => fr_I g2 (by omega)
      have sU : zsm U (U + 172) S4 S20 := sm_trans (sm_fr fB (fun b j p1 p2 => by omega)) (sm_trans (sm_fq f19 (fun b j p1 p2 => ⟨by omega, by omega⟩)) (sm_fr g2 (fun b j p1 p2 => by omega)))
      have sT2 : zsm T (T + 172) S S20 := sm_fq gG (fun b j p1 p2 => ⟨by unfold wRe; omega, by omega⟩)
      have pS : pScr S20 U (z.2.2.1, z.2.2.2.2.1, z.2.2.2.2.2) (fun _ => 0) := scr_sm ps sU (by omega) (by omega)
      have cm : cMn S20 (sNew z) U T := by
        refine ⟨⟨by rw [hh20]; exact h1, by rw [RR _ _ (by omega)]; exact r0, by rw [hh20]; exact h2, by rw [RR _ _ (by omega)]; exact r1, by rw [hh20]; exact h3, by rw [RR _ _ (by omega)]; exact r2, by rw [RR _ _ (by omega)]; exact r3, by rw [RR _ _ (by omega)]; exact r4, by rw [RR _ _ (by omega)]; exact r5, by rw [RR _ _ (by omega)]; exact r6, by rw [RR _ _ (by omega)]; exact r7, by rw [hh20]; exact h39, by rw [RR _ _ (by omega)]; exact r8, by rw [RR _ _ (by omega)]; exact r9, by rw [hh20]; exact h62, by rw [RR _ _ (by omega)]; exact r62, by rw [hh20]; exact h63, q10, q11, by omega, by rw [fq_n gG]; exact n4⟩, ⟨?_, fun k hk => absurd hk (Nat.not_lt_zero k), ?_, fun k hk => absurd hk (Nat.not_lt_zero k), ?_, ?_, ?_⟩, ⟨pS, aScr_sm hm.2.2.1.2.2 sT2, aScr_sm a4 sU⟩, ?_, g3⟩
        · rw [E2 _ _ (by omega), fq_I f19 (by omega), v13]; rfl
        · rw [E2 _ _ (by omega), h19]; simp [-Prod.exists, -Prod.forall, zgf, zgr, zpf, zpz, zpr, zga, zgl, zgo, zpa, zpb, zpl, zpo, mm_len, zcl, Option.bind_some, Option.bind_none, mm_hI, mm_hJ, mm_hR, mm_nI, mm_nJ, mm_nR, mm_sI, mm_sJ, mm_sR, mm_RI, mm_RJ, mm_IJ, mm_IR, mm_JI, mm_JR, mm_II, mm_JJ, mm_RR]; rfl
        · rw [E2 _ _ (by omega), fq_I f19 (by omega), v14, z0]; rfl
        · rw [E2 _ _ (by omega), fq_I f19 (by omega), v15]; rfl
        · rw [E2 _ _ (by omega), h19]; simp [-Prod.exists, -Prod.forall, zgf, zgr, zpf, zpz, zpr, zga, zgl, zgo, zpa, zpb, zpl, zpo, mm_len, zcl, Option.bind_some, Option.bind_none, mm_hI, mm_hJ, mm_hR, mm_nI, mm_nJ, mm_nR, mm_sI, mm_sJ, mm_sR, mm_RI, mm_RJ, mm_IJ, mm_IR, mm_JI, mm_JR, mm_II, mm_JJ, mm_RR]; rfl
        · obtain ⟨x, y, ac, _⟩ := hm.2.2.2.1
          have hx : (x = 5 + 4 ∧ y = 5 + 6) ∨ (x = 5 + 6 ∧ y = 5 + 4) := ac.1.2.2.2.2.2.2.2.2.2.2
          exact ⟨x, y, aCar_sm ac (sm_fq (lo := 5) (hi := 19) gG (fun b j p1 p2 => ⟨by unfold wRe; omega, by omega⟩)) (by omega) (by omega), fun c hc => by cases hc⟩
      have s20 : cSr S20 := cSr_fq hs gG (fun b j p1 p2 => ⟨by unfold wRe; omega, by omega⟩)
      have v5 : zI S20 U 5 = nI z.2.2.2.2.2.length := pS.2.2.2.1
      have hU : zh S20 U = (10, 0) := pS.1.1
      have k1 : zh S20 1 = (11, 0) := by rw [hh20]; exact h1
      refine ⟨zwI S20 1 16 (nI 0), ?_, cl_end cm s20 0, ?_, ?_⟩
      · have an : f_Cl_answer 1 (nI z.2.2.2.2.2.length) S20 = some (nI z.2.2.2.2.2.length, zwI S20 1 16 (nI 0)) := cl_answer k1 _
        have b10 : zR SB 1 10 = some T := by rw [fr_R fB]; exact y10
        have b11 : zR SB 1 11 = some U := by rw [fr_R fB]; exact y11
        have b9 : zR (zwI (zwR (zwR SB 1 10 (some U)) 1 11 (some T)) 1 17 0) 1 9 = some 62 := by simp [mm_RR, mm_RI, fr_R fB, y9]
        have bz : (0 : Int32) = 0 ∨ (0 : Int32) = 1 := Or.inl rfl
        have b62 : zh SB 62 = (0, 0) := by rw [fq_h g11]; exact h62
        have k19 : zh S19 1 = (11, 0) := by rw [fq_h gA]; exact h1
        rw [h19] at g1 k19
        simp only [↓bb_gr, xB, if_true, ↓bS b10, ↓bS b11, ↓bb_pr, mm_hR, ↓bb_pz, bz, and_self, mm_hI, ↓bS b9, ↓bb_cl, b62, f_Acts_drop, ↓bb_pf, ↓bb_some, ↓bS g1, k1, ↓bS q10, ↓bb_gf, hU, v5, ↓bS an, true_or, and_self, if_true]
      · refine ko_fq (W := fun b j => ((wRe U b j ∨ (b = 1 ∧ j = 17) ∨ (b = 62 ∧ j = 1)) ∨ 447 ≤ b) ∨ (b = 1 ∧ j = 16)) (V := fun b j => b = 3 ∨ (b = 1 ∧ (j = 10 ∨ j = 11))) (fq_trans (fq_mono gG (fun b j q => Or.inl q) (fun b j q => q)) (fq_fr (fr_wI _ _ (Or.inr ⟨rfl, rfl⟩)))) (fun b j q => by unfold wRe at q; omega)
      · exact Or.inl ⟨by show zR S20 1 12 = _; exact RR _ _ (by omega), by show zn S20 = _; exact fq_n gG, by show zs S20 = _; exact fq_s gG⟩
    · have z7 : z.1 < 7 := by rw [hz]; exact parse_c
      rw [if_neg z0, if_neg (nI_ne0 (by omega) (by omega))]
      obtain ⟨m1, m2, m3, m4, m5⟩ := hm
      have cm : cMn SB (sBad w z) T U := by
        refine ⟨cRf_fq m1 g11 (fun j _ => by omega) (by omega), ⟨?_, fun k hk => absurd hk (Nat.not_lt_zero k), by rw [gI _ _ (by unfold wRe; omega)]; exact d3, fun k hk => by rw [gI _ _ (by unfold wRe; omega)]; exact d4 k hk, v14, v15, by rw [gI _ _ (by unfold wRe; omega)]; exact d7⟩, ⟨scr_sm m3.1 sT (by omega) (by omega), aScr_sm a4 (sm_fr fB (fun b j p1 p2 => by omega)), aScr_sm m3.2.2 sT⟩, cLt_fq (w := w) m4 g11 (fun b j p1 p2 => ⟨by unfold wRe; omega, by omega⟩), cCe_fq (w := w) m5 g11 low (by omega) n4⟩
        rw [v13]; rfl
      have sB : cSr SB := cSr_fq hs g11 (fun b j p1 p2 => ⟨by unfold wRe; omega, by omega⟩)
      have rB : f_Cl_refuse 1 4 SB = some (-1, zwI SB 1 16 (nI 4)) := cl_refuse xB 4
      refine ⟨zwI SB 1 16 (nI 4), ?_, cl_end cm sB 4, ?_, ?_⟩
      · simp only [↓bb_cl, xB, if_true, ↓bS rB]
      · exact ko_fq (W := fun b j => wRe U b j ∨ (b = 1 ∧ j = 16)) (V := fun b j => b = 3) (fq_trans (fq_mono g11 (fun b j q => Or.inl q) (fun b j q => q)) (fq_fr (fr_wI _ _ (Or.inr ⟨rfl, rfl⟩)))) (fun b j q => by unfold wRe at q; omega)
      · exact Or.inl ⟨by show zR SB 1 12 = _; exact fq_R g11 (by omega), by show zn SB = _; exact fq_n g11, by show zs SB = _; exact fq_s g11⟩
