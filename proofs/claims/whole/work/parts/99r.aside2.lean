/-! aside, the class -/
theorem acts_keep {S : zM} {ac : List Nat} {p i : Nat} (h62 : zh S 62 = (0, 0)) (r : zR S 62 0 = some 63) (h63 : zh S 63 = (100, 12)) (hn : zI S 62 1 = nI ac.length) (hc : ∀ k, k < ac.length → zI S 63 k = nI (lg ac k)) (h12 : ac.length ≤ 12) : ∃ S', f_Acts_keep 62 (nI p) (nI i) S = some S' ∧ zfr (fun b j => (b = 62 ∧ j = 1) ∨ b = 63) S S' ∧ zI S' 62 1 = nI (zkeep ac (8 * p + i)).length ∧ ∀ k, k < (zkeep ac (8 * p + i)).length → zI S' 63 k = nI (lg (zkeep ac (8 * p + i)) k) := by
  have m8 : nI p * (8 : Int32) = nI (8 * p) := by rw [Int32.mul_comm]; exact pk_mul 8 _
  by_cases q : ac.length < 12
  · have ek : zkeep ac (8 * p + i) = ac ++ [8 * p + i] := by unfold zkeep; rw [if_pos q]
    have lt : nI ac.length < (12 : Int32) := (nI_ltI (b := 12) (by omega) (by omega)).2 q
    have z : zinb (nI ac.length) 12 = true := (nn_in (by omega)).2 q
    have c : (nI ac.length).toNatClampNeg = ac.length := nI_clamp (by omega)
    have e1 : nI ac.length + 1 = nI (ac.length + 1) := nI_add _ 1
    refine ⟨zwI (zwI S 63 ac.length (nI (8 * p + i))) 62 1 (nI (ac.length + 1)), by simp [f_Acts_keep, -Prod.exists, -Prod.forall, ↓bb_gf, ↓bb_gr, ↓bb_len, ↓bb_ga, ↓bb_gl, ↓bb_go, ↓bb_pf, ↓bb_pz, ↓bb_pr, ↓bb_pa, ↓bb_pb, ↓bb_pl, ↓bb_po, ↓bb_cl, ↓bb_some, ↓bb_RI, ↓bb_RJ, mm_hI, mm_hJ, mm_hR, mm_nI, mm_nJ, mm_nR, mm_sI, mm_sJ, mm_sR, mm_RI, mm_RJ, mm_IJ, mm_IR, mm_JI, mm_JR, mm_II, mm_JJ, mm_RR, h62, hn, lt, ↓bS r, h63, z, c, m8, nI_add, e1], fr_trans (fr_wI _ _ (Or.inr rfl)) (fr_wI _ _ (Or.inl ⟨rfl, rfl⟩)), by rw [ek]; simp [-Prod.exists, -Prod.forall, zgf, zgr, zpf, zpz, zpr, zga, zgl, zgo, zpa, zpb, zpl, zpo, mm_len, zcl, Option.bind_some, Option.bind_none, mm_hI, mm_hJ, mm_hR, mm_nI, mm_nJ, mm_nR, mm_sI, mm_sJ, mm_sR, mm_RI, mm_RJ, mm_IJ, mm_IR, mm_JI, mm_JR, mm_II, mm_JJ, mm_RR], fun k hk => ?_⟩
    rw [ek] at hk ⊢
    simp at hk
    by_cases e : k = ac.length
    · subst e; rw [lg_end]; simp [-Prod.exists, -Prod.forall, zgf, zgr, zpf, zpz, zpr, zga, zgl, zgo, zpa, zpb, zpl, zpo, mm_len, zcl, Option.bind_some, Option.bind_none, mm_hI, mm_hJ, mm_hR, mm_nI, mm_nJ, mm_nR, mm_sI, mm_sJ, mm_sR, mm_RI, mm_RJ, mm_IJ, mm_IR, mm_JI, mm_JR, mm_II, mm_JJ, mm_RR]
    · rw [lg_app1 (by omega)]; simp [-Prod.exists, -Prod.forall, zgf, zgr, zpf, zpz, zpr, zga, zgl, zgo, zpa, zpb, zpl, zpo, mm_len, zcl, Option.bind_some, Option.bind_none, mm_hI, mm_hJ, mm_hR, mm_nI, mm_nJ, mm_nR, mm_sI, mm_sJ, mm_sR, mm_RI, mm_RJ, mm_IJ, mm_IR, mm_JI, mm_JR, mm_II, mm_JJ, mm_RR, e]; exact hc k (by omega)
  · have ek : zkeep ac (8 * p + i) = ac.drop 1 ++ [8 * p + i] := by unfold zkeep; rw [if_neg q]
    have l12 : ac.length = 12 := by omega
    have lt : ¬ nI ac.length < (12 : Int32) := by rw [l12]; decide
    obtain ⟨S1, c1, c2, c3⟩ := mm_cp (sp := 1) (dp := 0) (c := 11) h63 h63 (by omega) (by omega) (by omega) (by omega) (by omega) (by omega)
    have c1 : zcp S 63 1 63 0 11 = some S1 := c1
    have t11 : nI 11 = (11 : Int32) := rfl
    have z : zinb 11 12 = true := by decide
    have c : (11 : Int32).toNatClampNeg = 11 := by decide
    have e1 : (11 : Int32) + 1 = 12 := by decide
    have x62 : zh S1 62 = (0, 0) := by rw [fr_h c2]; exact h62
    have xr : zR S1 62 0 = some 63 := by rw [fr_R c2]; exact r
    have x63 : zh S1 63 = (100, 12) := by rw [fr_h c2]; exact h63
    refine ⟨zwI (zwI (zwI S1 62 1 11) 63 11 (nI (8 * p + i))) 62 1 12, by simp [f_Acts_keep, -Prod.exists, -Prod.forall, ↓bb_gf, ↓bb_gr, ↓bb_len, ↓bb_ga, ↓bb_gl, ↓bb_go, ↓bb_pf, ↓bb_pz, ↓bb_pr, ↓bb_pa, ↓bb_pb, ↓bb_pl, ↓bb_po, ↓bb_cl, ↓bb_some, ↓bb_RI, ↓bb_RJ, mm_hI, mm_hJ, mm_hR, mm_nI, mm_nJ, mm_nR, mm_sI, mm_sJ, mm_sR, mm_RI, mm_RJ, mm_IJ, mm_IR, mm_JI, mm_JR, mm_II, mm_JJ, mm_RR, h62, hn, lt, ↓bS r, ↓bS c1, x62, ↓bS xr, x63, z, c, m8, nI_add, e1], fr_trans (fr_trans (fr_trans (fr_mono c2 (fun b j x => by unfold rg at x; omega)) (fr_wI _ _ (Or.inl ⟨rfl, rfl⟩))) (fr_wI _ _ (Or.inr rfl))) (fr_wI _ _ (Or.inl ⟨rfl, rfl⟩)), by rw [ek]; simp [-Prod.exists, -Prod.forall, zgf, zgr, zpf, zpz, zpr, zga, zgl, zgo, zpa, zpb, zpl, zpo, mm_len, zcl, Option.bind_some, Option.bind_none, mm_hI, mm_hJ, mm_hR, mm_nI, mm_nJ, mm_nR, mm_sI, mm_sJ, mm_sR, mm_RI, mm_RJ, mm_IJ, mm_IR, mm_JI, mm_JR, mm_II, mm_JJ, mm_RR, l12]; rfl, fun k hk => ?_⟩
    rw [ek] at hk ⊢
    simp [l12] at hk
    have ld : (ac.drop 1).length = 11 := by simp [l12]
    by_cases e : k = 11
    · subst e
      rw [show (11 : Nat) = (ac.drop 1).length by omega, lg_end]; simp [-Prod.exists, -Prod.forall, zgf, zgr, zpf, zpz, zpr, zga, zgl, zgo, zpa, zpb, zpl, zpo, mm_len, zcl, Option.bind_some, Option.bind_none, mm_hI, mm_hJ, mm_hR, mm_nI, mm_nJ, mm_nR, mm_sI, mm_sJ, mm_sR, mm_RI, mm_RJ, mm_IJ, mm_IR, mm_JI, mm_JR, mm_II, mm_JJ, mm_RR, ld]
    · rw [lg_app1 (by omega), lg_drop]
      simp [-Prod.exists, -Prod.forall, zgf, zgr, zpf, zpz, zpr, zga, zgl, zgo, zpa, zpb, zpl, zpo, mm_len, zcl, Option.bind_some, Option.bind_none, mm_hI, mm_hJ, mm_hR, mm_nI, mm_nJ, mm_nR, mm_sI, mm_sJ, mm_sR, mm_RI, mm_RJ, mm_IJ, mm_IR, mm_JI, mm_JR, mm_II, mm_JJ, mm_RR, e]
      rw [c3 k, if_pos (by omega)]
      have := hc (1 + k) (by omega)
      rw [show 1 + (k - 0) = 1 + k by omega]
      exact this
theorem cMn_as {S S' : zM} {w : zWs} {T U : Nat} {W : Nat → Nat → Prop} {asd : Nat → Nat} {ac : List Nat} (hm : cMn S w T U) (hs : cSr S) (hf : zfr W S S') (hW : ∀ b j, W b j → (j = 5 ∧ (b = T + 4 ∨ b = T + 60 ∨ b = T + 116)) ∨ (b = 62 ∧ j = 1) ∨ b = 63 ∨ 447 ≤ b) (hS : pScr S' T (wSc w) asd) (hc : cCe S' (sAs w asd ac)) (hn : zI S' 62 1 = nI ac.length) (ha : ∀ k, k < ac.length → zI S' 63 k = nI (lg ac k)) : cMn S' (sAs w asd ac) T U ∧ cSr S' ∧ zko S S' ∧ zrm S S' := by
  have hTU := wTU hm
  obtain ⟨a1, a2, a3, a4, a5⟩ := hm
  have fq : zfq W (fun _ _ => False) S S' := fq_fr hf
  have nW : ∀ b j, b < 62 → ¬ W b j := fun b j q r => by have := hW b j r; omega
  obtain ⟨d1, d2, d3, d4, d5, d6, d7⟩ := a2
  refine ⟨⟨cRf_fq a1 fq (fun j _ x => x) (fun x => x), ⟨by rw [fr_I hf (nW _ _ (by omega))]; exact d1, fun k hk => by rw [fr_I hf (nW _ _ (by omega))]; exact d2 k hk, hn, ha, by rw [fr_I hf (nW _ _ (by omega))]; exact d5, by rw [fr_I hf (nW _ _ (by omega))]; exact d6, by rw [fr_I hf (nW _ _ (by omega))]; exact d7⟩, ⟨hS, aScr_sm a3.2.1 (sm_fq fq (fun b j h1 h2 => ⟨fun q => by have := hW b j q; omega, fun x => x⟩)), aScr_as a3.2.2 fq (fun b j h1 h2 q => by have := hW b j q; omega) (fun b j h1 h2 x => x)⟩, cLt_fq a4 fq (fun b j q r => ⟨nW _ _ (by omega), fun x => x⟩), hc⟩, cSr_fq hs fq (fun b j q r => ⟨nW _ _ (by omega), fun x => x⟩), ko_fq fq (fun b j q => ?_), Or.inl ⟨by rw [fr_R hf], fq_n fq, fq_s fq⟩⟩
  rcases q with q | q
  · have := hW b j q; omega
  · exact absurd q (fun x => x)
theorem cl_asd {S : zM} {w : zWs} {T U p i : Nat} (hm : cMn S w T U) (hs : cSr S) (ho : okW w) (hp : p < (wSc w).2.2.length) (hi : i < (zpa_ (wSc w).2.2 p).2.length) : ∃ S1 S2 S3, f_Script_turnAside T (nI p) (nI i) S = some S1 ∧ zh S1 1 = (11, 0) ∧ zR S1 1 9 = some 62 ∧ zh S1 62 = (0, 0) ∧ f_Acts_keep 62 (nI p) (nI i) S1 = some S2 ∧ zh S2 1 = (11, 0) ∧ f_Cl_forgetWords 1 S2 = some S3 ∧ cMn S3 (sAs w (zasd (wAs w) p i) (zkeep (wAc w) (8 * p + i))) T U ∧ cSr S3 ∧ zko S S3 ∧ zrm S S3 := by
  have hTU := wTU hm
  have n4 := wzn hm
  obtain ⟨h1, r0, h2, r1, h3, r2, r3, r4, r5, r6, r7, h39, r8, r9, h62, r62, h63, r10, r11, tu, _⟩ := hm.1
  obtain ⟨t1, t2⟩ := scr_turn hm.2.2.1.1 hp hi
  have f1 : zfr (fun b j => j = 5 ∧ (b = T + 4 ∨ b = T + 60 ∨ b = T + 116)) S (zwI S (aPs T p) 5 (nI (wAs w p ^^^ 2 ^ i))) := fr_wI _ _ (by have := ho.2.2.2.2.2.2.2.2.1; unfold aPs; omega)
  obtain ⟨S1, e1⟩ : ∃ S1, S1 = zwI S (aPs T p) 5 (nI (wAs w p ^^^ 2 ^ i)) := ⟨_, rfl⟩
  rw [← e1] at t1 t2 f1
  obtain ⟨d1, d2, d3, d4, d5, d6, d7⟩ := hm.2.1
  have x62 : zh S1 62 = (0, 0) := by rw [fr_h f1]; exact h62
  obtain ⟨S2, k1, k2, k3, k4⟩ := acts_keep (p := p) (i := i) x62 (by rw [fr_R f1]; exact r62) (by rw [fr_h f1]; exact h63) (by rw [fr_I f1 (by omega)]; exact d3) (fun k hk => by rw [fr_I f1 (by omega)]; exact d4 k hk) ho.2.2.2.1
  have f2 : zfr (fun b j => (j = 5 ∧ (b = T + 4 ∨ b = T + 60 ∨ b = T + 116)) ∨ (b = 62 ∧ j = 1) ∨ b = 63) S S2 := fr_trans (fr_mono f1 (fun b j q => Or.inl q)) (fr_mono k2 (fun b j q => Or.inr q))
  obtain ⟨S3, g1, g2, g3⟩ := cl_forget (jCe_fr (cCe_j hm.2.2.2.2) f2 (fun b j q => by omega) n4) (by rw [fr_h f2]; exact h1) (sAs w (zasd (wAs w) p i) (zkeep (wAc w) (8 * p + i)))
  have f3 : zfr (fun b j => (j = 5 ∧ (b = T + 4 ∨ b = T + 60 ∨ b = T + 116)) ∨ (b = 62 ∧ j = 1) ∨ b = 63 ∨ 447 ≤ b) S S3 := fr_trans (fr_mono f2 (fun b j q => by omega)) (fr_mono g2 (fun b j q => by omega))
  have hS3 : pScr S3 T (wSc w) (zasd (wAs w) p i) := scr_sm (scr_sm t2 (sm_fr (lo := T) (hi := T + 172) k2 (fun b j q1 q2 => by omega)) (by omega) (by omega)) (sm_fr (lo := T) (hi := T + 172) g2 (fun b j q1 q2 => by omega)) (by omega) (by omega)
  obtain ⟨m1, m2, m3, m4⟩ := cMn_as hm hs f3 (fun b j q => q) hS3 g3 (by rw [fr_I g2 (by omega)]; exact k3) (fun k hk => by rw [fr_I g2 (by omega)]; exact k4 k hk)
  exact ⟨S1, S2, S3, t1, by rw [fr_h f1]; exact h1, by rw [fr_R f1]; exact r9, x62, k1, by rw [fr_h f2]; exact h1, g1, m1, m2, m3, m4⟩
theorem hc_aside (a b c : Int32) : zHc (f_Cl_aside 1 a b c) (sp_aside a b c) := fun S w h ho => by
  obtain ⟨T, U, hm, hs, ht⟩ := h; have h1 := hm.1.1; have r10 := r_told hm; have hS := hm.2.2.1.1; obtain ⟨e0, e1⟩ := hc_same hm hs 0; obtain ⟨f0, f1⟩ := hc_same hm hs 1; have h3 := ho.2.2.2.2.2.2.2.2.1
  have ra := cl_ra hm a b
  unfold sp_aside
  cases e : zix2 w a b with
  | none =>
    rw [e] at ra
    simp only [Option.map_none] at ra
    exact ⟨_, by simp [f_Cl_aside, -Prod.exists, -Prod.forall, ↓bb_gf, ↓bb_gr, ↓bb_len, ↓bb_ga, ↓bb_gl, ↓bb_go, ↓bb_pf, ↓bb_pz, ↓bb_pr, ↓bb_pa, ↓bb_pb, ↓bb_pl, ↓bb_po, ↓bb_cl, ↓bb_some, ↓bb_RI, ↓bb_RJ, mm_hI, mm_hJ, mm_hR, mm_nI, mm_nJ, mm_nR, mm_sI, mm_sJ, mm_sR, mm_RI, mm_RJ, mm_IJ, mm_IR, mm_JI, mm_JR, mm_II, mm_JJ, mm_RR, h1, ↓bS r10, hS.1.1, ↓bS ra, ↓bS (cl_refuse h1 1), zrf] <;> rfl, f0, f1⟩
  | some q =>
    obtain ⟨p, i⟩ := q
    rw [e] at ra
    simp only [Option.map_some] at ra
    obtain ⟨_, _, rfl, rfl, hp, hi⟩ := ix2_some e
    have ia := scr_isAside hS hp hi
    obtain ⟨S1, S2, S3, t1, t2, t3, t4, t5, t6, t7, m1, m2, m3, m4⟩ := cl_asd hm hs ho hp hi
    obtain ⟨y1, y2, y3⟩ := hc_endE m1 m2 m3 m4 0
    obtain ⟨g0, g1⟩ := hc_same hm hs 5
    have ac := scr_count m1.2.2.1.1 (fun q hq => asd_lt (ho.2.2.2.2.2.2.2.2.2 q hq).2 (fun e => by subst e; exact hi))
    have ac : f_Script_asideCount T S3 = some (nI (zac (wSc w).2.2 (zasd (wAs w) p i) (wSc w).2.2.length), S3) := ac
    have h10 := m1.2.2.1.1.1.1
    simp only
    by_cases q0 : c = 0
    · subst q0
      rw [if_pos (Or.inl rfl)]
      cases eb : (wAs w p).testBit i with
      | false =>
        rw [eb] at ia
        simp only [Bool.false_eq_true, if_false] at ia
        exact ⟨_, by simp [f_Cl_aside, -Prod.exists, -Prod.forall, ↓bb_gf, ↓bb_gr, ↓bb_len, ↓bb_ga, ↓bb_gl, ↓bb_go, ↓bb_pf, ↓bb_pz, ↓bb_pr, ↓bb_pa, ↓bb_pb, ↓bb_pl, ↓bb_po, ↓bb_cl, ↓bb_some, ↓bb_RI, ↓bb_RJ, mm_hI, mm_hJ, mm_hR, mm_nI, mm_nJ, mm_nR, mm_sI, mm_sJ, mm_sR, mm_RI, mm_RJ, mm_IJ, mm_IR, mm_JI, mm_JR, mm_II, mm_JJ, mm_RR, h1, ↓bS r10, hS.1.1, ↓bS ra, ↓bS ia, ↓bS (cl_refuse h1 5), zrf] <;> rfl, g0, g1⟩
      | true =>
        rw [eb] at ia
        simp only [if_true] at ia
        exact ⟨_, by simp [f_Cl_aside, -Prod.exists, -Prod.forall, ↓bb_gf, ↓bb_gr, ↓bb_len, ↓bb_ga, ↓bb_gl, ↓bb_go, ↓bb_pf, ↓bb_pz, ↓bb_pr, ↓bb_pa, ↓bb_pb, ↓bb_pl, ↓bb_po, ↓bb_cl, ↓bb_some, ↓bb_RI, ↓bb_RJ, mm_hI, mm_hJ, mm_hR, mm_nI, mm_nJ, mm_nR, mm_sI, mm_sJ, mm_sR, mm_RI, mm_RJ, mm_IJ, mm_IR, mm_JI, mm_JR, mm_II, mm_JJ, mm_RR, h1, ↓bS r10, hS.1.1, ↓bS ra, ↓bS ia, ↓bS t1, t2, ↓bS t3, t4, ↓bS t5, t6, ↓bS t7, m1.1.1, ↓bS (r_told m1), h10, ↓bS ac, ↓bS (cl_answer m1.1.1 _), zan] <;> rfl, y1, y2, y3⟩
    · by_cases q1 : c = 1
      · subst q1
        rw [if_pos (Or.inr rfl)]
        cases eb : (wAs w p).testBit i with
        | true =>
          rw [eb] at ia
          simp only [if_true] at ia
          exact ⟨_, by simp [f_Cl_aside, -Prod.exists, -Prod.forall, ↓bb_gf, ↓bb_gr, ↓bb_len, ↓bb_ga, ↓bb_gl, ↓bb_go, ↓bb_pf, ↓bb_pz, ↓bb_pr, ↓bb_pa, ↓bb_pb, ↓bb_pl, ↓bb_po, ↓bb_cl, ↓bb_some, ↓bb_RI, ↓bb_RJ, mm_hI, mm_hJ, mm_hR, mm_nI, mm_nJ, mm_nR, mm_sI, mm_sJ, mm_sR, mm_RI, mm_RJ, mm_IJ, mm_IR, mm_JI, mm_JR, mm_II, mm_JJ, mm_RR, h1, ↓bS r10, hS.1.1, ↓bS ra, ↓bS ia, ↓bS (cl_refuse h1 5), zrf] <;> rfl, g0, g1⟩
        | false =>
          rw [eb] at ia
          simp only [Bool.false_eq_true, if_false] at ia
          exact ⟨_, by simp [f_Cl_aside, -Prod.exists, -Prod.forall, ↓bb_gf, ↓bb_gr, ↓bb_len, ↓bb_ga, ↓bb_gl, ↓bb_go, ↓bb_pf, ↓bb_pz, ↓bb_pr, ↓bb_pa, ↓bb_pb, ↓bb_pl, ↓bb_po, ↓bb_cl, ↓bb_some, ↓bb_RI, ↓bb_RJ, mm_hI, mm_hJ, mm_hR, mm_nI, mm_nJ, mm_nR, mm_sI, mm_sJ, mm_sR, mm_RI, mm_RJ, mm_IJ, mm_IR, mm_JI, mm_JR, mm_II, mm_JJ, mm_RR, h1, ↓bS r10, hS.1.1, ↓bS ra, ↓bS ia, ↓bS t1, t2, ↓bS t3, t4, ↓bS t5, t6, ↓bS t7, m1.1.1, ↓bS (r_told m1), h10, ↓bS ac, ↓bS (cl_answer m1.1.1 _), zan] <;> rfl, y1, y2, y3⟩
      · rw [if_neg (by simp only [not_or]; exact ⟨q0, q1⟩)]
        obtain ⟨z0, z1⟩ := hc_same hm hs 2
        exact ⟨_, by simp [f_Cl_aside, -Prod.exists, -Prod.forall, ↓bb_gf, ↓bb_gr, ↓bb_len, ↓bb_ga, ↓bb_gl, ↓bb_go, ↓bb_pf, ↓bb_pz, ↓bb_pr, ↓bb_pa, ↓bb_pb, ↓bb_pl, ↓bb_po, ↓bb_cl, ↓bb_some, ↓bb_RI, ↓bb_RJ, mm_hI, mm_hJ, mm_hR, mm_nI, mm_nJ, mm_nR, mm_sI, mm_sJ, mm_sR, mm_RI, mm_RJ, mm_IJ, mm_IR, mm_JI, mm_JR, mm_II, mm_JJ, mm_RR, h1, ↓bS r10, hS.1.1, ↓bS ra, q0, q1, ↓bS (cl_refuse h1 2), zrf] <;> rfl, z0, z1⟩
/-! undo, the class -/
def sp_undo (w : zWs) : Int32 × zWs := if (wAc w).length = 0 then (0, sTr w 1) else (1, sTr (sAs w (zasd (wAs w) (lg (wAc w) ((wAc w).length - 1) / 8) (lg (wAc w) ((wAc w).length - 1) % 8)) ((wAc w).take ((wAc w).length - 1))) 0)
theorem lg_in {xs : List Nat} {k : Nat} (h : k < xs.length) : lg xs k ∈ xs := by rw [lg_get h]; exact List.getElem_mem h
theorem hk_undo : zHk sp_undo := fun S w ho hp => by
  unfold sp_undo at hp ⊢
  split
  · exact okW_tr ho (by omega)
  · rename_i q
    obtain ⟨a, b⟩ := ho.2.2.2.2.1 _ (lg_in (k := (wAc w).length - 1) (xs := wAc w) (by omega))
    have := ho.2.2.2.1
    exact okW_tr (okW_as ho a b (by simp; omega) (fun x hx => ho.2.2.2.2.1 x (List.mem_of_mem_take hx))) (by omega)
theorem d8 : ∀ a, a < 24 → nI a / (8 : Int32) = nI (a / 8) ∧ nI a - nI a / (8 : Int32) * (8 : Int32) = nI (a % 8) := by decide +kernel
theorem s1_12 : ∀ n, n < 13 → n ≠ 0 → nI n - 1 = nI (n - 1) := by decide +kernel
theorem hc_undo : zHc (f_Cl_undo 1) sp_undo := fun S w h ho => by
  obtain ⟨T, U, hm, hs, ht⟩ := h; have h1 := hm.1.1; have r10 := r_told hm; have hS := hm.2.2.1.1; obtain ⟨e0, e1⟩ := hc_same hm hs 0; obtain ⟨f0, f1⟩ := hc_same hm hs 1; have h3 := ho.2.2.2.2.2.2.2.2.1
  obtain ⟨_, r0, h2, rr1, hh3, r2, r3, r4, r5, r6, r7, h39, r8, r9, h62, r62, h63, _, r11, tu, n4⟩ := hm.1
  obtain ⟨d1, d2, d3, d4, d5, d6, d7⟩ := hm.2.1
  have l12 := ho.2.2.2.1
  have hTU := wTU hm
  unfold sp_undo
  by_cases q : (wAc w).length = 0
  · rw [if_pos q]
    have v : zI S 62 1 = 0 := by rw [d3, q]; rfl
    have le : (0 : Int32) ≤ 0 := by decide
    have tl : f_Acts_takeLatest 62 S = some (-1, S) := by simp [f_Acts_takeLatest, -Prod.exists, -Prod.forall, ↓bb_gf, ↓bb_gr, ↓bb_len, ↓bb_ga, ↓bb_gl, ↓bb_go, ↓bb_pf, ↓bb_pz, ↓bb_pr, ↓bb_pa, ↓bb_pb, ↓bb_pl, ↓bb_po, ↓bb_cl, ↓bb_some, ↓bb_RI, ↓bb_RJ, mm_hI, mm_hJ, mm_hR, mm_nI, mm_nJ, mm_nR, mm_sI, mm_sJ, mm_sR, mm_RI, mm_RJ, mm_IJ, mm_IR, mm_JI, mm_JR, mm_II, mm_JJ, mm_RR, h62, v, le]
    exact ⟨_, by simp [f_Cl_undo, -Prod.exists, -Prod.forall, ↓bb_gf, ↓bb_gr, ↓bb_len, ↓bb_ga, ↓bb_gl, ↓bb_go, ↓bb_pf, ↓bb_pz, ↓bb_pr, ↓bb_pa, ↓bb_pb, ↓bb_pl, ↓bb_po, ↓bb_cl, ↓bb_some, ↓bb_RI, ↓bb_RJ, mm_hI, mm_hJ, mm_hR, mm_nI, mm_nJ, mm_nR, mm_sI, mm_sJ, mm_sR, mm_RI, mm_RJ, mm_IJ, mm_IR, mm_JI, mm_JR, mm_II, mm_JJ, mm_RR, h1, ↓bS r9, h62, ↓bS tl] <;> rfl, f0, f1⟩
  · rw [if_neg q]
    have le : ¬ nI (wAc w).length ≤ 0 := fun x => by have := (nI_leI (b := 0) (by omega) (by omega)).1 x; omega
    have le2 : nI (wAc w).length ≤ 12 := (nI_leI (b := 12) (by omega) (by omega)).2 l12
    have sb := s1_12 (wAc w).length (by omega) q
    have z : zinb (nI ((wAc w).length - 1)) 12 = true := (nn_in (by omega)).2 (by omega)
    have c : (nI ((wAc w).length - 1)).toNatClampNeg = (wAc w).length - 1 := nI_clamp (by omega)
    have va := d4 ((wAc w).length - 1) (by omega)
    obtain ⟨a, ha⟩ : ∃ a, a = lg (wAc w) ((wAc w).length - 1) := ⟨_, rfl⟩
    rw [← ha] at va ⊢
    have tl : f_Acts_takeLatest 62 S = some (nI a, zwI S 62 1 (nI ((wAc w).length - 1))) := by simp [f_Acts_takeLatest, -Prod.exists, -Prod.forall, ↓bb_gf, ↓bb_gr, ↓bb_len, ↓bb_ga, ↓bb_gl, ↓bb_go, ↓bb_pf, ↓bb_pz, ↓bb_pr, ↓bb_pa, ↓bb_pb, ↓bb_pl, ↓bb_po, ↓bb_cl, ↓bb_some, ↓bb_RI, ↓bb_RJ, mm_hI, mm_hJ, mm_hR, mm_nI, mm_nJ, mm_nR, mm_sI, mm_sJ, mm_sR, mm_RI, mm_RJ, mm_IJ, mm_IR, mm_JI, mm_JR, mm_II, mm_JJ, mm_RR, h62, d3, le, le2, sb, ↓bS r62, h63, z, c, va]
    have oa := ho.2.2.2.2.1 a (by rw [ha]; exact lg_in (by omega))
    have r8a := (ps_w hS.2.2.2.2.2.2.2.2.2 oa.1).1
    have a24 : a < 24 := by have := oa.1; omega
    have na : ¬ nI a = -1 := (nn_eqm (i := a) (m := 1) (by omega) (by omega) (by omega)).1
    obtain ⟨q8, q9⟩ := d8 a a24
    rw [q8] at q9
    have fa : zfr (fun b j => b = 62 ∧ j = 1) S (zwI S 62 1 (nI ((wAc w).length - 1))) := fr_wI _ _ ⟨rfl, rfl⟩
    obtain ⟨S0, e0⟩ : ∃ S0, S0 = zwI S 62 1 (nI ((wAc w).length - 1)) := ⟨_, rfl⟩
    have v0 : zI S0 62 1 = nI ((wAc w).length - 1) := by rw [e0]; simp [-Prod.exists, -Prod.forall, zgf, zgr, zpf, zpz, zpr, zga, zgl, zgo, zpa, zpb, zpl, zpo, mm_len, zcl, Option.bind_some, Option.bind_none, mm_hI, mm_hJ, mm_hR, mm_nI, mm_nJ, mm_nR, mm_sI, mm_sJ, mm_sR, mm_RI, mm_RJ, mm_IJ, mm_IR, mm_JI, mm_JR, mm_II, mm_JJ, mm_RR]
    rw [← e0] at tl fa
    have hS0 : pScr S0 T (wSc w) (wAs w) := scr_sm hS (sm_fr (lo := T) (hi := T + 172) fa (fun b j q1 q2 => by omega)) (by omega) (by omega)
    obtain ⟨t1, t2⟩ := scr_turn hS0 oa.1 oa.2
    have f1' : zfr (fun b j => j = 5 ∧ (b = T + 4 ∨ b = T + 60 ∨ b = T + 116)) S0 (zwI S0 (aPs T (a / 8)) 5 (nI (wAs w (a / 8) ^^^ 2 ^ (a % 8)))) := fr_wI _ _ (by unfold aPs; omega)
    obtain ⟨S1, e1⟩ : ∃ S1, S1 = zwI S0 (aPs T (a / 8)) 5 (nI (wAs w (a / 8) ^^^ 2 ^ (a % 8))) := ⟨_, rfl⟩
    rw [← e1] at t1 t2 f1'
    have f2 : zfr (fun b j => (j = 5 ∧ (b = T + 4 ∨ b = T + 60 ∨ b = T + 116)) ∨ (b = 62 ∧ j = 1)) S S1 := fr_trans (fr_mono fa (fun b j q => Or.inr q)) (fr_mono f1' (fun b j q => Or.inl q))
    obtain ⟨S3, g1, g2, g3⟩ := cl_forget (jCe_fr (cCe_j hm.2.2.2.2) f2 (fun b j q => by omega) n4) (by rw [fr_h f2]; exact h1) (sAs w (zasd (wAs w) (a / 8) (a % 8)) ((wAc w).take ((wAc w).length - 1)))
    have f3 : zfr (fun b j => (j = 5 ∧ (b = T + 4 ∨ b = T + 60 ∨ b = T + 116)) ∨ (b = 62 ∧ j = 1) ∨ b = 63 ∨ 447 ≤ b) S S3 := fr_trans (fr_mono f2 (fun b j q => by omega)) (fr_mono g2 (fun b j q => by omega))
    have hS3 : pScr S3 T (wSc w) (zasd (wAs w) (a / 8) (a % 8)) := scr_sm t2 (sm_fr (lo := T) (hi := T + 172) g2 (fun b j q1 q2 => by omega)) (by omega) (by omega)
    obtain ⟨m1, m2, m3, m4⟩ := cMn_as hm hs f3 (fun b j q => q) hS3 g3 (by rw [fr_I g2 (by omega), fr_I f1' (by omega), v0]; congr 1; simp) (fun k hk => by
      simp at hk
      rw [fr_I g2 (by omega), fr_I f2 (by omega), lg_take (by omega)]; exact d4 k (by omega))
    obtain ⟨y1, y2, y3⟩ := hc_endE m1 m2 m3 m4 0
    have x1 : zh S0 1 = (11, 0) := by rw [fr_h fa]; exact h1
    have x10 : zR S0 1 10 = some T := by rw [fr_R fa]; exact r10
    have x11 : zh S1 1 = (11, 0) := by rw [fr_h f2]; exact h1
    exact ⟨_, by simp [f_Cl_undo, -Prod.exists, -Prod.forall, ↓bb_gf, ↓bb_gr, ↓bb_len, ↓bb_ga, ↓bb_gl, ↓bb_go, ↓bb_pf, ↓bb_pz, ↓bb_pr, ↓bb_pa, ↓bb_pb, ↓bb_pl, ↓bb_po, ↓bb_cl, ↓bb_some, ↓bb_RI, ↓bb_RJ, mm_hI, mm_hJ, mm_hR, mm_nI, mm_nJ, mm_nR, mm_sI, mm_sJ, mm_sR, mm_RI, mm_RJ, mm_IJ, mm_IR, mm_JI, mm_JR, mm_II, mm_JJ, mm_RR, h1, ↓bS r9, h62, ↓bS tl, na, x1, ↓bS x10, hS0.1.1, q8, q9, ↓bS t1, x11, ↓bS g1, m1.1.1] <;> rfl, y1, y2, y3⟩
