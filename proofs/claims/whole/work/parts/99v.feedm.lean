/-! feeding the reference -/
def wTm (b j : Nat) : Prop := b = 409 ∨ (b = 408 ∧ j = 5)
def qTm (S : zM) (xs : List Nat) : Prop := sMo S 408 ∧ zI S 408 5 = nI xs.length ∧ ∀ k, k < xs.length → zI S 409 k = nI (lg xs k)
theorem sh_4 : ∀ i, i < 4 → (24 : Int32) - 8 * nI i = nI (24 - 8 * i) := by decide +kernel
theorem b4_at (x : Int32) : ∀ i, i < 4 → lg (zb4 x) i = zbJ x (24 - 8 * i) := by
  intro i hi
  have : i = 0 ∨ i = 1 ∨ i = 2 ∨ i = 3 := by omega
  rcases this with rfl | rfl | rfl | rfl <;> rfl
theorem tm_4 {S : zM} {xs : List Nat} (h : qTm S xs) (hl : xs.length + 4 ≤ 900) (x : Int32) : ∃ S', f_Mo_laysWord 408 x S = some S' ∧ zfr wTm S S' ∧ qTm S' (xs ++ zb4 x) := by
  obtain ⟨hm0, v, vs⟩ := h
  obtain ⟨S1, a1, a2, a3⟩ := loop_st (N := 4) (by omega) (fun F i S => L_Mo_laysWord_2 F 408 x (nI i) S) (fun S => Option.bind (zgf S 12 408 5) (fun x4 => Option.bind (zpf S 12 408 5 (x4 + (4 : Int32))) (fun S5 => some S5))) (W := fun b j => b = 409 ∧ xs.length ≤ j) (S0 := S) (fun i S => zwI S 409 (xs.length + i) (nI (lg (zb4 x) i))) (fun i S => zI S 409 (xs.length + i) = nI (lg (zb4 x) i))
    (fun F S hf => by
      show L_Mo_laysWord_2 (F + 1) _ _ _ _ = _
      rw [L_Mo_laysWord_2, if_neg (by decide)])
    (fun F i S hi hf => by
      have hm := mo_fr hm0 hf
      have e : zI S 408 5 = nI xs.length := by rw [fr_I hf (by omega)]; exact v
      have lt : nI i < (4 : Int32) := (nI_ltI (b := 4) (by omega) (by omega)).2 hi
      have e1 : nI i + 1 = nI (i + 1) := nI_add i 1
      have z : zinb (nI (xs.length + i)) 900 = true := (nn_in (by omega)).2 (by omega)
      have c : (nI (xs.length + i)).toNatClampNeg = xs.length + i := nI_clamp (by omega)
      have s4 := sh_4 i hi
      have b := bJ_m x (s := 24 - 8 * i) (by omega)
      rw [← b4_at x i hi] at b
      show L_Mo_laysWord_2 (F + 1) _ _ _ _ = _
      rw [L_Mo_laysWord_2, if_pos lt]
      simp [-Prod.exists, -Prod.forall, ↓bb_gf, ↓bb_gr, ↓bb_len, ↓bb_ga, ↓bb_gl, ↓bb_go, ↓bb_pf, ↓bb_pz, ↓bb_pr, ↓bb_pa, ↓bb_pb, ↓bb_pl, ↓bb_po, ↓bb_cl, ↓bb_some, ↓bb_RI, ↓bb_RJ, mm_hI, mm_hJ, mm_hR, mm_nI, mm_nJ, mm_nR, mm_sI, mm_sJ, mm_sR, mm_RI, mm_RJ, mm_IJ, mm_IR, mm_JI, mm_JR, mm_II, mm_JJ, mm_RR, hm.1, ↓bS (mo_tape hm), e, mh_tape hm, nI_add, z, c, s4, b, e1])
    (fun i S hi => fr_wI _ _ ⟨rfl, by omega⟩) (fun i S hi hf => by simp [-Prod.exists, -Prod.forall, zgf, zgr, zpf, zpz, zpr, zga, zgl, zgo, zpa, zpb, zpl, zpo, mm_len, zcl, Option.bind_some, Option.bind_none, mm_hI, mm_hJ, mm_hR, mm_nI, mm_nJ, mm_nR, mm_sI, mm_sJ, mm_sR, mm_RI, mm_RJ, mm_IJ, mm_IR, mm_JI, mm_JR, mm_II, mm_JJ, mm_RR]) (fun i j S hi hj hp => by
      have : i ≠ j := by omega
      simp [-Prod.exists, -Prod.forall, zgf, zgr, zpf, zpz, zpr, zga, zgl, zgo, zpa, zpb, zpl, zpo, mm_len, zcl, Option.bind_some, Option.bind_none, mm_hI, mm_hJ, mm_hR, mm_nI, mm_nJ, mm_nR, mm_sI, mm_sJ, mm_sR, mm_RI, mm_RJ, mm_IJ, mm_IR, mm_JI, mm_JR, mm_II, mm_JJ, mm_RR, this, hp])
  have hm1 := mo_fr hm0 a2
  have e5 : zI S1 408 5 = nI xs.length := by rw [fr_I a2 (by omega)]; exact v
  have e4 : nI xs.length + (4 : Int32) = nI (xs.length + 4) := nI_add _ 4
  have f1 : zfr (fun b j => b = 408 ∧ j = 5) S1 (zwI S1 408 5 (nI (xs.length + 4))) := fr_wI _ _ ⟨rfl, rfl⟩
  refine ⟨zwI S1 408 5 (nI (xs.length + 4)), ?_, fr_trans (fr_mono a2 (fun b j q => Or.inl q.1)) (fr_mono f1 (fun b j q => Or.inr q)), mo_fr hm1 f1, by simp [-Prod.exists, -Prod.forall, zgf, zgr, zpf, zpz, zpr, zga, zgl, zgo, zpa, zpb, zpl, zpo, mm_len, zcl, Option.bind_some, Option.bind_none, mm_hI, mm_hJ, mm_hR, mm_nI, mm_nJ, mm_nR, mm_sI, mm_sJ, mm_sR, mm_RI, mm_RJ, mm_IJ, mm_IR, mm_JI, mm_JR, mm_II, mm_JJ, mm_RR, zb4], fun k hk => ?_⟩
  · have a1 : L_Mo_laysWord_2 zF 408 x 0 S = _ := a1
    rw [f_Mo_laysWord, a1]
    simp [-Prod.exists, -Prod.forall, ↓bb_gf, ↓bb_gr, ↓bb_len, ↓bb_ga, ↓bb_gl, ↓bb_go, ↓bb_pf, ↓bb_pz, ↓bb_pr, ↓bb_pa, ↓bb_pb, ↓bb_pl, ↓bb_po, ↓bb_cl, ↓bb_some, ↓bb_RI, ↓bb_RJ, mm_hI, mm_hJ, mm_hR, mm_nI, mm_nJ, mm_nR, mm_sI, mm_sJ, mm_sR, mm_RI, mm_RJ, mm_IJ, mm_IR, mm_JI, mm_JR, mm_II, mm_JJ, mm_RR, hm1.1, e5, e4]
  · rw [fr_I f1 (by omega)]
    simp [zb4] at hk
    by_cases q : k < xs.length
    · rw [lg_app1 q, fr_I a2 (by omega)]; exact vs k q
    · rw [lg_app2 (by omega)]
      have := a3 (k - xs.length) (by omega)
      rw [show xs.length + (k - xs.length) = k by omega] at this
      exact this
theorem hm_feed (a b c d e : Int32) : zHm (f_Mo_feed 408 a b c d e) (sp_feed a b c d e) := fun S w h ho => by
  have l9 := ho.1
  have f0 : zfr (fun b j => b = 408 ∧ j = 0) S (zwI S 408 0 0) := fr_wI _ _ ⟨rfl, rfl⟩
  obtain ⟨k1, k2⟩ := mo_keep h f0 (fun b j q => by unfold wMs; omega) (by omega) (by omega)
  have h0 : qTm (zwI S 408 0 0) (wTp w) := ⟨k1.1.1, k1.1.2.2.1, k1.1.2.2.2.1⟩
  unfold sp_feed
  by_cases q : (wTp w).length ≤ 880
  · rw [if_pos q]
    have le : nI (wTp w).length ≤ (880 : Int32) := (nI_leI (b := 880) (by omega) (by omega)).2 q
    obtain ⟨S1, a1, a2, a3⟩ := tm_4 h0 (by omega) a
    obtain ⟨S2, b1, b2, b3⟩ := tm_4 a3 (by simp [zb4]; omega) b
    obtain ⟨S3, c1, c2, c3⟩ := tm_4 b3 (by simp [zb4]; omega) c
    obtain ⟨S4, d1, d2, d3⟩ := tm_4 c3 (by simp [zb4]; omega) d
    obtain ⟨S5, g1, g2, g3⟩ := tm_4 d3 (by simp [zb4]; omega) e
    have ee : wTp w ++ zb4 a ++ zb4 b ++ zb4 c ++ zb4 d ++ zb4 e = wTp w ++ zfd a b c d e := by simp [zfd]
    rw [ee] at g3
    have f : zfr wTm (zwI S 408 0 0) S5 := fr_trans (fr_trans (fr_trans (fr_trans a2 b2) c2) d2) g2
    have v : zI S5 408 5 = nI ((wTp w).length + 20) := by rw [g3.2.1, List.length_append, fd_len]
    have v0 : zI S 408 5 = nI (wTp w).length := h.1.2.2.1
    have E : ∀ b j, ¬ wTm b j → zI S5 b j = zI (zwI S 408 0 0) b j := fun b j q => fr_I f q
    obtain ⟨⟨x1, x2, x3, x4, x5, x6, x7, x8, x9⟩, t1, t2⟩ := k1
    refine ⟨S5, by simp [f_Mo_feed, -Prod.exists, -Prod.forall, ↓bb_gf, ↓bb_gr, ↓bb_len, ↓bb_ga, ↓bb_gl, ↓bb_go, ↓bb_pf, ↓bb_pz, ↓bb_pr, ↓bb_pa, ↓bb_pb, ↓bb_pl, ↓bb_po, ↓bb_cl, ↓bb_some, ↓bb_RI, ↓bb_RJ, mm_hI, mm_hJ, mm_hR, mm_nI, mm_nJ, mm_nR, mm_sI, mm_sJ, mm_sR, mm_RI, mm_RJ, mm_IJ, mm_IR, mm_JI, mm_JR, mm_II, mm_JJ, mm_RR, h.1.1.1, v0, le, ↓bS a1, a3.1.1, ↓bS b1, b3.1.1, ↓bS c1, c3.1.1, ↓bS d1, d3.1.1, ↓bS g1, g3.1.1, v], ⟨⟨g3.1, mSc_fr x2 f (fun j _ _ => by unfold wTm; omega) (fun b j _ => by unfold wTm; omega), g3.2.1, g3.2.2, by rw [E _ _ (by unfold wTm; omega)]; exact x5, by rw [E _ _ (by unfold wTm; omega)]; exact x6, fun k hk => by rw [E _ _ (by unfold wTm; omega)]; exact x7 k hk, by rw [E _ _ (by unfold wTm; omega)]; exact x8, fun c hc => ?_⟩, by rw [E _ _ (by unfold wTm; omega)]; exact t1, fun q => by rw [E _ _ (by unfold wTm; omega)]; exact t2 q⟩, fr_trans k2 (fr_mono f (fun b j q => by unfold wTm at q; unfold wMo; omega))⟩
    obtain ⟨b1, b2, b3, b4⟩ := x9 c hc
    refine ⟨by rw [E _ _ (by unfold wTm; omega)]; exact b1, fun k hk => by rw [E _ _ (by unfold wTm; omega)]; exact b2 k hk, fun k hk => by rw [E _ _ (by unfold wTm; omega)]; exact b3 k hk, fun q q3 hq => ?_⟩
    obtain ⟨c1, c2, c3⟩ := b4 q q3 hq
    exact ⟨by rw [E _ _ (by unfold wTm; omega)]; exact c1, by rw [E _ _ (by unfold wTm; omega)]; exact c2, fun k hk => by rw [E _ _ (by unfold wTm; omega)]; exact c3 k hk⟩
  · rw [if_neg q]
    have le : ¬ nI (wTp w).length ≤ (880 : Int32) := fun x => by have := (nI_leI (b := 880) (by omega) (by omega)).1 x; omega
    have v0 : zI S 408 5 = nI (wTp w).length := h.1.2.2.1
    exact ⟨_, by simp [f_Mo_feed, -Prod.exists, -Prod.forall, ↓bb_gf, ↓bb_gr, ↓bb_len, ↓bb_ga, ↓bb_gl, ↓bb_go, ↓bb_pf, ↓bb_pz, ↓bb_pr, ↓bb_pa, ↓bb_pb, ↓bb_pl, ↓bb_po, ↓bb_cl, ↓bb_some, ↓bb_RI, ↓bb_RJ, mm_hI, mm_hJ, mm_hR, mm_nI, mm_nJ, mm_nR, mm_sI, mm_sJ, mm_sR, mm_RI, mm_RJ, mm_IJ, mm_IR, mm_JI, mm_JR, mm_II, mm_JJ, mm_RR, h.1.1.1, v0, le] <;> rfl, k1, k2⟩
