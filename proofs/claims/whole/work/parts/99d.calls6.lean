/-! readings -/
theorem sPcs_fr {W : Nat → Nat → Prop} {S S' : zM} {G : Nat} (h : sPcs S G) (hf : zfr W S S') (hw : ∀ b j, G + 6 ≤ b → ¬ W b j) : sPcs S' G := by
  unfold sPcs at h ⊢
  rw [fr_R hf, fr_h hf]
  obtain ⟨s1, s2, s3, s4, s5, s6, s7, s8, s9, s10, s11, s12⟩ := h
  exact ⟨s1, s2, s3, s4, s5, s6, s7, s8, s9, s10, s11, fun l hl => ⟨(s12 l hl).1, row_fr (s12 l hl).2 hf (fun j => hw _ _ (by omega)) (fun j => hw _ _ (by omega))⟩⟩
theorem cPcs_fr {W : Nat → Nat → Prop} {S S' : zM} {G : Nat} {pcs : List (Nat × List Nat)} (h : cPcs S G pcs) (hf : zfr W S S') (h1 : ∀ j, ¬ W (G + 1) j) (h2 : ¬ W G 5) (h3 : ∀ b j, G + 6 ≤ b → ¬ W b j) : cPcs S' G pcs := by
  obtain ⟨a1, a2, a3⟩ := h
  refine ⟨by rw [fr_I hf h2]; exact a1, a2, fun k hk => ?_⟩
  obtain ⟨b1, b2, b3, a, n, b4, b5, b6⟩ := a3 k hk
  exact ⟨by rw [fr_I hf (h1 k)]; exact b1, b2, b3, a, n, by rw [fr_R hf]; exact b4, b5, row_fr b6 hf (fun j => h3 _ _ b5) (fun j => h3 _ _ (by omega))⟩
theorem sr_step {W : Nat → Nat → Prop} {S S1 S2 : zM} (g : zfq wSr vSr S S1) (f : zfr W S1 S2) (hw : ∀ b j, W b j → wSr b j) : zfq wSr vSr S S2 := fq_trans g (fq_fr (fr_mono f hw))
section
variable {S : zM} {w : zWs} {T U : Nat}
/-- a word taken into 'taken' -/
theorem cl_take (hm : cMn S w T U) (hs : cSr S) (x : Int64) : ∃ S' us, f_Row_takeWord 33 x S = some (if (zwl x).isSome then 1 else 0, S') ∧ zfr (rg 33 35) S S' ∧ pRow S' 33 8 us ∧ (∀ vs, zwl x = some vs → vs = us) ∧ cMn S' w T U ∧ cSr S' := by
  obtain ⟨hx, ⟨ws, r1⟩, r2, r3, hp⟩ := hs
  obtain ⟨S', us, t1, t2, t3, t4⟩ := row_take r1 (by omega) x
  have hs : cSr S := ⟨hx, ⟨ws, r1⟩, r2, r3, hp⟩
  refine ⟨S', us, t1, t2, t3, t4, cMn_sr hm (fq_fr (V := fun _ _ => False) t2) (fun b j q => by unfold rg at q; unfold wSr; omega) (fun b j q => absurd q (fun x => x)), ?_⟩
  obtain ⟨⟨x, y, a⟩, _, ⟨w2, r2⟩, ⟨w3, r3⟩, hp⟩ := hs
  have sm1 : zsm 19 33 S S' := sm_fr t2 (fun b j a c => by unfold rg; omega)
  have sm2 : zsm 35 62 S S' := sm_fr t2 (fun b j a c => by unfold rg; omega)
  exact ⟨⟨x, y, aCar_sm a sm1 (by omega) (by omega)⟩, ⟨us, t3⟩, ⟨w2, row_sm r2 sm2 (by omega) (by omega)⟩, ⟨w3, row_sm r3 sm2 (by omega) (by omega)⟩, sPcs_fr hp t2 (fun b j q => by unfold rg; omega)⟩
theorem cSr_wy {S' : zM} (h : cSr S) (hf : zfr (wWy 40) S S') : cSr S' :=
  cSr_sub h (fq_fr (V := fun _ _ => False) hf) (fun b j q => by
    rcases q with q | q
    · unfold wWy at q; omega
    · exact absurd q (fun x => x)) (pcs_wy h.2.2.2.2 hf)
end
def sp_readings (p : Int32) (x : Int64) (w : zWs) : Int32 × zWs := match zix p (wSc w).2.2.length with
  | none => zrf w 1
  | some j => match zwl x with
    | none => zrf w 2
    | some row => zan w (nI (zwy (zPc w j) row 0))
def sp_reading (p : Int32) (x : Int64) (i : Int32) (w : zWs) : Int32 × zWs := match zix p (wSc w).2.2.length with
  | none => zrf w 1
  | some j => match zwl x with
    | none => zrf w 2
    | some row => match zrdg (zPc w j) row i with
      | none => zrf w 1
      | some v => zan w (nI v)
theorem hk_readings (p : Int32) (x : Int64) : zHk (sp_readings p x) := hk_tr (fun w ho => by
  unfold sp_readings
  cases zix p (wSc w).2.2.length with
  | none => exact ⟨1, by omega, rfl⟩
  | some j =>
    cases zwl x with
    | none => exact ⟨2, by omega, rfl⟩
    | some row => exact ⟨0, by omega, rfl⟩)
theorem hk_reading (p : Int32) (x : Int64) (i : Int32) : zHk (sp_reading p x i) := hk_tr (fun w ho => by
  unfold sp_reading
  cases zix p (wSc w).2.2.length with
  | none => exact ⟨1, by omega, rfl⟩
  | some j =>
    cases zwl x with
    | none => exact ⟨2, by omega, rfl⟩
    | some row =>
      simp only
      cases zrdg (zPc w j) row i with
      | none => exact ⟨1, by omega, rfl⟩
      | some v => exact ⟨0, by omega, rfl⟩)
/-- pieces gathered, a word taken -/
theorem cl_gt {S S1 : zM} {w : zWs} {T U j : Nat} (hm : cMn S w T U) (hs : cSr S) (g2 : zfq (wPcs 40) (vPcs 40) S S1) (g3 : sPcs S1 40) (g4 : cPcs S1 40 (zPc w j)) (x : Int64) : ∃ S2 us, f_Row_takeWord 33 x S1 = some (if (zwl x).isSome then 1 else 0, S2) ∧ zfq wSr vSr S S2 ∧ pRow S2 33 8 us ∧ (∀ vs, zwl x = some vs → vs = us) ∧ cMn S2 w T U ∧ cSr S2 ∧ cPcs S2 40 (zPc w j) := by
  obtain ⟨m1, s1⟩ := gat_end hm hs g2 g3
  obtain ⟨S2, us, t1, t2, t3, t4, t5, t6⟩ := cl_take m1 s1 x
  exact ⟨S2, us, t1, sr_step (fq_mono g2 (fun b j q => pc_sr q) (fun b j q => pc_vr q)) t2 (fun b j q => by unfold rg at q; unfold wSr; omega), t3, t4, t5, t6, cPcs_fr g4 t2 (fun j => by unfold rg; omega) (by unfold rg; omega) (fun b j q => by unfold rg; omega)⟩
theorem hc_readings (p : Int32) (x : Int64) : zHc (f_Cl_readings 1 p x) (sp_readings p x) := fun S w h ho => by
  obtain ⟨T, U, hm, hs, ht⟩ := h; have h1 := hm.1.1; have r10 := r_told hm; have hS := hm.2.2.1.1; obtain ⟨e0, e1⟩ := hc_same hm hs 0; obtain ⟨f0, f1⟩ := hc_same hm hs 1; have h3 := ho.2.2.2.2.2.2.2.2.1
  have g := cl_gather hm hs p
  unfold sp_readings
  cases e : zix p (wSc w).2.2.length with
  | none =>
    rw [e] at g
    simp only at g
    exact ⟨_, by simp [f_Cl_readings, -Prod.exists, -Prod.forall, ↓bb_gf, ↓bb_gr, ↓bb_len, ↓bb_ga, ↓bb_gl, ↓bb_go, ↓bb_pf, ↓bb_pz, ↓bb_pr, ↓bb_pa, ↓bb_pb, ↓bb_pl, ↓bb_po, ↓bb_cl, ↓bb_some, ↓bb_RI, ↓bb_RJ, mm_hI, mm_hJ, mm_hR, mm_nI, mm_nJ, mm_nR, mm_sI, mm_sJ, mm_sR, mm_RI, mm_RJ, mm_IJ, mm_IR, mm_JI, mm_JR, mm_II, mm_JJ, mm_RR, h1, ↓bS g, ↓bS (cl_refuse h1 1), zrf] <;> rfl, f0, f1⟩
  | some j =>
    rw [e] at g
    obtain ⟨S1, g1, g2, g3, g4⟩ := g
    obtain ⟨m1, s1⟩ := gat_end hm hs g2 g3
    obtain ⟨S2, us, t1, t2, t3, t4, t5, t6, t7⟩ := cl_gt hm hs g2 g3 g4 x
    have h33 : zh S1 33 = (8, 0) := by obtain ⟨_, ⟨ws, r⟩, _⟩ := s1; exact r.1
    simp only
    cases ex : zwl x with
    | none =>
      rw [ex] at t1
      simp only [Option.isSome_none, Bool.false_eq_true, if_false] at t1
      obtain ⟨y1, y2⟩ := hc_end hm t2 (fun b j q => q) (fun b j q => q) t6 2
      exact ⟨_, by simp [f_Cl_readings, -Prod.exists, -Prod.forall, ↓bb_gf, ↓bb_gr, ↓bb_len, ↓bb_ga, ↓bb_gl, ↓bb_go, ↓bb_pf, ↓bb_pz, ↓bb_pr, ↓bb_pa, ↓bb_pb, ↓bb_pl, ↓bb_po, ↓bb_cl, ↓bb_some, ↓bb_RI, ↓bb_RJ, mm_hI, mm_hJ, mm_hR, mm_nI, mm_nJ, mm_nR, mm_sI, mm_sJ, mm_sR, mm_RI, mm_RJ, mm_IJ, mm_IR, mm_JI, mm_JR, mm_II, mm_JJ, mm_RR, h1, ↓bS g1, m1.1.1, ↓bS (r_tak m1), h33, ↓bS t1, t5.1.1, ↓bS (cl_refuse t5.1.1 2), zrf] <;> rfl, y1, y2⟩
    | some row =>
      rw [ex] at t1
      simp only [Option.isSome_some, if_true] at t1
      have := t4 row ex
      subst this
      obtain ⟨S3, c1, c2, _⟩ := count_ok t6.2.2.2.2 t7 t3 (by omega) (wl_w ex).2.1
      have s3 := cSr_wy t6 c2
      have g := sr_step t2 c2 (fun b j q => by unfold wWy at q; unfold wSr; omega)
      have m3 := cMn_sr hm g (fun b j q => q) (fun b j q => q)
      obtain ⟨y1, y2⟩ := hc_end hm g (fun b j q => q) (fun b j q => q) s3 0
      exact ⟨_, by simp [f_Cl_readings, -Prod.exists, -Prod.forall, ↓bb_gf, ↓bb_gr, ↓bb_len, ↓bb_ga, ↓bb_gl, ↓bb_go, ↓bb_pf, ↓bb_pz, ↓bb_pr, ↓bb_pa, ↓bb_pb, ↓bb_pl, ↓bb_po, ↓bb_cl, ↓bb_some, ↓bb_RI, ↓bb_RJ, mm_hI, mm_hJ, mm_hR, mm_nI, mm_nJ, mm_nR, mm_sI, mm_sJ, mm_sR, mm_RI, mm_RJ, mm_IJ, mm_IR, mm_JI, mm_JR, mm_II, mm_JJ, mm_RR, h1, ↓bS g1, m1.1.1, ↓bS (r_tak m1), h33, ↓bS t1, t5.1.1, ↓bS (r_gat t5), ↓bS (r_tak t5), t6.2.2.2.2.1, ↓bS c1, m3.1.1, ↓bS (cl_answer m3.1.1 _), zan] <;> rfl, y1, y2⟩
theorem rdg_lt {S : zM} {G : Nat} {pcs : List (Nat × List Nat)} {row : List Nat} {i : Int32} {v : Nat} (hc : cPcs S G pcs) (h : zrdg pcs row i = some v) : v < 16 := by
  have main : ∀ f fr k, zrdN pcs row f fr k = some v → v < 16 := by
    intro f
    induction f with
    | zero => intro fr k q; cases q
    | succ f ih =>
      intro fr k q
      rw [zrdN] at q
      split at q
      · cases e : zfp pcs row fr with
        | none => rw [e] at q; cases q
        | some k' =>
          rw [e] at q
          simp only at q
          split at q
          · have := List.mem_range.1 (List.mem_of_find?_eq_some e)
            have := (hc.2.2 k' this).2.1
            cases q
            exact this
          · exact ih _ _ q
      · cases q
  unfold zrdg at h
  split at h
  · cases h
  · exact main _ _ _ h
theorem hc_reading (p : Int32) (x : Int64) (i : Int32) : zHc (f_Cl_reading 1 p x i) (sp_reading p x i) := fun S w h ho => by
  obtain ⟨T, U, hm, hs, ht⟩ := h; have h1 := hm.1.1; have r10 := r_told hm; have hS := hm.2.2.1.1; obtain ⟨e0, e1⟩ := hc_same hm hs 0; obtain ⟨f0, f1⟩ := hc_same hm hs 1; have h3 := ho.2.2.2.2.2.2.2.2.1
  have g := cl_gather hm hs p
  unfold sp_reading
  cases e : zix p (wSc w).2.2.length with
  | none =>
    rw [e] at g
    simp only at g
    exact ⟨_, by simp [f_Cl_reading, -Prod.exists, -Prod.forall, ↓bb_gf, ↓bb_gr, ↓bb_len, ↓bb_ga, ↓bb_gl, ↓bb_go, ↓bb_pf, ↓bb_pz, ↓bb_pr, ↓bb_pa, ↓bb_pb, ↓bb_pl, ↓bb_po, ↓bb_cl, ↓bb_some, ↓bb_RI, ↓bb_RJ, mm_hI, mm_hJ, mm_hR, mm_nI, mm_nJ, mm_nR, mm_sI, mm_sJ, mm_sR, mm_RI, mm_RJ, mm_IJ, mm_IR, mm_JI, mm_JR, mm_II, mm_JJ, mm_RR, h1, ↓bS g, ↓bS (cl_refuse h1 1), zrf] <;> rfl, f0, f1⟩
  | some j =>
    rw [e] at g
    obtain ⟨S1, g1, g2, g3, g4⟩ := g
    obtain ⟨m1, s1⟩ := gat_end hm hs g2 g3
    obtain ⟨S2, us, t1, t2, t3, t4, t5, t6, t7⟩ := cl_gt hm hs g2 g3 g4 x
    have h33 : zh S1 33 = (8, 0) := by obtain ⟨_, ⟨ws, r⟩, _⟩ := s1; exact r.1
    have hp := (ix_some e).2.1
    simp only
    cases ex : zwl x with
    | none =>
      rw [ex] at t1
      simp only [Option.isSome_none, Bool.false_eq_true, if_false] at t1
      obtain ⟨y1, y2⟩ := hc_end hm t2 (fun b j q => q) (fun b j q => q) t6 2
      exact ⟨_, by simp [f_Cl_reading, -Prod.exists, -Prod.forall, ↓bb_gf, ↓bb_gr, ↓bb_len, ↓bb_ga, ↓bb_gl, ↓bb_go, ↓bb_pf, ↓bb_pz, ↓bb_pr, ↓bb_pa, ↓bb_pb, ↓bb_pl, ↓bb_po, ↓bb_cl, ↓bb_some, ↓bb_RI, ↓bb_RJ, mm_hI, mm_hJ, mm_hR, mm_nI, mm_nJ, mm_nR, mm_sI, mm_sJ, mm_sR, mm_RI, mm_RJ, mm_IJ, mm_IR, mm_JI, mm_JR, mm_II, mm_JJ, mm_RR, h1, ↓bS g1, m1.1.1, ↓bS (r_tak m1), h33, ↓bS t1, t5.1.1, ↓bS (cl_refuse t5.1.1 2), zrf] <;> rfl, y1, y2⟩
    | some row =>
      rw [ex] at t1
      simp only [Option.isSome_some, if_true] at t1
      have := t4 row ex
      subst this
      obtain ⟨S3, c1, c2⟩ := c_reading t6.2.2.2.2 t7 (ps_w hS.2.2.2.2.2.2.2.2.2 hp).1 t3 (by omega) (wl_w ex).2.1 i
      have c1' : f_Pieces_firstReadingAt 40 33 i S2 = some (zoI (zrdg (zPc w j) row i) (-1), S3) := c1
      have s3 := cSr_wy t6 c2
      have g := sr_step t2 c2 (fun b j q => by unfold wWy at q; unfold wSr; omega)
      have m3 := cMn_sr hm g (fun b j q => q) (fun b j q => q)
      simp only
      cases er : zrdg (zPc w j) row i with
      | none =>
        rw [er] at c1'
        have t : zoI none (-1) = -1 := rfl
        obtain ⟨y1, y2⟩ := hc_end hm g (fun b j q => q) (fun b j q => q) s3 1
        exact ⟨_, by simp [f_Cl_reading, -Prod.exists, -Prod.forall, ↓bb_gf, ↓bb_gr, ↓bb_len, ↓bb_ga, ↓bb_gl, ↓bb_go, ↓bb_pf, ↓bb_pz, ↓bb_pr, ↓bb_pa, ↓bb_pb, ↓bb_pl, ↓bb_po, ↓bb_cl, ↓bb_some, ↓bb_RI, ↓bb_RJ, mm_hI, mm_hJ, mm_hR, mm_nI, mm_nJ, mm_nR, mm_sI, mm_sJ, mm_sR, mm_RI, mm_RJ, mm_IJ, mm_IR, mm_JI, mm_JR, mm_II, mm_JJ, mm_RR, h1, ↓bS g1, m1.1.1, ↓bS (r_tak m1), h33, ↓bS t1, t5.1.1, ↓bS (r_gat t5), ↓bS (r_tak t5), t6.2.2.2.2.1, ↓bS c1', t, m3.1.1, ↓bS (cl_refuse m3.1.1 1), zrf] <;> rfl, y1, y2⟩
      | some v =>
        rw [er] at c1'
        have v16 := rdg_lt t7 er
        have t : zoI (some v) (-1) = nI v := rfl
        have t' : ¬ nI v = -1 := (nn_eqm (i := v) (m := 1) (by omega) (by omega) (by omega)).1
        obtain ⟨y1, y2⟩ := hc_end hm g (fun b j q => q) (fun b j q => q) s3 0
        exact ⟨_, by simp [f_Cl_reading, -Prod.exists, -Prod.forall, ↓bb_gf, ↓bb_gr, ↓bb_len, ↓bb_ga, ↓bb_gl, ↓bb_go, ↓bb_pf, ↓bb_pz, ↓bb_pr, ↓bb_pa, ↓bb_pb, ↓bb_pl, ↓bb_po, ↓bb_cl, ↓bb_some, ↓bb_RI, ↓bb_RJ, mm_hI, mm_hJ, mm_hR, mm_nI, mm_nJ, mm_nR, mm_sI, mm_sJ, mm_sR, mm_RI, mm_RJ, mm_IJ, mm_IR, mm_JI, mm_JR, mm_II, mm_JJ, mm_RR, h1, ↓bS g1, m1.1.1, ↓bS (r_tak m1), h33, ↓bS t1, t5.1.1, ↓bS (r_gat t5), ↓bS (r_tak t5), t6.2.2.2.2.1, ↓bS c1', t, t', m3.1.1, ↓bS (cl_answer m3.1.1 _), zan] <;> rfl, y1, y2⟩
/-- the reference: a word laid, and the readings -/
theorem mo_letters {S : zM} {w : zWs} (h : pMo S w) (x : Int64) : ∃ S', f_Mo_laysLetters 408 x S = some (if (zwl x).isSome then 1 else 0, S') ∧ pMo S' w ∧ zfr wMo S S' ∧ (∀ us, zwl x = some us → pNow S' 408 us) := by
  obtain ⟨S', a, b, c⟩ := m_word h.1.1 x
  obtain ⟨k1, k2⟩ := mo_keep h b (fun b j q => by unfold wMs; omega) (by omega) (by omega)
  exact ⟨S', a, k1, k2, c⟩
theorem mo_rds {S : zM} {w : zWs} (h : pMo S w) {j : Nat} {row : List Nat} (hp : j < (wSc w).2.2.length) (hn : pNow S 408 row) (h8 : row.length ≤ 8) : ∃ S', f_Mo_laysReadings 408 (nI j) S = some S' ∧ pMo S' w ∧ zfr wMo S S' ∧ pNow S' 408 row ∧ mPcs S' 408 (zPc w j) ∧ ∀ k, k ≤ row.length → zI S' 425 k = nI (zwy (zPc w j) row k) := by
  obtain ⟨S', a, b, c, d⟩ := m_readings h.1.1 h.1.2.1 hp hn h8
  obtain ⟨k1, k2⟩ := mo_keep h b (fun b j q => by unfold wMPc at q; unfold wMs; omega) (by unfold wMPc; omega) (by unfold wMPc; omega)
  exact ⟨S', a, k1, k2, now_fr hn b (by unfold wMPc; omega) (fun j => by unfold wMPc; omega), c, d⟩
theorem hm_readings (p : Int32) (x : Int64) : zHm (f_Mo_readings 408 p x) (sp_readings p x) := fun S w h ho => by
  obtain ⟨e0, e1, e2⟩ := mo_fresh h; obtain ⟨n0, n1, n2⟩ := mo_no e1 (n := 1) (by omega); have n0' : f_Mo_no 408 1 (zfs S) = some (-1, zwI (zfs S) 408 1 (nI 1)) := n0; have hc := e1.1; have h8 := h.1.1.1; have g8 := hc.1.1; have h3 := ho.2.2.2.2.2.2.2.2.1; have ho' : okW (sTr w 0) := okW_tr ho (by omega)
  have ip : f_Mo_isPass 408 p (zfs S) = some (if (zix p (wSc w).2.2.length).isSome then 1 else 0, zfs S) := mo_isPass hc ho' p
  unfold sp_readings
  cases e : zix p (wSc w).2.2.length with
  | none =>
    rw [e] at ip
    simp only [Option.isSome_none, Bool.false_eq_true, if_false] at ip
    exact ⟨_, by simp [f_Mo_readings, -Prod.exists, -Prod.forall, ↓bb_gf, ↓bb_gr, ↓bb_len, ↓bb_ga, ↓bb_gl, ↓bb_go, ↓bb_pf, ↓bb_pz, ↓bb_pr, ↓bb_pa, ↓bb_pb, ↓bb_pl, ↓bb_po, ↓bb_cl, ↓bb_some, ↓bb_RI, ↓bb_RJ, mm_hI, mm_hJ, mm_hR, mm_nI, mm_nJ, mm_nR, mm_sI, mm_sJ, mm_sR, mm_RI, mm_RJ, mm_IJ, mm_IR, mm_JI, mm_JR, mm_II, mm_JJ, mm_RR, h8, ↓bS e0, g8, ↓bS ip, ↓bS n0', zrf] <;> rfl, n1, fr_trans e2 n2⟩
  | some j =>
    rw [e] at ip
    simp only [Option.isSome_some, if_true] at ip
    obtain ⟨rfl, hp, _⟩ := ix_some e
    obtain ⟨S1, l1, l2, l3, l4⟩ := mo_letters e1 x
    simp only
    cases ex : zwl x with
    | none =>
      rw [ex] at l1
      simp only [Option.isSome_none, Bool.false_eq_true, if_false] at l1
      obtain ⟨m0, m1, m2⟩ := mo_no l2 (n := 2) (by omega)
      have m0' : f_Mo_no 408 2 S1 = some (-1, zwI S1 408 1 (nI 2)) := m0
      exact ⟨_, by simp [f_Mo_readings, -Prod.exists, -Prod.forall, ↓bb_gf, ↓bb_gr, ↓bb_len, ↓bb_ga, ↓bb_gl, ↓bb_go, ↓bb_pf, ↓bb_pz, ↓bb_pr, ↓bb_pa, ↓bb_pb, ↓bb_pl, ↓bb_po, ↓bb_cl, ↓bb_some, ↓bb_RI, ↓bb_RJ, mm_hI, mm_hJ, mm_hR, mm_nI, mm_nJ, mm_nR, mm_sI, mm_sJ, mm_sR, mm_RI, mm_RJ, mm_IJ, mm_IR, mm_JI, mm_JR, mm_II, mm_JJ, mm_RR, h8, ↓bS e0, g8, ↓bS ip, ↓bS l1, l2.1.1.1, ↓bS m0', zrf] <;> rfl, m1, fr_trans e2 (fr_trans l3 m2)⟩
    | some row =>
      rw [ex] at l1
      simp only [Option.isSome_some, if_true] at l1
      obtain ⟨S2, u1, u2, u3, u4, u5, u6⟩ := mo_rds l2 (show j < (wSc (sTr w 0)).2.2.length from hp) (l4 row ex) (wl_w ex).2.1
      have v : zI S2 425 0 = nI (zwy (zPc w j) row 0) := u6 0 (by omega)
      have z : zinb 0 9 = true := by decide
      have c : Int32.toNatClampNeg 0 = 0 := by decide
      exact ⟨_, by simp [f_Mo_readings, -Prod.exists, -Prod.forall, ↓bb_gf, ↓bb_gr, ↓bb_len, ↓bb_ga, ↓bb_gl, ↓bb_go, ↓bb_pf, ↓bb_pz, ↓bb_pr, ↓bb_pa, ↓bb_pb, ↓bb_pl, ↓bb_po, ↓bb_cl, ↓bb_some, ↓bb_RI, ↓bb_RJ, mm_hI, mm_hJ, mm_hR, mm_nI, mm_nJ, mm_nR, mm_sI, mm_sJ, mm_sR, mm_RI, mm_RJ, mm_IJ, mm_IR, mm_JI, mm_JR, mm_II, mm_JJ, mm_RR, h8, ↓bS e0, g8, ↓bS ip, ↓bS l1, l2.1.1.1, ↓bS u1, u2.1.1.1, ↓bS (mo_readingsFrom u2.1.1), mh_readingsFrom u2.1.1, z, c, v, zan] <;> rfl, u2, fr_trans e2 (fr_trans l3 u3)⟩
theorem hm_reading (p : Int32) (x : Int64) (i : Int32) : zHm (f_Mo_reading 408 p x i) (sp_reading p x i) := fun S w h ho => by
  obtain ⟨e0, e1, e2⟩ := mo_fresh h; obtain ⟨n0, n1, n2⟩ := mo_no e1 (n := 1) (by omega); have n0' : f_Mo_no 408 1 (zfs S) = some (-1, zwI (zfs S) 408 1 (nI 1)) := n0; have hc := e1.1; have h8 := h.1.1.1; have g8 := hc.1.1; have h3 := ho.2.2.2.2.2.2.2.2.1; have ho' : okW (sTr w 0) := okW_tr ho (by omega)
  have ip : f_Mo_isPass 408 p (zfs S) = some (if (zix p (wSc w).2.2.length).isSome then 1 else 0, zfs S) := mo_isPass hc ho' p
  unfold sp_reading
  cases e : zix p (wSc w).2.2.length with
  | none =>
    rw [e] at ip
    simp only [Option.isSome_none, Bool.false_eq_true, if_false] at ip
    exact ⟨_, by simp [f_Mo_reading, -Prod.exists, -Prod.forall, ↓bb_gf, ↓bb_gr, ↓bb_len, ↓bb_ga, ↓bb_gl, ↓bb_go, ↓bb_pf, ↓bb_pz, ↓bb_pr, ↓bb_pa, ↓bb_pb, ↓bb_pl, ↓bb_po, ↓bb_cl, ↓bb_some, ↓bb_RI, ↓bb_RJ, mm_hI, mm_hJ, mm_hR, mm_nI, mm_nJ, mm_nR, mm_sI, mm_sJ, mm_sR, mm_RI, mm_RJ, mm_IJ, mm_IR, mm_JI, mm_JR, mm_II, mm_JJ, mm_RR, h8, ↓bS e0, g8, ↓bS ip, ↓bS n0', zrf] <;> rfl, n1, fr_trans e2 n2⟩
  | some j =>
    rw [e] at ip
    simp only [Option.isSome_some, if_true] at ip
    obtain ⟨rfl, hp, _⟩ := ix_some e
    obtain ⟨S1, l1, l2, l3, l4⟩ := mo_letters e1 x
    simp only
    cases ex : zwl x with
    | none =>
      rw [ex] at l1
      simp only [Option.isSome_none, Bool.false_eq_true, if_false] at l1
      obtain ⟨m0, m1, m2⟩ := mo_no l2 (n := 2) (by omega)
      have m0' : f_Mo_no 408 2 S1 = some (-1, zwI S1 408 1 (nI 2)) := m0
      exact ⟨_, by simp [f_Mo_reading, -Prod.exists, -Prod.forall, ↓bb_gf, ↓bb_gr, ↓bb_len, ↓bb_ga, ↓bb_gl, ↓bb_go, ↓bb_pf, ↓bb_pz, ↓bb_pr, ↓bb_pa, ↓bb_pb, ↓bb_pl, ↓bb_po, ↓bb_cl, ↓bb_some, ↓bb_RI, ↓bb_RJ, mm_hI, mm_hJ, mm_hR, mm_nI, mm_nJ, mm_nR, mm_sI, mm_sJ, mm_sR, mm_RI, mm_RJ, mm_IJ, mm_IR, mm_JI, mm_JR, mm_II, mm_JJ, mm_RR, h8, ↓bS e0, g8, ↓bS ip, ↓bS l1, l2.1.1.1, ↓bS m0', zrf] <;> rfl, m1, fr_trans e2 (fr_trans l3 m2)⟩
    | some row =>
      rw [ex] at l1
      simp only [Option.isSome_some, if_true] at l1
      have r8 := (wl_w ex).2.1
      obtain ⟨S2, u1, u2, u3, u4, u5, u6⟩ := mo_rds l2 (show j < (wSc (sTr w 0)).2.2.length from hp) (l4 row ex) r8
      have v : zI S2 425 0 = nI (zwy (zPc w j) row 0) := u6 0 (by omega)
      have z : zinb 0 9 = true := by decide
      have c : Int32.toNatClampNeg 0 = 0 := by decide
      have wr : wRs (zpa_ (wSc w).2.2 j).2 := ps_w hc.2.1.2.2.2.2.2.2.2.2.2.2.2.2 hp
      have wl := wy_lt (row := row) (mask := wAs w j) (j := 0) wr.1 r8 (by omega)
      obtain ⟨m0, m1, m2⟩ := mo_no u2 (n := 1) (by omega)
      have m0' : f_Mo_no 408 1 S2 = some (-1, zwI S2 408 1 (nI 1)) := m0
      simp only
      by_cases q0 : zwy (zPc w j) row 0 = 0
      · have er : zrdg (zPc w j) row i = none := by unfold zrdg; rw [if_pos (Or.inr q0)]
        rw [q0] at v
        have n0 : nI 0 = 0 := rfl
        rw [n0] at v
        exact ⟨_, by simp [f_Mo_reading, -Prod.exists, -Prod.forall, ↓bb_gf, ↓bb_gr, ↓bb_len, ↓bb_ga, ↓bb_gl, ↓bb_go, ↓bb_pf, ↓bb_pz, ↓bb_pr, ↓bb_pa, ↓bb_pb, ↓bb_pl, ↓bb_po, ↓bb_cl, ↓bb_some, ↓bb_RI, ↓bb_RJ, mm_hI, mm_hJ, mm_hR, mm_nI, mm_nJ, mm_nR, mm_sI, mm_sJ, mm_sR, mm_RI, mm_RJ, mm_IJ, mm_IR, mm_JI, mm_JR, mm_II, mm_JJ, mm_RR, h8, ↓bS e0, g8, ↓bS ip, ↓bS l1, l2.1.1.1, ↓bS u1, u2.1.1.1, ↓bS (mo_readingsFrom u2.1.1), mh_readingsFrom u2.1.1, z, c, v, ↓bS m0', zrf, er] <;> rfl, by rw [er]; exact m1, fr_trans e2 (fr_trans l3 (fr_trans u3 m2))⟩
      · have nz : ¬ nI (zwy (zPc w j) row 0) = 0 := fun q => q0 ((nI_eq (b := 0) wl (by omega)).1 q)
        have go : f_Mo_reading 408 (nI j) x i S = L_Mo_reading_58 zF 408 i 0 0 S2 := by
          simp [f_Mo_reading, -Prod.exists, -Prod.forall, ↓bb_gf, ↓bb_gr, ↓bb_len, ↓bb_ga, ↓bb_gl, ↓bb_go, ↓bb_pf, ↓bb_pz, ↓bb_pr, ↓bb_pa, ↓bb_pb, ↓bb_pl, ↓bb_po, ↓bb_cl, ↓bb_some, ↓bb_RI, ↓bb_RJ, mm_hI, mm_hJ, mm_hR, mm_nI, mm_nJ, mm_nR, mm_sI, mm_sJ, mm_sR, mm_RI, mm_RJ, mm_IJ, mm_IR, mm_JI, mm_JR, mm_II, mm_JJ, mm_RR, h8, ↓bS e0, g8, ↓bS ip, ↓bS l1, l2.1.1.1, ↓bS u1, u2.1.1.1, ↓bS (mo_readingsFrom u2.1.1), mh_readingsFrom u2.1.1, z, c, v, nz]
        have ans : L_Mo_reading_58 zF 408 i 0 0 S2 = (match zrdg (zPc w j) row i with
            | some v => some (nI v, S2)
            | none => Option.bind (zcl S2 12 408 (f_Mo_no 408 (1 : Int32) S2)) (fun p7 => some (p7.1, p7.2))) := by
          by_cases qi : i < 0
          · have er : zrdg (zPc w j) row i = none := by unfold zrdg; rw [if_pos (Or.inl qi)]
            have := mrd_58 (mask := wAs w j) u2.1.1 wr u5 u4 r8 u6 i (row.length + 1) zF 0 0 row.length (by omega) (by rw [zF_eq]; omega) (by omega) (by omega) (by omega) q0 (Or.inr ⟨qi, by omega⟩)
            rw [rdN_big _ _ _ (by omega)] at this
            rw [er]
            exact this
          · obtain ⟨k, hk, rfl⟩ := nI_of qi
            have er : zrdg (zPc w j) row (nI k) = zrdN (zPc w j) row (row.length + 1) 0 k := by
              unfold zrdg
              rw [if_neg (by simp only [not_or]; exact ⟨qi, q0⟩), nI_clamp hk]
            have := mrd_58 (mask := wAs w j) u2.1.1 wr u5 u4 r8 u6 (nI k) (row.length + 1) zF 0 0 k (by omega) (by rw [zF_eq]; omega) (by omega) (by omega) (by omega) q0 (Or.inl ⟨rfl, hk⟩)
            rw [er]
            exact this
        rw [go, ans]
        cases er : zrdg (zPc w j) row i with
        | none => exact ⟨_, by simp [-Prod.exists, -Prod.forall, ↓bb_gf, ↓bb_gr, ↓bb_len, ↓bb_ga, ↓bb_gl, ↓bb_go, ↓bb_pf, ↓bb_pz, ↓bb_pr, ↓bb_pa, ↓bb_pb, ↓bb_pl, ↓bb_po, ↓bb_cl, ↓bb_some, ↓bb_RI, ↓bb_RJ, mm_hI, mm_hJ, mm_hR, mm_nI, mm_nJ, mm_nR, mm_sI, mm_sJ, mm_sR, mm_RI, mm_RJ, mm_IJ, mm_IR, mm_JI, mm_JR, mm_II, mm_JJ, mm_RR, u2.1.1.1, ↓bS m0', zrf] <;> rfl, m1, fr_trans e2 (fr_trans l3 (fr_trans u3 m2))⟩
        | some v => exact ⟨_, rfl, u2, fr_trans e2 (fr_trans l3 u3)⟩
/-! sure -/
noncomputable def zsu1 (w : zWs) (j : Nat) : Bool := !(zpa_ (wSc w).2.2 j).1 && (zun (zPc w j)).isNone
noncomputable def zsur (w : zWs) : Bool := (List.range (wSc w).2.2.length).all (zsu1 w)
theorem sur_no {w : zWs} {j : Nat} (hj : j < (wSc w).2.2.length) (h : zsu1 w j = false) : zsur w = false := by
  unfold zsur
  rw [List.all_eq_false]
  exact ⟨j, List.mem_range.2 hj, by simp [h]⟩
theorem sur_yes {w : zWs} (h : ∀ j, j < (wSc w).2.2.length → zsu1 w j = true) : zsur w = true := by
  unfold zsur
  rw [List.all_eq_true]
  exact fun j hj => h j (List.mem_range.1 hj)
noncomputable def sp_sure (w : zWs) : Int32 × zWs := if (wSc w).2.2.length = 0 then zrf w 1 else zan w (if zsur w then 1 else 0)
theorem hk_sure : zHk sp_sure := hk_tr (fun w ho => by unfold sp_sure; repeat' (first | exact ⟨0, by omega, rfl⟩ | exact ⟨1, by omega, rfl⟩ | exact ⟨2, by omega, rfl⟩ | exact ⟨5, by omega, rfl⟩ | apply tr_ite))
theorem cl_sure15 {S0 : zM} {w : zWs} {T U : Nat} (hm : cMn S0 w T U) (hs : cSr S0) : ∃ S1, L_Cl_sure_15 zF 1 0 S0 = some (if zsur w then 1 else 0, zwI S1 1 16 0) ∧ zfq wSr vSr S0 S1 ∧ cSr S1 := by
  have hS0 := hm.2.2.1.1
  have h3 : (wSc w).2.2.length ≤ 3 := hS0.2.2.2.2.2.2.2.2.2.1
  refine loop_g (N := (wSc w).2.2.length) (by omega) (fun F (_ : Unit) i S => L_Cl_sure_15 F 1 (nI i) S) (fun _ i S => zfq wSr vSr S0 S ∧ cSr S ∧ ∀ j, j < i → zsu1 w j = true) (fun o => ∃ S1, o = some (if zsur w then 1 else 0, zwI S1 1 16 0) ∧ zfq wSr vSr S0 S1 ∧ cSr S1) ?_ ?_ () 0 S0 (by omega) ⟨fq_refl _ _ _, hs, fun j q => by omega⟩
  · rintro F _ S ⟨a1, a2, a3⟩
    have mm := cMn_sr hm a1 (fun b j q => q) (fun b j q => q)
    have hS := mm.2.2.1.1
    have h5 := hS.2.2.2.1
    refine ⟨S, ?_, a1, a2⟩
    rw [sur_yes a3, L_Cl_sure_15]
    simp [-Prod.exists, -Prod.forall, ↓bb_gf, ↓bb_gr, ↓bb_len, ↓bb_ga, ↓bb_gl, ↓bb_go, ↓bb_pf, ↓bb_pz, ↓bb_pr, ↓bb_pa, ↓bb_pb, ↓bb_pl, ↓bb_po, ↓bb_cl, ↓bb_some, ↓bb_RI, ↓bb_RJ, mm_hI, mm_hJ, mm_hR, mm_nI, mm_nJ, mm_nR, mm_sI, mm_sJ, mm_sR, mm_RI, mm_RJ, mm_IJ, mm_IR, mm_JI, mm_JR, mm_II, mm_JJ, mm_RR, mm.1.1, ↓bS (r_told mm), hS.1.1, h5, ↓bS (cl_answer mm.1.1 _)]
  · rintro F _ i S hi ⟨a1, a2, a3⟩ ih
    have mm := cMn_sr hm a1 (fun b j q => q) (fun b j q => q)
    have hS := mm.2.2.1.1
    have h5 := hS.2.2.2.1
    have lt : nI i < nI (wSc w).2.2.length := (nI_ltI (by omega) (by omega)).2 hi
    have e1 : nI i + 1 = nI (i + 1) := nI_add i 1
    have pa := cl_pa mm (nI i)
    rw [ix_nI (by omega), if_pos hi] at pa
    simp only [Option.map_some] at pa
    have hP := hS.2.2.2.2.2.1 i hi
    have hTU := mm.1.2.2.2.2.2.2.2.2.2.2.2.2.2.2.2.2.2.2.2.1
    show ∃ S1, L_Cl_sure_15 (F + 1) 1 (nI i) S = _ ∧ _
    cases ea : (zpa_ (wSc w).2.2 i).1 with
    | true =>
      have h4 : zI S (aPs T i) 4 = 1 := by rw [hP.2.2.1, ea]; rfl
      refine ⟨S, ?_, a1, a2⟩
      rw [sur_no hi (by unfold zsu1; rw [ea]; rfl), L_Cl_sure_15]
      simp [-Prod.exists, -Prod.forall, ↓bb_gf, ↓bb_gr, ↓bb_len, ↓bb_ga, ↓bb_gl, ↓bb_go, ↓bb_pf, ↓bb_pz, ↓bb_pr, ↓bb_pa, ↓bb_pb, ↓bb_pl, ↓bb_po, ↓bb_cl, ↓bb_some, ↓bb_RI, ↓bb_RJ, mm_hI, mm_hJ, mm_hR, mm_nI, mm_nJ, mm_nR, mm_sI, mm_sJ, mm_sR, mm_RI, mm_RJ, mm_IJ, mm_IR, mm_JI, mm_JR, mm_II, mm_JJ, mm_RR, mm.1.1, ↓bS (r_told mm), hS.1.1, h5, lt, ↓bS pa, hP.1.1, h4, ↓bS (cl_answer mm.1.1 _)]
    | false =>
      have h4 : zI S (aPs T i) 4 = 0 := by rw [hP.2.2.1, ea]; rfl
      obtain ⟨S1, g1, g2, g3, g4⟩ := gather_ok (G := 40) (P := aPs T i) (by unfold aPs; omega) a2.2.2.2.2 hP
      obtain ⟨m1, s1⟩ := gat_end mm a2 g2 g3
      have g4' : cPcs S1 40 (zPc w i) := g4
      obtain ⟨S2, u1, u2, u3, u4⟩ := cl_un mm a2 g2 g3 g4'
      have a1' : zfq wSr vSr S0 S2 := fq_trans a1 (fq_mono u2 (fun b j q => un_sr q) (fun b j q => pc_vr q))
      have wp : wPc (zPc w i) := pcs_w (ps_w hS.2.2.2.2.2.2.2.2.2 hi)
      cases eu : zun (zPc w i) with
      | none =>
        rw [eu] at u1
        have t2 : zoI none (-2) = -2 := rfl
        obtain ⟨S3, v1, v2⟩ := ih () S2 ⟨a1', u4, fun j hj => by
          by_cases q : j = i
          · subst q; unfold zsu1; rw [ea, eu]; rfl
          · exact a3 j (by omega)⟩
        refine ⟨S3, ?_, v2⟩
        rw [← v1, L_Cl_sure_15]
        simp [-Prod.exists, -Prod.forall, ↓bb_gf, ↓bb_gr, ↓bb_len, ↓bb_ga, ↓bb_gl, ↓bb_go, ↓bb_pf, ↓bb_pz, ↓bb_pr, ↓bb_pa, ↓bb_pb, ↓bb_pl, ↓bb_po, ↓bb_cl, ↓bb_some, ↓bb_RI, ↓bb_RJ, mm_hI, mm_hJ, mm_hR, mm_nI, mm_nJ, mm_nR, mm_sI, mm_sJ, mm_sR, mm_RI, mm_RJ, mm_IJ, mm_IR, mm_JI, mm_JR, mm_II, mm_JJ, mm_RR, mm.1.1, ↓bS (r_told mm), hS.1.1, h5, lt, ↓bS pa, hP.1.1, h4, ↓bS (r_gat mm), a2.2.2.2.2.1, ↓bS g1, m1.1.1, ↓bS (r_gat m1), g3.1, ↓bS u1, t2, e1]
      | some m =>
        have t2 : ¬ zoI (some m) (-2) = -2 := by rw [← eu, zun_m2 wp, eu]; simp
        rw [eu] at u1
        refine ⟨S2, ?_, a1', u4⟩
        rw [sur_no hi (by unfold zsu1; rw [ea, eu]; rfl), L_Cl_sure_15]
        simp [-Prod.exists, -Prod.forall, ↓bb_gf, ↓bb_gr, ↓bb_len, ↓bb_ga, ↓bb_gl, ↓bb_go, ↓bb_pf, ↓bb_pz, ↓bb_pr, ↓bb_pa, ↓bb_pb, ↓bb_pl, ↓bb_po, ↓bb_cl, ↓bb_some, ↓bb_RI, ↓bb_RJ, mm_hI, mm_hJ, mm_hR, mm_nI, mm_nJ, mm_nR, mm_sI, mm_sJ, mm_sR, mm_RI, mm_RJ, mm_IJ, mm_IR, mm_JI, mm_JR, mm_II, mm_JJ, mm_RR, mm.1.1, ↓bS (r_told mm), hS.1.1, h5, lt, ↓bS pa, hP.1.1, h4, ↓bS (r_gat mm), a2.2.2.2.2.1, ↓bS g1, m1.1.1, ↓bS (r_gat m1), g3.1, ↓bS u1, t2, u3.1.1, ↓bS (cl_answer u3.1.1 _)]
theorem hc_sure : zHc (f_Cl_sure 1) sp_sure := fun S w h ho => by
  obtain ⟨T, U, hm, hs, ht⟩ := h; have h1 := hm.1.1; have r10 := r_told hm; have hS := hm.2.2.1.1; obtain ⟨e0, e1⟩ := hc_same hm hs 0; obtain ⟨f0, f1⟩ := hc_same hm hs 1; have h3 := ho.2.2.2.2.2.2.2.2.1
  have ns := cl_ns hm ho
  unfold sp_sure
  by_cases q : (wSc w).2.2.length = 0
  · rw [if_pos q] at ns ⊢
    exact ⟨_, by simp [f_Cl_sure, -Prod.exists, -Prod.forall, ↓bb_gf, ↓bb_gr, ↓bb_len, ↓bb_ga, ↓bb_gl, ↓bb_go, ↓bb_pf, ↓bb_pz, ↓bb_pr, ↓bb_pa, ↓bb_pb, ↓bb_pl, ↓bb_po, ↓bb_cl, ↓bb_some, ↓bb_RI, ↓bb_RJ, mm_hI, mm_hJ, mm_hR, mm_nI, mm_nJ, mm_nR, mm_sI, mm_sJ, mm_sR, mm_RI, mm_RJ, mm_IJ, mm_IR, mm_JI, mm_JR, mm_II, mm_JJ, mm_RR, h1, ↓bS ns, ↓bS (cl_refuse h1 1), zrf] <;> rfl, f0, f1⟩
  · rw [if_neg q] at ns ⊢
    obtain ⟨S1, u1, u2, u3⟩ := cl_sure15 hm hs
    obtain ⟨y1, y2⟩ := hc_end hm u2 (fun b j q => q) (fun b j q => q) u3 0
    exact ⟨_, by simp only [f_Cl_sure, h1, ↓bS ns, zcl, if_true]; exact u1, y1, y2⟩
theorem mo_sure19 {S0 : zM} {w : zWs} (h : pMo S0 w) (ho : okW w) : ∃ S1, L_Mo_sure_19 zF 408 0 S0 = some (if zsur w then 1 else 0, S1) ∧ pMo S1 w ∧ zfr wMo S0 S1 := by
  have h3 : (wSc w).2.2.length ≤ 3 := ho.2.2.2.2.2.2.2.2.1
  refine loop_g (N := (wSc w).2.2.length) (by omega) (fun F (_ : Unit) i S => L_Mo_sure_19 F 408 (nI i) S) (fun _ i S => pMo S w ∧ zfr wMo S0 S ∧ ∀ j, j < i → zsu1 w j = true) (fun o => ∃ S1, o = some (if zsur w then 1 else 0, S1) ∧ pMo S1 w ∧ zfr wMo S0 S1) ?_ ?_ () 0 S0 (by omega) ⟨h, fr_refl _ _, fun j q => by omega⟩
  · rintro F _ S ⟨a1, a2, a3⟩
    have h8 := a1.1.2.1.2.2.1
    refine ⟨S, ?_, a1, a2⟩
    rw [sur_yes a3, L_Mo_sure_19]
    simp [-Prod.exists, -Prod.forall, ↓bb_gf, ↓bb_gr, ↓bb_len, ↓bb_ga, ↓bb_gl, ↓bb_go, ↓bb_pf, ↓bb_pz, ↓bb_pr, ↓bb_pa, ↓bb_pb, ↓bb_pl, ↓bb_po, ↓bb_cl, ↓bb_some, ↓bb_RI, ↓bb_RJ, mm_hI, mm_hJ, mm_hR, mm_nI, mm_nJ, mm_nR, mm_sI, mm_sJ, mm_sR, mm_RI, mm_RJ, mm_IJ, mm_IR, mm_JI, mm_JR, mm_II, mm_JJ, mm_RR, a1.1.1.1, h8]
  · rintro F _ i S hi ⟨a1, a2, a3⟩ ih
    have h8 := a1.1.2.1.2.2.1
    have lt : nI i < nI (wSc w).2.2.length := (nI_ltI (by omega) (by omega)).2 hi
    have e1 : nI i + 1 = nI (i + 1) := nI_add i 1
    obtain ⟨S1, S2, u1, u2, u3, u4, u5, u6⟩ := mo_un a1 ho hi
    have z : zinb (nI i) 3 = true := (nn_in (by omega)).2 (by omega)
    have c : (nI i).toNatClampNeg = i := nI_clamp (by omega)
    have vi : zI S1 (408 + 4) i = if (zpa_ (wSc w).2.2 i).1 then 1 else 0 := u3.1.2.1.2.2.2.2.2.2.1 i hi
    have wp : wPc (zPc w i) := pcs_w (ps_w a1.1.2.1.2.2.2.2.2.2.2.2.2.2.2.2 hi)
    show ∃ S1, L_Mo_sure_19 (F + 1) 408 (nI i) S = _ ∧ _
    cases ea : (zpa_ (wSc w).2.2 i).1 with
    | true =>
      rw [ea, if_pos rfl] at vi
      refine ⟨S1, ?_, u3, fr_trans a2 u4⟩
      rw [sur_no hi (by unfold zsu1; rw [ea]; rfl), L_Mo_sure_19]
      simp [-Prod.exists, -Prod.forall, ↓bb_gf, ↓bb_gr, ↓bb_len, ↓bb_ga, ↓bb_gl, ↓bb_go, ↓bb_pf, ↓bb_pz, ↓bb_pr, ↓bb_pa, ↓bb_pb, ↓bb_pl, ↓bb_po, ↓bb_cl, ↓bb_some, ↓bb_RI, ↓bb_RJ, mm_hI, mm_hJ, mm_hR, mm_nI, mm_nJ, mm_nR, mm_sI, mm_sJ, mm_sR, mm_RI, mm_RJ, mm_IJ, mm_IR, mm_JI, mm_JR, mm_II, mm_JJ, mm_RR, a1.1.1.1, h8, lt, ↓bS u1, u3.1.1.1, ↓bS (mo_isAgain u3.1.1), mh_isAgain u3.1.1, z, c, vi]
    | false =>
      rw [ea, if_neg (by simp)] at vi
      cases eu : zun (zPc w i) with
      | none =>
        rw [eu] at u2
        have t2 : zoI none (-2) = -2 := rfl
        obtain ⟨S3, v1, v2⟩ := ih () S2 ⟨u5, fr_trans a2 (fr_trans u4 u6), fun j hj => by
          by_cases q : j = i
          · subst q; unfold zsu1; rw [ea, eu]; rfl
          · exact a3 j (by omega)⟩
        refine ⟨S3, ?_, v2⟩
        rw [← v1, L_Mo_sure_19]
        simp [-Prod.exists, -Prod.forall, ↓bb_gf, ↓bb_gr, ↓bb_len, ↓bb_ga, ↓bb_gl, ↓bb_go, ↓bb_pf, ↓bb_pz, ↓bb_pr, ↓bb_pa, ↓bb_pb, ↓bb_pl, ↓bb_po, ↓bb_cl, ↓bb_some, ↓bb_RI, ↓bb_RJ, mm_hI, mm_hJ, mm_hR, mm_nI, mm_nJ, mm_nR, mm_sI, mm_sJ, mm_sR, mm_RI, mm_RJ, mm_IJ, mm_IR, mm_JI, mm_JR, mm_II, mm_JJ, mm_RR, a1.1.1.1, h8, lt, ↓bS u1, u3.1.1.1, ↓bS (mo_isAgain u3.1.1), mh_isAgain u3.1.1, z, c, vi, ↓bS u2, t2, e1]
      | some m =>
        have t2 : ¬ zoI (some m) (-2) = -2 := by rw [← eu, zun_m2 wp, eu]; simp
        rw [eu] at u2
        refine ⟨S2, ?_, u5, fr_trans a2 (fr_trans u4 u6)⟩
        rw [sur_no hi (by unfold zsu1; rw [ea, eu]; rfl), L_Mo_sure_19]
        simp [-Prod.exists, -Prod.forall, ↓bb_gf, ↓bb_gr, ↓bb_len, ↓bb_ga, ↓bb_gl, ↓bb_go, ↓bb_pf, ↓bb_pz, ↓bb_pr, ↓bb_pa, ↓bb_pb, ↓bb_pl, ↓bb_po, ↓bb_cl, ↓bb_some, ↓bb_RI, ↓bb_RJ, mm_hI, mm_hJ, mm_hR, mm_nI, mm_nJ, mm_nR, mm_sI, mm_sJ, mm_sR, mm_RI, mm_RJ, mm_IJ, mm_IR, mm_JI, mm_JR, mm_II, mm_JJ, mm_RR, a1.1.1.1, h8, lt, ↓bS u1, u3.1.1.1, ↓bS (mo_isAgain u3.1.1), mh_isAgain u3.1.1, z, c, vi, ↓bS u2, t2]
theorem hm_sure : zHm (f_Mo_sure 408) sp_sure := fun S w h ho => by
  obtain ⟨e0, e1, e2⟩ := mo_fresh h; obtain ⟨n0, n1, n2⟩ := mo_no e1 (n := 1) (by omega); have n0' : f_Mo_no 408 1 (zfs S) = some (-1, zwI (zfs S) 408 1 (nI 1)) := n0; have hc := e1.1; have h8 := h.1.1.1; have g8 := hc.1.1; have h3 := ho.2.2.2.2.2.2.2.2.1; have ho' : okW (sTr w 0) := okW_tr ho (by omega)
  have h9 : zI (zfs S) 408 9 = if (wSc w).2.2.length = 0 then 0 else 1 := hc.2.1.2.2.2.1
  unfold sp_sure
  by_cases q : (wSc w).2.2.length = 0
  · rw [if_pos q] at h9 ⊢
    exact ⟨_, by simp [f_Mo_sure, -Prod.exists, -Prod.forall, ↓bb_gf, ↓bb_gr, ↓bb_len, ↓bb_ga, ↓bb_gl, ↓bb_go, ↓bb_pf, ↓bb_pz, ↓bb_pr, ↓bb_pa, ↓bb_pb, ↓bb_pl, ↓bb_po, ↓bb_cl, ↓bb_some, ↓bb_RI, ↓bb_RJ, mm_hI, mm_hJ, mm_hR, mm_nI, mm_nJ, mm_nR, mm_sI, mm_sJ, mm_sR, mm_RI, mm_RJ, mm_IJ, mm_IR, mm_JI, mm_JR, mm_II, mm_JJ, mm_RR, h8, ↓bS e0, g8, h9, ↓bS n0', zrf] <;> rfl, n1, fr_trans e2 n2⟩
  · rw [if_neg q] at h9 ⊢
    obtain ⟨S1, u1, u2, u3⟩ := mo_sure19 e1 ho'
    have u1' : L_Mo_sure_19 zF 408 0 (zfs S) = some (if zsur w then 1 else 0, S1) := u1
    exact ⟨S1, by simp [f_Mo_sure, -Prod.exists, -Prod.forall, ↓bb_gf, ↓bb_gr, ↓bb_len, ↓bb_ga, ↓bb_gl, ↓bb_go, ↓bb_pf, ↓bb_pz, ↓bb_pr, ↓bb_pa, ↓bb_pb, ↓bb_pl, ↓bb_po, ↓bb_cl, ↓bb_some, ↓bb_RI, ↓bb_RJ, mm_hI, mm_hJ, mm_hR, mm_nI, mm_nJ, mm_nR, mm_sI, mm_sJ, mm_sR, mm_RI, mm_RJ, mm_IJ, mm_IR, mm_JI, mm_JR, mm_II, mm_JJ, mm_RR, h8, ↓bS e0, g8, h9, u1', zan] <;> rfl, u2, fr_trans e2 u3⟩
