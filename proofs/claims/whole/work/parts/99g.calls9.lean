/-! apart; carrying -/
def sp_apart (x y : Int64) (w : zWs) : Int32 × zWs := if (wSc w).2.2.length = 0 then zrf w 1 else match zwl x with
  | none => zrf w 2
  | some r1 => match zwl y with
    | none => zrf w 2
    | some r2 => if (zcw w false r1).1 = 0 then
        if (zcw w false r2).1 = 0 then zan w (nI (zD (zcw w false r1).2.1 (zcw w false r2).2.1 (zcw w false r1).2.1.length (zcw w false r2).2.1.length)) else zrf w (zcw w false r2).1
      else zrf w (zcw w false r1).1
theorem hk_apart (x y : Int64) : zHk (sp_apart x y) := hk_tr (fun w ho => by
  unfold sp_apart
  apply tr_ite
  · exact ⟨1, by omega, rfl⟩
  · cases zwl x with
    | none => exact ⟨2, by omega, rfl⟩
    | some r1 =>
      simp only
      cases zwl y with
      | none => exact ⟨2, by omega, rfl⟩
      | some r2 =>
        have c1 := zcw_code w false r1
        have c2 := zcw_code w false r2
        simp only
        apply tr_ite
        · apply tr_ite
          · exact ⟨0, by omega, rfl⟩
          · exact ⟨_, by omega, rfl⟩
        · exact ⟨_, by omega, rfl⟩)
section
variable {S : zM} {w : zWs} {T U : Nat}
theorem cl_take2 (hm : cMn S w T U) (hs : cSr S) (x : Int64) : ∃ S' us, f_Row_takeWord 35 x S = some (if (zwl x).isSome then 1 else 0, S') ∧ zfr (rg 35 37) S S' ∧ pRow S' 35 8 us ∧ (∀ vs, zwl x = some vs → vs = us) ∧ cMn S' w T U ∧ cSr S' := by
  obtain ⟨hx, r1, ⟨ws, r2⟩, r3, hp⟩ := hs
  obtain ⟨S', us, t1, t2, t3, t4⟩ := row_take r2 (by omega) x
  have hs : cSr S := ⟨hx, r1, ⟨ws, r2⟩, r3, hp⟩
  refine ⟨S', us, t1, t2, t3, t4, cMn_sr hm (fq_fr (V := fun _ _ => False) t2) (fun b j q => by unfold rg at q; unfold wSr; omega) (fun b j q => absurd q (fun x => x)), ?_⟩
  obtain ⟨⟨x, y, a⟩, ⟨w1, r1⟩, _, ⟨w3, r3⟩, hp⟩ := hs
  have sm1 : zsm 19 35 S S' := sm_fr t2 (fun b j a c => by unfold rg; omega)
  have sm2 : zsm 37 62 S S' := sm_fr t2 (fun b j a c => by unfold rg; omega)
  exact ⟨⟨x, y, aCar_sm a sm1 (by omega) (by omega)⟩, ⟨w1, row_sm r1 sm1 (by omega) (by omega)⟩, ⟨us, t3⟩, ⟨w3, row_sm r3 sm2 (by omega) (by omega)⟩, sPcs_fr hp t2 (fun b j q => by unfold rg; omega)⟩
/-- what came first, kept -/
theorem cl_came (hm : cMn S w T U) (hs : cSr S) {x n : Nat} {xs : List Nat} (hr : pRow S x n xs) (hx : x = 23 ∨ x = 25) (h60 : xs.length ≤ 60) : ∃ S', f_Row_copy 37 x S = some S' ∧ zfr (rg 37 39) S S' ∧ pRow S' 37 60 xs ∧ cMn S' w T U ∧ cSr S' := by
  obtain ⟨⟨a, b, hc⟩, ⟨w1, r1⟩, ⟨w2, r2⟩, ⟨ws, r3⟩, hp⟩ := hs
  obtain ⟨S', t1, t2, t3⟩ := row_copy r3 hr h60 (by omega) (by omega) (by omega)
  have sm1 : zsm 19 37 S S' := sm_fr t2 (fun b j a c => by unfold rg; omega)
  exact ⟨S', t1, t2, t3, cMn_sr hm (fq_fr (V := fun _ _ => False) t2) (fun b j q => by unfold rg at q; unfold wSr; omega) (fun b j q => absurd q (fun x => x)), ⟨a, b, aCar_sm hc sm1 (by omega) (by omega)⟩, ⟨w1, row_sm r1 sm1 (by omega) (by omega)⟩, ⟨w2, row_sm r2 sm1 (by omega) (by omega)⟩, ⟨xs, t3⟩, sPcs_fr hp t2 (fun b j q => by unfold rg; omega)⟩
end
theorem hc_apart (x y : Int64) : zHc (f_Cl_apart 1 x y) (sp_apart x y) := fun S w h ho => by
  obtain ⟨T, U, hm, hs, ht⟩ := h; have h1 := hm.1.1; have r10 := r_told hm; have hS := hm.2.2.1.1; obtain ⟨e0, e1⟩ := hc_same hm hs 0; obtain ⟨f0, f1⟩ := hc_same hm hs 1; have h3 := ho.2.2.2.2.2.2.2.2.1
  have ns := cl_ns hm ho
  have hTU := hm.1.2.2.2.2.2.2.2.2.2.2.2.2.2.2.2.2.2.2.2.1
  have wps : wPs (wSc w).2.2 := hS.2.2.2.2.2.2.2.2.2
  unfold sp_apart
  by_cases q : (wSc w).2.2.length = 0
  · rw [if_pos q] at ns ⊢
    exact ⟨_, by simp [f_Cl_apart, -Prod.exists, -Prod.forall, ↓bb_gf, ↓bb_gr, ↓bb_len, ↓bb_ga, ↓bb_gl, ↓bb_go, ↓bb_pf, ↓bb_pz, ↓bb_pr, ↓bb_pa, ↓bb_pb, ↓bb_pl, ↓bb_po, ↓bb_cl, ↓bb_some, ↓bb_RI, ↓bb_RJ, mm_hI, mm_hJ, mm_hR, mm_nI, mm_nJ, mm_nR, mm_sI, mm_sJ, mm_sR, mm_RI, mm_RJ, mm_IJ, mm_IR, mm_JI, mm_JR, mm_II, mm_JJ, mm_RR, h1, ↓bS ns, ↓bS (cl_refuse h1 1), zrf] <;> rfl, f0, f1⟩
  · rw [if_neg q] at ns ⊢
    obtain ⟨S2, us, t1, t2, t3, t4, t5, t6⟩ := cl_take hm hs x
    have g2 := sr_step (fq_refl wSr vSr S) t2 (fun b j q => by unfold rg at q; unfold wSr; omega)
    have h33 : zh S 33 = (8, 0) := by obtain ⟨_, ⟨ws, r⟩, _⟩ := hs; exact r.1
    cases ex : zwl x with
    | none =>
      rw [ex] at t1
      simp only [Option.isSome_none, Bool.false_eq_true, if_false] at t1
      obtain ⟨y1, y2⟩ := hc_end hm g2 (fun b j q => q) (fun b j q => q) t6 2
      exact ⟨_, by simp [f_Cl_apart, -Prod.exists, -Prod.forall, ↓bb_gf, ↓bb_gr, ↓bb_len, ↓bb_ga, ↓bb_gl, ↓bb_go, ↓bb_pf, ↓bb_pz, ↓bb_pr, ↓bb_pa, ↓bb_pb, ↓bb_pl, ↓bb_po, ↓bb_cl, ↓bb_some, ↓bb_RI, ↓bb_RJ, mm_hI, mm_hJ, mm_hR, mm_nI, mm_nJ, mm_nR, mm_sI, mm_sJ, mm_sR, mm_RI, mm_RJ, mm_IJ, mm_IR, mm_JI, mm_JR, mm_II, mm_JJ, mm_RR, h1, ↓bS ns, ↓bS (r_tak hm), h33, ↓bS t1, t5.1.1, ↓bS (cl_refuse t5.1.1 2), zrf] <;> rfl, y1, y2⟩
    | some row =>
      rw [ex] at t1
      simp only [Option.isSome_some, if_true] at t1
      have := t4 row ex
      subst this
      have r8 := (wl_w ex).2.1
      obtain ⟨S3, us, u1, u2, u3, u4, u5, u6⟩ := cl_take2 t5 t6 y
      have g3 := sr_step g2 u2 (fun b j q => by unfold rg at q; unfold wSr; omega)
      have h35 : zh S2 35 = (8, 0) := by obtain ⟨_, _, ⟨ws, r⟩, _⟩ := t6; exact r.1
      have t3' := row_fr t3 u2 (fun j => by unfold rg; omega) (fun j => by unfold rg; omega)
      simp only
      cases ey : zwl y with
      | none =>
        rw [ey] at u1
        simp only [Option.isSome_none, Bool.false_eq_true, if_false] at u1
        obtain ⟨y1, y2⟩ := hc_end hm g3 (fun b j q => q) (fun b j q => q) u6 2
        exact ⟨_, by simp [f_Cl_apart, -Prod.exists, -Prod.forall, ↓bb_gf, ↓bb_gr, ↓bb_len, ↓bb_ga, ↓bb_gl, ↓bb_go, ↓bb_pf, ↓bb_pz, ↓bb_pr, ↓bb_pa, ↓bb_pb, ↓bb_pl, ↓bb_po, ↓bb_cl, ↓bb_some, ↓bb_RI, ↓bb_RJ, mm_hI, mm_hJ, mm_hR, mm_nI, mm_nJ, mm_nR, mm_sI, mm_sJ, mm_sR, mm_RI, mm_RJ, mm_IJ, mm_IR, mm_JI, mm_JR, mm_II, mm_JJ, mm_RR, h1, ↓bS ns, ↓bS (r_tak hm), h33, ↓bS t1, t5.1.1, ↓bS (r_tk2 t5), h35, ↓bS u1, u5.1.1, ↓bS (cl_refuse u5.1.1 2), zrf] <;> rfl, y1, y2⟩
      | some row2 =>
        rw [ey] at u1
        simp only [Option.isSome_some, if_true] at u1
        have := u4 row2 ey
        subst this
        have r82 := (wl_w ey).2.1
        obtain ⟨S4, a, b1, b2, b3, b4, b5, b6, b7, b8⟩ := cl_bring false u5 u6 t3' (Or.inl rfl) (by omega)
        simp only [Bool.false_eq_true, if_false] at b1
        have g4 : zfq wSr vSr S S4 := fq_trans g3 (fq_mono b2 (fun b j q => car_sr q) (fun b j q => car_vr q))
        have h19 : zh S3 19 = (1, 0) := by obtain ⟨⟨_, _, r⟩, _⟩ := u6; exact r.1.1
        have u3' : pRow S4 35 8 row2 := row_sm u3 (sm_fq (lo := 33) (hi := 62) b2 (fun b j h1 h2 => ⟨by unfold rg; omega, by unfold vPd; omega⟩)) (by omega) (by omega)
        simp only
        by_cases q1 : (zcw w false row).1 = 0
        · rw [if_pos q1]
          have e : nI (zcw w false row).1 = 0 := by rw [q1]; rfl
          rw [e] at b1
          have w1 := car_w wps (asd := wAs w) (tn := false) (wl_w ex).1 (show row.length ≤ 60 by omega)
          obtain ⟨S5, c1, c2, c3, c4, c5⟩ := cl_came b3 b4 (b8 q1) b7 w1.2
          have g5 := sr_step g4 c2 (fun b j q => by unfold rg at q; unfold wSr; omega)
          have u3'' := row_fr u3' c2 (fun j => by unfold rg; omega) (fun j => by unfold rg; omega)
          obtain ⟨S6, a', d1, d2, d3, d4, d5, d6, d7, d8⟩ := cl_bring false c4 c5 u3'' (Or.inr rfl) (by omega)
          simp only [Bool.false_eq_true, if_false] at d1
          have g6 : zfq wSr vSr S S6 := fq_trans g5 (fq_mono d2 (fun b j q => car_sr q) (fun b j q => car_vr q))
          have h19' : zh S5 19 = (1, 0) := by obtain ⟨⟨_, _, r⟩, _⟩ := c5; exact r.1.1
          have h37 : zh S4 37 = (8, 0) := by obtain ⟨_, _, _, ⟨ws, r⟩, _⟩ := b4; exact r.1
          have c3' : pRow S6 37 60 _ := row_sm c3 (sm_fq (lo := 33) (hi := 62) d2 (fun b j h1 h2 => ⟨by unfold rg; omega, by unfold vPd; omega⟩)) (by omega) (by omega)
          by_cases q2 : (zcw w false row2).1 = 0
          · rw [if_pos q2]
            have e2 : nI (zcw w false row2).1 = 0 := by rw [q2]; rfl
            rw [e2] at d1
            have w2 := car_w wps (asd := wAs w) (tn := false) (wl_w ey).1 (show row2.length ≤ 60 by omega)
            have w2' : (zcw w false row2).2.1.length ≤ 60 := w2.2
            obtain ⟨rc1, rc2⟩ := r_chg d3
            obtain ⟨S7, k1, k2⟩ := row_chg c3' (d8 q2) rc2 (by omega) (by omega) (by omega) ⟨by omega, by omega, by omega, by omega⟩
            have g7 := sr_step g6 k2 (fun b j q => by unfold rg at q; unfold wSr; omega)
            have s7 : cSr S7 := by
              obtain ⟨⟨xx, yy, aa⟩, ⟨w1, r1⟩, ⟨w2, r2⟩, ⟨w3, r3⟩, hp⟩ := d4
              have sm1 : zsm 19 39 S6 S7 := sm_fr k2 (fun b j a c => by unfold rg; omega)
              exact ⟨⟨xx, yy, aCar_sm aa sm1 (by omega) (by omega)⟩, ⟨w1, row_sm r1 sm1 (by omega) (by omega)⟩, ⟨w2, row_sm r2 sm1 (by omega) (by omega)⟩, ⟨w3, row_sm r3 sm1 (by omega) (by omega)⟩, sPcs_fr hp k2 (fun b j q => by unfold rg; omega)⟩
            have m7 := cMn_sr hm g7 (fun b j q => q) (fun b j q => q)
            obtain ⟨y1, y2⟩ := hc_end hm g7 (fun b j q => q) (fun b j q => q) s7 0
            exact ⟨_, by simp [f_Cl_apart, -Prod.exists, -Prod.forall, ↓bb_gf, ↓bb_gr, ↓bb_len, ↓bb_ga, ↓bb_gl, ↓bb_go, ↓bb_pf, ↓bb_pz, ↓bb_pr, ↓bb_pa, ↓bb_pb, ↓bb_pl, ↓bb_po, ↓bb_cl, ↓bb_some, ↓bb_RI, ↓bb_RJ, mm_hI, mm_hJ, mm_hR, mm_nI, mm_nJ, mm_nR, mm_sI, mm_sJ, mm_sR, mm_RI, mm_RJ, mm_IJ, mm_IR, mm_JI, mm_JR, mm_II, mm_JJ, mm_RR, h1, ↓bS ns, ↓bS (r_tak hm), h33, ↓bS t1, t5.1.1, ↓bS (r_tk2 t5), h35, ↓bS u1, u5.1.1, ↓bS (r_hel u5), ↓bS (r_told u5), ↓bS (r_tak u5), h19, ↓bS b1, b3.1.1, ↓bS (r_cam b3), ↓bS (r_hel b3), b5, ↓bS b6, h37, ↓bS c1, c4.1.1, ↓bS (r_hel c4), ↓bS (r_told c4), ↓bS (r_tk2 c4), h19', ↓bS d1, d3.1.1, ↓bS (r_cam d3), ↓bS (r_hel d3), d5, ↓bS d6, ↓bS rc1, c3'.1, ↓bS k1, m7.1.1, ↓bS (cl_answer m7.1.1 _), zan] <;> rfl, y1, y2⟩
          · rw [if_neg q2]
            have e2 := zcw_nz q2
            obtain ⟨y1, y2⟩ := hc_end hm g6 (fun b j q => q) (fun b j q => q) d4 (zcw w false row2).1
            exact ⟨_, by simp [f_Cl_apart, -Prod.exists, -Prod.forall, ↓bb_gf, ↓bb_gr, ↓bb_len, ↓bb_ga, ↓bb_gl, ↓bb_go, ↓bb_pf, ↓bb_pz, ↓bb_pr, ↓bb_pa, ↓bb_pb, ↓bb_pl, ↓bb_po, ↓bb_cl, ↓bb_some, ↓bb_RI, ↓bb_RJ, mm_hI, mm_hJ, mm_hR, mm_nI, mm_nJ, mm_nR, mm_sI, mm_sJ, mm_sR, mm_RI, mm_RJ, mm_IJ, mm_IR, mm_JI, mm_JR, mm_II, mm_JJ, mm_RR, h1, ↓bS ns, ↓bS (r_tak hm), h33, ↓bS t1, t5.1.1, ↓bS (r_tk2 t5), h35, ↓bS u1, u5.1.1, ↓bS (r_hel u5), ↓bS (r_told u5), ↓bS (r_tak u5), h19, ↓bS b1, b3.1.1, ↓bS (r_cam b3), ↓bS (r_hel b3), b5, ↓bS b6, h37, ↓bS c1, c4.1.1, ↓bS (r_hel c4), ↓bS (r_told c4), ↓bS (r_tk2 c4), h19', ↓bS d1, e2, d3.1.1, ↓bS (cl_refuse d3.1.1 _), zrf] <;> rfl, y1, y2⟩
        · rw [if_neg q1]
          have e2 := zcw_nz q1
          obtain ⟨y1, y2⟩ := hc_end hm g4 (fun b j q => q) (fun b j q => q) b4 (zcw w false row).1
          exact ⟨_, by simp [f_Cl_apart, -Prod.exists, -Prod.forall, ↓bb_gf, ↓bb_gr, ↓bb_len, ↓bb_ga, ↓bb_gl, ↓bb_go, ↓bb_pf, ↓bb_pz, ↓bb_pr, ↓bb_pa, ↓bb_pb, ↓bb_pl, ↓bb_po, ↓bb_cl, ↓bb_some, ↓bb_RI, ↓bb_RJ, mm_hI, mm_hJ, mm_hR, mm_nI, mm_nJ, mm_nR, mm_sI, mm_sJ, mm_sR, mm_RI, mm_RJ, mm_IJ, mm_IR, mm_JI, mm_JR, mm_II, mm_JJ, mm_RR, h1, ↓bS ns, ↓bS (r_tak hm), h33, ↓bS t1, t5.1.1, ↓bS (r_tk2 t5), h35, ↓bS u1, u5.1.1, ↓bS (r_hel u5), ↓bS (r_told u5), ↓bS (r_tak u5), h19, ↓bS b1, e2, b3.1.1, ↓bS (cl_refuse b3.1.1 _), zrf] <;> rfl, y1, y2⟩
/-- the reference keeps what came first -/
theorem mo_oth {S0 : zM} {w : zWs} {row : List Nat} (h : pMo S0 w) (hn : pNow S0 408 row) (x : Int64) : ∃ S', L_Mo_apart_69 F_Mo_apart_98 zF 408 x 0 (zwI S0 408 56 (nI row.length)) = F_Mo_apart_98 408 x S' ∧ pMo S' w ∧ zfr wMo S0 S' ∧ pOth S' 408 row := by
  have f1 : zfr (fun b j => (b = 408 ∧ j = 56) ∨ b = 438) S0 (zwI S0 408 56 (nI row.length)) := fr_wI _ _ (Or.inl ⟨rfl, rfl⟩)
  have l60 := hn.2.2.2
  obtain ⟨S', a1, a2, a3⟩ := loop_st (N := row.length) (by omega) (fun F i S => L_Mo_apart_69 F_Mo_apart_98 F 408 x (nI i) S) (fun S => F_Mo_apart_98 408 x S) (W := fun b j => b = 438) (S0 := zwI S0 408 56 (nI row.length)) (fun i S => zwI S 438 i (nI (lg row i))) (fun i S => zI S 438 i = nI (lg row i))
    (fun F S hf => by
      have hm := mo_fr (mo_fr h.1.1 f1) hf
      have e : zI S 408 41 = nI row.length := by rw [fr_I hf (by omega), fr_I f1 (by omega)]; exact hn.1
      show L_Mo_apart_69 _ (F + 1) _ _ _ _ = _
      rw [L_Mo_apart_69]
      simp [-Prod.exists, -Prod.forall, ↓bb_gf, ↓bb_gr, ↓bb_len, ↓bb_ga, ↓bb_gl, ↓bb_go, ↓bb_pf, ↓bb_pz, ↓bb_pr, ↓bb_pa, ↓bb_pb, ↓bb_pl, ↓bb_po, ↓bb_cl, ↓bb_some, ↓bb_RI, ↓bb_RJ, mm_hI, mm_hJ, mm_hR, mm_nI, mm_nJ, mm_nR, mm_sI, mm_sJ, mm_sR, mm_RI, mm_RJ, mm_IJ, mm_IR, mm_JI, mm_JR, mm_II, mm_JJ, mm_RR, hm.1, e])
    (fun F i S hi hf => by
      have hm := mo_fr (mo_fr h.1.1 f1) hf
      have e : zI S 408 41 = nI row.length := by rw [fr_I hf (by omega), fr_I f1 (by omega)]; exact hn.1
      have v : zI S 427 i = nI (lg row i) := by rw [fr_I hf (by omega), fr_I f1 (by omega)]; exact hn.2.1 i hi
      have lt : nI i < nI row.length := (nI_ltI (by omega) (by omega)).2 hi
      have e1 : nI i + 1 = nI (i + 1) := nI_add i 1
      have z : zinb (nI i) 64 = true := (nn_in (by omega)).2 (by omega)
      have z2 : zinb (nI i) 60 = true := (nn_in (by omega)).2 (by omega)
      have c : (nI i).toNatClampNeg = i := nI_clamp (by omega)
      show L_Mo_apart_69 _ (F + 1) _ _ _ _ = _
      rw [L_Mo_apart_69]
      simp [-Prod.exists, -Prod.forall, ↓bb_gf, ↓bb_gr, ↓bb_len, ↓bb_ga, ↓bb_gl, ↓bb_go, ↓bb_pf, ↓bb_pz, ↓bb_pr, ↓bb_pa, ↓bb_pb, ↓bb_pl, ↓bb_po, ↓bb_cl, ↓bb_some, ↓bb_RI, ↓bb_RJ, mm_hI, mm_hJ, mm_hR, mm_nI, mm_nJ, mm_nR, mm_sI, mm_sJ, mm_sR, mm_RI, mm_RJ, mm_IJ, mm_IR, mm_JI, mm_JR, mm_II, mm_JJ, mm_RR, hm.1, e, lt, ↓bS (mo_other hm), ↓bS (mo_now hm), mh_other hm, mh_now hm, z, z2, c, v, e1])
    (fun i S hi => fr_wI _ _ rfl) (fun i S hi hf => by simp [-Prod.exists, -Prod.forall, zgf, zgr, zpf, zpz, zpr, zga, zgl, zgo, zpa, zpb, zpl, zpo, mm_len, zcl, Option.bind_some, Option.bind_none, mm_hI, mm_hJ, mm_hR, mm_nI, mm_nJ, mm_nR, mm_sI, mm_sJ, mm_sR, mm_RI, mm_RJ, mm_IJ, mm_IR, mm_JI, mm_JR, mm_II, mm_JJ, mm_RR]) (fun i j S hi hj hp => by
      have : i ≠ j := by omega
      simp [-Prod.exists, -Prod.forall, zgf, zgr, zpf, zpz, zpr, zga, zgl, zgo, zpa, zpb, zpl, zpo, mm_len, zcl, Option.bind_some, Option.bind_none, mm_hI, mm_hJ, mm_hR, mm_nI, mm_nJ, mm_nR, mm_sI, mm_sJ, mm_sR, mm_RI, mm_RJ, mm_IJ, mm_IR, mm_JI, mm_JR, mm_II, mm_JJ, mm_RR, this, hp])
  have f2 := fr_trans f1 (fr_mono a2 (fun b j q => Or.inr q))
  obtain ⟨k1, k2⟩ := mo_keep h f2 (fun b j q => by unfold wMs; omega) (by omega) (by omega)
  refine ⟨S', a1, k1, k2, by rw [fr_I a2 (by omega)]; simp [-Prod.exists, -Prod.forall, zgf, zgr, zpf, zpz, zpr, zga, zgl, zgo, zpa, zpb, zpl, zpo, mm_len, zcl, Option.bind_some, Option.bind_none, mm_hI, mm_hJ, mm_hR, mm_nI, mm_nJ, mm_nR, mm_sI, mm_sJ, mm_sR, mm_RI, mm_RJ, mm_IJ, mm_IR, mm_JI, mm_JR, mm_II, mm_JJ, mm_RR], a3, hn.2.2.1, l60⟩
theorem hm_apart (x y : Int64) : zHm (f_Mo_apart 408 x y) (sp_apart x y) := fun S w h ho => by
  obtain ⟨e0, e1, e2⟩ := mo_fresh h; obtain ⟨n0, n1, n2⟩ := mo_no e1 (n := 1) (by omega); have n0' : f_Mo_no 408 1 (zfs S) = some (-1, zwI (zfs S) 408 1 (nI 1)) := n0; have hc := e1.1; have h8 := h.1.1.1; have g8 := hc.1.1; have h3 := ho.2.2.2.2.2.2.2.2.1; have ho' : okW (sTr w 0) := okW_tr ho (by omega)
  have h9 : zI (zfs S) 408 9 = if (wSc w).2.2.length = 0 then 0 else 1 := hc.2.1.2.2.2.1
  unfold sp_apart
  by_cases q : (wSc w).2.2.length = 0
  · rw [if_pos q] at h9 ⊢
    exact ⟨_, by simp [f_Mo_apart, -Prod.exists, -Prod.forall, ↓bb_gf, ↓bb_gr, ↓bb_len, ↓bb_ga, ↓bb_gl, ↓bb_go, ↓bb_pf, ↓bb_pz, ↓bb_pr, ↓bb_pa, ↓bb_pb, ↓bb_pl, ↓bb_po, ↓bb_cl, ↓bb_some, ↓bb_RI, ↓bb_RJ, mm_hI, mm_hJ, mm_hR, mm_nI, mm_nJ, mm_nR, mm_sI, mm_sJ, mm_sR, mm_RI, mm_RJ, mm_IJ, mm_IR, mm_JI, mm_JR, mm_II, mm_JJ, mm_RR, h8, ↓bS e0, g8, h9, ↓bS n0', zrf] <;> rfl, n1, fr_trans e2 n2⟩
  · rw [if_neg q] at h9 ⊢
    obtain ⟨S1, l1, l2, l3, l4⟩ := mo_letters e1 y
    obtain ⟨S2, k1, k2, k3, k4⟩ := mo_letters l2 x
    obtain ⟨m0, m1, m2⟩ := mo_no l2 (n := 2) (by omega)
    have m0' : f_Mo_no 408 2 S1 = some (-1, zwI S1 408 1 (nI 2)) := m0
    obtain ⟨p0, p1, p2⟩ := mo_no k2 (n := 2) (by omega)
    have p0' : f_Mo_no 408 2 S2 = some (-1, zwI S2 408 1 (nI 2)) := p0
    cases ey : zwl y with
    | none =>
      rw [ey] at l1
      simp only [Option.isSome_none, Bool.false_eq_true, if_false] at l1
      have : f_Mo_apart 408 x y S = some (-1, zwI S1 408 1 (nI 2)) := by simp [f_Mo_apart, -Prod.exists, -Prod.forall, ↓bb_gf, ↓bb_gr, ↓bb_len, ↓bb_ga, ↓bb_gl, ↓bb_go, ↓bb_pf, ↓bb_pz, ↓bb_pr, ↓bb_pa, ↓bb_pb, ↓bb_pl, ↓bb_po, ↓bb_cl, ↓bb_some, ↓bb_RI, ↓bb_RJ, mm_hI, mm_hJ, mm_hR, mm_nI, mm_nJ, mm_nR, mm_sI, mm_sJ, mm_sR, mm_RI, mm_RJ, mm_IJ, mm_IR, mm_JI, mm_JR, mm_II, mm_JJ, mm_RR, h8, ↓bS e0, g8, h9, ↓bS l1, l2.1.1.1, ↓bS m0']
      cases ex : zwl x with
      | none => exact ⟨_, this, m1, fr_trans e2 (fr_trans l3 m2)⟩
      | some r1 => exact ⟨_, this, m1, fr_trans e2 (fr_trans l3 m2)⟩
    | some r2 =>
      rw [ey] at l1
      simp only [Option.isSome_some, if_true] at l1
      cases ex : zwl x with
      | none =>
        rw [ex] at k1
        simp only [Option.isSome_none, Bool.false_eq_true, if_false] at k1
        exact ⟨_, by simp [f_Mo_apart, -Prod.exists, -Prod.forall, ↓bb_gf, ↓bb_gr, ↓bb_len, ↓bb_ga, ↓bb_gl, ↓bb_go, ↓bb_pf, ↓bb_pz, ↓bb_pr, ↓bb_pa, ↓bb_pb, ↓bb_pl, ↓bb_po, ↓bb_cl, ↓bb_some, ↓bb_RI, ↓bb_RJ, mm_hI, mm_hJ, mm_hR, mm_nI, mm_nJ, mm_nR, mm_sI, mm_sJ, mm_sR, mm_RI, mm_RJ, mm_IJ, mm_IR, mm_JI, mm_JR, mm_II, mm_JJ, mm_RR, h8, ↓bS e0, g8, h9, ↓bS l1, l2.1.1.1, ↓bS k1, k2.1.1.1, ↓bS p0', zrf] <;> rfl, p1, fr_trans e2 (fr_trans l3 (fr_trans k3 p2))⟩
      | some r1 =>
        rw [ex] at k1
        simp only [Option.isSome_some, if_true] at k1
        obtain ⟨S3, row', a1, a2, a3, a4, a5, _⟩ := mo_all false k2 (k4 r1 ex)
        have a1 : f_Mo_goesAll 408 0 S2 = some (nI (zcw w false r1).1, S3) := a1
        have a5 : (zcw w false r1).1 = 0 → row' = (zcw w false r1).2.1 := fun q => (a5 q).1
        simp only
        by_cases q1 : (zcw w false r1).1 = 0
        · rw [if_pos q1]
          have z := a5 q1
          subst z
          have ee : nI (zcw w false r1).1 = 0 := by rw [q1]; rfl
          rw [ee] at a1
          obtain ⟨S4, b1, b2, b3, b4⟩ := mo_oth a2 a4 y
          have go : f_Mo_apart 408 x y S = F_Mo_apart_98 408 y S4 := by
            rw [← b1]
            simp [f_Mo_apart, -Prod.exists, -Prod.forall, ↓bb_gf, ↓bb_gr, ↓bb_len, ↓bb_ga, ↓bb_gl, ↓bb_go, ↓bb_pf, ↓bb_pz, ↓bb_pr, ↓bb_pa, ↓bb_pb, ↓bb_pl, ↓bb_po, ↓bb_cl, ↓bb_some, ↓bb_RI, ↓bb_RJ, mm_hI, mm_hJ, mm_hR, mm_nI, mm_nJ, mm_nR, mm_sI, mm_sJ, mm_sR, mm_RI, mm_RJ, mm_IJ, mm_IR, mm_JI, mm_JR, mm_II, mm_JJ, mm_RR, h8, ↓bS e0, g8, h9, ↓bS l1, l2.1.1.1, ↓bS k1, k2.1.1.1, ↓bS a1, a2.1.1.1, a4.1]
          obtain ⟨S5, c1, c2, c3, c4⟩ := mo_letters b2 y
          rw [ey] at c1
          simp only [Option.isSome_some, if_true] at c1
          obtain ⟨S5', c1x, c2x, c4x⟩ := m_word b2.1.1 y
          have es : S5' = S5 := by
            rw [ey] at c1x
            simp only [Option.isSome_some, if_true] at c1x
            rw [c1] at c1x
            cases c1x; rfl
          subst es
          obtain ⟨S6, row2, d1, d2, d3, d4, d5, d6⟩ := mo_all false c2 (c4 r2 ey)
          have d1 : f_Mo_goesAll 408 0 S5' = some (nI (zcw w false r2).1, S6) := d1
          have d5 : (zcw w false r2).1 = 0 → row2 = (zcw w false r2).2.1 := fun q => (d5 q).1
          by_cases q2 : (zcw w false r2).1 = 0
          · rw [if_pos q2]
            have z := d5 q2
            subst z
            have ee2 : nI (zcw w false r2).1 = 0 := by rw [q2]; rfl
            rw [ee2] at d1
            have ot : pOth S6 408 (zcw w false r1).2.1 := by
              obtain ⟨o1, o2, o3, o4⟩ := b4
              have eI : ∀ b j, (b = 408 ∧ j = 56) ∨ b = 438 → zI S6 b j = zI S4 b j := fun b j qq => by
                rw [fr_I d6 (by unfold wGA; omega), fr_I c2x (by omega)]
              exact ⟨by rw [eI _ _ (Or.inl ⟨rfl, rfl⟩)]; exact o1, fun k hk => by rw [eI _ _ (Or.inr (by omega))]; exact o2 k hk, o3, o4⟩
            obtain ⟨S7, z1, z2⟩ := m_changes d2.1.1 ot d4
            obtain ⟨v1, v2⟩ := mo_keep d2 z2 (fun b j q => by unfold wMs; omega) (by omega) (by omega)
            rw [go]
            exact ⟨S7, by simp [F_Mo_apart_98, -Prod.exists, -Prod.forall, ↓bb_gf, ↓bb_gr, ↓bb_len, ↓bb_ga, ↓bb_gl, ↓bb_go, ↓bb_pf, ↓bb_pz, ↓bb_pr, ↓bb_pa, ↓bb_pb, ↓bb_pl, ↓bb_po, ↓bb_cl, ↓bb_some, ↓bb_RI, ↓bb_RJ, mm_hI, mm_hJ, mm_hR, mm_nI, mm_nJ, mm_nR, mm_sI, mm_sJ, mm_sR, mm_RI, mm_RJ, mm_IJ, mm_IR, mm_JI, mm_JR, mm_II, mm_JJ, mm_RR, b2.1.1.1, ↓bS c1, c2.1.1.1, ↓bS d1, d2.1.1.1, ↓bS z1, zan] <;> rfl, v1, fr_trans e2 (fr_trans l3 (fr_trans k3 (fr_trans a3 (fr_trans b3 (fr_trans c3 (fr_trans d3 v2))))))⟩
          · rw [if_neg q2]
            have cc := zcw_code w false r2
            obtain ⟨x0, x1, x2⟩ := mo_no d2 (n := (zcw w false r2).1) (by omega)
            have nz := zcw_nz q2
            rw [go]
            exact ⟨_, by simp [F_Mo_apart_98, -Prod.exists, -Prod.forall, ↓bb_gf, ↓bb_gr, ↓bb_len, ↓bb_ga, ↓bb_gl, ↓bb_go, ↓bb_pf, ↓bb_pz, ↓bb_pr, ↓bb_pa, ↓bb_pb, ↓bb_pl, ↓bb_po, ↓bb_cl, ↓bb_some, ↓bb_RI, ↓bb_RJ, mm_hI, mm_hJ, mm_hR, mm_nI, mm_nJ, mm_nR, mm_sI, mm_sJ, mm_sR, mm_RI, mm_RJ, mm_IJ, mm_IR, mm_JI, mm_JR, mm_II, mm_JJ, mm_RR, b2.1.1.1, ↓bS c1, c2.1.1.1, ↓bS d1, d2.1.1.1, nz, ↓bS x0, zrf] <;> rfl, x1, fr_trans e2 (fr_trans l3 (fr_trans k3 (fr_trans a3 (fr_trans b3 (fr_trans c3 (fr_trans d3 x2))))))⟩
        · rw [if_neg q1]
          have cc := zcw_code w false r1
          obtain ⟨x0, x1, x2⟩ := mo_no a2 (n := (zcw w false r1).1) (by omega)
          have nz := zcw_nz q1
          exact ⟨_, by simp [f_Mo_apart, -Prod.exists, -Prod.forall, ↓bb_gf, ↓bb_gr, ↓bb_len, ↓bb_ga, ↓bb_gl, ↓bb_go, ↓bb_pf, ↓bb_pz, ↓bb_pr, ↓bb_pa, ↓bb_pb, ↓bb_pl, ↓bb_po, ↓bb_cl, ↓bb_some, ↓bb_RI, ↓bb_RJ, mm_hI, mm_hJ, mm_hR, mm_nI, mm_nJ, mm_nR, mm_sI, mm_sJ, mm_sR, mm_RI, mm_RJ, mm_IJ, mm_IR, mm_JI, mm_JR, mm_II, mm_JJ, mm_RR, h8, ↓bS e0, g8, h9, ↓bS l1, l2.1.1.1, ↓bS k1, k2.1.1.1, ↓bS a1, a2.1.1.1, nz, ↓bS x0, zrf] <;> rfl, x1, fr_trans e2 (fr_trans l3 (fr_trans k3 (fr_trans a3 x2)))⟩
