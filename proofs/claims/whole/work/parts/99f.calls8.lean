/-! carrying -/
theorem loop_st {β : Type} {N : Nat} (hN : N < 1000000) (Lf : Nat → Nat → zM → Option β) (K : zM → Option β) {W : Nat → Nat → Prop} {S0 : zM} (st : Nat → zM → zM) (P : Nat → zM → Prop)
    (h0 : ∀ F S, zfr W S0 S → Lf (F + 1) N S = K S) (h1 : ∀ F i S, i < N → zfr W S0 S → Lf (F + 1) i S = Lf F (i + 1) (st i S))
    (hf : ∀ i S, i < N → zfr W S (st i S)) (hv : ∀ i S, i < N → zfr W S0 S → P i (st i S)) (hk : ∀ i j S, i < j → j < N → P i S → P i (st j S)) : ∃ S', Lf zF 0 S0 = K S' ∧ zfr W S0 S' ∧ ∀ i, i < N → P i S' := by
  refine loop_g (N := N) hN (fun F (_ : Unit) i S => Lf F i S) (fun _ i S => zfr W S0 S ∧ ∀ k, k < i → P k S) (fun o => ∃ S', o = K S' ∧ zfr W S0 S' ∧ ∀ i, i < N → P i S') ?_ ?_ () 0 S0 (by omega) ⟨fr_refl _ _, fun k q => by omega⟩
  · rintro F _ S ⟨a, b⟩
    exact ⟨S, h0 F S a, a, b⟩
  · rintro F _ i S hi ⟨a, b⟩ ih
    show ∃ S', Lf (F + 1) i S = _ ∧ _
    rw [h1 F i S hi a]
    exact ih () _ ⟨fr_trans a (hf i S hi), fun k q => by
      by_cases e : k = i
      · subst e; exact hv k S hi a
      · exact hk k i S (by omega) hi (b k (by omega))⟩
section
variable {S : zM} {w : zWs} {T U : Nat}
def zcw (w : zWs) (tn : Bool) (row : List Nat) : Nat × List Nat × (Nat → List Nat) × (Nat → Nat) × List Nat := zcar (wSc w).2.2 (wAs w) tn row
/-- the helper carries -/
theorem cl_bring (tn : Bool) (hm : cMn S w T U) (hs : cSr S) {r n : Nat} {row : List Nat} (hr : pRow S r n row) (hrr : r = 33 ∨ r = 35) (h60 : row.length ≤ 60) : ∃ S' x, f_Carrier_bring 19 T r (if tn then 1 else 0) S = some (nI (zcw w tn row).1, S') ∧ zfq (rg 19 33) (vPd 19) S S' ∧ cMn S' w T U ∧ cSr S' ∧ zh S' 19 = (1, 0) ∧ zR S' 19 3 = some x ∧ (x = 23 ∨ x = 25) ∧ ((zcw w tn row).1 = 0 → pRow S' x 60 (zcw w tn row).2.1) := by
  obtain ⟨⟨x0, y0, hc⟩, ⟨w1, r1⟩, ⟨w2, r2⟩, ⟨w3, r3⟩, hp⟩ := hs
  have hTU := hm.1.2.2.2.2.2.2.2.2.2.2.2.2.2.2.2.2.2.2.2.1
  obtain ⟨S', x, y, b1, b2, b3, b4, b5⟩ := bring tn hm.2.2.1.1 (by omega) hc hr (by omega) h60
  have hx3 : zR S' 19 3 = some x := b3.1.2.2.2.2.2.2.2.2.1
  have hxr : (x = 19 + 4 ∧ y = 19 + 6) ∨ (x = 19 + 6 ∧ y = 19 + 4) := b3.1.2.2.2.2.2.2.2.2.2.2
  have sm : zsm 33 62 S S' := sm_fq b2 (fun b j h1 h2 => ⟨by unfold rg; omega, by unfold vPd; omega⟩)
  have hp' : sPcs S' 40 := by
    unfold sPcs at hp ⊢
    obtain ⟨s1, s2, s3, s4, s5, s6, s7, s8, s9, s10, s11, s12⟩ := hp
    have eR : ∀ b j, 33 ≤ b → b < 62 → zR S' b j = zR S b j := fun b j a c => (sm.2 b j a c).1
    refine ⟨by rw [sm.1]; exact s1, by rw [eR _ _ (by omega) (by omega)]; exact s2, by rw [sm.1]; exact s3, by rw [eR _ _ (by omega) (by omega)]; exact s4, by rw [sm.1]; exact s5, by rw [eR _ _ (by omega) (by omega)]; exact s6, by rw [sm.1]; exact s7, by rw [eR _ _ (by omega) (by omega)]; exact s8, by rw [sm.1]; exact s9, by rw [eR _ _ (by omega) (by omega)]; exact s10, by rw [sm.1]; exact s11, fun l hl => ⟨by rw [eR _ _ (by omega) (by omega)]; exact (s12 l hl).1, row_sm (s12 l hl).2 sm (by omega) (by omega)⟩⟩
  refine ⟨S', x, b1, b2, cMn_sr hm b2 (fun b j q => by unfold rg at q; unfold wSr; omega) (fun b j q => by unfold vPd at q; unfold vSr; omega), ⟨⟨x, y, b3⟩, ⟨w1, row_sm r1 sm (by omega) (by omega)⟩, ⟨w2, row_sm r2 sm (by omega) (by omega)⟩, ⟨w3, row_sm r3 sm (by omega) (by omega)⟩, hp'⟩, b3.1.1, hx3, by omega, fun q => (b5 q).1⟩
theorem car_sr {b j : Nat} (q : rg 19 33 b j) : wSr b j := by unfold rg at q; unfold wSr; omega
theorem car_vr {b j : Nat} (q : vPd 19 b j) : vSr b j := by unfold vPd at q; unfold vSr; omega
/-- the reference carries -/
theorem mo_all (tn : Bool) (h : pMo S w) {row : List Nat} (hn : pNow S 408 row) : ∃ S' row', f_Mo_goesAll 408 (if tn then 1 else 0) S = some (nI (zcw w tn row).1, S') ∧ pMo S' w ∧ zfr wMo S S' ∧ pNow S' 408 row' ∧ ((zcw w tn row).1 = 0 → row' = (zcw w tn row).2.1 ∧ mSv S' 408 (zcw w tn row).2.2.2.2 ∧ ∀ q, q < (wSc w).2.2.length → mBh S' 408 q ((zcw w tn row).2.2.1 q) ((zcw w tn row).2.2.2.1 q)) ∧ zfr (wGA 408) S S' := by
  obtain ⟨S', row', a, b, c, d⟩ := m_all_ tn h.1.1 h.1.2.1 hn
  obtain ⟨k1, k2⟩ := mo_keep h b (fun b j q => by unfold wGA at q; unfold wMs; omega) (by unfold wGA; omega) (by unfold wGA; omega)
  exact ⟨S', row', a, k1, k2, c, d, b⟩
theorem zcw_code (w : zWs) (tn : Bool) (row : List Nat) : (zcw w tn row).1 = 0 ∨ (zcw w tn row).1 = 6 ∨ (zcw w tn row).1 = 7 := car_code _ _ _ _
theorem zcw_nz {w : zWs} {tn : Bool} {row : List Nat} (h : ¬ (zcw w tn row).1 = 0) : ¬ nI (zcw w tn row).1 = 0 := by
  have := zcw_code w tn row
  exact fun q => h ((nI_eq (b := 0) (by omega) (by omega)).1 q)
end
/-- turned: how, and the row -/
def zti (x : Int64) (w : zWs) : Nat × List Nat := if (wSc w).2.2.length = 0 then (1, []) else match zwl x with
  | none => (2, [])
  | some row => ((zcw w true row).1, (zcw w true row).2.1)
theorem zti_code (x : Int64) (w : zWs) : (zti x w).1 < 8 ∧ (zti x w).1 ≠ 4 := by
  unfold zti
  split
  · exact ⟨by decide, by decide⟩
  · split
    · exact ⟨by decide, by decide⟩
    · rename_i row _
      have := zcw_code w true row
      simp only
      omega
theorem cl_ti {S : zM} {w : zWs} {T U : Nat} (hm : cMn S w T U) (hs : cSr S) (ho : okW w) (x : Int64) : ∃ S', f_Cl_bringTurned 1 x S = some (nI (zti x w).1, S') ∧ zfq wSr vSr S S' ∧ cMn S' w T U ∧ cSr S' ∧ ((zti x w).1 = 0 → zh S' 19 = (1, 0) ∧ ∃ a, zR S' 19 3 = some a ∧ (a = 23 ∨ a = 25) ∧ pRow S' a 60 (zti x w).2) := by
  have ns := cl_ns hm ho
  have h1 := hm.1.1
  unfold zti
  by_cases q : (wSc w).2.2.length = 0
  · rw [if_pos q] at ns ⊢
    exact ⟨S, by simp [f_Cl_bringTurned, -Prod.exists, -Prod.forall, ↓bb_gf, ↓bb_gr, ↓bb_len, ↓bb_ga, ↓bb_gl, ↓bb_go, ↓bb_pf, ↓bb_pz, ↓bb_pr, ↓bb_pa, ↓bb_pb, ↓bb_pl, ↓bb_po, ↓bb_cl, ↓bb_some, ↓bb_RI, ↓bb_RJ, mm_hI, mm_hJ, mm_hR, mm_nI, mm_nJ, mm_nR, mm_sI, mm_sJ, mm_sR, mm_RI, mm_RJ, mm_IJ, mm_IR, mm_JI, mm_JR, mm_II, mm_JJ, mm_RR, h1, ↓bS ns] <;> rfl, fq_refl _ _ _, hm, hs, fun q => by cases q⟩
  · rw [if_neg q] at ns ⊢
    obtain ⟨S2, us, t1, t2, t3, t4, t5, t6⟩ := cl_take hm hs x
    have g := sr_step (fq_refl wSr vSr S) t2 (fun b j q => by unfold rg at q; unfold wSr; omega)
    have h33 : zh S 33 = (8, 0) := by obtain ⟨_, ⟨ws, r⟩, _⟩ := hs; exact r.1
    cases ex : zwl x with
    | none =>
      rw [ex] at t1
      simp only [Option.isSome_none, Bool.false_eq_true, if_false] at t1
      exact ⟨S2, by simp [f_Cl_bringTurned, -Prod.exists, -Prod.forall, ↓bb_gf, ↓bb_gr, ↓bb_len, ↓bb_ga, ↓bb_gl, ↓bb_go, ↓bb_pf, ↓bb_pz, ↓bb_pr, ↓bb_pa, ↓bb_pb, ↓bb_pl, ↓bb_po, ↓bb_cl, ↓bb_some, ↓bb_RI, ↓bb_RJ, mm_hI, mm_hJ, mm_hR, mm_nI, mm_nJ, mm_nR, mm_sI, mm_sJ, mm_sR, mm_RI, mm_RJ, mm_IJ, mm_IR, mm_JI, mm_JR, mm_II, mm_JJ, mm_RR, h1, ↓bS ns, ↓bS (r_tak hm), h33, ↓bS t1] <;> rfl, g, t5, t6, fun q => by cases q⟩
    | some row =>
      rw [ex] at t1
      simp only [Option.isSome_some, if_true] at t1
      have := t4 row ex
      subst this
      have r8 := (wl_w ex).2.1
      obtain ⟨S3, a, b1, b2, b3, b4, b5, b6, b7, b8⟩ := cl_bring true t5 t6 t3 (Or.inl rfl) (by omega)
      simp only [if_true] at b1
      have h19 : zh S2 19 = (1, 0) := by obtain ⟨⟨_, _, r⟩, _⟩ := t6; exact r.1.1
      exact ⟨S3, by simp [f_Cl_bringTurned, -Prod.exists, -Prod.forall, ↓bb_gf, ↓bb_gr, ↓bb_len, ↓bb_ga, ↓bb_gl, ↓bb_go, ↓bb_pf, ↓bb_pz, ↓bb_pr, ↓bb_pa, ↓bb_pb, ↓bb_pl, ↓bb_po, ↓bb_cl, ↓bb_some, ↓bb_RI, ↓bb_RJ, mm_hI, mm_hJ, mm_hR, mm_nI, mm_nJ, mm_nR, mm_sI, mm_sJ, mm_sR, mm_RI, mm_RJ, mm_IJ, mm_IR, mm_JI, mm_JR, mm_II, mm_JJ, mm_RR, h1, ↓bS ns, ↓bS (r_tak hm), h33, ↓bS t1, t5.1.1, ↓bS (r_hel t5), ↓bS (r_told t5), ↓bS (r_tak t5), h19, ↓bS b1] <;> rfl, fq_trans g (fq_mono b2 (fun b j q => car_sr q) (fun b j q => car_vr q)), b3, b4, fun q => ⟨b5, a, b6, b7, b8 q⟩⟩
theorem mo_ti {S : zM} {w : zWs} (h : pMo S w) (x : Int64) : ∃ S', f_Mo_goesTurned 408 x S = some (nI (zti x w).1, S') ∧ pMo S' w ∧ zfr wMo S S' ∧ ((zti x w).1 = 0 → pNow S' 408 (zti x w).2) := by
  have h9 := h.1.2.1.2.2.2.1
  have h8 := h.1.1.1
  unfold zti
  by_cases q : (wSc w).2.2.length = 0
  · rw [if_pos q] at h9 ⊢
    exact ⟨S, by simp [f_Mo_goesTurned, -Prod.exists, -Prod.forall, ↓bb_gf, ↓bb_gr, ↓bb_len, ↓bb_ga, ↓bb_gl, ↓bb_go, ↓bb_pf, ↓bb_pz, ↓bb_pr, ↓bb_pa, ↓bb_pb, ↓bb_pl, ↓bb_po, ↓bb_cl, ↓bb_some, ↓bb_RI, ↓bb_RJ, mm_hI, mm_hJ, mm_hR, mm_nI, mm_nJ, mm_nR, mm_sI, mm_sJ, mm_sR, mm_RI, mm_RJ, mm_IJ, mm_IR, mm_JI, mm_JR, mm_II, mm_JJ, mm_RR, h8, h9] <;> rfl, h, fr_refl _ _, fun q => by cases q⟩
  · rw [if_neg q] at h9 ⊢
    obtain ⟨S1, l1, l2, l3, l4⟩ := mo_letters h x
    cases ex : zwl x with
    | none =>
      rw [ex] at l1
      simp only [Option.isSome_none, Bool.false_eq_true, if_false] at l1
      exact ⟨S1, by simp [f_Mo_goesTurned, -Prod.exists, -Prod.forall, ↓bb_gf, ↓bb_gr, ↓bb_len, ↓bb_ga, ↓bb_gl, ↓bb_go, ↓bb_pf, ↓bb_pz, ↓bb_pr, ↓bb_pa, ↓bb_pb, ↓bb_pl, ↓bb_po, ↓bb_cl, ↓bb_some, ↓bb_RI, ↓bb_RJ, mm_hI, mm_hJ, mm_hR, mm_nI, mm_nJ, mm_nR, mm_sI, mm_sJ, mm_sR, mm_RI, mm_RJ, mm_IJ, mm_IR, mm_JI, mm_JR, mm_II, mm_JJ, mm_RR, h8, h9, ↓bS l1] <;> rfl, l2, l3, fun q => by cases q⟩
    | some row =>
      rw [ex] at l1
      simp only [Option.isSome_some, if_true] at l1
      obtain ⟨S2, row', a1, a2, a3, a4, a5, _⟩ := mo_all true l2 (l4 row ex)
      simp only [if_true] at a1
      exact ⟨S2, by simp [f_Mo_goesTurned, -Prod.exists, -Prod.forall, ↓bb_gf, ↓bb_gr, ↓bb_len, ↓bb_ga, ↓bb_gl, ↓bb_go, ↓bb_pf, ↓bb_pz, ↓bb_pr, ↓bb_pa, ↓bb_pb, ↓bb_pl, ↓bb_po, ↓bb_cl, ↓bb_some, ↓bb_RI, ↓bb_RJ, mm_hI, mm_hJ, mm_hR, mm_nI, mm_nJ, mm_nR, mm_sI, mm_sJ, mm_sR, mm_RI, mm_RJ, mm_IJ, mm_IR, mm_JI, mm_JR, mm_II, mm_JJ, mm_RR, h8, h9, ↓bS l1, l2.1.1.1, ↓bS a1] <;> rfl, a2, fr_trans l3 a3, fun q => by have z := (a5 q).1; subst z; exact a4⟩
def sp_turned (x : Int64) (w : zWs) : Int32 × zWs := if (zti x w).1 = 0 then zan w (nI (zti x w).2.length) else zrf w (zti x w).1
def sp_turnedOut (x : Int64) (k : Int32) (w : zWs) : Int32 × zWs := if (zti x w).1 = 0 then zLt (zti x w).2 k w else zrf w (zti x w).1
theorem hk_turned (x : Int64) : zHk (sp_turned x) := hk_tr (fun w ho => by
  unfold sp_turned
  split
  · exact ⟨0, by omega, rfl⟩
  · exact ⟨_, (zti_code x w).1, rfl⟩)
theorem hk_turnedOut (x : Int64) (k : Int32) : zHk (sp_turnedOut x k) := hk_tr (fun w ho => by
  unfold sp_turnedOut
  split
  · exact lt_tr _ _ _
  · exact ⟨_, (zti_code x w).1, rfl⟩)
theorem hc_turned (x : Int64) : zHc (f_Cl_turned 1 x) (sp_turned x) := fun S w h ho => by
  obtain ⟨T, U, hm, hs, ht⟩ := h; have h1 := hm.1.1; have r10 := r_told hm; have hS := hm.2.2.1.1; obtain ⟨e0, e1⟩ := hc_same hm hs 0; obtain ⟨f0, f1⟩ := hc_same hm hs 1; have h3 := ho.2.2.2.2.2.2.2.2.1
  obtain ⟨S1, t1, t2, t3, t4, t5⟩ := cl_ti hm hs ho x
  have tc := zti_code x w
  unfold sp_turned
  by_cases q : (zti x w).1 = 0
  · rw [if_pos q]
    obtain ⟨t6, a, t7, t8, t9⟩ := t5 q
    obtain ⟨y1, y2⟩ := hc_end hm t2 (fun b j q => q) (fun b j q => q) t4 0
    have e : nI (zti x w).1 = 0 := by rw [q]; rfl
    rw [e] at t1
    exact ⟨_, by simp [f_Cl_turned, -Prod.exists, -Prod.forall, ↓bb_gf, ↓bb_gr, ↓bb_len, ↓bb_ga, ↓bb_gl, ↓bb_go, ↓bb_pf, ↓bb_pz, ↓bb_pr, ↓bb_pa, ↓bb_pb, ↓bb_pl, ↓bb_po, ↓bb_cl, ↓bb_some, ↓bb_RI, ↓bb_RJ, mm_hI, mm_hJ, mm_hR, mm_nI, mm_nJ, mm_nR, mm_sI, mm_sJ, mm_sR, mm_RI, mm_RJ, mm_IJ, mm_IR, mm_JI, mm_JR, mm_II, mm_JJ, mm_RR, h1, ↓bS t1, t3.1.1, ↓bS (r_hel t3), t6, ↓bS t7, t9.1, t9.2.2.2.2.2.1, ↓bS (cl_answer t3.1.1 _), zan] <;> rfl, y1, y2⟩
  · rw [if_neg q]
    obtain ⟨y1, y2⟩ := hc_end hm t2 (fun b j q => q) (fun b j q => q) t4 (zti x w).1
    have e : ¬ nI (zti x w).1 = 0 := fun v => q ((nI_eq (b := 0) (by omega) (by omega)).1 v)
    exact ⟨_, by simp [f_Cl_turned, -Prod.exists, -Prod.forall, ↓bb_gf, ↓bb_gr, ↓bb_len, ↓bb_ga, ↓bb_gl, ↓bb_go, ↓bb_pf, ↓bb_pz, ↓bb_pr, ↓bb_pa, ↓bb_pb, ↓bb_pl, ↓bb_po, ↓bb_cl, ↓bb_some, ↓bb_RI, ↓bb_RJ, mm_hI, mm_hJ, mm_hR, mm_nI, mm_nJ, mm_nR, mm_sI, mm_sJ, mm_sR, mm_RI, mm_RJ, mm_IJ, mm_IR, mm_JI, mm_JR, mm_II, mm_JJ, mm_RR, h1, ↓bS t1, e, t3.1.1, ↓bS (cl_refuse t3.1.1 _), zrf] <;> rfl, y1, y2⟩
theorem ko_sr {S S' : zM} (g : zfq wSr vSr S S') : zko S S' ∧ zrm S S' := ⟨ko_fq g (fun b j q => by unfold wSr vSr at q; omega), Or.inl ⟨fq_R g (by unfold vSr; omega), fq_n g, fq_s g⟩⟩
theorem rm_sr {S S' S'' : zM} (g : zfq wSr vSr S S') (h : zrm S' S'') : zrm S S'' := by
  have e := fq_R g (b := 1) (j := 12) (by unfold vSr; omega)
  unfold zrm at h ⊢
  rw [e, fq_n g, fq_s g] at h
  exact h
theorem hc_turnedOut (x : Int64) (k : Int32) : zHc (f_Cl_turnedOut 1 x k) (sp_turnedOut x k) := fun S w h ho => by
  obtain ⟨T, U, hm, hs, ht⟩ := h; have h1 := hm.1.1; have r10 := r_told hm; have hS := hm.2.2.1.1; obtain ⟨e0, e1⟩ := hc_same hm hs 0; obtain ⟨f0, f1⟩ := hc_same hm hs 1; have h3 := ho.2.2.2.2.2.2.2.2.1
  obtain ⟨S1, t1, t2, t3, t4, t5⟩ := cl_ti hm hs ho x
  have tc := zti_code x w
  unfold sp_turnedOut
  by_cases q : (zti x w).1 = 0
  · rw [if_pos q]
    obtain ⟨t6, a, t7, t8, t9⟩ := t5 q
    obtain ⟨S', r1, r2, r3, r4⟩ := cl_letter t3 t4 t9 k
    have e : nI (zti x w).1 = 0 := by rw [q]; rfl
    rw [e] at t1
    exact ⟨S', by simp [f_Cl_turnedOut, -Prod.exists, -Prod.forall, ↓bb_gf, ↓bb_gr, ↓bb_len, ↓bb_ga, ↓bb_gl, ↓bb_go, ↓bb_pf, ↓bb_pz, ↓bb_pr, ↓bb_pa, ↓bb_pb, ↓bb_pl, ↓bb_po, ↓bb_cl, ↓bb_some, ↓bb_RI, ↓bb_RJ, mm_hI, mm_hJ, mm_hR, mm_nI, mm_nJ, mm_nR, mm_sI, mm_sJ, mm_sR, mm_RI, mm_RJ, mm_IJ, mm_IR, mm_JI, mm_JR, mm_II, mm_JJ, mm_RR, h1, ↓bS t1, t3.1.1, ↓bS (r_hel t3), t6, ↓bS t7, ↓bS r1] <;> rfl, r2, ko_trans (ko_sr t2).1 r3, rm_sr t2 r4⟩
  · rw [if_neg q]
    obtain ⟨y1, y2⟩ := hc_end hm t2 (fun b j q => q) (fun b j q => q) t4 (zti x w).1
    have e : ¬ nI (zti x w).1 = 0 := fun v => q ((nI_eq (b := 0) (by omega) (by omega)).1 v)
    exact ⟨_, by simp [f_Cl_turnedOut, -Prod.exists, -Prod.forall, ↓bb_gf, ↓bb_gr, ↓bb_len, ↓bb_ga, ↓bb_gl, ↓bb_go, ↓bb_pf, ↓bb_pz, ↓bb_pr, ↓bb_pa, ↓bb_pb, ↓bb_pl, ↓bb_po, ↓bb_cl, ↓bb_some, ↓bb_RI, ↓bb_RJ, mm_hI, mm_hJ, mm_hR, mm_nI, mm_nJ, mm_nR, mm_sI, mm_sJ, mm_sR, mm_RI, mm_RJ, mm_IJ, mm_IR, mm_JI, mm_JR, mm_II, mm_JJ, mm_RR, h1, ↓bS t1, e, t3.1.1, ↓bS (cl_refuse t3.1.1 _), zrf] <;> rfl, y1, y2⟩
theorem hm_turned (x : Int64) : zHm (f_Mo_turned 408 x) (sp_turned x) := fun S w h ho => by
  obtain ⟨e0, e1, e2⟩ := mo_fresh h; obtain ⟨n0, n1, n2⟩ := mo_no e1 (n := 1) (by omega); have n0' : f_Mo_no 408 1 (zfs S) = some (-1, zwI (zfs S) 408 1 (nI 1)) := n0; have hc := e1.1; have h8 := h.1.1.1; have g8 := hc.1.1; have h3 := ho.2.2.2.2.2.2.2.2.1; have ho' : okW (sTr w 0) := okW_tr ho (by omega)
  obtain ⟨S1, t1, t2, t3, t4⟩ := mo_ti e1 x
  have t1 : f_Mo_goesTurned 408 x (zfs S) = some (nI (zti x w).1, S1) := t1
  have tc := zti_code x w
  unfold sp_turned
  by_cases q : (zti x w).1 = 0
  · rw [if_pos q]
    have t5 : pNow S1 408 (zti x w).2 := t4 q
    have e : nI (zti x w).1 = 0 := by rw [q]; rfl
    rw [e] at t1
    exact ⟨S1, by simp [f_Mo_turned, -Prod.exists, -Prod.forall, ↓bb_gf, ↓bb_gr, ↓bb_len, ↓bb_ga, ↓bb_gl, ↓bb_go, ↓bb_pf, ↓bb_pz, ↓bb_pr, ↓bb_pa, ↓bb_pb, ↓bb_pl, ↓bb_po, ↓bb_cl, ↓bb_some, ↓bb_RI, ↓bb_RJ, mm_hI, mm_hJ, mm_hR, mm_nI, mm_nJ, mm_nR, mm_sI, mm_sJ, mm_sR, mm_RI, mm_RJ, mm_IJ, mm_IR, mm_JI, mm_JR, mm_II, mm_JJ, mm_RR, h8, ↓bS e0, g8, ↓bS t1, t2.1.1.1, t5.1, zan] <;> rfl, t2, fr_trans e2 t3⟩
  · rw [if_neg q]
    obtain ⟨m0, m1, m2⟩ := mo_no t2 (n := (zti x w).1) tc.2
    have e : ¬ nI (zti x w).1 = 0 := fun v => q ((nI_eq (b := 0) (by omega) (by omega)).1 v)
    exact ⟨_, by simp [f_Mo_turned, -Prod.exists, -Prod.forall, ↓bb_gf, ↓bb_gr, ↓bb_len, ↓bb_ga, ↓bb_gl, ↓bb_go, ↓bb_pf, ↓bb_pz, ↓bb_pr, ↓bb_pa, ↓bb_pb, ↓bb_pl, ↓bb_po, ↓bb_cl, ↓bb_some, ↓bb_RI, ↓bb_RJ, mm_hI, mm_hJ, mm_hR, mm_nI, mm_nJ, mm_nR, mm_sI, mm_sJ, mm_sR, mm_RI, mm_RJ, mm_IJ, mm_IR, mm_JI, mm_JR, mm_II, mm_JJ, mm_RR, h8, ↓bS e0, g8, ↓bS t1, e, t2.1.1.1, ↓bS m0, zrf] <;> rfl, m1, fr_trans e2 (fr_trans t3 m2)⟩
theorem hm_turnedOut (x : Int64) (k : Int32) : zHm (f_Mo_turnedOut 408 x k) (sp_turnedOut x k) := fun S w h ho => by
  obtain ⟨e0, e1, e2⟩ := mo_fresh h; obtain ⟨n0, n1, n2⟩ := mo_no e1 (n := 1) (by omega); have n0' : f_Mo_no 408 1 (zfs S) = some (-1, zwI (zfs S) 408 1 (nI 1)) := n0; have hc := e1.1; have h8 := h.1.1.1; have g8 := hc.1.1; have h3 := ho.2.2.2.2.2.2.2.2.1; have ho' : okW (sTr w 0) := okW_tr ho (by omega)
  obtain ⟨S1, t1, t2, t3, t4⟩ := mo_ti e1 x
  have t1 : f_Mo_goesTurned 408 x (zfs S) = some (nI (zti x w).1, S1) := t1
  have tc := zti_code x w
  unfold sp_turnedOut
  by_cases q : (zti x w).1 = 0
  · rw [if_pos q]
    have t5 : pNow S1 408 (zti x w).2 := t4 q
    have e : nI (zti x w).1 = 0 := by rw [q]; rfl
    rw [e] at t1
    have l60 := t5.2.2.2
    have z0 : (nI 0 : Int32) + k = k := by have : nI 0 = (0 : Int32) := rfl; rw [this]; exact Int32.zero_add k
    obtain ⟨S', r1, r2, r3⟩ := mo_lt (w := w) (b := 427) (o := 0) (N := 64) (n := 60) (xs := (zti x w).2) t2 (mh_now t2.1.1) l60 (by omega) (by omega) (fun k hk => by rw [Nat.zero_add]; exact t5.2.1 k hk) k (f := fun S1 => Option.bind (f_Mo_in k 0 (nI (zti x w).2.length - 1) S1) (fun p => if p.1 = 0 then Option.bind (zcl p.2 12 408 (f_Mo_no 408 1 p.2)) (fun q => some (q.1, q.2)) else Option.bind (zga p.2 100 427 k) (fun x => some (x, p.2)))) (by omega) (by simp only [z0])
    refine ⟨S', ?_, r2, fr_trans e2 (fr_trans t3 r3)⟩
    rw [← r1]
    have ik := m_in0 (S := S1) k (n := (zti x w).2.length) (by omega)
    simp [f_Mo_turnedOut, -Prod.exists, -Prod.forall, ↓bb_gf, ↓bb_gr, ↓bb_len, ↓bb_ga, ↓bb_gl, ↓bb_go, ↓bb_pf, ↓bb_pz, ↓bb_pr, ↓bb_pa, ↓bb_pb, ↓bb_pl, ↓bb_po, ↓bb_cl, ↓bb_some, ↓bb_RI, ↓bb_RJ, mm_hI, mm_hJ, mm_hR, mm_nI, mm_nJ, mm_nR, mm_sI, mm_sJ, mm_sR, mm_RI, mm_RJ, mm_IJ, mm_IR, mm_JI, mm_JR, mm_II, mm_JJ, mm_RR, h8, ↓bS e0, g8, ↓bS t1, t2.1.1.1, t5.1, ↓bS ik, ↓bS (mo_now t2.1.1)]
  · rw [if_neg q]
    obtain ⟨m0, m1, m2⟩ := mo_no t2 (n := (zti x w).1) tc.2
    have e : ¬ nI (zti x w).1 = 0 := fun v => q ((nI_eq (b := 0) (by omega) (by omega)).1 v)
    exact ⟨_, by simp [f_Mo_turnedOut, -Prod.exists, -Prod.forall, ↓bb_gf, ↓bb_gr, ↓bb_len, ↓bb_ga, ↓bb_gl, ↓bb_go, ↓bb_pf, ↓bb_pz, ↓bb_pr, ↓bb_pa, ↓bb_pb, ↓bb_pl, ↓bb_po, ↓bb_cl, ↓bb_some, ↓bb_RI, ↓bb_RJ, mm_hI, mm_hJ, mm_hR, mm_nI, mm_nJ, mm_nR, mm_sI, mm_sJ, mm_sR, mm_RI, mm_RJ, mm_IJ, mm_IR, mm_JI, mm_JR, mm_II, mm_JJ, mm_RR, h8, ↓bS e0, g8, ↓bS t1, e, t2.1.1.1, ↓bS m0, zrf] <;> rfl, m1, fr_trans e2 (fr_trans t3 m2)⟩
