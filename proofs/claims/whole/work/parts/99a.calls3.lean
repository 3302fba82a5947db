/-! kinds, passes, rules, letters -/
def sp_kind (a : Int32) (w : zWs) : Int32 × zWs := match zix a (wSc w).2.1.length with
  | some k => zan w (nI (lg (wSc w).2.1 k))
  | none => zrf w 1
theorem hk_kind (a : Int32) : zHk (sp_kind a) := hk_tr (fun w ho => by unfold sp_kind; repeat' split; all_goals first | exact ⟨0, by omega, rfl⟩ | exact ⟨1, by omega, rfl⟩ | exact ⟨2, by omega, rfl⟩ | exact ⟨5, by omega, rfl⟩)
theorem hc_kind (a : Int32) : zHc (f_Cl_kind 1 a) (sp_kind a) := fun S w h ho => by
  obtain ⟨T, U, hm, hs, ht⟩ := h; have h1 := hm.1.1; have r10 := r_told hm; have hS := hm.2.2.1.1; obtain ⟨e0, e1⟩ := hc_same hm hs 0; obtain ⟨f0, f1⟩ := hc_same hm hs 1; have h3 := ho.2.2.2.2.2.2.2.2.1
  have h4 := hS.2.2.2.2.2.2.2.1
  unfold sp_kind
  cases e : zix a (wSc w).2.1.length with
  | none =>
    simp only
    rcases ix_none e with q | ⟨j, rfl, hj, hn⟩
    · exact ⟨_, by simp [f_Cl_kind, -Prod.exists, -Prod.forall, ↓bb_gf, ↓bb_gr, ↓bb_len, ↓bb_ga, ↓bb_gl, ↓bb_go, ↓bb_pf, ↓bb_pz, ↓bb_pr, ↓bb_pa, ↓bb_pb, ↓bb_pl, ↓bb_po, ↓bb_cl, ↓bb_some, ↓bb_RI, ↓bb_RJ, mm_hI, mm_hJ, mm_hR, mm_nI, mm_nJ, mm_nR, mm_sI, mm_sJ, mm_sR, mm_RI, mm_RJ, mm_IJ, mm_IR, mm_JI, mm_JR, mm_II, mm_JJ, mm_RR, h1, q, ↓bS (cl_refuse h1 1), zrf] <;> rfl, f0, f1⟩
    · have l0 : ¬ nI j < 0 := nI_pos hj
      have l1 : ¬ nI j < nI (wSc w).2.1.length := by rw [nI_ltI hj (by omega)]; omega
      exact ⟨_, by simp [f_Cl_kind, -Prod.exists, -Prod.forall, ↓bb_gf, ↓bb_gr, ↓bb_len, ↓bb_ga, ↓bb_gl, ↓bb_go, ↓bb_pf, ↓bb_pz, ↓bb_pr, ↓bb_pa, ↓bb_pb, ↓bb_pl, ↓bb_po, ↓bb_cl, ↓bb_some, ↓bb_RI, ↓bb_RJ, mm_hI, mm_hJ, mm_hR, mm_nI, mm_nJ, mm_nR, mm_sI, mm_sJ, mm_sR, mm_RI, mm_RJ, mm_IJ, mm_IR, mm_JI, mm_JR, mm_II, mm_JJ, mm_RR, h1, l0, ↓bS r10, hS.1.1, hS.2.2.1, l1, ↓bS (cl_refuse h1 1), zrf] <;> rfl, f0, f1⟩
  | some k =>
    simp only
    obtain ⟨rfl, hk, hk2⟩ := ix_some e
    have l0 : ¬ nI k < 0 := nI_pos hk2
    have l1 : nI k < nI (wSc w).2.1.length := (nI_ltI hk2 (by omega)).2 hk
    have l2 : nI k < 4 := (nI_ltI (b := 4) hk2 (by omega)).2 (by omega)
    have z : zinb (nI k) 4 = true := (nn_in hk2).2 (by omega)
    have c : (nI k).toNatClampNeg = k := nI_clamp hk2
    have v := hS.2.2.2.2.1 k hk
    exact ⟨_, by simp [f_Cl_kind, -Prod.exists, -Prod.forall, ↓bb_gf, ↓bb_gr, ↓bb_len, ↓bb_ga, ↓bb_gl, ↓bb_go, ↓bb_pf, ↓bb_pz, ↓bb_pr, ↓bb_pa, ↓bb_pb, ↓bb_pl, ↓bb_po, ↓bb_cl, ↓bb_some, ↓bb_RI, ↓bb_RJ, mm_hI, mm_hJ, mm_hR, mm_nI, mm_nJ, mm_nR, mm_sI, mm_sJ, mm_sR, mm_RI, mm_RJ, mm_IJ, mm_IR, mm_JI, mm_JR, mm_II, mm_JJ, mm_RR, h1, l0, ↓bS r10, hS.1.1, hS.2.2.1, l1, l2, ↓bS hS.1.2.2.2.1, hS.1.2.2.2.2.1, z, c, v, ↓bS (cl_answer h1 _), zan] <;> rfl, e0, e1⟩
theorem hm_kind (a : Int32) : zHm (f_Mo_kind 408 a) (sp_kind a) := fun S w h ho => by
  obtain ⟨e0, e1, e2⟩ := mo_fresh h; obtain ⟨n0, n1, n2⟩ := mo_no e1 (n := 1) (by omega); have n0' : f_Mo_no 408 1 (zfs S) = some (-1, zwI (zfs S) 408 1 (nI 1)) := n0; have hc := e1.1; have h8 := h.1.1.1; have g8 := hc.1.1; have h3 := ho.2.2.2.2.2.2.2.2.1; have ho' : okW (sTr w 0) := okW_tr ho (by omega)
  have v9 : zI (zfs S) 408 9 = (if (wSc w).2.2.length = 0 then 0 else 1) := hc.2.1.2.2.2.1
  have h4 : (wSc w).2.1.length ≤ 4 := hc.2.1.2.2.2.2.2.2.2.2.2.2.1
  have v7 : zI (zfs S) 408 7 = nI (wSc w).2.1.length := hc.2.1.2.1
  have i0 := m_in0 (S := zfs S) a (n := (wSc w).2.1.length) (by omega)
  unfold sp_kind
  by_cases q : (wSc w).2.2.length = 0
  · rw [if_pos q] at v9
    have ek : (wSc w).2.1 = [] := ho.2.2.2.2.2.2.2.1 q
    have e : zix a (wSc w).2.1.length = none := by rw [ek]; unfold zix; split <;> rfl
    rw [e]
    exact ⟨_, by simp [f_Mo_kind, -Prod.exists, -Prod.forall, ↓bb_gf, ↓bb_gr, ↓bb_len, ↓bb_ga, ↓bb_gl, ↓bb_go, ↓bb_pf, ↓bb_pz, ↓bb_pr, ↓bb_pa, ↓bb_pb, ↓bb_pl, ↓bb_po, ↓bb_cl, ↓bb_some, ↓bb_RI, ↓bb_RJ, mm_hI, mm_hJ, mm_hR, mm_nI, mm_nJ, mm_nR, mm_sI, mm_sJ, mm_sR, mm_RI, mm_RJ, mm_IJ, mm_IR, mm_JI, mm_JR, mm_II, mm_JJ, mm_RR, h8, ↓bS e0, g8, v9, ↓bS n0', zrf] <;> rfl, n1, fr_trans e2 n2⟩
  · rw [if_neg q] at v9
    cases e : zix a (wSc w).2.1.length with
    | none =>
      rw [e] at i0
      simp only [Option.isSome_none, Bool.false_eq_true, if_false] at i0
      exact ⟨_, by simp [f_Mo_kind, -Prod.exists, -Prod.forall, ↓bb_gf, ↓bb_gr, ↓bb_len, ↓bb_ga, ↓bb_gl, ↓bb_go, ↓bb_pf, ↓bb_pz, ↓bb_pr, ↓bb_pa, ↓bb_pb, ↓bb_pl, ↓bb_po, ↓bb_cl, ↓bb_some, ↓bb_RI, ↓bb_RJ, mm_hI, mm_hJ, mm_hR, mm_nI, mm_nJ, mm_nR, mm_sI, mm_sJ, mm_sR, mm_RI, mm_RJ, mm_IJ, mm_IR, mm_JI, mm_JR, mm_II, mm_JJ, mm_RR, h8, ↓bS e0, g8, v9, v7, ↓bS i0, ↓bS n0', zrf] <;> rfl, n1, fr_trans e2 n2⟩
    | some k =>
      rw [e] at i0
      simp only [Option.isSome_some, if_true] at i0
      obtain ⟨rfl, hk, hk2⟩ := ix_some e
      have z : zinb (nI k) 4 = true := (nn_in hk2).2 (by omega)
      have c : (nI k).toNatClampNeg = k := nI_clamp hk2
      have v : zI (zfs S) (408 + 2) k = nI (lg (wSc w).2.1 k) := hc.2.1.2.2.2.2.1 k hk
      exact ⟨_, by simp [f_Mo_kind, -Prod.exists, -Prod.forall, ↓bb_gf, ↓bb_gr, ↓bb_len, ↓bb_ga, ↓bb_gl, ↓bb_go, ↓bb_pf, ↓bb_pz, ↓bb_pr, ↓bb_pa, ↓bb_pb, ↓bb_pl, ↓bb_po, ↓bb_cl, ↓bb_some, ↓bb_RI, ↓bb_RJ, mm_hI, mm_hJ, mm_hR, mm_nI, mm_nJ, mm_nR, mm_sI, mm_sJ, mm_sR, mm_RI, mm_RJ, mm_IJ, mm_IR, mm_JI, mm_JR, mm_II, mm_JJ, mm_RR, h8, ↓bS e0, g8, v9, v7, ↓bS i0, ↓bS (mo_kinds hc.1), mh_kinds hc.1, z, c, v, zan] <;> rfl, e1, e2⟩
noncomputable def sp_pass (p a : Int32) (w : zWs) : Int32 × zWs := match zix p (wSc w).2.2.length with
  | none => zrf w 1
  | some p => if a = 0 then zan w (nI (zpa_ (wSc w).2.2 p).2.length) else if a = 1 then zan w (if (zpa_ (wSc w).2.2 p).1 then 1 else 0) else if a = 2 then zan w (nI (zND (zpa_ (wSc w).2.2 p).2).length) else zrf w 1
theorem tr_ite {β : Type} {c : Prop} [Decidable c] {X Y : β × zWs} {w : zWs} (h1 : ∃ t, t < 8 ∧ X.2 = sTr w t) (h2 : ∃ t, t < 8 ∧ Y.2 = sTr w t) : ∃ t, t < 8 ∧ (if c then X else Y).2 = sTr w t := by
  split
  · exact h1
  · exact h2
theorem hk_pass (p a : Int32) : zHk (sp_pass p a) := hk_tr (fun w ho => by
  unfold sp_pass
  cases zix p (wSc w).2.2.length with
  | none => exact ⟨1, by omega, rfl⟩
  | some j => repeat' (first | exact ⟨0, by omega, rfl⟩ | exact ⟨1, by omega, rfl⟩ | exact ⟨2, by omega, rfl⟩ | exact ⟨5, by omega, rfl⟩ | apply tr_ite))
theorem hc_pass (p a : Int32) : zHc (f_Cl_pass 1 p a) (sp_pass p a) := fun S w h ho => by
  obtain ⟨T, U, hm, hs, ht⟩ := h; have h1 := hm.1.1; have r10 := r_told hm; have hS := hm.2.2.1.1; obtain ⟨e0, e1⟩ := hc_same hm hs 0; obtain ⟨f0, f1⟩ := hc_same hm hs 1; have h3 := ho.2.2.2.2.2.2.2.2.1
  have pa := cl_pa hm p
  unfold sp_pass
  cases e : zix p (wSc w).2.2.length with
  | none =>
    rw [e] at pa
    simp only [Option.map_none] at pa
    exact ⟨_, by simp [f_Cl_pass, -Prod.exists, -Prod.forall, ↓bb_gf, ↓bb_gr, ↓bb_len, ↓bb_ga, ↓bb_gl, ↓bb_go, ↓bb_pf, ↓bb_pz, ↓bb_pr, ↓bb_pa, ↓bb_pb, ↓bb_pl, ↓bb_po, ↓bb_cl, ↓bb_some, ↓bb_RI, ↓bb_RJ, mm_hI, mm_hJ, mm_hR, mm_nI, mm_nJ, mm_nR, mm_sI, mm_sJ, mm_sR, mm_RI, mm_RJ, mm_IJ, mm_IR, mm_JI, mm_JR, mm_II, mm_JJ, mm_RR, h1, ↓bS r10, hS.1.1, ↓bS pa, ↓bS (cl_refuse h1 1), zrf] <;> rfl, f0, f1⟩
  | some j =>
    rw [e] at pa
    simp only [Option.map_some] at pa
    obtain ⟨rfl, hp, _⟩ := ix_some e
    have hP := hS.2.2.2.2.2.1 j hp
    simp only
    by_cases q0 : a = 0
    · rw [if_pos q0]
      exact ⟨_, by simp [f_Cl_pass, -Prod.exists, -Prod.forall, ↓bb_gf, ↓bb_gr, ↓bb_len, ↓bb_ga, ↓bb_gl, ↓bb_go, ↓bb_pf, ↓bb_pz, ↓bb_pr, ↓bb_pa, ↓bb_pb, ↓bb_pl, ↓bb_po, ↓bb_cl, ↓bb_some, ↓bb_RI, ↓bb_RJ, mm_hI, mm_hJ, mm_hR, mm_nI, mm_nJ, mm_nR, mm_sI, mm_sJ, mm_sR, mm_RI, mm_RJ, mm_IJ, mm_IR, mm_JI, mm_JR, mm_II, mm_JJ, mm_RR, h1, ↓bS r10, hS.1.1, ↓bS pa, q0, hP.1.1, hP.2.1, ↓bS (cl_answer h1 _), zan] <;> rfl, e0, e1⟩
    · rw [if_neg q0]
      by_cases q1 : a = 1
      · rw [if_pos q1]
        have v := hP.2.2.1
        cases b : (zpa_ (wSc w).2.2 j).1 with
        | true =>
          rw [b] at v
          simp only [if_true] at v
          exact ⟨_, by simp [f_Cl_pass, -Prod.exists, -Prod.forall, ↓bb_gf, ↓bb_gr, ↓bb_len, ↓bb_ga, ↓bb_gl, ↓bb_go, ↓bb_pf, ↓bb_pz, ↓bb_pr, ↓bb_pa, ↓bb_pb, ↓bb_pl, ↓bb_po, ↓bb_cl, ↓bb_some, ↓bb_RI, ↓bb_RJ, mm_hI, mm_hJ, mm_hR, mm_nI, mm_nJ, mm_nR, mm_sI, mm_sJ, mm_sR, mm_RI, mm_RJ, mm_IJ, mm_IR, mm_JI, mm_JR, mm_II, mm_JJ, mm_RR, h1, ↓bS r10, hS.1.1, ↓bS pa, q1, hP.1.1, v, ↓bS (cl_answer h1 _), zan] <;> rfl, e0, e1⟩
        | false =>
          rw [b] at v
          simp only [Bool.false_eq_true, if_false] at v
          exact ⟨_, by simp [f_Cl_pass, -Prod.exists, -Prod.forall, ↓bb_gf, ↓bb_gr, ↓bb_len, ↓bb_ga, ↓bb_gl, ↓bb_go, ↓bb_pf, ↓bb_pz, ↓bb_pr, ↓bb_pa, ↓bb_pb, ↓bb_pl, ↓bb_po, ↓bb_cl, ↓bb_some, ↓bb_RI, ↓bb_RJ, mm_hI, mm_hJ, mm_hR, mm_nI, mm_nJ, mm_nR, mm_sI, mm_sJ, mm_sR, mm_RI, mm_RJ, mm_IJ, mm_IR, mm_JI, mm_JR, mm_II, mm_JJ, mm_RR, h1, ↓bS r10, hS.1.1, ↓bS pa, q1, hP.1.1, v, ↓bS (cl_answer h1 _), zan] <;> rfl, e0, e1⟩
      · rw [if_neg q1]
        by_cases q2 : a = 2
        · rw [if_pos q2]
          obtain ⟨sm, nd, wn, cm⟩ := hP.2.2.2.2.2.1
          have en := nd_one (ps_w hS.2.2.2.2.2.2.2.2.2 hp) wn (nd_is wn)
          have v : zI S (aPs T j + 2) 6 = nI (zND (zpa_ (wSc w).2.2 j).2).length := by rw [← en]; exact cm.1
          exact ⟨_, by simp [f_Cl_pass, -Prod.exists, -Prod.forall, ↓bb_gf, ↓bb_gr, ↓bb_len, ↓bb_ga, ↓bb_gl, ↓bb_go, ↓bb_pf, ↓bb_pz, ↓bb_pr, ↓bb_pa, ↓bb_pb, ↓bb_pl, ↓bb_po, ↓bb_cl, ↓bb_some, ↓bb_RI, ↓bb_RJ, mm_hI, mm_hJ, mm_hR, mm_nI, mm_nJ, mm_nR, mm_sI, mm_sJ, mm_sR, mm_RI, mm_RJ, mm_IJ, mm_IR, mm_JI, mm_JR, mm_II, mm_JJ, mm_RR, h1, ↓bS r10, hS.1.1, ↓bS pa, q2, hP.1.1, ↓bS hP.1.2.2.2.2.1, sm.1, v, ↓bS (cl_answer h1 _), zan] <;> rfl, e0, e1⟩
        · rw [if_neg q2]
          exact ⟨_, by simp [f_Cl_pass, -Prod.exists, -Prod.forall, ↓bb_gf, ↓bb_gr, ↓bb_len, ↓bb_ga, ↓bb_gl, ↓bb_go, ↓bb_pf, ↓bb_pz, ↓bb_pr, ↓bb_pa, ↓bb_pb, ↓bb_pl, ↓bb_po, ↓bb_cl, ↓bb_some, ↓bb_RI, ↓bb_RJ, mm_hI, mm_hJ, mm_hR, mm_nI, mm_nJ, mm_nR, mm_sI, mm_sJ, mm_sR, mm_RI, mm_RJ, mm_IJ, mm_IR, mm_JI, mm_JR, mm_II, mm_JJ, mm_RR, h1, ↓bS r10, hS.1.1, ↓bS pa, q0, q1, q2, ↓bS (cl_refuse h1 1), zrf] <;> rfl, f0, f1⟩
theorem ix_3 {a : Int32} (h : zix a 3 = none) : ¬ a = 0 ∧ ¬ a = 1 ∧ ¬ a = 2 := by
  refine ⟨?_, ?_, ?_⟩ <;> (rintro rfl; revert h; decide)
theorem hm_pass (p a : Int32) : zHm (f_Mo_pass 408 p a) (sp_pass p a) := fun S w h ho => by
  obtain ⟨e0, e1, e2⟩ := mo_fresh h; obtain ⟨n0, n1, n2⟩ := mo_no e1 (n := 1) (by omega); have n0' : f_Mo_no 408 1 (zfs S) = some (-1, zwI (zfs S) 408 1 (nI 1)) := n0; have hc := e1.1; have h8 := h.1.1.1; have g8 := hc.1.1; have h3 := ho.2.2.2.2.2.2.2.2.1; have ho' : okW (sTr w 0) := okW_tr ho (by omega)
  have ip : f_Mo_isPass 408 p (zfs S) = some (if (zix p (wSc w).2.2.length).isSome then 1 else 0, zfs S) := mo_isPass hc ho' p
  have i2 : f_Mo_in a 0 2 (zfs S) = some (if (zix a 3).isSome then 1 else 0, zfs S) := m_inK a (k := 2) (by omega)
  unfold sp_pass
  cases e : zix p (wSc w).2.2.length with
  | none =>
    rw [e] at ip
    simp only [Option.isSome_none, Bool.false_eq_true, if_false] at ip
    exact ⟨_, by simp [f_Mo_pass, -Prod.exists, -Prod.forall, ↓bb_gf, ↓bb_gr, ↓bb_len, ↓bb_ga, ↓bb_gl, ↓bb_go, ↓bb_pf, ↓bb_pz, ↓bb_pr, ↓bb_pa, ↓bb_pb, ↓bb_pl, ↓bb_po, ↓bb_cl, ↓bb_some, ↓bb_RI, ↓bb_RJ, mm_hI, mm_hJ, mm_hR, mm_nI, mm_nJ, mm_nR, mm_sI, mm_sJ, mm_sR, mm_RI, mm_RJ, mm_IJ, mm_IR, mm_JI, mm_JR, mm_II, mm_JJ, mm_RR, h8, ↓bS e0, g8, ↓bS ip, ↓bS n0', zrf] <;> rfl, n1, fr_trans e2 n2⟩
  | some j =>
    rw [e] at ip
    simp only [Option.isSome_some, if_true] at ip
    obtain ⟨rfl, hp, _⟩ := ix_some e
    simp only
    obtain ⟨⟨nd, wn⟩, _⟩ := ho.2.2.2.2.2.2.2.2.2 j hp
    have wn := nd_is wn
    cases ea : zix a 3 with
    | none =>
      rw [ea] at i2
      simp only [Option.isSome_none, Bool.false_eq_true, if_false] at i2
      obtain ⟨q0, q1, q2⟩ := ix_3 ea
      rw [if_neg q0, if_neg q1, if_neg q2]
      exact ⟨_, by simp [f_Mo_pass, -Prod.exists, -Prod.forall, ↓bb_gf, ↓bb_gr, ↓bb_len, ↓bb_ga, ↓bb_gl, ↓bb_go, ↓bb_pf, ↓bb_pz, ↓bb_pr, ↓bb_pa, ↓bb_pb, ↓bb_pl, ↓bb_po, ↓bb_cl, ↓bb_some, ↓bb_RI, ↓bb_RJ, mm_hI, mm_hJ, mm_hR, mm_nI, mm_nJ, mm_nR, mm_sI, mm_sJ, mm_sR, mm_RI, mm_RJ, mm_IJ, mm_IR, mm_JI, mm_JR, mm_II, mm_JJ, mm_RR, h8, ↓bS e0, g8, ↓bS ip, ↓bS i2, ↓bS n0', zrf] <;> rfl, n1, fr_trans e2 n2⟩
    | some k =>
      rw [ea] at i2
      simp only [Option.isSome_some, if_true] at i2
      obtain ⟨rfl, hk, _⟩ := ix_some ea
      obtain ⟨S1, s1, s2, s3⟩ := m_states hc.1 (show mSc (zfs S) 408 (wSc w) (wAs w) from hc.2.1) hp wn
      obtain ⟨k1, k2⟩ := mo_keep e1 s2 (fun b j q => by unfold wMs; omega) (by omega) (by omega)
      have m1 := k1.1.1
      have z : zinb (nI j) 3 = true := (nn_in (by omega)).2 (by omega)
      have c : (nI j).toNatClampNeg = j := nI_clamp (by omega)
      have v3 : zI S1 (408 + 3) j = nI (zpa_ (wSc w).2.2 j).2.length := k1.1.2.1.2.2.2.2.2.1 j (by omega)
      have v4 : zI S1 (408 + 4) j = (if (zpa_ (wSc w).2.2 j).1 then 1 else 0) := k1.1.2.1.2.2.2.2.2.2.1 j hp
      have v31 : zI S1 408 31 = nI (zND (zpa_ (wSc w).2.2 j).2).length := s3.1
      have hk' : k = 0 ∨ k = 1 ∨ k = 2 := by omega
      rcases hk' with rfl | rfl | rfl
      · rw [if_pos (show nI 0 = 0 from rfl)]
        have t0 : (nI 0 : Int32) = 0 := rfl
        exact ⟨_, by simp [f_Mo_pass, -Prod.exists, -Prod.forall, ↓bb_gf, ↓bb_gr, ↓bb_len, ↓bb_ga, ↓bb_gl, ↓bb_go, ↓bb_pf, ↓bb_pz, ↓bb_pr, ↓bb_pa, ↓bb_pb, ↓bb_pl, ↓bb_po, ↓bb_cl, ↓bb_some, ↓bb_RI, ↓bb_RJ, mm_hI, mm_hJ, mm_hR, mm_nI, mm_nJ, mm_nR, mm_sI, mm_sJ, mm_sR, mm_RI, mm_RJ, mm_IJ, mm_IR, mm_JI, mm_JR, mm_II, mm_JJ, mm_RR, h8, ↓bS e0, g8, ↓bS ip, ↓bS i2, ↓bS s1, t0, m1.1, ↓bS (mo_ruleMany m1), mh_ruleMany m1, z, c, v3, zan] <;> rfl, k1, fr_trans e2 k2⟩
      · rw [if_neg (show ¬ nI 1 = 0 by decide), if_pos (show nI 1 = 1 from rfl)]
        have t0 : ¬ (nI 1 : Int32) = 0 := by decide
        have t1 : (nI 1 : Int32) = 1 := rfl
        cases b : (zpa_ (wSc w).2.2 j).1 with
        | true =>
          rw [b] at v4
          simp only [if_true] at v4
          exact ⟨_, by simp [f_Mo_pass, -Prod.exists, -Prod.forall, ↓bb_gf, ↓bb_gr, ↓bb_len, ↓bb_ga, ↓bb_gl, ↓bb_go, ↓bb_pf, ↓bb_pz, ↓bb_pr, ↓bb_pa, ↓bb_pb, ↓bb_pl, ↓bb_po, ↓bb_cl, ↓bb_some, ↓bb_RI, ↓bb_RJ, mm_hI, mm_hJ, mm_hR, mm_nI, mm_nJ, mm_nR, mm_sI, mm_sJ, mm_sR, mm_RI, mm_RJ, mm_IJ, mm_IR, mm_JI, mm_JR, mm_II, mm_JJ, mm_RR, h8, ↓bS e0, g8, ↓bS ip, ↓bS i2, ↓bS s1, t1, m1.1, ↓bS (mo_isAgain m1), mh_isAgain m1, z, c, v4, zan] <;> rfl, k1, fr_trans e2 k2⟩
        | false =>
          rw [b] at v4
          simp only [Bool.false_eq_true, if_false] at v4
          exact ⟨_, by simp [f_Mo_pass, -Prod.exists, -Prod.forall, ↓bb_gf, ↓bb_gr, ↓bb_len, ↓bb_ga, ↓bb_gl, ↓bb_go, ↓bb_pf, ↓bb_pz, ↓bb_pr, ↓bb_pa, ↓bb_pb, ↓bb_pl, ↓bb_po, ↓bb_cl, ↓bb_some, ↓bb_RI, ↓bb_RJ, mm_hI, mm_hJ, mm_hR, mm_nI, mm_nJ, mm_nR, mm_sI, mm_sJ, mm_sR, mm_RI, mm_RJ, mm_IJ, mm_IR, mm_JI, mm_JR, mm_II, mm_JJ, mm_RR, h8, ↓bS e0, g8, ↓bS ip, ↓bS i2, ↓bS s1, t1, m1.1, ↓bS (mo_isAgain m1), mh_isAgain m1, z, c, v4, zan] <;> rfl, k1, fr_trans e2 k2⟩
      · rw [if_neg (show ¬ nI 2 = 0 by decide), if_neg (show ¬ nI 2 = 1 by decide), if_pos (show nI 2 = 2 from rfl)]
        have t0 : ¬ (nI 2 : Int32) = 0 := by decide
        have t1 : ¬ (nI 2 : Int32) = 1 := by decide
        exact ⟨_, by simp [f_Mo_pass, -Prod.exists, -Prod.forall, ↓bb_gf, ↓bb_gr, ↓bb_len, ↓bb_ga, ↓bb_gl, ↓bb_go, ↓bb_pf, ↓bb_pz, ↓bb_pr, ↓bb_pa, ↓bb_pb, ↓bb_pl, ↓bb_po, ↓bb_cl, ↓bb_some, ↓bb_RI, ↓bb_RJ, mm_hI, mm_hJ, mm_hR, mm_nI, mm_nJ, mm_nR, mm_sI, mm_sJ, mm_sR, mm_RI, mm_RJ, mm_IJ, mm_IR, mm_JI, mm_JR, mm_II, mm_JJ, mm_RR, h8, ↓bS e0, g8, ↓bS ip, ↓bS i2, ↓bS s1, t0, t1, m1.1, v31, zan] <;> rfl, k1, fr_trans e2 k2⟩
def zmR (w : zWs) (p i : Nat) : zRu := zru (zpa_ (wSc w).2.2 p).2 i
def sp_rule (p i a : Int32) (w : zWs) : Int32 × zWs := match zix2 w p i with
  | none => zrf w 1
  | some (p, i) => if a = 0 then zan w (nI (zmR w p i).1.length) else if a = 1 then zan w (nI (zmR w p i).2.1.length) else if a = 2 then zan w (nI (zmR w p i).2.2.1) else if a = 3 then zan w (nI (zmR w p i).2.2.2) else if a = 4 then zan w (if (wAs w p).testBit i then 1 else 0) else zrf w 1
theorem hk_rule (p i a : Int32) : zHk (sp_rule p i a) := hk_tr (fun w ho => by
  unfold sp_rule
  cases zix2 w p i with
  | none => exact ⟨1, by omega, rfl⟩
  | some j => repeat' (first | exact ⟨0, by omega, rfl⟩ | exact ⟨1, by omega, rfl⟩ | exact ⟨2, by omega, rfl⟩ | exact ⟨5, by omega, rfl⟩ | apply tr_ite))
theorem hc_rule (p i a : Int32) : zHc (f_Cl_rule 1 p i a) (sp_rule p i a) := fun S w h ho => by
  obtain ⟨T, U, hm, hs, ht⟩ := h; have h1 := hm.1.1; have r10 := r_told hm; have hS := hm.2.2.1.1; obtain ⟨e0, e1⟩ := hc_same hm hs 0; obtain ⟨f0, f1⟩ := hc_same hm hs 1; have h3 := ho.2.2.2.2.2.2.2.2.1
  have ra := cl_ra hm p i
  unfold sp_rule
  cases e : zix2 w p i with
  | none =>
    rw [e] at ra
    simp only [Option.map_none] at ra
    exact ⟨_, by simp [f_Cl_rule, -Prod.exists, -Prod.forall, ↓bb_gf, ↓bb_gr, ↓bb_len, ↓bb_ga, ↓bb_gl, ↓bb_go, ↓bb_pf, ↓bb_pz, ↓bb_pr, ↓bb_pa, ↓bb_pb, ↓bb_pl, ↓bb_po, ↓bb_cl, ↓bb_some, ↓bb_RI, ↓bb_RJ, mm_hI, mm_hJ, mm_hR, mm_nI, mm_nJ, mm_nR, mm_sI, mm_sJ, mm_sR, mm_RI, mm_RJ, mm_IJ, mm_IR, mm_JI, mm_JR, mm_II, mm_JJ, mm_RR, h1, ↓bS r10, hS.1.1, ↓bS ra, ↓bS (cl_refuse h1 1), zrf] <;> rfl, f0, f1⟩
  | some q =>
    obtain ⟨j, k⟩ := q
    rw [e] at ra
    simp only [Option.map_some] at ra
    obtain ⟨_, _, rfl, rfl, hp, hi⟩ := ix2_some e
    have hP := hS.2.2.2.2.2.1 j hp
    obtain ⟨u1, u2, u3, u4, u5, u6, u7⟩ := hP.2.2.2.2.1 k hi
    have l4 : zI S (aPs T j + 16 + 5 * k + 1) 1 = nI (zmR w j k).1.length := u4.2.2.2.2.2.1
    have l5 : zI S (aPs T j + 16 + 5 * k + 3) 1 = nI (zmR w j k).2.1.length := u5.2.2.2.2.2.1
    have l6 : zI S (aPs T j + 16 + 5 * k) 2 = nI (zmR w j k).2.2.1 := u6
    have l7 : zI S (aPs T j + 16 + 5 * k) 3 = nI (zmR w j k).2.2.2 := u7
    simp only
    by_cases q0 : a = 0
    · rw [if_pos q0]
      exact ⟨_, by simp [f_Cl_rule, -Prod.exists, -Prod.forall, ↓bb_gf, ↓bb_gr, ↓bb_len, ↓bb_ga, ↓bb_gl, ↓bb_go, ↓bb_pf, ↓bb_pz, ↓bb_pr, ↓bb_pa, ↓bb_pb, ↓bb_pl, ↓bb_po, ↓bb_cl, ↓bb_some, ↓bb_RI, ↓bb_RJ, mm_hI, mm_hJ, mm_hR, mm_nI, mm_nJ, mm_nR, mm_sI, mm_sJ, mm_sR, mm_RI, mm_RJ, mm_IJ, mm_IR, mm_JI, mm_JR, mm_II, mm_JJ, mm_RR, h1, ↓bS r10, hS.1.1, ↓bS ra, q0, u1, ↓bS u2, u4.1, l4, ↓bS (cl_answer h1 _), zan] <;> rfl, e0, e1⟩
    · rw [if_neg q0]
      by_cases q1 : a = 1
      · rw [if_pos q1]
        exact ⟨_, by simp [f_Cl_rule, -Prod.exists, -Prod.forall, ↓bb_gf, ↓bb_gr, ↓bb_len, ↓bb_ga, ↓bb_gl, ↓bb_go, ↓bb_pf, ↓bb_pz, ↓bb_pr, ↓bb_pa, ↓bb_pb, ↓bb_pl, ↓bb_po, ↓bb_cl, ↓bb_some, ↓bb_RI, ↓bb_RJ, mm_hI, mm_hJ, mm_hR, mm_nI, mm_nJ, mm_nR, mm_sI, mm_sJ, mm_sR, mm_RI, mm_RJ, mm_IJ, mm_IR, mm_JI, mm_JR, mm_II, mm_JJ, mm_RR, h1, ↓bS r10, hS.1.1, ↓bS ra, q1, u1, ↓bS u3, u5.1, l5, ↓bS (cl_answer h1 _), zan] <;> rfl, e0, e1⟩
      · rw [if_neg q1]
        by_cases q2 : a = 2
        · rw [if_pos q2]
          exact ⟨_, by simp [f_Cl_rule, -Prod.exists, -Prod.forall, ↓bb_gf, ↓bb_gr, ↓bb_len, ↓bb_ga, ↓bb_gl, ↓bb_go, ↓bb_pf, ↓bb_pz, ↓bb_pr, ↓bb_pa, ↓bb_pb, ↓bb_pl, ↓bb_po, ↓bb_cl, ↓bb_some, ↓bb_RI, ↓bb_RJ, mm_hI, mm_hJ, mm_hR, mm_nI, mm_nJ, mm_nR, mm_sI, mm_sJ, mm_sR, mm_RI, mm_RJ, mm_IJ, mm_IR, mm_JI, mm_JR, mm_II, mm_JJ, mm_RR, h1, ↓bS r10, hS.1.1, ↓bS ra, q2, u1, l6, ↓bS (cl_answer h1 _), zan] <;> rfl, e0, e1⟩
        · rw [if_neg q2]
          by_cases q3 : a = 3
          · rw [if_pos q3]
            exact ⟨_, by simp [f_Cl_rule, -Prod.exists, -Prod.forall, ↓bb_gf, ↓bb_gr, ↓bb_len, ↓bb_ga, ↓bb_gl, ↓bb_go, ↓bb_pf, ↓bb_pz, ↓bb_pr, ↓bb_pa, ↓bb_pb, ↓bb_pl, ↓bb_po, ↓bb_cl, ↓bb_some, ↓bb_RI, ↓bb_RJ, mm_hI, mm_hJ, mm_hR, mm_nI, mm_nJ, mm_nR, mm_sI, mm_sJ, mm_sR, mm_RI, mm_RJ, mm_IJ, mm_IR, mm_JI, mm_JR, mm_II, mm_JJ, mm_RR, h1, ↓bS r10, hS.1.1, ↓bS ra, q3, u1, l7, ↓bS (cl_answer h1 _), zan] <;> rfl, e0, e1⟩
          · rw [if_neg q3]
            by_cases q4 : a = 4
            · rw [if_pos q4]
              have ia := scr_isAside hS hp hi
              cases b : (wAs w j).testBit k with
              | true =>
                rw [b] at ia
                simp only [if_true] at ia
                exact ⟨_, by simp [f_Cl_rule, -Prod.exists, -Prod.forall, ↓bb_gf, ↓bb_gr, ↓bb_len, ↓bb_ga, ↓bb_gl, ↓bb_go, ↓bb_pf, ↓bb_pz, ↓bb_pr, ↓bb_pa, ↓bb_pb, ↓bb_pl, ↓bb_po, ↓bb_cl, ↓bb_some, ↓bb_RI, ↓bb_RJ, mm_hI, mm_hJ, mm_hR, mm_nI, mm_nJ, mm_nR, mm_sI, mm_sJ, mm_sR, mm_RI, mm_RJ, mm_IJ, mm_IR, mm_JI, mm_JR, mm_II, mm_JJ, mm_RR, h1, ↓bS r10, hS.1.1, ↓bS ra, q4, ↓bS ia, ↓bS (cl_answer h1 _), zan] <;> rfl, e0, e1⟩
              | false =>
                rw [b] at ia
                simp only [Bool.false_eq_true, if_false] at ia
                exact ⟨_, by simp [f_Cl_rule, -Prod.exists, -Prod.forall, ↓bb_gf, ↓bb_gr, ↓bb_len, ↓bb_ga, ↓bb_gl, ↓bb_go, ↓bb_pf, ↓bb_pz, ↓bb_pr, ↓bb_pa, ↓bb_pb, ↓bb_pl, ↓bb_po, ↓bb_cl, ↓bb_some, ↓bb_RI, ↓bb_RJ, mm_hI, mm_hJ, mm_hR, mm_nI, mm_nJ, mm_nR, mm_sI, mm_sJ, mm_sR, mm_RI, mm_RJ, mm_IJ, mm_IR, mm_JI, mm_JR, mm_II, mm_JJ, mm_RR, h1, ↓bS r10, hS.1.1, ↓bS ra, q4, ↓bS ia, ↓bS (cl_answer h1 _), zan] <;> rfl, e0, e1⟩
            · rw [if_neg q4]
              exact ⟨_, by simp [f_Cl_rule, -Prod.exists, -Prod.forall, ↓bb_gf, ↓bb_gr, ↓bb_len, ↓bb_ga, ↓bb_gl, ↓bb_go, ↓bb_pf, ↓bb_pz, ↓bb_pr, ↓bb_pa, ↓bb_pb, ↓bb_pl, ↓bb_po, ↓bb_cl, ↓bb_some, ↓bb_RI, ↓bb_RJ, mm_hI, mm_hJ, mm_hR, mm_nI, mm_nJ, mm_nR, mm_sI, mm_sJ, mm_sR, mm_RI, mm_RJ, mm_IJ, mm_IR, mm_JI, mm_JR, mm_II, mm_JJ, mm_RR, h1, ↓bS r10, hS.1.1, ↓bS ra, q0, q1, q2, q3, q4, ↓bS (cl_refuse h1 1), zrf] <;> rfl, f0, f1⟩
theorem ix_5 {a : Int32} (h : zix a 5 = none) : ¬ a = 0 ∧ ¬ a = 1 ∧ ¬ a = 2 ∧ ¬ a = 3 ∧ ¬ a = 4 := by
  refine ⟨?_, ?_, ?_, ?_, ?_⟩ <;> (rintro rfl; revert h; decide)
theorem ro_at {S : zM} (p i : Nat) : f_Mo_rowOf (nI p) (nI i) S = some (nI (aRu p i), S) := by
  unfold f_Mo_rowOf
  rw [show (8 : Int32) = nI 8 from rfl, show (11 : Int32) = nI 11 from rfl, pk_mul, nI_add, pk_mul]; rfl
theorem hm_rule (p i a : Int32) : zHm (f_Mo_rule 408 p i a) (sp_rule p i a) := fun S w h ho => by
  obtain ⟨e0, e1, e2⟩ := mo_fresh h; obtain ⟨n0, n1, n2⟩ := mo_no e1 (n := 1) (by omega); have n0' : f_Mo_no 408 1 (zfs S) = some (-1, zwI (zfs S) 408 1 (nI 1)) := n0; have hc := e1.1; have h8 := h.1.1.1; have g8 := hc.1.1; have h3 := ho.2.2.2.2.2.2.2.2.1; have ho' : okW (sTr w 0) := okW_tr ho (by omega)
  have ir : f_Mo_isRule 408 p i (zfs S) = some (if (zix2 w p i).isSome then 1 else 0, zfs S) := mo_isRule hc ho' p i
  have i4 : f_Mo_in a 0 4 (zfs S) = some (if (zix a 5).isSome then 1 else 0, zfs S) := m_inK a (k := 4) (by omega)
  unfold sp_rule
  cases e : zix2 w p i with
  | none =>
    rw [e] at ir
    simp only [Option.isSome_none, Bool.false_eq_true, if_false] at ir
    exact ⟨_, by simp [f_Mo_rule, -Prod.exists, -Prod.forall, ↓bb_gf, ↓bb_gr, ↓bb_len, ↓bb_ga, ↓bb_gl, ↓bb_go, ↓bb_pf, ↓bb_pz, ↓bb_pr, ↓bb_pa, ↓bb_pb, ↓bb_pl, ↓bb_po, ↓bb_cl, ↓bb_some, ↓bb_RI, ↓bb_RJ, mm_hI, mm_hJ, mm_hR, mm_nI, mm_nJ, mm_nR, mm_sI, mm_sJ, mm_sR, mm_RI, mm_RJ, mm_IJ, mm_IR, mm_JI, mm_JR, mm_II, mm_JJ, mm_RR, h8, ↓bS e0, g8, ↓bS ir, ↓bS n0', zrf] <;> rfl, n1, fr_trans e2 n2⟩
  | some q =>
    obtain ⟨j, k⟩ := q
    rw [e] at ir
    simp only [Option.isSome_some, if_true] at ir
    obtain ⟨_, _, rfl, rfl, hp, hi⟩ := ix2_some e
    have hsc : mSc (zfs S) 408 (wSc w) (wAs w) := hc.2.1
    have r8 := (ps_w hsc.2.2.2.2.2.2.2.2.2.2.2.2 hp).1
    have hru := hsc.2.2.2.2.2.2.2.1 j k hp hi
    have har : aRu j k + 11 ≤ 264 := by unfold aRu; omega
    simp only
    cases ea : zix a 5 with
    | none =>
      rw [ea] at i4
      simp only [Option.isSome_none, Bool.false_eq_true, if_false] at i4
      obtain ⟨q0, q1, q2, q3, q4⟩ := ix_5 ea
      rw [if_neg q0, if_neg q1, if_neg q2, if_neg q3, if_neg q4]
      exact ⟨_, by simp [f_Mo_rule, -Prod.exists, -Prod.forall, ↓bb_gf, ↓bb_gr, ↓bb_len, ↓bb_ga, ↓bb_gl, ↓bb_go, ↓bb_pf, ↓bb_pz, ↓bb_pr, ↓bb_pa, ↓bb_pb, ↓bb_pl, ↓bb_po, ↓bb_cl, ↓bb_some, ↓bb_RI, ↓bb_RJ, mm_hI, mm_hJ, mm_hR, mm_nI, mm_nJ, mm_nR, mm_sI, mm_sJ, mm_sR, mm_RI, mm_RJ, mm_IJ, mm_IR, mm_JI, mm_JR, mm_II, mm_JJ, mm_RR, h8, ↓bS e0, g8, ↓bS ir, ↓bS i4, ↓bS n0', zrf] <;> rfl, n1, fr_trans e2 n2⟩
    | some x =>
      rw [ea] at i4
      simp only [Option.isSome_some, if_true] at i4
      obtain ⟨rfl, hx, hx2⟩ := ix_some ea
      by_cases qx : x = 4
      · subst qx
        rw [if_neg (by decide), if_neg (by decide), if_neg (by decide), if_neg (by decide), if_pos (show nI 4 = 4 from rfl)]
        have t4 : (nI 4 : Int32) = 4 := rfl
        have m8 : (8 : Int32) * nI j = nI (8 * j) := pk_mul 8 _
        have z : zinb (nI (8 * j + k)) 24 = true := (nn_in (by omega)).2 (by omega)
        have c : (nI (8 * j + k)).toNatClampNeg = 8 * j + k := nI_clamp (by omega)
        have v := hsc.2.2.2.2.2.2.2.2.1 j k (by omega) (by omega)
        cases b : (wAs w j).testBit k with
        | true =>
          rw [b] at v
          simp only [if_true] at v
          exact ⟨_, by simp [f_Mo_rule, -Prod.exists, -Prod.forall, ↓bb_gf, ↓bb_gr, ↓bb_len, ↓bb_ga, ↓bb_gl, ↓bb_go, ↓bb_pf, ↓bb_pz, ↓bb_pr, ↓bb_pa, ↓bb_pb, ↓bb_pl, ↓bb_po, ↓bb_cl, ↓bb_some, ↓bb_RI, ↓bb_RJ, mm_hI, mm_hJ, mm_hR, mm_nI, mm_nJ, mm_nR, mm_sI, mm_sJ, mm_sR, mm_RI, mm_RJ, mm_IJ, mm_IR, mm_JI, mm_JR, mm_II, mm_JJ, mm_RR, h8, ↓bS e0, g8, ↓bS ir, ↓bS i4, t4, ↓bS (mo_isAside hc.1), mh_isAside hc.1, m8, nI_add, z, c, v, zan] <;> rfl, e1, e2⟩
        | false =>
          rw [b] at v
          simp only [Bool.false_eq_true, if_false] at v
          exact ⟨_, by simp [f_Mo_rule, -Prod.exists, -Prod.forall, ↓bb_gf, ↓bb_gr, ↓bb_len, ↓bb_ga, ↓bb_gl, ↓bb_go, ↓bb_pf, ↓bb_pz, ↓bb_pr, ↓bb_pa, ↓bb_pb, ↓bb_pl, ↓bb_po, ↓bb_cl, ↓bb_some, ↓bb_RI, ↓bb_RJ, mm_hI, mm_hJ, mm_hR, mm_nI, mm_nJ, mm_nR, mm_sI, mm_sJ, mm_sR, mm_RI, mm_RJ, mm_IJ, mm_IR, mm_JI, mm_JR, mm_II, mm_JJ, mm_RR, h8, ↓bS e0, g8, ↓bS ir, ↓bS i4, t4, ↓bS (mo_isAside hc.1), mh_isAside hc.1, m8, nI_add, z, c, v, zan] <;> rfl, e1, e2⟩
      · have t4 : ¬ (nI x : Int32) = 4 := fun q => qx ((nI_eq (b := 4) (by omega) (by omega)).1 q)
        have z : zinb (nI (aRu j k + x)) 264 = true := (nn_in (by omega)).2 (by omega)
        have c : (nI (aRu j k + x)).toNatClampNeg = aRu j k + x := nI_clamp (by omega)
        have run : f_Mo_rule 408 (nI j) (nI k) (nI x) S = some (zI (zfs S) (408 + 5) (aRu j k + x), zfs S) := by
          simp [f_Mo_rule, -Prod.exists, -Prod.forall, ↓bb_gf, ↓bb_gr, ↓bb_len, ↓bb_ga, ↓bb_gl, ↓bb_go, ↓bb_pf, ↓bb_pz, ↓bb_pr, ↓bb_pa, ↓bb_pb, ↓bb_pl, ↓bb_po, ↓bb_cl, ↓bb_some, ↓bb_RI, ↓bb_RJ, mm_hI, mm_hJ, mm_hR, mm_nI, mm_nJ, mm_nR, mm_sI, mm_sJ, mm_sR, mm_RI, mm_RJ, mm_IJ, mm_IR, mm_JI, mm_JR, mm_II, mm_JJ, mm_RR, h8, ↓bS e0, g8, ↓bS ir, ↓bS i4, t4, ↓bS (mo_rules hc.1), mh_rules hc.1, ↓bS (ro_at j k), nI_add, z, c]
        have sp : (if nI x = 0 then zan w (nI (zmR w j k).1.length) else if nI x = 1 then zan w (nI (zmR w j k).2.1.length) else if nI x = 2 then zan w (nI (zmR w j k).2.2.1) else if nI x = 3 then zan w (nI (zmR w j k).2.2.2) else if nI x = 4 then zan w (if (wAs w j).testBit k then 1 else 0) else zrf w 1) = zan w (zI (zfs S) (408 + 5) (aRu j k + x)) := by
          have hx4 : x = 0 ∨ x = 1 ∨ x = 2 ∨ x = 3 := by omega
          rcases hx4 with rfl | rfl | rfl | rfl
          · rw [if_pos (show nI 0 = 0 from rfl)]
            have v : zI (zfs S) (408 + 5) (aRu j k + 0) = nI (zmR w j k).1.length := hru.1
            rw [v]
          · rw [if_neg (by decide), if_pos (show nI 1 = 1 from rfl)]
            have v : zI (zfs S) (408 + 5) (aRu j k + 1) = nI (zmR w j k).2.1.length := hru.2.1
            rw [v]
          · rw [if_neg (by decide), if_neg (by decide), if_pos (show nI 2 = 2 from rfl)]
            have v : zI (zfs S) (408 + 5) (aRu j k + 2) = nI (zmR w j k).2.2.1 := hru.2.2.1
            rw [v]
          · rw [if_neg (by decide), if_neg (by decide), if_neg (by decide), if_pos (show nI 3 = 3 from rfl)]
            have v : zI (zfs S) (408 + 5) (aRu j k + 3) = nI (zmR w j k).2.2.2 := hru.2.2.2.1
            rw [v]
        rw [sp]
        exact ⟨zfs S, run, e1, e2⟩
