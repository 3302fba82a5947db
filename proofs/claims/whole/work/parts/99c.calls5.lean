/-! pieces and readings -/
def zPc (w : zWs) (j : Nat) : List (Nat × List Nat) := zpcs (zpa_ (wSc w).2.2 j).2 (wAs w j)
theorem zun_lt {pcs : List (Nat × List Nat)} (hw : wPc pcs) {m : Nat} (h : zun pcs = some m) : m ≤ 300 := by
  have hu : zuncl pcs (some m) := by rw [← h]; exact Classical.choose_spec (uncl_ex pcs)
  rcases hu with ⟨_, e⟩ | ⟨hne, a, b⟩
  · cases e; omega
  · have hg : wG pcs := ⟨hw.1, fun k hk => ⟨List.length_pos_iff.2 (hne k hk), (hw.2 k hk).1⟩⟩
    obtain ⟨w', _, h2, h3⟩ := gA_small hg a
    have := b w' h3
    omega
theorem zun_m2 {pcs : List (Nat × List Nat)} (hw : wPc pcs) : (zoI (zun pcs) (-2) = -2) ↔ zun pcs = none := by
  cases e : zun pcs with
  | none => simp [zoI]
  | some m =>
    have := zun_lt hw e
    simp only [zoI, reduceCtorEq, iff_false]
    exact (nn_eqm (i := m) (m := 2) (by omega) (by omega) (by omega)).1
section
variable {S : zM} {w : zWs} {T U : Nat}
theorem r_gat (h : cMn S w T U) : zR S 1 8 = some 40 := h.1.2.2.2.2.2.2.2.2.2.2.2.2.1
theorem r_tak (h : cMn S w T U) : zR S 1 4 = some 33 := h.1.2.2.2.2.2.2.2.1
theorem cSr_sub {W V : Nat → Nat → Prop} {S' : zM} (h : cSr S) (hf : zfq W V S S') (h2 : ∀ b j, W b j ∨ V b j → b < 19 ∨ (40 ≤ b ∧ b < 46)) (hp : sPcs S' 40) : cSr S' := by
  obtain ⟨⟨x, y, a⟩, ⟨w1, r1⟩, ⟨w2, r2⟩, ⟨w3, r3⟩, _⟩ := h
  have sm : zsm 19 40 S S' := sm_fq hf (fun b j a c => ⟨fun q => by have := h2 b j (Or.inl q); omega, fun q => by have := h2 b j (Or.inr q); omega⟩)
  exact ⟨⟨x, y, aCar_sm a sm (by omega) (by omega)⟩, ⟨w1, row_sm r1 sm (by omega) (by omega)⟩, ⟨w2, row_sm r2 sm (by omega) (by omega)⟩, ⟨w3, row_sm r3 sm (by omega) (by omega)⟩, hp⟩
theorem cl_gather (hm : cMn S w T U) (hs : cSr S) (p : Int32) : match zix p (wSc w).2.2.length with
    | none => f_Cl_gatherPieces 1 p S = some (0, S)
    | some j => ∃ S1, f_Cl_gatherPieces 1 p S = some (1, S1) ∧ zfq (wPcs 40) (vPcs 40) S S1 ∧ sPcs S1 40 ∧ cPcs S1 40 (zPc w j) := by
  have h1 := hm.1.1
  have r10 := r_told hm
  have hS := hm.2.2.1.1
  have pa := cl_pa hm p
  have hTU := hm.1.2.2.2.2.2.2.2.2.2.2.2.2.2.2.2.2.2.2.2.1
  cases e : zix p (wSc w).2.2.length with
  | none =>
    rw [e] at pa
    simp only [Option.map_none] at pa
    simp [f_Cl_gatherPieces, -Prod.exists, -Prod.forall, ↓bb_gf, ↓bb_gr, ↓bb_len, ↓bb_ga, ↓bb_gl, ↓bb_go, ↓bb_pf, ↓bb_pz, ↓bb_pr, ↓bb_pa, ↓bb_pb, ↓bb_pl, ↓bb_po, ↓bb_cl, ↓bb_some, ↓bb_RI, ↓bb_RJ, mm_hI, mm_hJ, mm_hR, mm_nI, mm_nJ, mm_nR, mm_sI, mm_sJ, mm_sR, mm_RI, mm_RJ, mm_IJ, mm_IR, mm_JI, mm_JR, mm_II, mm_JJ, mm_RR, h1, ↓bS r10, hS.1.1, ↓bS pa]
  | some j =>
    rw [e] at pa
    simp only [Option.map_some] at pa
    obtain ⟨rfl, hp, _⟩ := ix_some e
    have hP := hS.2.2.2.2.2.1 j hp
    obtain ⟨S1, g1, g2, g3, g4⟩ := gather_ok (G := 40) (P := aPs T j) (by unfold aPs; omega) hs.2.2.2.2 hP
    exact ⟨S1, by simp [f_Cl_gatherPieces, -Prod.exists, -Prod.forall, ↓bb_gf, ↓bb_gr, ↓bb_len, ↓bb_ga, ↓bb_gl, ↓bb_go, ↓bb_pf, ↓bb_pz, ↓bb_pr, ↓bb_pa, ↓bb_pb, ↓bb_pl, ↓bb_po, ↓bb_cl, ↓bb_some, ↓bb_RI, ↓bb_RJ, mm_hI, mm_hJ, mm_hR, mm_nI, mm_nJ, mm_nR, mm_sI, mm_sJ, mm_sR, mm_RI, mm_RJ, mm_IJ, mm_IR, mm_JI, mm_JR, mm_II, mm_JJ, mm_RR, h1, ↓bS r10, hS.1.1, ↓bS pa, ↓bS (r_gat hm), hs.2.2.2.2.1, ↓bS g1], g2, g3, g4⟩
/-- behind gathering -/
theorem gat_end {S1 : zM} (hm : cMn S w T U) (hs : cSr S) (g2 : zfq (wPcs 40) (vPcs 40) S S1) (g3 : sPcs S1 40) : cMn S1 w T U ∧ cSr S1 :=
  ⟨cMn_sr hm g2 (fun b j q => by unfold wPcs at q; unfold wSr; omega) (fun b j q => by unfold vPcs at q; unfold vSr; omega), cSr_sub hs g2 (fun b j q => by unfold wPcs vPcs at q; omega) g3⟩
theorem gat_all {S1 : zM} {W V : Nat → Nat → Prop} (hm : cMn S w T U) (hs : cSr S1) (g : zfq W V S S1) (hw : ∀ b j, W b j → wSr b j) (hv : ∀ b j, V b j → vSr b j) (t : Nat) : pCl (zwI S1 1 16 (nI t)) (sTr w t) ∧ zko S (zwI S1 1 16 (nI t)) ∧ zrm S (zwI S1 1 16 (nI t)) := hc_end hm g hw hv hs t
end
theorem pc_sr {b j : Nat} (q : wPcs 40 b j) : wSr b j := by unfold wPcs at q; unfold wSr; omega
theorem pc_vr {b j : Nat} (q : vPcs 40 b j) : vSr b j := by unfold vPcs at q; unfold vSr; omega
def sp_pieces (p : Int32) (w : zWs) : Int32 × zWs := match zix p (wSc w).2.2.length with
  | none => zrf w 1
  | some j => zan w (nI (zPc w j).length)
theorem hk_pieces (p : Int32) : zHk (sp_pieces p) := hk_tr (fun w ho => by
  unfold sp_pieces
  cases zix p (wSc w).2.2.length with
  | none => exact ⟨1, by omega, rfl⟩
  | some j => exact ⟨0, by omega, rfl⟩)
theorem hc_pieces (p : Int32) : zHc (f_Cl_pieces 1 p) (sp_pieces p) := fun S w h ho => by
  obtain ⟨T, U, hm, hs, ht⟩ := h; have h1 := hm.1.1; have r10 := r_told hm; have hS := hm.2.2.1.1; obtain ⟨e0, e1⟩ := hc_same hm hs 0; obtain ⟨f0, f1⟩ := hc_same hm hs 1; have h3 := ho.2.2.2.2.2.2.2.2.1
  have g := cl_gather hm hs p
  unfold sp_pieces
  cases e : zix p (wSc w).2.2.length with
  | none =>
    rw [e] at g
    simp only at g
    exact ⟨_, by simp [f_Cl_pieces, -Prod.exists, -Prod.forall, ↓bb_gf, ↓bb_gr, ↓bb_len, ↓bb_ga, ↓bb_gl, ↓bb_go, ↓bb_pf, ↓bb_pz, ↓bb_pr, ↓bb_pa, ↓bb_pb, ↓bb_pl, ↓bb_po, ↓bb_cl, ↓bb_some, ↓bb_RI, ↓bb_RJ, mm_hI, mm_hJ, mm_hR, mm_nI, mm_nJ, mm_nR, mm_sI, mm_sJ, mm_sR, mm_RI, mm_RJ, mm_IJ, mm_IR, mm_JI, mm_JR, mm_II, mm_JJ, mm_RR, h1, ↓bS g, ↓bS (cl_refuse h1 1), zrf] <;> rfl, f0, f1⟩
  | some j =>
    rw [e] at g
    obtain ⟨S1, g1, g2, g3, g4⟩ := g
    obtain ⟨m1, s1⟩ := gat_end hm hs g2 g3
    obtain ⟨x1, x2⟩ := hc_end hm g2 (fun b j q => pc_sr q) (fun b j q => pc_vr q) s1 0
    exact ⟨_, by simp [f_Cl_pieces, -Prod.exists, -Prod.forall, ↓bb_gf, ↓bb_gr, ↓bb_len, ↓bb_ga, ↓bb_gl, ↓bb_go, ↓bb_pf, ↓bb_pz, ↓bb_pr, ↓bb_pa, ↓bb_pb, ↓bb_pl, ↓bb_po, ↓bb_cl, ↓bb_some, ↓bb_RI, ↓bb_RJ, mm_hI, mm_hJ, mm_hR, mm_nI, mm_nJ, mm_nR, mm_sI, mm_sJ, mm_sR, mm_RI, mm_RJ, mm_IJ, mm_IR, mm_JI, mm_JR, mm_II, mm_JJ, mm_RR, h1, ↓bS g1, m1.1.1, ↓bS (r_gat m1), g3.1, g4.1, ↓bS (cl_answer m1.1.1 _), zan] <;> rfl, x1, x2⟩
theorem hm_pieces (p : Int32) : zHm (f_Mo_pieces 408 p) (sp_pieces p) := fun S w h ho => by
  obtain ⟨e0, e1, e2⟩ := mo_fresh h; obtain ⟨n0, n1, n2⟩ := mo_no e1 (n := 1) (by omega); have n0' : f_Mo_no 408 1 (zfs S) = some (-1, zwI (zfs S) 408 1 (nI 1)) := n0; have hc := e1.1; have h8 := h.1.1.1; have g8 := hc.1.1; have h3 := ho.2.2.2.2.2.2.2.2.1; have ho' : okW (sTr w 0) := okW_tr ho (by omega)
  have ip : f_Mo_isPass 408 p (zfs S) = some (if (zix p (wSc w).2.2.length).isSome then 1 else 0, zfs S) := mo_isPass hc ho' p
  unfold sp_pieces
  cases e : zix p (wSc w).2.2.length with
  | none =>
    rw [e] at ip
    simp only [Option.isSome_none, Bool.false_eq_true, if_false] at ip
    exact ⟨_, by simp [f_Mo_pieces, -Prod.exists, -Prod.forall, ↓bb_gf, ↓bb_gr, ↓bb_len, ↓bb_ga, ↓bb_gl, ↓bb_go, ↓bb_pf, ↓bb_pz, ↓bb_pr, ↓bb_pa, ↓bb_pb, ↓bb_pl, ↓bb_po, ↓bb_cl, ↓bb_some, ↓bb_RI, ↓bb_RJ, mm_hI, mm_hJ, mm_hR, mm_nI, mm_nJ, mm_nR, mm_sI, mm_sJ, mm_sR, mm_RI, mm_RJ, mm_IJ, mm_IR, mm_JI, mm_JR, mm_II, mm_JJ, mm_RR, h8, ↓bS e0, g8, ↓bS ip, ↓bS n0', zrf] <;> rfl, n1, fr_trans e2 n2⟩
  | some j =>
    rw [e] at ip
    simp only [Option.isSome_some, if_true] at ip
    obtain ⟨rfl, hp, _⟩ := ix_some e
    obtain ⟨S1, s1, s2, s3⟩ := m_pieces hc.1 (show mSc (zfs S) 408 (wSc w) (wAs w) from hc.2.1) hp
    obtain ⟨k1, k2⟩ := mo_keep e1 s2 (fun b j q => by unfold wMPc at q; unfold wMs; omega) (by unfold wMPc; omega) (by unfold wMPc; omega)
    have v : zI S1 408 35 = nI (zPc w j).length := s3.1
    exact ⟨_, by simp [f_Mo_pieces, -Prod.exists, -Prod.forall, ↓bb_gf, ↓bb_gr, ↓bb_len, ↓bb_ga, ↓bb_gl, ↓bb_go, ↓bb_pf, ↓bb_pz, ↓bb_pr, ↓bb_pa, ↓bb_pb, ↓bb_pl, ↓bb_po, ↓bb_cl, ↓bb_some, ↓bb_RI, ↓bb_RJ, mm_hI, mm_hJ, mm_hR, mm_nI, mm_nJ, mm_nR, mm_sI, mm_sJ, mm_sR, mm_RI, mm_RJ, mm_IJ, mm_IR, mm_JI, mm_JR, mm_II, mm_JJ, mm_RR, h8, ↓bS e0, g8, ↓bS ip, ↓bS s1, k1.1.1.1, v, zan] <;> rfl, k1, fr_trans e2 k2⟩
def sp_piece (p i : Int32) (w : zWs) : Int32 × zWs := match zix p (wSc w).2.2.length with
  | none => zrf w 1
  | some j => match zix i (zPc w j).length with
    | none => zrf w 1
    | some k => zan w (nI (pcN (zPc w j) k))
theorem hk_piece (p i : Int32) : zHk (sp_piece p i) := hk_tr (fun w ho => by
  unfold sp_piece
  cases zix p (wSc w).2.2.length with
  | none => exact ⟨1, by omega, rfl⟩
  | some j =>
    simp only
    cases zix i (zPc w j).length with
    | none => exact ⟨1, by omega, rfl⟩
    | some k => exact ⟨0, by omega, rfl⟩)
theorem hc_piece (p i : Int32) : zHc (f_Cl_piece 1 p i) (sp_piece p i) := fun S w h ho => by
  obtain ⟨T, U, hm, hs, ht⟩ := h; have h1 := hm.1.1; have r10 := r_told hm; have hS := hm.2.2.1.1; obtain ⟨e0, e1⟩ := hc_same hm hs 0; obtain ⟨f0, f1⟩ := hc_same hm hs 1; have h3 := ho.2.2.2.2.2.2.2.2.1
  have g := cl_gather hm hs p
  unfold sp_piece
  cases e : zix p (wSc w).2.2.length with
  | none =>
    rw [e] at g
    simp only at g
    exact ⟨_, by simp [f_Cl_piece, -Prod.exists, -Prod.forall, ↓bb_gf, ↓bb_gr, ↓bb_len, ↓bb_ga, ↓bb_gl, ↓bb_go, ↓bb_pf, ↓bb_pz, ↓bb_pr, ↓bb_pa, ↓bb_pb, ↓bb_pl, ↓bb_po, ↓bb_cl, ↓bb_some, ↓bb_RI, ↓bb_RJ, mm_hI, mm_hJ, mm_hR, mm_nI, mm_nJ, mm_nR, mm_sI, mm_sJ, mm_sR, mm_RI, mm_RJ, mm_IJ, mm_IR, mm_JI, mm_JR, mm_II, mm_JJ, mm_RR, h1, ↓bS g, ↓bS (cl_refuse h1 1), zrf] <;> rfl, f0, f1⟩
  | some j =>
    rw [e] at g
    obtain ⟨S1, g1, g2, g3, g4⟩ := g
    obtain ⟨m1, s1⟩ := gat_end hm hs g2 g3
    obtain ⟨x1, x2⟩ := hc_end hm g2 (fun b j q => pc_sr q) (fun b j q => pc_vr q) s1 0
    obtain ⟨y1, y2⟩ := hc_end hm g2 (fun b j q => pc_sr q) (fun b j q => pc_vr q) s1 1
    have h16 := g4.2.1
    simp only
    cases ei : zix i (zPc w j).length with
    | none =>
      simp only
      rcases ix_none ei with q | ⟨x, rfl, hx, hn⟩
      · exact ⟨_, by simp [f_Cl_piece, -Prod.exists, -Prod.forall, ↓bb_gf, ↓bb_gr, ↓bb_len, ↓bb_ga, ↓bb_gl, ↓bb_go, ↓bb_pf, ↓bb_pz, ↓bb_pr, ↓bb_pa, ↓bb_pb, ↓bb_pl, ↓bb_po, ↓bb_cl, ↓bb_some, ↓bb_RI, ↓bb_RJ, mm_hI, mm_hJ, mm_hR, mm_nI, mm_nJ, mm_nR, mm_sI, mm_sJ, mm_sR, mm_RI, mm_RJ, mm_IJ, mm_IR, mm_JI, mm_JR, mm_II, mm_JJ, mm_RR, h1, ↓bS g1, q, m1.1.1, ↓bS (cl_refuse m1.1.1 1), zrf] <;> rfl, y1, y2⟩
      · have l0 : ¬ nI x < 0 := nI_pos hx
        have l1 : ¬ nI x < nI (zPc w j).length := by rw [nI_ltI hx (by omega)]; omega
        exact ⟨_, by simp [f_Cl_piece, -Prod.exists, -Prod.forall, ↓bb_gf, ↓bb_gr, ↓bb_len, ↓bb_ga, ↓bb_gl, ↓bb_go, ↓bb_pf, ↓bb_pz, ↓bb_pr, ↓bb_pa, ↓bb_pb, ↓bb_pl, ↓bb_po, ↓bb_cl, ↓bb_some, ↓bb_RI, ↓bb_RJ, mm_hI, mm_hJ, mm_hR, mm_nI, mm_nJ, mm_nR, mm_sI, mm_sJ, mm_sR, mm_RI, mm_RJ, mm_IJ, mm_IR, mm_JI, mm_JR, mm_II, mm_JJ, mm_RR, h1, ↓bS g1, l0, m1.1.1, ↓bS (r_gat m1), g3.1, g4.1, l1, ↓bS (cl_refuse m1.1.1 1), zrf] <;> rfl, y1, y2⟩
    | some k =>
      simp only
      obtain ⟨rfl, hk, hk2⟩ := ix_some ei
      have l0 : ¬ nI k < 0 := nI_pos hk2
      have l1 : nI k < nI (zPc w j).length := (nI_ltI hk2 (by omega)).2 hk
      have pw := pcs_what g3 g4 hk
      exact ⟨_, by simp [f_Cl_piece, -Prod.exists, -Prod.forall, ↓bb_gf, ↓bb_gr, ↓bb_len, ↓bb_ga, ↓bb_gl, ↓bb_go, ↓bb_pf, ↓bb_pz, ↓bb_pr, ↓bb_pa, ↓bb_pb, ↓bb_pl, ↓bb_po, ↓bb_cl, ↓bb_some, ↓bb_RI, ↓bb_RJ, mm_hI, mm_hJ, mm_hR, mm_nI, mm_nJ, mm_nR, mm_sI, mm_sJ, mm_sR, mm_RI, mm_RJ, mm_IJ, mm_IR, mm_JI, mm_JR, mm_II, mm_JJ, mm_RR, h1, ↓bS g1, l0, m1.1.1, ↓bS (r_gat m1), g3.1, g4.1, l1, ↓bS pw, ↓bS (cl_answer m1.1.1 _), zan] <;> rfl, x1, x2⟩
theorem hm_piece (p i : Int32) : zHm (f_Mo_piece 408 p i) (sp_piece p i) := fun S w h ho => by
  obtain ⟨e0, e1, e2⟩ := mo_fresh h; obtain ⟨n0, n1, n2⟩ := mo_no e1 (n := 1) (by omega); have n0' : f_Mo_no 408 1 (zfs S) = some (-1, zwI (zfs S) 408 1 (nI 1)) := n0; have hc := e1.1; have h8 := h.1.1.1; have g8 := hc.1.1; have h3 := ho.2.2.2.2.2.2.2.2.1; have ho' : okW (sTr w 0) := okW_tr ho (by omega)
  have ip : f_Mo_isPass 408 p (zfs S) = some (if (zix p (wSc w).2.2.length).isSome then 1 else 0, zfs S) := mo_isPass hc ho' p
  unfold sp_piece
  cases e : zix p (wSc w).2.2.length with
  | none =>
    rw [e] at ip
    simp only [Option.isSome_none, Bool.false_eq_true, if_false] at ip
    exact ⟨_, by simp [f_Mo_piece, -Prod.exists, -Prod.forall, ↓bb_gf, ↓bb_gr, ↓bb_len, ↓bb_ga, ↓bb_gl, ↓bb_go, ↓bb_pf, ↓bb_pz, ↓bb_pr, ↓bb_pa, ↓bb_pb, ↓bb_pl, ↓bb_po, ↓bb_cl, ↓bb_some, ↓bb_RI, ↓bb_RJ, mm_hI, mm_hJ, mm_hR, mm_nI, mm_nJ, mm_nR, mm_sI, mm_sJ, mm_sR, mm_RI, mm_RJ, mm_IJ, mm_IR, mm_JI, mm_JR, mm_II, mm_JJ, mm_RR, h8, ↓bS e0, g8, ↓bS ip, ↓bS n0', zrf] <;> rfl, n1, fr_trans e2 n2⟩
  | some j =>
    rw [e] at ip
    simp only [Option.isSome_some, if_true] at ip
    obtain ⟨rfl, hp, _⟩ := ix_some e
    have hsc : mSc (zfs S) 408 (wSc w) (wAs w) := hc.2.1
    obtain ⟨S1, s1, s2, s3⟩ := m_pieces hc.1 hsc hp
    obtain ⟨k1, k2⟩ := mo_keep e1 s2 (fun b j q => by unfold wMPc at q; unfold wMs; omega) (by unfold wMPc; omega) (by unfold wMPc; omega)
    obtain ⟨m0, m1, m2⟩ := mo_no k1 (n := 1) (by omega)
    have m0' : f_Mo_no 408 1 S1 = some (-1, zwI S1 408 1 (nI 1)) := m0
    have v : zI S1 408 35 = nI (zPc w j).length := s3.1
    have w16 : (zPc w j).length ≤ 16 := (pcs_w (mask := wAs w j) (ps_w hsc.2.2.2.2.2.2.2.2.2.2.2.2 hp)).1
    have ik := m_in0 (S := S1) i (n := (zPc w j).length) (by omega)
    simp only
    cases ei : zix i (zPc w j).length with
    | none =>
      rw [ei] at ik
      simp only [Option.isSome_none, Bool.false_eq_true, if_false] at ik
      exact ⟨_, by simp [f_Mo_piece, -Prod.exists, -Prod.forall, ↓bb_gf, ↓bb_gr, ↓bb_len, ↓bb_ga, ↓bb_gl, ↓bb_go, ↓bb_pf, ↓bb_pz, ↓bb_pr, ↓bb_pa, ↓bb_pb, ↓bb_pl, ↓bb_po, ↓bb_cl, ↓bb_some, ↓bb_RI, ↓bb_RJ, mm_hI, mm_hJ, mm_hR, mm_nI, mm_nJ, mm_nR, mm_sI, mm_sJ, mm_sR, mm_RI, mm_RJ, mm_IJ, mm_IR, mm_JI, mm_JR, mm_II, mm_JJ, mm_RR, h8, ↓bS e0, g8, ↓bS ip, ↓bS s1, k1.1.1.1, v, ↓bS ik, ↓bS m0', zrf] <;> rfl, m1, fr_trans e2 (fr_trans k2 m2)⟩
    | some k =>
      rw [ei] at ik
      simp only [Option.isSome_some, if_true] at ik
      obtain ⟨rfl, hk, hk2⟩ := ix_some ei
      have z : zinb (nI k) 16 = true := (nn_in hk2).2 (by omega)
      have c : (nI k).toNatClampNeg = k := nI_clamp hk2
      have vk : zI S1 (408 + 12) k = nI (pcN (zPc w j) k) := (s3.2 k hk).1
      exact ⟨_, by simp [f_Mo_piece, -Prod.exists, -Prod.forall, ↓bb_gf, ↓bb_gr, ↓bb_len, ↓bb_ga, ↓bb_gl, ↓bb_go, ↓bb_pf, ↓bb_pz, ↓bb_pr, ↓bb_pa, ↓bb_pb, ↓bb_pl, ↓bb_po, ↓bb_cl, ↓bb_some, ↓bb_RI, ↓bb_RJ, mm_hI, mm_hJ, mm_hR, mm_nI, mm_nJ, mm_nR, mm_sI, mm_sJ, mm_sR, mm_RI, mm_RJ, mm_IJ, mm_IR, mm_JI, mm_JR, mm_II, mm_JJ, mm_RR, h8, ↓bS e0, g8, ↓bS ip, ↓bS s1, k1.1.1.1, v, ↓bS ik, ↓bS (mo_pieceOf k1.1.1), mh_pieceOf k1.1.1, z, c, vk, zan] <;> rfl, k1, fr_trans e2 k2⟩
noncomputable def sp_unclear (p : Int32) (w : zWs) : Int32 × zWs := match zix p (wSc w).2.2.length with
  | none => zrf w 1
  | some j => zan w (zoI (zun (zPc w j)) (-2))
noncomputable def sp_clear (p : Int32) (w : zWs) : Int32 × zWs := match zix p (wSc w).2.2.length with
  | none => zrf w 1
  | some j => zan w (if (zun (zPc w j)).isSome then 0 else 1)
theorem hk_unclear (p : Int32) : zHk (sp_unclear p) := hk_tr (fun w ho => by
  unfold sp_unclear
  cases zix p (wSc w).2.2.length with
  | none => exact ⟨1, by omega, rfl⟩
  | some j => exact ⟨0, by omega, rfl⟩)
theorem hk_clear (p : Int32) : zHk (sp_clear p) := hk_tr (fun w ho => by
  unfold sp_clear
  cases zix p (wSc w).2.2.length with
  | none => exact ⟨1, by omega, rfl⟩
  | some j => exact ⟨0, by omega, rfl⟩)
/-- gathered, and the fewest letters read twice -/
theorem cl_un {S S1 : zM} {w : zWs} {T U j : Nat} (hm : cMn S w T U) (hs : cSr S) (g2 : zfq (wPcs 40) (vPcs 40) S S1) (g3 : sPcs S1 40) (g4 : cPcs S1 40 (zPc w j)) : ∃ S2, f_Pieces_fewestReadTwice 40 S1 = some (zoI (zun (zPc w j)) (-2), S2) ∧ zfq (fun b j => wPcs 40 b j ∨ wUn 40 b j) (vPcs 40) S S2 ∧ cMn S2 w T U ∧ cSr S2 := by
  obtain ⟨m1, s1⟩ := gat_end hm hs g2 g3
  obtain ⟨S2, r1, r2⟩ := fewest_ok g3 (by omega) g4
  have g : zfq (fun b j => wPcs 40 b j ∨ wUn 40 b j) (vPcs 40) S S2 := fq_trans (fq_mono g2 (fun b j q => Or.inl q) (fun b j q => q)) (fq_fr (fr_mono r2 (fun b j q => Or.inr q)))
  refine ⟨S2, r1, g, cMn_sr hm g (fun b j q => by unfold wPcs wUn at q; unfold wSr; omega) (fun b j q => pc_vr q), cSr_sub hs g (fun b j q => by unfold wPcs wUn vPcs at q; omega) (pcs_un g3 r2)⟩
theorem un_sr {b j : Nat} (q : wPcs 40 b j ∨ wUn 40 b j) : wSr b j := by unfold wPcs wUn at q; unfold wSr; omega
theorem hc_unclear (p : Int32) : zHc (f_Cl_unclear 1 p) (sp_unclear p) := fun S w h ho => by
  obtain ⟨T, U, hm, hs, ht⟩ := h; have h1 := hm.1.1; have r10 := r_told hm; have hS := hm.2.2.1.1; obtain ⟨e0, e1⟩ := hc_same hm hs 0; obtain ⟨f0, f1⟩ := hc_same hm hs 1; have h3 := ho.2.2.2.2.2.2.2.2.1
  have g := cl_gather hm hs p
  unfold sp_unclear
  cases e : zix p (wSc w).2.2.length with
  | none =>
    rw [e] at g
    simp only at g
    exact ⟨_, by simp [f_Cl_unclear, -Prod.exists, -Prod.forall, ↓bb_gf, ↓bb_gr, ↓bb_len, ↓bb_ga, ↓bb_gl, ↓bb_go, ↓bb_pf, ↓bb_pz, ↓bb_pr, ↓bb_pa, ↓bb_pb, ↓bb_pl, ↓bb_po, ↓bb_cl, ↓bb_some, ↓bb_RI, ↓bb_RJ, mm_hI, mm_hJ, mm_hR, mm_nI, mm_nJ, mm_nR, mm_sI, mm_sJ, mm_sR, mm_RI, mm_RJ, mm_IJ, mm_IR, mm_JI, mm_JR, mm_II, mm_JJ, mm_RR, h1, ↓bS g, ↓bS (cl_refuse h1 1), zrf] <;> rfl, f0, f1⟩
  | some j =>
    rw [e] at g
    obtain ⟨S1, g1, g2, g3, g4⟩ := g
    obtain ⟨m1, s1⟩ := gat_end hm hs g2 g3
    obtain ⟨S2, u1, u2, u3, u4⟩ := cl_un hm hs g2 g3 g4
    obtain ⟨x1, x2⟩ := hc_end hm u2 (fun b j q => un_sr q) (fun b j q => pc_vr q) u4 0
    exact ⟨_, by simp [f_Cl_unclear, -Prod.exists, -Prod.forall, ↓bb_gf, ↓bb_gr, ↓bb_len, ↓bb_ga, ↓bb_gl, ↓bb_go, ↓bb_pf, ↓bb_pz, ↓bb_pr, ↓bb_pa, ↓bb_pb, ↓bb_pl, ↓bb_po, ↓bb_cl, ↓bb_some, ↓bb_RI, ↓bb_RJ, mm_hI, mm_hJ, mm_hR, mm_nI, mm_nJ, mm_nR, mm_sI, mm_sJ, mm_sR, mm_RI, mm_RJ, mm_IJ, mm_IR, mm_JI, mm_JR, mm_II, mm_JJ, mm_RR, h1, ↓bS g1, m1.1.1, ↓bS (r_gat m1), g3.1, ↓bS u1, u3.1.1, ↓bS (cl_answer u3.1.1 _), zan] <;> rfl, x1, x2⟩
theorem hc_clear (p : Int32) : zHc (f_Cl_clear 1 p) (sp_clear p) := fun S w h ho => by
  obtain ⟨T, U, hm, hs, ht⟩ := h; have h1 := hm.1.1; have r10 := r_told hm; have hS := hm.2.2.1.1; obtain ⟨e0, e1⟩ := hc_same hm hs 0; obtain ⟨f0, f1⟩ := hc_same hm hs 1; have h3 := ho.2.2.2.2.2.2.2.2.1
  have g := cl_gather hm hs p
  unfold sp_clear
  cases e : zix p (wSc w).2.2.length with
  | none =>
    rw [e] at g
    simp only at g
    exact ⟨_, by simp [f_Cl_clear, -Prod.exists, -Prod.forall, ↓bb_gf, ↓bb_gr, ↓bb_len, ↓bb_ga, ↓bb_gl, ↓bb_go, ↓bb_pf, ↓bb_pz, ↓bb_pr, ↓bb_pa, ↓bb_pb, ↓bb_pl, ↓bb_po, ↓bb_cl, ↓bb_some, ↓bb_RI, ↓bb_RJ, mm_hI, mm_hJ, mm_hR, mm_nI, mm_nJ, mm_nR, mm_sI, mm_sJ, mm_sR, mm_RI, mm_RJ, mm_IJ, mm_IR, mm_JI, mm_JR, mm_II, mm_JJ, mm_RR, h1, ↓bS g, ↓bS (cl_refuse h1 1), zrf] <;> rfl, f0, f1⟩
  | some j =>
    rw [e] at g
    obtain ⟨S1, g1, g2, g3, g4⟩ := g
    obtain ⟨m1, s1⟩ := gat_end hm hs g2 g3
    obtain ⟨S2, u1, u2, u3, u4⟩ := cl_un hm hs g2 g3 g4
    obtain ⟨x1, x2⟩ := hc_end hm u2 (fun b j q => un_sr q) (fun b j q => pc_vr q) u4 0
    have hp := (ix_some e).2.1
    have wp : wPc (zPc w j) := pcs_w (ps_w hS.2.2.2.2.2.2.2.2.2 hp)
    cases eu : zun (zPc w j) with
    | none =>
      rw [eu] at u1
      have t2 : zoI none (-2) = -2 := rfl
      exact ⟨_, by simp [f_Cl_clear, -Prod.exists, -Prod.forall, ↓bb_gf, ↓bb_gr, ↓bb_len, ↓bb_ga, ↓bb_gl, ↓bb_go, ↓bb_pf, ↓bb_pz, ↓bb_pr, ↓bb_pa, ↓bb_pb, ↓bb_pl, ↓bb_po, ↓bb_cl, ↓bb_some, ↓bb_RI, ↓bb_RJ, mm_hI, mm_hJ, mm_hR, mm_nI, mm_nJ, mm_nR, mm_sI, mm_sJ, mm_sR, mm_RI, mm_RJ, mm_IJ, mm_IR, mm_JI, mm_JR, mm_II, mm_JJ, mm_RR, h1, ↓bS g1, m1.1.1, ↓bS (r_gat m1), g3.1, ↓bS u1, t2, u3.1.1, ↓bS (cl_answer u3.1.1 _), zan, eu] <;> rfl, x1, x2⟩
    | some m =>
      have t2 : ¬ zoI (some m) (-2) = -2 := by rw [← eu, zun_m2 wp, eu]; simp
      rw [eu] at u1
      exact ⟨_, by simp [f_Cl_clear, -Prod.exists, -Prod.forall, ↓bb_gf, ↓bb_gr, ↓bb_len, ↓bb_ga, ↓bb_gl, ↓bb_go, ↓bb_pf, ↓bb_pz, ↓bb_pr, ↓bb_pa, ↓bb_pb, ↓bb_pl, ↓bb_po, ↓bb_cl, ↓bb_some, ↓bb_RI, ↓bb_RJ, mm_hI, mm_hJ, mm_hR, mm_nI, mm_nJ, mm_nR, mm_sI, mm_sJ, mm_sR, mm_RI, mm_RJ, mm_IJ, mm_IR, mm_JI, mm_JR, mm_II, mm_JJ, mm_RR, h1, ↓bS g1, m1.1.1, ↓bS (r_gat m1), g3.1, ↓bS u1, t2, u3.1.1, ↓bS (cl_answer u3.1.1 _), zan, eu] <;> rfl, x1, x2⟩
/-- the reference: pieces laid, and the fewest letters read twice -/
theorem mo_un {S : zM} {w : zWs} (h : pMo S w) (ho : okW w) {j : Nat} (hp : j < (wSc w).2.2.length) : ∃ S1 S2, f_Mo_laysPieces 408 (nI j) S = some S1 ∧ f_Mo_unclearOf 408 S1 = some (zoI (zun (zPc w j)) (-2), S2) ∧ pMo S1 w ∧ zfr wMo S S1 ∧ pMo S2 w ∧ zfr wMo S1 S2 := by
  obtain ⟨S1, s1, s2, s3⟩ := m_pieces h.1.1 h.1.2.1 hp
  obtain ⟨k1, k2⟩ := mo_keep h s2 (fun b j q => by unfold wMPc at q; unfold wMs; omega) (by unfold wMPc; omega) (by unfold wMPc; omega)
  obtain ⟨S2, u1, u2⟩ := m_unclear k1.1.1 (pcs_w (ps_w h.1.2.1.2.2.2.2.2.2.2.2.2.2.2.2 hp)) s3
  obtain ⟨l1, l2⟩ := mo_keep k1 u2 (fun b j q => by unfold wDj at q; unfold wMs; omega) (by unfold wDj; omega) (by unfold wDj; omega)
  exact ⟨S1, S2, s1, u1, k1, k2, l1, l2⟩
theorem hm_unclear (p : Int32) : zHm (f_Mo_unclear 408 p) (sp_unclear p) := fun S w h ho => by
  obtain ⟨e0, e1, e2⟩ := mo_fresh h; obtain ⟨n0, n1, n2⟩ := mo_no e1 (n := 1) (by omega); have n0' : f_Mo_no 408 1 (zfs S) = some (-1, zwI (zfs S) 408 1 (nI 1)) := n0; have hc := e1.1; have h8 := h.1.1.1; have g8 := hc.1.1; have h3 := ho.2.2.2.2.2.2.2.2.1; have ho' : okW (sTr w 0) := okW_tr ho (by omega)
  have ip : f_Mo_isPass 408 p (zfs S) = some (if (zix p (wSc w).2.2.length).isSome then 1 else 0, zfs S) := mo_isPass hc ho' p
  unfold sp_unclear
  cases e : zix p (wSc w).2.2.length with
  | none =>
    rw [e] at ip
    simp only [Option.isSome_none, Bool.false_eq_true, if_false] at ip
    exact ⟨_, by simp [f_Mo_unclear, -Prod.exists, -Prod.forall, ↓bb_gf, ↓bb_gr, ↓bb_len, ↓bb_ga, ↓bb_gl, ↓bb_go, ↓bb_pf, ↓bb_pz, ↓bb_pr, ↓bb_pa, ↓bb_pb, ↓bb_pl, ↓bb_po, ↓bb_cl, ↓bb_some, ↓bb_RI, ↓bb_RJ, mm_hI, mm_hJ, mm_hR, mm_nI, mm_nJ, mm_nR, mm_sI, mm_sJ, mm_sR, mm_RI, mm_RJ, mm_IJ, mm_IR, mm_JI, mm_JR, mm_II, mm_JJ, mm_RR, h8, ↓bS e0, g8, ↓bS ip, ↓bS n0', zrf] <;> rfl, n1, fr_trans e2 n2⟩
  | some j =>
    rw [e] at ip
    simp only [Option.isSome_some, if_true] at ip
    obtain ⟨rfl, hp, _⟩ := ix_some e
    obtain ⟨S1, S2, u1, u2, u3, u4, u5, u6⟩ := mo_un e1 ho' hp
    have u2' : f_Mo_unclearOf 408 S1 = some (zoI (zun (zPc w j)) (-2), S2) := u2
    exact ⟨_, by simp [f_Mo_unclear, -Prod.exists, -Prod.forall, ↓bb_gf, ↓bb_gr, ↓bb_len, ↓bb_ga, ↓bb_gl, ↓bb_go, ↓bb_pf, ↓bb_pz, ↓bb_pr, ↓bb_pa, ↓bb_pb, ↓bb_pl, ↓bb_po, ↓bb_cl, ↓bb_some, ↓bb_RI, ↓bb_RJ, mm_hI, mm_hJ, mm_hR, mm_nI, mm_nJ, mm_nR, mm_sI, mm_sJ, mm_sR, mm_RI, mm_RJ, mm_IJ, mm_IR, mm_JI, mm_JR, mm_II, mm_JJ, mm_RR, h8, ↓bS e0, g8, ↓bS ip, ↓bS u1, u3.1.1.1, ↓bS u2', zan] <;> rfl, u5, fr_trans e2 (fr_trans u4 u6)⟩
theorem hm_clear (p : Int32) : zHm (f_Mo_clear 408 p) (sp_clear p) := fun S w h ho => by
  obtain ⟨e0, e1, e2⟩ := mo_fresh h; obtain ⟨n0, n1, n2⟩ := mo_no e1 (n := 1) (by omega); have n0' : f_Mo_no 408 1 (zfs S) = some (-1, zwI (zfs S) 408 1 (nI 1)) := n0; have hc := e1.1; have h8 := h.1.1.1; have g8 := hc.1.1; have h3 := ho.2.2.2.2.2.2.2.2.1; have ho' : okW (sTr w 0) := okW_tr ho (by omega)
  have ip : f_Mo_isPass 408 p (zfs S) = some (if (zix p (wSc w).2.2.length).isSome then 1 else 0, zfs S) := mo_isPass hc ho' p
  unfold sp_clear
  cases e : zix p (wSc w).2.2.length with
  | none =>
    rw [e] at ip
    simp only [Option.isSome_none, Bool.false_eq_true, if_false] at ip
    exact ⟨_, by simp [f_Mo_clear, -Prod.exists, -Prod.forall, ↓bb_gf, ↓bb_gr, ↓bb_len, ↓bb_ga, ↓bb_gl, ↓bb_go, ↓bb_pf, ↓bb_pz, ↓bb_pr, ↓bb_pa, ↓bb_pb, ↓bb_pl, ↓bb_po, ↓bb_cl, ↓bb_some, ↓bb_RI, ↓bb_RJ, mm_hI, mm_hJ, mm_hR, mm_nI, mm_nJ, mm_nR, mm_sI, mm_sJ, mm_sR, mm_RI, mm_RJ, mm_IJ, mm_IR, mm_JI, mm_JR, mm_II, mm_JJ, mm_RR, h8, ↓bS e0, g8, ↓bS ip, ↓bS n0', zrf] <;> rfl, n1, fr_trans e2 n2⟩
  | some j =>
    rw [e] at ip
    simp only [Option.isSome_some, if_true] at ip
    obtain ⟨rfl, hp, _⟩ := ix_some e
    obtain ⟨S1, S2, u1, u2, u3, u4, u5, u6⟩ := mo_un e1 ho' hp
    have u2' : f_Mo_unclearOf 408 S1 = some (zoI (zun (zPc w j)) (-2), S2) := u2
    have wp : wPc (zPc w j) := pcs_w (ps_w hc.2.1.2.2.2.2.2.2.2.2.2.2.2.2 hp)
    cases eu : zun (zPc w j) with
    | none =>
      rw [eu] at u2'
      have t2 : zoI none (-2) = -2 := rfl
      exact ⟨_, by simp [f_Mo_clear, -Prod.exists, -Prod.forall, ↓bb_gf, ↓bb_gr, ↓bb_len, ↓bb_ga, ↓bb_gl, ↓bb_go, ↓bb_pf, ↓bb_pz, ↓bb_pr, ↓bb_pa, ↓bb_pb, ↓bb_pl, ↓bb_po, ↓bb_cl, ↓bb_some, ↓bb_RI, ↓bb_RJ, mm_hI, mm_hJ, mm_hR, mm_nI, mm_nJ, mm_nR, mm_sI, mm_sJ, mm_sR, mm_RI, mm_RJ, mm_IJ, mm_IR, mm_JI, mm_JR, mm_II, mm_JJ, mm_RR, h8, ↓bS e0, g8, ↓bS ip, ↓bS u1, u3.1.1.1, ↓bS u2', t2, zan, eu] <;> rfl, u5, fr_trans e2 (fr_trans u4 u6)⟩
    | some m =>
      have t2 : ¬ zoI (some m) (-2) = -2 := by rw [← eu, zun_m2 wp, eu]; simp
      rw [eu] at u2'
      exact ⟨_, by simp [f_Mo_clear, -Prod.exists, -Prod.forall, ↓bb_gf, ↓bb_gr, ↓bb_len, ↓bb_ga, ↓bb_gl, ↓bb_go, ↓bb_pf, ↓bb_pz, ↓bb_pr, ↓bb_pa, ↓bb_pb, ↓bb_pl, ↓bb_po, ↓bb_cl, ↓bb_some, ↓bb_RI, ↓bb_RJ, mm_hI, mm_hJ, mm_hR, mm_nI, mm_nJ, mm_nR, mm_sI, mm_sJ, mm_sR, mm_RI, mm_RJ, mm_IJ, mm_IR, mm_JI, mm_JR, mm_II, mm_JJ, mm_RR, h8, ↓bS e0, g8, ↓bS ip, ↓bS u1, u3.1.1.1, ↓bS u2', t2, zan, eu] <;> rfl, u5, fr_trans e2 (fr_trans u4 u6)⟩
