/-! the reference: what is asked of all words -/
section
variable {S : zM} {M N : Nat} {oc : Nat → Nat × List Nat}
theorem al_22 (hm : sMo S M) (hw : wOc oc N) (ho : mWo S M N oc) (hN : N ≤ 1364) {i j : Nat} (hi : i < N) (hj : j < N) (gi : (oc i).1 = 0) (gj : (oc j).1 = 0) : ∀ d F p, d + p = 4 → d < F → (∀ q, q < p → zkey (oc i).2 q = zkey (oc j).2 q) → L_Mo_areAlike_22 F M (nI i) (nI j) (nI p) S = some (if (oc i).2 = (oc j).2 then 1 else 0, S) := by
  obtain ⟨_, i8, i60⟩ := hw i hi
  obtain ⟨_, j8, j60⟩ := hw j hj
  have ki := ((ho i hi).2 gi).2
  have kj := ((ho j hj).2 gj).2
  intro d
  induction d with
  | zero =>
    intro F p hd hF hp
    cases F with
    | zero => omega
    | succ F =>
      have ep : p = 4 := by omega
      subst ep
      have hx : ¬ nI 4 < (4 : Int32) := by decide
      rw [if_pos (key_inj i8 j8 i60 j60 hp), L_Mo_areAlike_22]
      simp [hx]
  | succ d ih =>
    intro F p hd hF hp
    cases F with
    | zero => omega
    | succ F =>
      have hx : nI p < (4 : Int32) := (nI_ltI (b := 4) (by omega) (by omega)).2 (by omega)
      have e1 : nI p + 1 = nI (p + 1) := nI_add p 1
      have mi : (4 : Int32) * nI i = nI (4 * i) := pk_mul 4 _
      have mj : (4 : Int32) * nI j = nI (4 * j) := pk_mul 4 _
      have z1 : zinb (nI (4 * i + p)) 5460 = true := (nn_in (by omega)).2 (by omega)
      have c1 : (nI (4 * i + p)).toNatClampNeg = 4 * i + p := nI_clamp (by omega)
      have z2 : zinb (nI (4 * j + p)) 5460 = true := (nn_in (by omega)).2 (by omega)
      have c2 : (nI (4 * j + p)).toNatClampNeg = 4 * j + p := nI_clamp (by omega)
      have v1 := ki p (by omega)
      have v2 := kj p (by omega)
      have cm := lg_cmp0 (key_lt i8 p) (key_lt j8 p)
      by_cases q : zkey (oc i).2 p = zkey (oc j).2 p
      · have cq := cm.2 q
        rw [← ih F (p + 1) (by omega) (by omega) (fun r hr => by
          by_cases q2 : r = p
          · subst q2; exact q
          · exact hp r (by omega)), L_Mo_areAlike_22]
        simp (disch := omega) [-Prod.exists, -Prod.forall, ↓bb_gf, ↓bb_gr, ↓bb_len, ↓bb_ga, ↓bb_gl, ↓bb_go, ↓bb_pf, ↓bb_pz, ↓bb_pr, ↓bb_pa, ↓bb_pb, ↓bb_pl, ↓bb_po, ↓bb_cl, ↓bb_some, ↓bb_RI, ↓bb_RJ, mm_hI, mm_hJ, mm_hR, mm_nI, mm_nJ, mm_nR, mm_sI, mm_sJ, mm_sR, mm_RI, mm_RJ, mm_IJ, mm_IR, mm_JI, mm_JR, mm_II, mm_JJ, mm_RR, hx, hm.1, ↓bS (mo_keys hm), mh_keys hm, mi, mj, nI_add, z1, c1, z2, c2, v1, v2, cq, e1]
      · have cq : ¬ lg_cmp (lN (zkey (oc i).2 p)) (lN (zkey (oc j).2 p)) = 0 := fun w => q (cm.1 w)
        rw [if_neg (fun w => q (by rw [w])), L_Mo_areAlike_22]
        simp (disch := omega) [-Prod.exists, -Prod.forall, ↓bb_gf, ↓bb_gr, ↓bb_len, ↓bb_ga, ↓bb_gl, ↓bb_go, ↓bb_pf, ↓bb_pz, ↓bb_pr, ↓bb_pa, ↓bb_pb, ↓bb_pl, ↓bb_po, ↓bb_cl, ↓bb_some, ↓bb_RI, ↓bb_RJ, mm_hI, mm_hJ, mm_hR, mm_nI, mm_nJ, mm_nR, mm_sI, mm_sJ, mm_sR, mm_RI, mm_RJ, mm_IJ, mm_IR, mm_JI, mm_JR, mm_II, mm_JJ, mm_RR, hx, hm.1, ↓bS (mo_keys hm), mh_keys hm, mi, mj, nI_add, z1, c1, z2, c2, v1, v2, cq]
theorem m_alike (hm : sMo S M) (hw : wOc oc N) (ho : mWo S M N oc) (hN : N ≤ 1364) {i j : Nat} (hi : i < N) (hj : j < N) : f_Mo_areAlike M (nI i) (nI j) S = some (if zalk oc i j then 1 else 0, S) := by
  have zi : zinb (nI i) 1365 = true := (nn_in (by omega)).2 (by omega)
  have ci : (nI i).toNatClampNeg = i := nI_clamp (by omega)
  have zj : zinb (nI j) 1365 = true := (nn_in (by omega)).2 (by omega)
  have cj : (nI j).toNatClampNeg = j := nI_clamp (by omega)
  have vi := (ho i hi).1
  have vj := (ho j hj).1
  have bi := (hw i hi).1
  have bj := (hw j hj).1
  by_cases gi : (oc i).1 = 0
  · have g1 : nI (oc i).1 = 0 := by rw [gi]; rfl
    by_cases gj : (oc j).1 = 0
    · have g2 : nI (oc j).1 = 0 := by rw [gj]; rfl
      have := al_22 hm hw ho hN hi hj gi gj 4 zF 0 (by omega) (by rw [zF_eq]; omega) (fun q hq => by omega)
      have e : (if zalk oc i j = true then (1 : Int32) else 0) = if (oc i).2 = (oc j).2 then 1 else 0 := by
        by_cases q : (oc i).2 = (oc j).2
        · rw [if_pos (alk_iff.2 ⟨gi, gj, q⟩), if_pos q]
        · rw [if_neg (fun w => q (alk_iff.1 w).2.2), if_neg q]
      rw [e, ← this]
      simp (disch := omega) [f_Mo_areAlike, -Prod.exists, -Prod.forall, ↓bb_gf, ↓bb_gr, ↓bb_len, ↓bb_ga, ↓bb_gl, ↓bb_go, ↓bb_pf, ↓bb_pz, ↓bb_pr, ↓bb_pa, ↓bb_pb, ↓bb_pl, ↓bb_po, ↓bb_cl, ↓bb_some, ↓bb_RI, ↓bb_RJ, mm_hI, mm_hJ, mm_hR, mm_nI, mm_nJ, mm_nR, mm_sI, mm_sJ, mm_sR, mm_RI, mm_RJ, mm_IJ, mm_IR, mm_JI, mm_JR, mm_II, mm_JJ, mm_RR, hm.1, ↓bS (mo_how hm), mh_how hm, zi, ci, zj, cj, vi, vj, g1, g2]; rfl
    · have g2 : ¬ nI (oc j).1 = 0 := fun w => gj ((nI_eq (b := 0) (by omega) (by omega)).1 w)
      rw [if_neg (fun w => gj (alk_iff.1 w).2.1)]
      simp (disch := omega) [f_Mo_areAlike, -Prod.exists, -Prod.forall, ↓bb_gf, ↓bb_gr, ↓bb_len, ↓bb_ga, ↓bb_gl, ↓bb_go, ↓bb_pf, ↓bb_pz, ↓bb_pr, ↓bb_pa, ↓bb_pb, ↓bb_pl, ↓bb_po, ↓bb_cl, ↓bb_some, ↓bb_RI, ↓bb_RJ, mm_hI, mm_hJ, mm_hR, mm_nI, mm_nJ, mm_nR, mm_sI, mm_sJ, mm_sR, mm_RI, mm_RJ, mm_IJ, mm_IR, mm_JI, mm_JR, mm_II, mm_JJ, mm_RR, hm.1, ↓bS (mo_how hm), mh_how hm, zi, ci, zj, cj, vi, vj, g1, g2]
  · have g1 : ¬ nI (oc i).1 = 0 := fun w => gi ((nI_eq (b := 0) (by omega) (by omega)).1 w)
    rw [if_neg (fun w => gi (alk_iff.1 w).1)]
    simp (disch := omega) [f_Mo_areAlike, -Prod.exists, -Prod.forall, ↓bb_gf, ↓bb_gr, ↓bb_len, ↓bb_ga, ↓bb_gl, ↓bb_go, ↓bb_pf, ↓bb_pz, ↓bb_pr, ↓bb_pa, ↓bb_pb, ↓bb_pl, ↓bb_po, ↓bb_cl, ↓bb_some, ↓bb_RI, ↓bb_RJ, mm_hI, mm_hJ, mm_hR, mm_nI, mm_nJ, mm_nR, mm_sI, mm_sJ, mm_sR, mm_RI, mm_RJ, mm_IJ, mm_IR, mm_JI, mm_JR, mm_II, mm_JJ, mm_RR, hm.1, ↓bS (mo_how hm), mh_how hm, zi, ci, vi, g1]
theorem m_firstAlike (hm : sMo S M) (hw : wOc oc N) (ho : mWo S M N oc) (hN : N ≤ 1364) {i : Nat} (hi : i < N) : f_Mo_firstAlike M (nI i) S = some (zsI (ztwin oc i), S) := by
  refine loop_fi (N := i) (by omega) (fun F j => L_Mo_firstAlike_2 F M (nI i) (nI j) S) (p := fun j => zalk oc i j) (fun o => some (zsI o, S)) (fun F => ?_) (fun F j hj e => ?_) (fun F j hj e => ?_)
  · have hx : ¬ nI i < nI i := by rw [nI_ltI (by omega) (by omega)]; omega
    simp [L_Mo_firstAlike_2, hx, zsI]
  · have hx : nI j < nI i := by rw [nI_ltI (by omega) (by omega)]; omega
    have al := m_alike hm hw ho hN hi (j := j) (by omega)
    simp only [e, if_true] at al
    simp [L_Mo_firstAlike_2, -Prod.exists, -Prod.forall, ↓bb_gf, ↓bb_gr, ↓bb_len, ↓bb_ga, ↓bb_gl, ↓bb_go, ↓bb_pf, ↓bb_pz, ↓bb_pr, ↓bb_pa, ↓bb_pb, ↓bb_pl, ↓bb_po, ↓bb_cl, ↓bb_some, ↓bb_RI, ↓bb_RJ, mm_hI, mm_hJ, mm_hR, mm_nI, mm_nJ, mm_nR, mm_sI, mm_sJ, mm_sR, mm_RI, mm_RJ, mm_IJ, mm_IR, mm_JI, mm_JR, mm_II, mm_JJ, mm_RR, hx, hm.1, ↓bS al, zsI]
  · have hx : nI j < nI i := by rw [nI_ltI (by omega) (by omega)]; omega
    have e1 : nI j + 1 = nI (j + 1) := nI_add j 1
    have al := m_alike hm hw ho hN hi (j := j) (by omega)
    simp only [e, Bool.false_eq_true, if_false] at al
    rw [L_Mo_firstAlike_2]
    simp [-Prod.exists, -Prod.forall, ↓bb_gf, ↓bb_gr, ↓bb_len, ↓bb_ga, ↓bb_gl, ↓bb_go, ↓bb_pf, ↓bb_pz, ↓bb_pr, ↓bb_pa, ↓bb_pb, ↓bb_pl, ↓bb_po, ↓bb_cl, ↓bb_some, ↓bb_RI, ↓bb_RJ, mm_hI, mm_hJ, mm_hR, mm_nI, mm_nJ, mm_nR, mm_sI, mm_sJ, mm_sR, mm_RI, mm_RJ, mm_IJ, mm_IR, mm_JI, mm_JR, mm_II, mm_JJ, mm_RR, hx, hm.1, ↓bS al, e1]
theorem zsI_m1 {o : Option Nat} (h : ∀ k, o = some k → k < 2 ^ 31) : (zsI o = -1) ↔ o = none := by
  cases o with
  | none => simp [zsI]
  | some k =>
    have := h k rfl
    simp only [zsI, reduceCtorEq, iff_false]
    exact (nn_eqm (i := k) (m := 1) this (by omega) (by omega)).1
theorem twin_m1 {i : Nat} (hi : i < 2 ^ 31) : (zsI (ztwin oc i) = -1) ↔ ztwin oc i = none := zsI_m1 (fun k e => by have := (twin_some e).1; omega)
theorem m_dbl_l (hm : sMo S M) (hw : wOc oc N) (ho : mWo S M N oc) (hN : N ≤ 1364) (h61 : zI S M 61 = nI N) : L_Mo_doubledMany_9 zF M 0 0 S = some (nI (zdbl oc N), S) := by
  refine loop_ct (N := N) (by omega) (fun F a i => L_Mo_doubledMany_9 F M a (nI i) S) (fun F a => ?_) (fun F a i hi e => ?_) (fun F a i hi e => ?_)
  · have hx : ¬ nI N < nI N := by rw [nI_ltI (by omega) (by omega)]; omega
    simp [L_Mo_doubledMany_9, -Prod.exists, -Prod.forall, ↓bb_gf, ↓bb_gr, ↓bb_len, ↓bb_ga, ↓bb_gl, ↓bb_go, ↓bb_pf, ↓bb_pz, ↓bb_pr, ↓bb_pa, ↓bb_pb, ↓bb_pl, ↓bb_po, ↓bb_cl, ↓bb_some, ↓bb_RI, ↓bb_RJ, mm_hI, mm_hJ, mm_hR, mm_nI, mm_nJ, mm_nR, mm_sI, mm_sJ, mm_sR, mm_RI, mm_RJ, mm_IJ, mm_IR, mm_JI, mm_JR, mm_II, mm_JJ, mm_RR, hm.1, h61, hx]
  · have hx : nI i < nI N := by rw [nI_ltI (by omega) (by omega)]; omega
    have e1 : nI i + 1 = nI (i + 1) := nI_add i 1
    have al := m_firstAlike hm hw ho hN hi
    have n1 : ¬ zsI (ztwin oc i) = -1 := fun w => by rw [(twin_m1 (by omega)).1 w] at e; cases e
    rw [L_Mo_doubledMany_9]
    simp [-Prod.exists, -Prod.forall, ↓bb_gf, ↓bb_gr, ↓bb_len, ↓bb_ga, ↓bb_gl, ↓bb_go, ↓bb_pf, ↓bb_pz, ↓bb_pr, ↓bb_pa, ↓bb_pb, ↓bb_pl, ↓bb_po, ↓bb_cl, ↓bb_some, ↓bb_RI, ↓bb_RJ, mm_hI, mm_hJ, mm_hR, mm_nI, mm_nJ, mm_nR, mm_sI, mm_sJ, mm_sR, mm_RI, mm_RJ, mm_IJ, mm_IR, mm_JI, mm_JR, mm_II, mm_JJ, mm_RR, hx, hm.1, h61, ↓bS al, n1, e1]
  · have hx : nI i < nI N := by rw [nI_ltI (by omega) (by omega)]; omega
    have e1 : nI i + 1 = nI (i + 1) := nI_add i 1
    have al := m_firstAlike hm hw ho hN hi
    have n1 : zsI (ztwin oc i) = -1 := (twin_m1 (by omega)).2 (by cases h : ztwin oc i with
      | none => rfl
      | some k => rw [h] at e; cases e)
    rw [L_Mo_doubledMany_9]
    simp [-Prod.exists, -Prod.forall, ↓bb_gf, ↓bb_gr, ↓bb_len, ↓bb_ga, ↓bb_gl, ↓bb_go, ↓bb_pf, ↓bb_pz, ↓bb_pr, ↓bb_pa, ↓bb_pb, ↓bb_pl, ↓bb_po, ↓bb_cl, ↓bb_some, ↓bb_RI, ↓bb_RJ, mm_hI, mm_hJ, mm_hR, mm_nI, mm_nJ, mm_nR, mm_sI, mm_sJ, mm_sR, mm_RI, mm_RJ, mm_IJ, mm_IR, mm_JI, mm_JR, mm_II, mm_JJ, mm_RR, hx, hm.1, h61, ↓bS al, n1, e1]
theorem m_fails_l (hm : sMo S M) (hw : wOc oc N) (ho : mWo S M N oc) (hN : N ≤ 1364) (h61 : zI S M 61 = nI N) {what : Nat} (h2 : what ≤ 1) : L_Mo_fails_30 zF M (nI what) 0 0 S = some (nI (fb_ct (fun i => decide ((oc i).1 = 6 + what)) N), S) := by
  have e6 : (6 : Int32) + nI what = nI (6 + what) := nI_add 6 _
  refine loop_ct (N := N) (by omega) (fun F a i => L_Mo_fails_30 F M (nI what) a (nI i) S) (fun F a => ?_) (fun F a i hi e => ?_) (fun F a i hi e => ?_)
  · have hx : ¬ nI N < nI N := by rw [nI_ltI (by omega) (by omega)]; omega
    simp [L_Mo_fails_30, -Prod.exists, -Prod.forall, ↓bb_gf, ↓bb_gr, ↓bb_len, ↓bb_ga, ↓bb_gl, ↓bb_go, ↓bb_pf, ↓bb_pz, ↓bb_pr, ↓bb_pa, ↓bb_pb, ↓bb_pl, ↓bb_po, ↓bb_cl, ↓bb_some, ↓bb_RI, ↓bb_RJ, mm_hI, mm_hJ, mm_hR, mm_nI, mm_nJ, mm_nR, mm_sI, mm_sJ, mm_sR, mm_RI, mm_RJ, mm_IJ, mm_IR, mm_JI, mm_JR, mm_II, mm_JJ, mm_RR, hm.1, h61, hx]
  · have hx : nI i < nI N := by rw [nI_ltI (by omega) (by omega)]; omega
    have e1 : nI i + 1 = nI (i + 1) := nI_add i 1
    have zi : zinb (nI i) 1365 = true := (nn_in (by omega)).2 (by omega)
    have ci : (nI i).toNatClampNeg = i := nI_clamp (by omega)
    have vi := (ho i hi).1
    have q : nI (oc i).1 = nI (6 + what) := by rw [of_decide_eq_true e]
    rw [L_Mo_fails_30]
    simp [-Prod.exists, -Prod.forall, ↓bb_gf, ↓bb_gr, ↓bb_len, ↓bb_ga, ↓bb_gl, ↓bb_go, ↓bb_pf, ↓bb_pz, ↓bb_pr, ↓bb_pa, ↓bb_pb, ↓bb_pl, ↓bb_po, ↓bb_cl, ↓bb_some, ↓bb_RI, ↓bb_RJ, mm_hI, mm_hJ, mm_hR, mm_nI, mm_nJ, mm_nR, mm_sI, mm_sJ, mm_sR, mm_RI, mm_RJ, mm_IJ, mm_IR, mm_JI, mm_JR, mm_II, mm_JJ, mm_RR, hx, hm.1, h61, ↓bS (mo_how hm), mh_how hm, zi, ci, vi, e6, q, e1]
  · have hx : nI i < nI N := by rw [nI_ltI (by omega) (by omega)]; omega
    have e1 : nI i + 1 = nI (i + 1) := nI_add i 1
    have zi : zinb (nI i) 1365 = true := (nn_in (by omega)).2 (by omega)
    have ci : (nI i).toNatClampNeg = i := nI_clamp (by omega)
    have vi := (ho i hi).1
    have bi := (hw i hi).1
    have q : ¬ nI (oc i).1 = nI (6 + what) := fun w => (decide_eq_false_iff_not.1 e) ((nI_eq (by omega) (by omega)).1 w)
    rw [L_Mo_fails_30]
    simp [-Prod.exists, -Prod.forall, ↓bb_gf, ↓bb_gr, ↓bb_len, ↓bb_ga, ↓bb_gl, ↓bb_go, ↓bb_pf, ↓bb_pz, ↓bb_pr, ↓bb_pa, ↓bb_pb, ↓bb_pl, ↓bb_po, ↓bb_cl, ↓bb_some, ↓bb_RI, ↓bb_RJ, mm_hI, mm_hJ, mm_hR, mm_nI, mm_nJ, mm_nR, mm_sI, mm_sJ, mm_sR, mm_RI, mm_RJ, mm_IJ, mm_IR, mm_JI, mm_JR, mm_II, mm_JJ, mm_RR, hx, hm.1, h61, ↓bS (mo_how hm), mh_how hm, zi, ci, vi, e6, q, e1]
/-- what a search for a word ends in -/
noncomputable def zrW (M : Nat) (S : zM) (why : Int32) (o : Option Nat) : Option (Int64 × zM) := match o with
  | some i => Option.bind (f_Mo_wordOf M (nI i) S) (fun p => some (p.1, p.2))
  | none => Option.bind (f_Mo_no M why S) (fun p => some ((p.1).toInt64, p.2))
theorem m_firstFail_l (hm : sMo S M) (hw : wOc oc N) (ho : mWo S M N oc) (hN : N ≤ 1364) (h61 : zI S M 61 = nI N) {what : Nat} (h2 : what ≤ 1) : L_Mo_firstFail_29 zF M (nI what) 0 S = zrW M S 5 (zfi (fun i => decide ((oc i).1 = 6 + what)) N) := by
  have e6 : (6 : Int32) + nI what = nI (6 + what) := nI_add 6 _
  refine loop_fi (N := N) (by omega) (fun F i => L_Mo_firstFail_29 F M (nI what) (nI i) S) (zrW M S 5) (fun F => ?_) (fun F i hi e => ?_) (fun F i hi e => ?_)
  · have hx : ¬ nI N < nI N := by rw [nI_ltI (by omega) (by omega)]; omega
    simp [L_Mo_firstFail_29, -Prod.exists, -Prod.forall, ↓bb_gf, ↓bb_gr, ↓bb_len, ↓bb_ga, ↓bb_gl, ↓bb_go, ↓bb_pf, ↓bb_pz, ↓bb_pr, ↓bb_pa, ↓bb_pb, ↓bb_pl, ↓bb_po, ↓bb_cl, ↓bb_some, ↓bb_RI, ↓bb_RJ, mm_hI, mm_hJ, mm_hR, mm_nI, mm_nJ, mm_nR, mm_sI, mm_sJ, mm_sR, mm_RI, mm_RJ, mm_IJ, mm_IR, mm_JI, mm_JR, mm_II, mm_JJ, mm_RR, hm.1, h61, hx, zrW]
  · have hx : nI i < nI N := by rw [nI_ltI (by omega) (by omega)]; omega
    have zi : zinb (nI i) 1365 = true := (nn_in (by omega)).2 (by omega)
    have ci : (nI i).toNatClampNeg = i := nI_clamp (by omega)
    have vi := (ho i hi).1
    have q : nI (oc i).1 = nI (6 + what) := by rw [of_decide_eq_true e]
    rw [L_Mo_firstFail_29]
    simp [-Prod.exists, -Prod.forall, ↓bb_gf, ↓bb_gr, ↓bb_len, ↓bb_ga, ↓bb_gl, ↓bb_go, ↓bb_pf, ↓bb_pz, ↓bb_pr, ↓bb_pa, ↓bb_pb, ↓bb_pl, ↓bb_po, ↓bb_cl, ↓bb_some, ↓bb_RI, ↓bb_RJ, mm_hI, mm_hJ, mm_hR, mm_nI, mm_nJ, mm_nR, mm_sI, mm_sJ, mm_sR, mm_RI, mm_RJ, mm_IJ, mm_IR, mm_JI, mm_JR, mm_II, mm_JJ, mm_RR, hx, hm.1, h61, ↓bS (mo_how hm), mh_how hm, zi, ci, vi, e6, q, zrW]
  · have hx : nI i < nI N := by rw [nI_ltI (by omega) (by omega)]; omega
    have e1 : nI i + 1 = nI (i + 1) := nI_add i 1
    have zi : zinb (nI i) 1365 = true := (nn_in (by omega)).2 (by omega)
    have ci : (nI i).toNatClampNeg = i := nI_clamp (by omega)
    have vi := (ho i hi).1
    have bi := (hw i hi).1
    have q : ¬ nI (oc i).1 = nI (6 + what) := fun w => (decide_eq_false_iff_not.1 e) ((nI_eq (by omega) (by omega)).1 w)
    rw [L_Mo_firstFail_29]
    simp [-Prod.exists, -Prod.forall, ↓bb_gf, ↓bb_gr, ↓bb_len, ↓bb_ga, ↓bb_gl, ↓bb_go, ↓bb_pf, ↓bb_pz, ↓bb_pr, ↓bb_pa, ↓bb_pb, ↓bb_pl, ↓bb_po, ↓bb_cl, ↓bb_some, ↓bb_RI, ↓bb_RJ, mm_hI, mm_hJ, mm_hR, mm_nI, mm_nJ, mm_nR, mm_sI, mm_sJ, mm_sR, mm_RI, mm_RJ, mm_IJ, mm_IR, mm_JI, mm_JR, mm_II, mm_JJ, mm_RR, hx, hm.1, h61, ↓bS (mo_how hm), mh_how hm, zi, ci, vi, e6, q, e1]
theorem m_failing_l (hm : sMo S M) (hw : wOc oc N) (ho : mWo S M N oc) (hN : N ≤ 1364) (h61 : zI S M 61 = nI N) {what : Nat} (h2 : what ≤ 1) : L_Mo_failing_29 zF M (nI what) 0 S = zrW M S 5 ((zfi (fun i => (ztwin oc i).isSome) N).bind (fun i => if what = 0 then some i else ztwin oc i)) := by
  refine loop_fi (N := N) (by omega) (fun F i => L_Mo_failing_29 F M (nI what) (nI i) S) (fun o => zrW M S 5 (o.bind (fun i => if what = 0 then some i else ztwin oc i))) (fun F => ?_) (fun F i hi e => ?_) (fun F i hi e => ?_)
  · have hx : ¬ nI N < nI N := by rw [nI_ltI (by omega) (by omega)]; omega
    simp [L_Mo_failing_29, -Prod.exists, -Prod.forall, ↓bb_gf, ↓bb_gr, ↓bb_len, ↓bb_ga, ↓bb_gl, ↓bb_go, ↓bb_pf, ↓bb_pz, ↓bb_pr, ↓bb_pa, ↓bb_pb, ↓bb_pl, ↓bb_po, ↓bb_cl, ↓bb_some, ↓bb_RI, ↓bb_RJ, mm_hI, mm_hJ, mm_hR, mm_nI, mm_nJ, mm_nR, mm_sI, mm_sJ, mm_sR, mm_RI, mm_RJ, mm_IJ, mm_IR, mm_JI, mm_JR, mm_II, mm_JJ, mm_RR, hm.1, h61, hx, zrW]
  · have hx : nI i < nI N := by rw [nI_ltI (by omega) (by omega)]; omega
    have al := m_firstAlike hm hw ho hN hi
    have n1 : ¬ zsI (ztwin oc i) = -1 := fun w => by rw [(twin_m1 (by omega)).1 w] at e; cases e
    rw [L_Mo_failing_29]
    by_cases q : what = 0
    · have q' : nI what = 0 := by rw [q]; rfl
      have n00 : nI 0 = (0 : Int32) := rfl
      simp [-Prod.exists, -Prod.forall, ↓bb_gf, ↓bb_gr, ↓bb_len, ↓bb_ga, ↓bb_gl, ↓bb_go, ↓bb_pf, ↓bb_pz, ↓bb_pr, ↓bb_pa, ↓bb_pb, ↓bb_pl, ↓bb_po, ↓bb_cl, ↓bb_some, ↓bb_RI, ↓bb_RJ, mm_hI, mm_hJ, mm_hR, mm_nI, mm_nJ, mm_nR, mm_sI, mm_sJ, mm_sR, mm_RI, mm_RJ, mm_IJ, mm_IR, mm_JI, mm_JR, mm_II, mm_JJ, mm_RR, hx, hm.1, h61, ↓bS al, n1, q', q, zrW, n00]
    · have q' : ¬ nI what = 0 := fun w => q ((nI_eq (b := 0) (by omega) (by omega)).1 w)
      cases h : ztwin oc i with
      | none => rw [h] at e; cases e
      | some k =>
        rw [h] at n1 al
        have n2 : ¬ nI k = -1 := n1
        simp [-Prod.exists, -Prod.forall, ↓bb_gf, ↓bb_gr, ↓bb_len, ↓bb_ga, ↓bb_gl, ↓bb_go, ↓bb_pf, ↓bb_pz, ↓bb_pr, ↓bb_pa, ↓bb_pb, ↓bb_pl, ↓bb_po, ↓bb_cl, ↓bb_some, ↓bb_RI, ↓bb_RJ, mm_hI, mm_hJ, mm_hR, mm_nI, mm_nJ, mm_nR, mm_sI, mm_sJ, mm_sR, mm_RI, mm_RJ, mm_IJ, mm_IR, mm_JI, mm_JR, mm_II, mm_JJ, mm_RR, hx, hm.1, h61, ↓bS al, n2, q', q, zrW, h, zsI]
  · have hx : nI i < nI N := by rw [nI_ltI (by omega) (by omega)]; omega
    have e1 : nI i + 1 = nI (i + 1) := nI_add i 1
    have al := m_firstAlike hm hw ho hN hi
    have n1 : zsI (ztwin oc i) = -1 := (twin_m1 (by omega)).2 (by cases h : ztwin oc i with
      | none => rfl
      | some k => rw [h] at e; cases e)
    rw [L_Mo_failing_29]
    simp [-Prod.exists, -Prod.forall, ↓bb_gf, ↓bb_gr, ↓bb_len, ↓bb_ga, ↓bb_gl, ↓bb_go, ↓bb_pf, ↓bb_pz, ↓bb_pr, ↓bb_pa, ↓bb_pb, ↓bb_pl, ↓bb_po, ↓bb_cl, ↓bb_some, ↓bb_RI, ↓bb_RJ, mm_hI, mm_hJ, mm_hR, mm_nI, mm_nJ, mm_nR, mm_sI, mm_sJ, mm_sR, mm_RI, mm_RJ, mm_IJ, mm_IR, mm_JI, mm_JR, mm_II, mm_JJ, mm_RR, hx, hm.1, h61, ↓bS al, n1, e1]
/-! words that come out as one -/
def mSo (S : zM) (M : Nat) (xs : List Nat) : Prop := (∀ p, p < 4 → zJ S (M + 35) p = lN (zkey xs p)) ∧ l8 xs ∧ xs.length ≤ 60
def zsrc (oc : Nat → Nat × List Nat) (xs : List Nat) (i : Nat) : Bool := decide ((oc i).1 = 0) && decide ((oc i).2 = xs)
theorem m_isSource {xs : List Nat} (hm : sMo S M) (hw : wOc oc N) (ho : mWo S M N oc) (hN : N ≤ 1364) (hs : mSo S M xs) {i : Nat} (hi : i < N) : f_Mo_isSource M (nI i) S = some (if zsrc oc xs i then 1 else 0, S) := by
  obtain ⟨bi, i8, i60⟩ := hw i hi
  obtain ⟨ks, x8, x60⟩ := hs
  have zi : zinb (nI i) 1365 = true := (nn_in (by omega)).2 (by omega)
  have ci : (nI i).toNatClampNeg = i := nI_clamp (by omega)
  have vi := (ho i hi).1
  by_cases gi : (oc i).1 = 0
  · have g1 : nI (oc i).1 = 0 := by rw [gi]; rfl
    have ki := ((ho i hi).2 gi).2
    have mi : (4 : Int32) * nI i = nI (4 * i) := pk_mul 4 _
    have a1 : nI (4 * i) + 1 = nI (4 * i + 1) := nI_add _ 1
    have a2 : nI (4 * i) + 2 = nI (4 * i + 2) := nI_add _ 2
    have a3 : nI (4 * i) + 3 = nI (4 * i + 3) := nI_add _ 3
    have zz : ∀ p, p < 4 → zinb (nI (4 * i + p)) 5460 = true ∧ (nI (4 * i + p)).toNatClampNeg = 4 * i + p := fun p hp => ⟨(nn_in (by omega)).2 (by omega), nI_clamp (by omega)⟩
    have z0 : zinb (nI (4 * i)) 5460 = true := (zz 0 (by omega)).1
    have c0 : (nI (4 * i)).toNatClampNeg = 4 * i := (zz 0 (by omega)).2
    have z1 := (zz 1 (by omega)).1
    have c1 := (zz 1 (by omega)).2
    have z2 := (zz 2 (by omega)).1
    have c2 := (zz 2 (by omega)).2
    have z3 := (zz 3 (by omega)).1
    have c3 := (zz 3 (by omega)).2
    have k0 : zJ S (M + 34) (4 * i) = lN (zkey (oc i).2 0) := ki 0 (by omega)
    have k1 := ki 1 (by omega)
    have k2 := ki 2 (by omega)
    have k3 := ki 3 (by omega)
    have s0 := ks 0 (by omega)
    have s1 := ks 1 (by omega)
    have s2 := ks 2 (by omega)
    have s3 := ks 3 (by omega)
    have y0 : zinb (0 : Int32) 4 = true := by decide
    have y1 : zinb (1 : Int32) 4 = true := by decide
    have y2 : zinb (2 : Int32) 4 = true := by decide
    have y3 : zinb (3 : Int32) 4 = true := by decide
    have d0 : (0 : Int32).toNatClampNeg = 0 := by decide
    have d1 : (1 : Int32).toNatClampNeg = 1 := by decide
    have d2 : (2 : Int32).toNatClampNeg = 2 := by decide
    have d3 : (3 : Int32).toNatClampNeg = 3 := by decide
    have cm := fun p => lg_cmp0 (key_lt i8 p) (key_lt x8 p)
    have e : (if zsrc oc xs i = true then (1 : Int32) else 0) = if zkey (oc i).2 0 = zkey xs 0 then if zkey (oc i).2 1 = zkey xs 1 then if zkey (oc i).2 2 = zkey xs 2 then if zkey (oc i).2 3 = zkey xs 3 then 1 else 0 else 0 else 0 else 0 := by
      by_cases q : (oc i).2 = xs
      · rw [if_pos (by simp [zsrc, gi, q]), q]; simp
      · rw [if_neg (by simp [zsrc, gi, q])]
        split
        · rename_i h0
          split
          · rename_i h1
            split
            · rename_i h2
              split
              · rename_i h3
                exact absurd (key_inj i8 x8 i60 x60 (fun p hp => by
                  have : p = 0 ∨ p = 1 ∨ p = 2 ∨ p = 3 := by omega
                  rcases this with rfl | rfl | rfl | rfl <;> assumption)) q
              · rfl
            · rfl
          · rfl
        · rfl
    rw [e]
    simp (disch := omega) [f_Mo_isSource, -Prod.exists, -Prod.forall, ↓bb_gf, ↓bb_gr, ↓bb_len, ↓bb_ga, ↓bb_gl, ↓bb_go, ↓bb_pf, ↓bb_pz, ↓bb_pr, ↓bb_pa, ↓bb_pb, ↓bb_pl, ↓bb_po, ↓bb_cl, ↓bb_some, ↓bb_RI, ↓bb_RJ, mm_hI, mm_hJ, mm_hR, mm_nI, mm_nJ, mm_nR, mm_sI, mm_sJ, mm_sR, mm_RI, mm_RJ, mm_IJ, mm_IR, mm_JI, mm_JR, mm_II, mm_JJ, mm_RR, hm.1, ↓bS (mo_how hm), mh_how hm, zi, ci, vi, g1, ↓bS (mo_keys hm), mh_keys hm, ↓bS (mo_sought hm), mh_sought hm, mi, a1, a2, a3, z0, c0, z1, c1, z2, c2, z3, c3, k0, k1, k2, k3, s0, s1, s2, s3, y0, y1, y2, y3, d0, d1, d2, d3, cm]
    split
    · split
      · split
        · split <;> rfl
        · rfl
      · rfl
    · rfl
  · have g1 : ¬ nI (oc i).1 = 0 := fun w => gi ((nI_eq (b := 0) (by omega) (by omega)).1 w)
    rw [if_neg (by simp [zsrc, gi])]
    simp (disch := omega) [f_Mo_isSource, -Prod.exists, -Prod.forall, ↓bb_gf, ↓bb_gr, ↓bb_len, ↓bb_ga, ↓bb_gl, ↓bb_go, ↓bb_pf, ↓bb_pz, ↓bb_pr, ↓bb_pa, ↓bb_pb, ↓bb_pl, ↓bb_po, ↓bb_cl, ↓bb_some, ↓bb_RI, ↓bb_RJ, mm_hI, mm_hJ, mm_hR, mm_nI, mm_nJ, mm_nR, mm_sI, mm_sJ, mm_sR, mm_RI, mm_RJ, mm_IJ, mm_IR, mm_JI, mm_JR, mm_II, mm_JJ, mm_RR, hm.1, ↓bS (mo_how hm), mh_how hm, zi, ci, vi, g1]
theorem m_sources_l {xs : List Nat} (hm : sMo S M) (hw : wOc oc N) (ho : mWo S M N oc) (hN : N ≤ 1364) (h61 : zI S M 61 = nI N) (hs : mSo S M xs) : L_Mo_sources_26 zF M 0 0 S = some (nI (fb_ct (zsrc oc xs) N), S) := by
  refine loop_ct (N := N) (by omega) (fun F a i => L_Mo_sources_26 F M a (nI i) S) (fun F a => ?_) (fun F a i hi e => ?_) (fun F a i hi e => ?_)
  · have hx : ¬ nI N < nI N := by rw [nI_ltI (by omega) (by omega)]; omega
    simp [L_Mo_sources_26, -Prod.exists, -Prod.forall, ↓bb_gf, ↓bb_gr, ↓bb_len, ↓bb_ga, ↓bb_gl, ↓bb_go, ↓bb_pf, ↓bb_pz, ↓bb_pr, ↓bb_pa, ↓bb_pb, ↓bb_pl, ↓bb_po, ↓bb_cl, ↓bb_some, ↓bb_RI, ↓bb_RJ, mm_hI, mm_hJ, mm_hR, mm_nI, mm_nJ, mm_nR, mm_sI, mm_sJ, mm_sR, mm_RI, mm_RJ, mm_IJ, mm_IR, mm_JI, mm_JR, mm_II, mm_JJ, mm_RR, hm.1, h61, hx]
  · have hx : nI i < nI N := by rw [nI_ltI (by omega) (by omega)]; omega
    have e1 : nI i + 1 = nI (i + 1) := nI_add i 1
    have al := m_isSource hm hw ho hN hs hi
    rw [e] at al
    simp only [if_true] at al
    rw [L_Mo_sources_26]
    simp [-Prod.exists, -Prod.forall, ↓bb_gf, ↓bb_gr, ↓bb_len, ↓bb_ga, ↓bb_gl, ↓bb_go, ↓bb_pf, ↓bb_pz, ↓bb_pr, ↓bb_pa, ↓bb_pb, ↓bb_pl, ↓bb_po, ↓bb_cl, ↓bb_some, ↓bb_RI, ↓bb_RJ, mm_hI, mm_hJ, mm_hR, mm_nI, mm_nJ, mm_nR, mm_sI, mm_sJ, mm_sR, mm_RI, mm_RJ, mm_IJ, mm_IR, mm_JI, mm_JR, mm_II, mm_JJ, mm_RR, hx, hm.1, h61, ↓bS al, e1]
  · have hx : nI i < nI N := by rw [nI_ltI (by omega) (by omega)]; omega
    have e1 : nI i + 1 = nI (i + 1) := nI_add i 1
    have al := m_isSource hm hw ho hN hs hi
    rw [e] at al
    simp only [Bool.false_eq_true, if_false] at al
    rw [L_Mo_sources_26]
    simp [-Prod.exists, -Prod.forall, ↓bb_gf, ↓bb_gr, ↓bb_len, ↓bb_ga, ↓bb_gl, ↓bb_go, ↓bb_pf, ↓bb_pz, ↓bb_pr, ↓bb_pa, ↓bb_pb, ↓bb_pl, ↓bb_po, ↓bb_cl, ↓bb_some, ↓bb_RI, ↓bb_RJ, mm_hI, mm_hJ, mm_hR, mm_nI, mm_nJ, mm_nR, mm_sI, mm_sJ, mm_sR, mm_RI, mm_RJ, mm_IJ, mm_IR, mm_JI, mm_JR, mm_II, mm_JJ, mm_RR, hx, hm.1, h61, ↓bS al, e1]
theorem m_source_l {xs : List Nat} (hm : sMo S M) (hw : wOc oc N) (ho : mWo S M N oc) (hN : N ≤ 1364) (h61 : zI S M 61 = nI N) (hs : mSo S M xs) (w : Int32) : L_Mo_source_28 zF M w 0 0 S = zrW M S 1 (zkt (zsrc oc xs) N w) := by
  refine loop_kt (N := N) (by omega) (fun F a i => L_Mo_source_28 F M w a (nI i) S) w (zrW M S 1) (fun F a => ?_) (fun F i hi e => ?_) (fun F a i hi e q => ?_) (fun F a i hi e => ?_)
  · have hx : ¬ nI N < nI N := by rw [nI_ltI (by omega) (by omega)]; omega
    simp [L_Mo_source_28, -Prod.exists, -Prod.forall, ↓bb_gf, ↓bb_gr, ↓bb_len, ↓bb_ga, ↓bb_gl, ↓bb_go, ↓bb_pf, ↓bb_pz, ↓bb_pr, ↓bb_pa, ↓bb_pb, ↓bb_pl, ↓bb_po, ↓bb_cl, ↓bb_some, ↓bb_RI, ↓bb_RJ, mm_hI, mm_hJ, mm_hR, mm_nI, mm_nJ, mm_nR, mm_sI, mm_sJ, mm_sR, mm_RI, mm_RJ, mm_IJ, mm_IR, mm_JI, mm_JR, mm_II, mm_JJ, mm_RR, hm.1, h61, hx, zrW]
  · have hx : nI i < nI N := by rw [nI_ltI (by omega) (by omega)]; omega
    have al := m_isSource hm hw ho hN hs hi
    rw [e] at al
    simp only [if_true] at al
    rw [L_Mo_source_28]
    simp [-Prod.exists, -Prod.forall, ↓bb_gf, ↓bb_gr, ↓bb_len, ↓bb_ga, ↓bb_gl, ↓bb_go, ↓bb_pf, ↓bb_pz, ↓bb_pr, ↓bb_pa, ↓bb_pb, ↓bb_pl, ↓bb_po, ↓bb_cl, ↓bb_some, ↓bb_RI, ↓bb_RJ, mm_hI, mm_hJ, mm_hR, mm_nI, mm_nJ, mm_nR, mm_sI, mm_sJ, mm_sR, mm_RI, mm_RJ, mm_IJ, mm_IR, mm_JI, mm_JR, mm_II, mm_JJ, mm_RR, hx, hm.1, h61, ↓bS al, zrW]
  · have hx : nI i < nI N := by rw [nI_ltI (by omega) (by omega)]; omega
    have e1 : nI i + 1 = nI (i + 1) := nI_add i 1
    have al := m_isSource hm hw ho hN hs hi
    rw [e] at al
    simp only [if_true] at al
    rw [L_Mo_source_28]
    simp [-Prod.exists, -Prod.forall, ↓bb_gf, ↓bb_gr, ↓bb_len, ↓bb_ga, ↓bb_gl, ↓bb_go, ↓bb_pf, ↓bb_pz, ↓bb_pr, ↓bb_pa, ↓bb_pb, ↓bb_pl, ↓bb_po, ↓bb_cl, ↓bb_some, ↓bb_RI, ↓bb_RJ, mm_hI, mm_hJ, mm_hR, mm_nI, mm_nJ, mm_nR, mm_sI, mm_sJ, mm_sR, mm_RI, mm_RJ, mm_IJ, mm_IR, mm_JI, mm_JR, mm_II, mm_JJ, mm_RR, hx, hm.1, h61, ↓bS al, q, e1]
  · have hx : nI i < nI N := by rw [nI_ltI (by omega) (by omega)]; omega
    have e1 : nI i + 1 = nI (i + 1) := nI_add i 1
    have al := m_isSource hm hw ho hN hs hi
    rw [e] at al
    simp only [Bool.false_eq_true, if_false] at al
    rw [L_Mo_source_28]
    simp [-Prod.exists, -Prod.forall, ↓bb_gf, ↓bb_gr, ↓bb_len, ↓bb_ga, ↓bb_gl, ↓bb_go, ↓bb_pf, ↓bb_pz, ↓bb_pr, ↓bb_pa, ↓bb_pb, ↓bb_pl, ↓bb_po, ↓bb_cl, ↓bb_some, ↓bb_RI, ↓bb_RJ, mm_hI, mm_hJ, mm_hR, mm_nI, mm_nJ, mm_nR, mm_sI, mm_sJ, mm_sR, mm_RI, mm_RJ, mm_IJ, mm_IR, mm_JI, mm_JR, mm_II, mm_JJ, mm_RR, hx, hm.1, h61, ↓bS al, e1]
theorem m_longest_l (hm : sMo S M) (hw : wOc oc N) (ho : mWo S M N oc) (hN : N ≤ 1364) (h61 : zI S M 61 = nI N) : L_Mo_longestAt_9 zF M (-1) 0 S = some (zsI (zlga oc N), S) := by
  refine loop_g (α := Int32) (N := N) (by omega) (fun F a i _ => L_Mo_longestAt_9 F M a (nI i) S) (fun a i _ => a = zsI (zlga oc i)) (fun o => o = some (zsI (zlga oc N), S)) (fun F a _ h => ?_) (fun F a i T hi h k => ?_) (-1) 0 S (by omega) rfl
  · have hx : ¬ nI N < nI N := by rw [nI_ltI (by omega) (by omega)]; omega
    simp [L_Mo_longestAt_9, -Prod.exists, -Prod.forall, ↓bb_gf, ↓bb_gr, ↓bb_len, ↓bb_ga, ↓bb_gl, ↓bb_go, ↓bb_pf, ↓bb_pz, ↓bb_pr, ↓bb_pa, ↓bb_pb, ↓bb_pl, ↓bb_po, ↓bb_cl, ↓bb_some, ↓bb_RI, ↓bb_RJ, mm_hI, mm_hJ, mm_hR, mm_nI, mm_nJ, mm_nR, mm_sI, mm_sJ, mm_sR, mm_RI, mm_RJ, mm_IJ, mm_IR, mm_JI, mm_JR, mm_II, mm_JJ, mm_RR, hm.1, h61, hx, h]
  · have hx : nI i < nI N := by rw [nI_ltI (by omega) (by omega)]; omega
    have e1 : nI i + 1 = nI (i + 1) := nI_add i 1
    have zi : zinb (nI i) 1365 = true := (nn_in (by omega)).2 (by omega)
    have ci : (nI i).toNatClampNeg = i := nI_clamp (by omega)
    have vi := (ho i hi).1
    have bi := hw i hi
    subst h
    by_cases gi : (oc i).1 = 0
    · have g1 : nI (oc i).1 = 0 := by rw [gi]; rfl
      have li := ((ho i hi).2 gi).1
      cases e : zlga oc i with
      | none =>
        have := k (nI i) T (by rw [zlga, e]; simp [gi, zsI])
        rw [L_Mo_longestAt_9]
        simpa [-Prod.exists, -Prod.forall, ↓bb_gf, ↓bb_gr, ↓bb_len, ↓bb_ga, ↓bb_gl, ↓bb_go, ↓bb_pf, ↓bb_pz, ↓bb_pr, ↓bb_pa, ↓bb_pb, ↓bb_pl, ↓bb_po, ↓bb_cl, ↓bb_some, ↓bb_RI, ↓bb_RJ, mm_hI, mm_hJ, mm_hR, mm_nI, mm_nJ, mm_nR, mm_sI, mm_sJ, mm_sR, mm_RI, mm_RJ, mm_IJ, mm_IR, mm_JI, mm_JR, mm_II, mm_JJ, mm_RR, hx, hm.1, h61, ↓bS (mo_how hm), mh_how hm, zi, ci, vi, g1, zsI, e1] using this
      | some b =>
        obtain ⟨hb, gb⟩ := lga_lt i b e
        have lb := ((ho b (by omega)).2 gb).1
        have bb := hw b (by omega)
        have nb : ¬ nI b = -1 := (nn_eqm (i := b) (m := 1) (by omega) (by omega) (by omega)).1
        have zb : zinb (nI b) 1365 = true := (nn_in (by omega)).2 (by omega)
        have cb : (nI b).toNatClampNeg = b := nI_clamp (by omega)
        by_cases q : (oc i).2.length ≤ (oc b).2.length
        · have l : nI (oc i).2.length ≤ nI (oc b).2.length := (nI_leI (by omega) (by omega)).2 q
          have := k (nI b) T (by rw [zlga, e]; simp only; rw [if_neg (by omega)]; rfl)
          rw [L_Mo_longestAt_9]
          simpa [-Prod.exists, -Prod.forall, ↓bb_gf, ↓bb_gr, ↓bb_len, ↓bb_ga, ↓bb_gl, ↓bb_go, ↓bb_pf, ↓bb_pz, ↓bb_pr, ↓bb_pa, ↓bb_pb, ↓bb_pl, ↓bb_po, ↓bb_cl, ↓bb_some, ↓bb_RI, ↓bb_RJ, mm_hI, mm_hJ, mm_hR, mm_nI, mm_nJ, mm_nR, mm_sI, mm_sJ, mm_sR, mm_RI, mm_RJ, mm_IJ, mm_IR, mm_JI, mm_JR, mm_II, mm_JJ, mm_RR, hx, hm.1, h61, ↓bS (mo_how hm), mh_how hm, zi, ci, vi, g1, zsI, nb, ↓bS (mo_cameLong hm), mh_cameLong hm, zb, cb, li, lb, l, e1] using this
        · have l : ¬ nI (oc i).2.length ≤ nI (oc b).2.length := by rw [nI_leI (by omega) (by omega)]; exact q
          have := k (nI i) T (by rw [zlga, e]; simp only; rw [if_pos ⟨gi, by omega⟩]; rfl)
          rw [L_Mo_longestAt_9]
          simpa [-Prod.exists, -Prod.forall, ↓bb_gf, ↓bb_gr, ↓bb_len, ↓bb_ga, ↓bb_gl, ↓bb_go, ↓bb_pf, ↓bb_pz, ↓bb_pr, ↓bb_pa, ↓bb_pb, ↓bb_pl, ↓bb_po, ↓bb_cl, ↓bb_some, ↓bb_RI, ↓bb_RJ, mm_hI, mm_hJ, mm_hR, mm_nI, mm_nJ, mm_nR, mm_sI, mm_sJ, mm_sR, mm_RI, mm_RJ, mm_IJ, mm_IR, mm_JI, mm_JR, mm_II, mm_JJ, mm_RR, hx, hm.1, h61, ↓bS (mo_how hm), mh_how hm, zi, ci, vi, g1, zsI, nb, ↓bS (mo_cameLong hm), mh_cameLong hm, zb, cb, li, lb, l, e1] using this
    · have g1 : ¬ nI (oc i).1 = 0 := fun w => gi ((nI_eq (b := 0) (by omega) (by omega)).1 w)
      have := k (zsI (zlga oc i)) T (by
        rw [zlga]
        cases e : zlga oc i with
        | none => simp [gi]
        | some b => simp [gi])
      rw [L_Mo_longestAt_9]
      simpa [-Prod.exists, -Prod.forall, ↓bb_gf, ↓bb_gr, ↓bb_len, ↓bb_ga, ↓bb_gl, ↓bb_go, ↓bb_pf, ↓bb_pz, ↓bb_pr, ↓bb_pa, ↓bb_pb, ↓bb_pl, ↓bb_po, ↓bb_cl, ↓bb_some, ↓bb_RI, ↓bb_RJ, mm_hI, mm_hJ, mm_hR, mm_nI, mm_nJ, mm_nR, mm_sI, mm_sJ, mm_sR, mm_RI, mm_RJ, mm_IJ, mm_IR, mm_JI, mm_JR, mm_II, mm_JJ, mm_RR, hx, hm.1, h61, ↓bS (mo_how hm), mh_how hm, zi, ci, vi, g1, e1] using this
end
