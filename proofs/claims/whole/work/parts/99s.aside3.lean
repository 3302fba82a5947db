/-! aside, undo: the reference -/
theorem am_14 {S : zM} {w : zWs} (h : sMo S 408) (hs : mSc S 408 (wSc w) (wAs w)) {p : Nat} (hp : p < (wSc w).2.2.length) {K : Nat → Int32 → Int32 → zM → Option (Int32 × zM)} (c0 : Nat) : L_Mo_asideMany_14 K zF 408 (nI c0) (nI p) 0 S = K 408 (nI (c0 + fb_ct (fun i => (wAs w p).testBit i) (zpa_ (wSc w).2.2 p).2.length)) (nI p) S := by
  have x13 := hs.2.2.2.2.2.2.2.2.2.2.2.2
  have h3 := x13.1
  have r8 := (ps_w x13 hp).1
  have v3 : zI S (408 + 3) p = nI (zpa_ (wSc w).2.2 p).2.length := hs.2.2.2.2.2.1 p (by omega)
  have z3 : zinb (nI p) 3 = true := (nn_in (by omega)).2 (by omega)
  have cp : (nI p).toNatClampNeg = p := nI_clamp (by omega)
  have m8 : (8 : Int32) * nI p = nI (8 * p) := pk_mul 8 _
  refine loop_g (N := (zpa_ (wSc w).2.2 p).2.length) (by omega) (fun F (a : Int32) i _ => L_Mo_asideMany_14 K F 408 a (nI p) (nI i) S) (fun a i _ => a = nI (c0 + fb_ct (fun i => (wAs w p).testBit i) i)) (fun o => o = K 408 (nI (c0 + fb_ct (fun i => (wAs w p).testBit i) (zpa_ (wSc w).2.2 p).2.length)) (nI p) S) ?_ ?_ (nI c0) 0 S (by omega) rfl
  · rintro F a _ rfl
    show L_Mo_asideMany_14 K (F + 1) _ _ _ _ _ = _
    have lt : ¬ nI (zpa_ (wSc w).2.2 p).2.length < nI (zpa_ (wSc w).2.2 p).2.length := by rw [nI_ltI (by omega) (by omega)]; omega
    rw [L_Mo_asideMany_14]
    simp [-Prod.exists, -Prod.forall, ↓bb_gf, ↓bb_gr, ↓bb_len, ↓bb_ga, ↓bb_gl, ↓bb_go, ↓bb_pf, ↓bb_pz, ↓bb_pr, ↓bb_pa, ↓bb_pb, ↓bb_pl, ↓bb_po, ↓bb_cl, ↓bb_some, ↓bb_RI, ↓bb_RJ, mm_hI, mm_hJ, mm_hR, mm_nI, mm_nJ, mm_nR, mm_sI, mm_sJ, mm_sR, mm_RI, mm_RJ, mm_IJ, mm_IR, mm_JI, mm_JR, mm_II, mm_JJ, mm_RR, h.1, ↓bS (mo_ruleMany h), mh_ruleMany h, z3, cp, v3, lt]
  · rintro F a i _ hi rfl ih
    show L_Mo_asideMany_14 K (F + 1) _ _ _ _ _ = _
    have lt : nI i < nI (zpa_ (wSc w).2.2 p).2.length := (nI_ltI (by omega) (by omega)).2 hi
    have e1 : nI i + 1 = nI (i + 1) := nI_add i 1
    have z : zinb (nI (8 * p + i)) 24 = true := (nn_in (by omega)).2 (by omega)
    have c : (nI (8 * p + i)).toNatClampNeg = 8 * p + i := nI_clamp (by omega)
    have v := hs.2.2.2.2.2.2.2.2.1 p i (by omega) (by omega)
    rw [L_Mo_asideMany_14]
    cases b : (wAs w p).testBit i with
    | true =>
      rw [b] at v
      simp only [if_true] at v
      have ea : nI (c0 + fb_ct (fun i => (wAs w p).testBit i) i) + 1 = nI (c0 + fb_ct (fun i => (wAs w p).testBit i) (i + 1)) := by rw [fb_ct_succ, b]; exact nI_add _ 1
      have := ih _ S rfl
      rw [← this]
      simp [-Prod.exists, -Prod.forall, ↓bb_gf, ↓bb_gr, ↓bb_len, ↓bb_ga, ↓bb_gl, ↓bb_go, ↓bb_pf, ↓bb_pz, ↓bb_pr, ↓bb_pa, ↓bb_pb, ↓bb_pl, ↓bb_po, ↓bb_cl, ↓bb_some, ↓bb_RI, ↓bb_RJ, mm_hI, mm_hJ, mm_hR, mm_nI, mm_nJ, mm_nR, mm_sI, mm_sJ, mm_sR, mm_RI, mm_RJ, mm_IJ, mm_IR, mm_JI, mm_JR, mm_II, mm_JJ, mm_RR, h.1, ↓bS (mo_ruleMany h), mh_ruleMany h, z3, cp, v3, lt, ↓bS (mo_isAside h), mh_isAside h, m8, nI_add, z, c, v, ea, e1]
    | false =>
      rw [b] at v
      simp only [Bool.false_eq_true, if_false] at v
      have ea : nI (c0 + fb_ct (fun i => (wAs w p).testBit i) i) = nI (c0 + fb_ct (fun i => (wAs w p).testBit i) (i + 1)) := by rw [fb_ct_succ, b]; rfl
      have := ih _ S rfl
      rw [← this, ← ea]
      simp [-Prod.exists, -Prod.forall, ↓bb_gf, ↓bb_gr, ↓bb_len, ↓bb_ga, ↓bb_gl, ↓bb_go, ↓bb_pf, ↓bb_pz, ↓bb_pr, ↓bb_pa, ↓bb_pb, ↓bb_pl, ↓bb_po, ↓bb_cl, ↓bb_some, ↓bb_RI, ↓bb_RJ, mm_hI, mm_hJ, mm_hR, mm_nI, mm_nJ, mm_nR, mm_sI, mm_sJ, mm_sR, mm_RI, mm_RJ, mm_IJ, mm_IR, mm_JI, mm_JR, mm_II, mm_JJ, mm_RR, h.1, ↓bS (mo_ruleMany h), mh_ruleMany h, z3, cp, v3, lt, ↓bS (mo_isAside h), mh_isAside h, m8, nI_add, z, c, v, e1]
theorem m_asideMany {S : zM} {w : zWs} (h : sMo S 408) (hs : mSc S 408 (wSc w) (wAs w)) : f_Mo_asideMany 408 S = some (nI (zac (wSc w).2.2 (wAs w) (wSc w).2.2.length), S) := by
  have x13 := hs.2.2.2.2.2.2.2.2.2.2.2.2
  have h3 := x13.1
  have h8 := hs.2.2.1
  refine loop_g (N := (wSc w).2.2.length) (by omega) (fun F (a : Int32) i _ => L_Mo_asideMany_4 F 408 a (nI i) S) (fun a i _ => a = nI (zac (wSc w).2.2 (wAs w) i)) (fun o => o = some (nI (zac (wSc w).2.2 (wAs w) (wSc w).2.2.length), S)) ?_ ?_ 0 0 S (by omega) rfl
  · rintro F a _ rfl
    show L_Mo_asideMany_4 (F + 1) _ _ _ _ = _
    have lt : ¬ nI (wSc w).2.2.length < nI (wSc w).2.2.length := by rw [nI_ltI (by omega) (by omega)]; omega
    rw [L_Mo_asideMany_4]
    simp [-Prod.exists, -Prod.forall, ↓bb_gf, ↓bb_gr, ↓bb_len, ↓bb_ga, ↓bb_gl, ↓bb_go, ↓bb_pf, ↓bb_pz, ↓bb_pr, ↓bb_pa, ↓bb_pb, ↓bb_pl, ↓bb_po, ↓bb_cl, ↓bb_some, ↓bb_RI, ↓bb_RJ, mm_hI, mm_hJ, mm_hR, mm_nI, mm_nJ, mm_nR, mm_sI, mm_sJ, mm_sR, mm_RI, mm_RJ, mm_IJ, mm_IR, mm_JI, mm_JR, mm_II, mm_JJ, mm_RR, h.1, h8, lt]
  · rintro F a i _ hi rfl ih
    show L_Mo_asideMany_4 (F + 1) _ _ _ _ = _
    have lt : nI i < nI (wSc w).2.2.length := (nI_ltI (by omega) (by omega)).2 hi
    have e1 : nI i + 1 = nI (i + 1) := nI_add i 1
    rw [L_Mo_asideMany_4]
    simp only [↓bb_gf, h.1, if_true, h8, lt]
    rw [am_14 h hs hi]
    show L_Mo_asideMany_4 F 408 _ (nI i + 1) S = _
    rw [e1]
    exact ih _ S rfl
/-- what aside and undo may touch -/
def wAd (b j : Nat) : Prop := (b = 408 ∧ j = 66) ∨ b = 445 ∨ b = 426
theorem mSc_as {S S' : zM} {w : zWs} {p i : Nat} (hs : mSc S 408 (wSc w) (wAs w)) (hf : zfr wAd S S') (hp : p < (wSc w).2.2.length) (hi : i < 8) (hv : ∀ k, k < 24 → zI S' 426 k = if k = 8 * p + i then (if (wAs w p).testBit i then 0 else 1) else zI S 426 k) : mSc S' 408 (wSc w) (zasd (wAs w) p i) := by
  obtain ⟨x1, x2, x3, x4, x5, x6, x7, x8, x9, x10⟩ := hs
  have e : ∀ b j, ¬ wAd b j → zI S' b j = zI S b j := fun b j q => fr_I hf q
  have hsc : mSc S 408 (wSc w) (wAs w) := ⟨x1, x2, x3, x4, x5, x6, x7, x8, x9, x10⟩
  have wps := hsc.2.2.2.2.2.2.2.2.2.2.2.2
  refine ⟨by rw [e _ _ (by unfold wAd; omega)]; exact x1, by rw [e _ _ (by unfold wAd; omega)]; exact x2, by rw [e _ _ (by unfold wAd; omega)]; exact x3, by rw [e _ _ (by unfold wAd; omega)]; exact x4, fun k hk => by rw [e _ _ (by unfold wAd; omega)]; exact x5 k hk, fun q hq => by rw [e _ _ (by unfold wAd; omega)]; exact x6 q hq, fun q hq => by rw [e _ _ (by unfold wAd; omega)]; exact x7 q hq, fun q j hq hj => ?_, fun q j hq hj => ?_, x10⟩
  · have hru := ru_w (ps_w wps hq) hj
    exact mRu_eq (x8 q j hq hj) ⟨hru.2.1, hru.2.2.1⟩ (fun k _ _ => e _ _ (by unfold wAd; omega))
  · have := x9 q j hq hj
    show zI S' 426 (8 * q + j) = _
    rw [hv _ (by omega)]
    unfold zasd zup
    by_cases qp : q = p
    · subst qp
      rw [if_pos rfl, Nat.testBit_xor, Nat.testBit_two_pow]
      by_cases qi : j = i
      · subst qi
        rw [if_pos rfl]
        cases (wAs w q).testBit j <;> simp
      · rw [if_neg (by omega)]
        have : ¬ i = j := fun x => qi x.symm
        simp only [this, decide_false, Bool.bne_false]
        exact x9 q j hq hj
    · rw [if_neg (by omega), if_neg qp]
      exact x9 q j hq hj
theorem pMo_as {S S' : zM} {w : zWs} {asd : Nat → Nat} {ac : List Nat} (h : pMo S (sTr w 0)) (hf : zfr wAd S S') (hs : mSc S' 408 (wSc w) asd) (hn : zI S' 408 66 = nI ac.length) (ha : ∀ k, k < ac.length → zI S' 445 k = nI (lg ac k)) : pMo S' (sTr (sAs w asd ac) 0) ∧ zfr wMo S S' := by
  obtain ⟨⟨a1, a2, a3, a4, a5, a6, a7, a8, a9⟩, t1, t2⟩ := h
  have e : ∀ b j, ¬ wAd b j → zI S' b j = zI S b j := fun b j q => fr_I hf q
  refine ⟨⟨⟨mo_fr a1 hf, hs, by rw [e _ _ (by unfold wAd; omega)]; exact a3, fun k hk => by rw [e _ _ (by unfold wAd; omega)]; exact a4 k hk, by rw [e _ _ (by unfold wAd; omega)]; exact a5, hn, ha, by rw [e _ _ (by unfold wAd; omega)]; exact a8, fun c hc => ?_⟩, by rw [e _ _ (by unfold wAd; omega)]; exact t1, fun q => by cases q⟩, fr_mono hf (fun b j q => by unfold wAd at q; unfold wMo; omega)⟩
  obtain ⟨b1, b2, b3, b4⟩ := a9 c hc
  refine ⟨by rw [e _ _ (by unfold wAd; omega)]; exact b1, fun k hk => by rw [e _ _ (by unfold wAd; omega)]; exact b2 k hk, fun k hk => by rw [e _ _ (by unfold wAd; omega)]; exact b3 k hk, fun q q3 hq => ?_⟩
  obtain ⟨c1, c2, c3⟩ := b4 q q3 hq
  exact ⟨by rw [e _ _ (by unfold wAd; omega)]; exact c1, by rw [e _ _ (by unfold wAd; omega)]; exact c2, fun k hk => by rw [e _ _ (by unfold wAd; omega)]; exact c3 k hk⟩
theorem hm_undo : zHm (f_Mo_undo 408) sp_undo := fun S w h ho => by
  obtain ⟨e0, e1, e2⟩ := mo_fresh h; obtain ⟨n0, n1, n2⟩ := mo_no e1 (n := 1) (by omega); have n0' : f_Mo_no 408 1 (zfs S) = some (-1, zwI (zfs S) 408 1 (nI 1)) := n0; have hc := e1.1; have h8 := h.1.1.1; have g8 := hc.1.1; have h3 := ho.2.2.2.2.2.2.2.2.1; have ho' : okW (sTr w 0) := okW_tr ho (by omega)
  have l12 := ho.2.2.2.1
  have v6 : zI (zfs S) 408 66 = nI (wAc w).length := hc.2.2.2.2.2.1
  have hsc : mSc (zfs S) 408 (wSc w) (wAs w) := hc.2.1
  unfold sp_undo
  by_cases q : (wAc w).length = 0
  · rw [if_pos q]
    have v : zI (zfs S) 408 66 = 0 := by rw [v6, q]; rfl
    exact ⟨_, by simp [f_Mo_undo, -Prod.exists, -Prod.forall, ↓bb_gf, ↓bb_gr, ↓bb_len, ↓bb_ga, ↓bb_gl, ↓bb_go, ↓bb_pf, ↓bb_pz, ↓bb_pr, ↓bb_pa, ↓bb_pb, ↓bb_pl, ↓bb_po, ↓bb_cl, ↓bb_some, ↓bb_RI, ↓bb_RJ, mm_hI, mm_hJ, mm_hR, mm_nI, mm_nJ, mm_nR, mm_sI, mm_sJ, mm_sR, mm_RI, mm_RJ, mm_IJ, mm_IR, mm_JI, mm_JR, mm_II, mm_JJ, mm_RR, h8, ↓bS e0, g8, v] <;> rfl, n1, fr_trans e2 n2⟩
  · rw [if_neg q]
    have nz : ¬ nI (wAc w).length = 0 := fun x => q ((nI_eq (b := 0) (by omega) (by omega)).1 x)
    have sb := s1_12 (wAc w).length (by omega) q
    have z : zinb (nI ((wAc w).length - 1)) 12 = true := (nn_in (by omega)).2 (by omega)
    have c : (nI ((wAc w).length - 1)).toNatClampNeg = (wAc w).length - 1 := nI_clamp (by omega)
    have va : zI (zfs S) 445 ((wAc w).length - 1) = nI (lg (wAc w) ((wAc w).length - 1)) := hc.2.2.2.2.2.2.1 _ (show (wAc w).length - 1 < (wAc w).length by omega)
    obtain ⟨a, ha⟩ : ∃ a, a = lg (wAc w) ((wAc w).length - 1) := ⟨_, rfl⟩
    rw [← ha] at va ⊢
    have oa := ho.2.2.2.2.1 a (by rw [ha]; exact lg_in (by omega))
    have r8a := (ps_w hsc.2.2.2.2.2.2.2.2.2.2.2.2 oa.1).1
    have a24 : a < 24 := by have := oa.1; omega
    have za : zinb (nI a) 24 = true := (nn_in (by omega)).2 (by omega)
    have ca : (nI a).toNatClampNeg = a := nI_clamp (by omega)
    have vb : zI (zfs S) (408 + 18) (8 * (a / 8) + a % 8) = if (wAs w (a / 8)).testBit (a % 8) then 1 else 0 := hsc.2.2.2.2.2.2.2.2.1 (a / 8) (a % 8) (by omega) (by omega)
    rw [show 8 * (a / 8) + a % 8 = a by omega] at vb
    have fin : ∀ v : Int32, v = (if (wAs w (a / 8)).testBit (a % 8) then 0 else 1) → pMo (zwI (zwI (zfs S) 408 66 (nI ((wAc w).length - 1))) 426 a v) (sTr (sAs w (zasd (wAs w) (a / 8) (a % 8)) ((wAc w).take ((wAc w).length - 1))) 0) ∧ zfr wMo (zfs S) (zwI (zwI (zfs S) 408 66 (nI ((wAc w).length - 1))) 426 a v) := fun v hv => by
      have f1 : zfr wAd (zfs S) (zwI (zwI (zfs S) 408 66 (nI ((wAc w).length - 1))) 426 a v) := fr_trans (fr_wI _ _ (Or.inl ⟨rfl, rfl⟩)) (fr_wI _ _ (Or.inr (Or.inr rfl)))
      refine pMo_as e1 f1 (mSc_as hsc f1 oa.1 (by omega) (fun k hk => ?_)) (by simp [-Prod.exists, -Prod.forall, zgf, zgr, zpf, zpz, zpr, zga, zgl, zgo, zpa, zpb, zpl, zpo, mm_len, zcl, Option.bind_some, Option.bind_none, mm_hI, mm_hJ, mm_hR, mm_nI, mm_nJ, mm_nR, mm_sI, mm_sJ, mm_sR, mm_RI, mm_RJ, mm_IJ, mm_IR, mm_JI, mm_JR, mm_II, mm_JJ, mm_RR]) (fun k hk => ?_)
      · rw [show 8 * (a / 8) + a % 8 = a by omega]
        by_cases ek : k = a
        · subst ek; simp [-Prod.exists, -Prod.forall, zgf, zgr, zpf, zpz, zpr, zga, zgl, zgo, zpa, zpb, zpl, zpo, mm_len, zcl, Option.bind_some, Option.bind_none, mm_hI, mm_hJ, mm_hR, mm_nI, mm_nJ, mm_nR, mm_sI, mm_sJ, mm_sR, mm_RI, mm_RJ, mm_IJ, mm_IR, mm_JI, mm_JR, mm_II, mm_JJ, mm_RR]; rw [hv]
        · simp [-Prod.exists, -Prod.forall, zgf, zgr, zpf, zpz, zpr, zga, zgl, zgo, zpa, zpb, zpl, zpo, mm_len, zcl, Option.bind_some, Option.bind_none, mm_hI, mm_hJ, mm_hR, mm_nI, mm_nJ, mm_nR, mm_sI, mm_sJ, mm_sR, mm_RI, mm_RJ, mm_IJ, mm_IR, mm_JI, mm_JR, mm_II, mm_JJ, mm_RR, ek]
      · simp at hk
        have := hc.2.2.2.2.2.2.1 k (show k < (wAc w).length by omega)
        rw [lg_take (by omega)]
        simp [-Prod.exists, -Prod.forall, zgf, zgr, zpf, zpz, zpr, zga, zgl, zgo, zpa, zpb, zpl, zpo, mm_len, zcl, Option.bind_some, Option.bind_none, mm_hI, mm_hJ, mm_hR, mm_nI, mm_nJ, mm_nR, mm_sI, mm_sJ, mm_sR, mm_RI, mm_RJ, mm_IJ, mm_IR, mm_JI, mm_JR, mm_II, mm_JJ, mm_RR]; exact this
    cases eb : (wAs w (a / 8)).testBit (a % 8) with
    | true =>
      rw [eb] at vb fin
      simp only [if_true] at vb fin
      obtain ⟨p1, p2⟩ := fin 0 rfl
      exact ⟨_, by simp [f_Mo_undo, -Prod.exists, -Prod.forall, ↓bb_gf, ↓bb_gr, ↓bb_len, ↓bb_ga, ↓bb_gl, ↓bb_go, ↓bb_pf, ↓bb_pz, ↓bb_pr, ↓bb_pa, ↓bb_pb, ↓bb_pl, ↓bb_po, ↓bb_cl, ↓bb_some, ↓bb_RI, ↓bb_RJ, mm_hI, mm_hJ, mm_hR, mm_nI, mm_nJ, mm_nR, mm_sI, mm_sJ, mm_sR, mm_RI, mm_RJ, mm_IJ, mm_IR, mm_JI, mm_JR, mm_II, mm_JJ, mm_RR, h8, ↓bS e0, g8, v6, nz, sb, ↓bS (mo_isAside hc.1), ↓bS (mo_acts hc.1), mh_acts hc.1, z, c, va, mh_isAside hc.1, za, ca, vb] <;> rfl, p1, fr_trans e2 p2⟩
    | false =>
      rw [eb] at vb fin
      simp only [Bool.false_eq_true, if_false] at vb fin
      obtain ⟨p1, p2⟩ := fin 1 rfl
      exact ⟨_, by simp [f_Mo_undo, -Prod.exists, -Prod.forall, ↓bb_gf, ↓bb_gr, ↓bb_len, ↓bb_ga, ↓bb_gl, ↓bb_go, ↓bb_pf, ↓bb_pz, ↓bb_pr, ↓bb_pa, ↓bb_pb, ↓bb_pl, ↓bb_po, ↓bb_cl, ↓bb_some, ↓bb_RI, ↓bb_RJ, mm_hI, mm_hJ, mm_hR, mm_nI, mm_nJ, mm_nR, mm_sI, mm_sJ, mm_sR, mm_RI, mm_RJ, mm_IJ, mm_IR, mm_JI, mm_JR, mm_II, mm_JJ, mm_RR, h8, ↓bS e0, g8, v6, nz, sb, ↓bS (mo_isAside hc.1), ↓bS (mo_acts hc.1), mh_acts hc.1, z, c, va, mh_isAside hc.1, za, ca, vb] <;> rfl, p1, fr_trans e2 p2⟩
