/-! aside: the reference -/
theorem as_80 {S0 : zM} (h : sMo S0 408) (a3 a4 : Int32) : ∃ S', L_Mo_aside_80 F_Mo_aside_109 zF 408 a3 a4 1 S0 = F_Mo_aside_109 408 a3 a4 S' ∧ zfr (fun b _ => b = 445) S0 S' ∧ ∀ k, k < 11 → zI S' 445 k = zI S0 445 (k + 1) := by
  refine loop_g (N := 12) (by omega) (fun F (_ : Unit) i S => L_Mo_aside_80 F_Mo_aside_109 F 408 a3 a4 (nI i) S) (fun _ i S => 1 ≤ i ∧ zfr (fun b _ => b = 445) S0 S ∧ ∀ k, zI S 445 k = if k + 1 < i then zI S0 445 (k + 1) else zI S0 445 k) (fun o => ∃ S', o = F_Mo_aside_109 408 a3 a4 S' ∧ zfr (fun b _ => b = 445) S0 S' ∧ ∀ k, k < 11 → zI S' 445 k = zI S0 445 (k + 1)) ?_ ?_ () 1 S0 (by omega) ⟨by omega, fr_refl _ _, fun k => by rw [if_neg (by omega)]⟩
  · rintro F _ S ⟨a0, a1, a2⟩
    refine ⟨S, ?_, a1, fun k hk => by rw [a2 k, if_pos (by omega)]⟩
    show L_Mo_aside_80 _ (F + 1) _ _ _ _ _ = _
    rw [L_Mo_aside_80, if_neg (by decide)]
  · rintro F _ i S hi ⟨a0, a1, a2⟩ ih
    have hm := mo_fr h a1
    have lt : nI i < (12 : Int32) := (nI_ltI (b := 12) (by omega) (by omega)).2 hi
    have e1 : nI i + 1 = nI (i + 1) := nI_add i 1
    have sb := s1_12 i (by omega) (by omega)
    have z : zinb (nI i) 12 = true := (nn_in (by omega)).2 (by omega)
    have c : (nI i).toNatClampNeg = i := nI_clamp (by omega)
    have z' : zinb (nI (i - 1)) 12 = true := (nn_in (by omega)).2 (by omega)
    have c' : (nI (i - 1)).toNatClampNeg = i - 1 := nI_clamp (by omega)
    have v : zI S 445 i = zI S0 445 i := by rw [a2 i, if_neg (by omega)]
    obtain ⟨S', r1, r2⟩ := ih () (zwI S 445 (i - 1) (zI S0 445 i)) ⟨by omega, fr_trans a1 (fr_wI _ _ rfl), fun k => by
      by_cases q : k = i - 1
      · subst q
        rw [if_pos (by omega), show i - 1 + 1 = i by omega]; simp [-Prod.exists, -Prod.forall, zgf, zgr, zpf, zpz, zpr, zga, zgl, zgo, zpa, zpb, zpl, zpo, mm_len, zcl, Option.bind_some, Option.bind_none, mm_hI, mm_hJ, mm_hR, mm_nI, mm_nJ, mm_nR, mm_sI, mm_sJ, mm_sR, mm_RI, mm_RJ, mm_IJ, mm_IR, mm_JI, mm_JR, mm_II, mm_JJ, mm_RR]
      · have := a2 k
        simp [-Prod.exists, -Prod.forall, zgf, zgr, zpf, zpz, zpr, zga, zgl, zgo, zpa, zpb, zpl, zpo, mm_len, zcl, Option.bind_some, Option.bind_none, mm_hI, mm_hJ, mm_hR, mm_nI, mm_nJ, mm_nR, mm_sI, mm_sJ, mm_sR, mm_RI, mm_RJ, mm_IJ, mm_IR, mm_JI, mm_JR, mm_II, mm_JJ, mm_RR, q]
        rw [this]
        by_cases q2 : k + 1 < i
        · rw [if_pos q2, if_pos (by omega)]
        · rw [if_neg q2, if_neg (by omega)]⟩
    refine ⟨S', ?_, r2⟩
    rw [← r1]
    show L_Mo_aside_80 _ (F + 1) _ _ _ _ _ = _
    rw [L_Mo_aside_80, if_pos lt]
    simp [-Prod.exists, -Prod.forall, ↓bb_gf, ↓bb_gr, ↓bb_len, ↓bb_ga, ↓bb_gl, ↓bb_go, ↓bb_pf, ↓bb_pz, ↓bb_pr, ↓bb_pa, ↓bb_pb, ↓bb_pl, ↓bb_po, ↓bb_cl, ↓bb_some, ↓bb_RI, ↓bb_RJ, mm_hI, mm_hJ, mm_hR, mm_nI, mm_nJ, mm_nR, mm_sI, mm_sJ, mm_sR, mm_RI, mm_RJ, mm_IJ, mm_IR, mm_JI, mm_JR, mm_II, mm_JJ, mm_RR, hm.1, ↓bS (mo_acts hm), mh_acts hm, z, c, z', c', sb, v, e1]
/-- what is left behind it -/
theorem as_fin {S S' : zM} {w : zWs} {p i : Nat} (e1 : pMo S (sTr w 0)) (ho : okW w) (hp : p < (wSc w).2.2.length) (hi : i < 8) (f : zfr wAd S S') (h66 : zI S' 408 66 = nI (zkeep (wAc w) (8 * p + i)).length) (ha : ∀ k, k < (zkeep (wAc w) (8 * p + i)).length → zI S' 445 k = nI (lg (zkeep (wAc w) (8 * p + i)) k)) (hv : ∀ k, k < 24 → zI S' 426 k = if k = 8 * p + i then (if (wAs w p).testBit i then 0 else 1) else zI S 426 k) : f_Mo_asideMany 408 S' = some (nI (zac (wSc w).2.2 (zasd (wAs w) p i) (wSc w).2.2.length), S') ∧ pMo S' (sTr (sAs w (zasd (wAs w) p i) (zkeep (wAc w) (8 * p + i))) 0) ∧ zfr wMo S S' := by
  have hs := mSc_as (show mSc S 408 (wSc w) (wAs w) from e1.1.2.1) f hp hi hv
  obtain ⟨p1, p2⟩ := pMo_as e1 f hs h66 ha
  exact ⟨m_asideMany (w := sAs w (zasd (wAs w) p i) (zkeep (wAc w) (8 * p + i))) p1.1.1 hs, p1, p2⟩
/-- the act kept, the rule turned; v is 1 or 0 -/
theorem mo_asT {S : zM} {w : zWs} {p i : Nat} (e1 : pMo S (sTr w 0)) (ho : okW w) (hp : p < (wSc w).2.2.length) (hi : i < (zpa_ (wSc w).2.2 p).2.length) (c : Int32) (hcc : c = (if (wAs w p).testBit i then 0 else 1)) : ∃ S', (if nI (wAc w).length = (12 : Int32) then L_Mo_aside_80 F_Mo_aside_109 zF 408 c (nI (8 * p + i)) 1 S else
      Option.bind (zpa S 445 (nI (wAc w).length) (nI (8 * p + i))) (fun S12 => Option.bind (zgf S12 12 408 66) (fun x13 => Option.bind (zpf S12 12 408 66 (x13 + 1)) (fun S14 => Option.bind (zpb S14 426 (nI (8 * p + i)) c) (fun S16 => Option.bind (zcl S16 12 408 (f_Mo_asideMany 408 S16)) (fun p17 => some (p17.1, p17.2))))))) = some (nI (zac (wSc w).2.2 (zasd (wAs w) p i) (wSc w).2.2.length), S') ∧ pMo S' (sTr (sAs w (zasd (wAs w) p i) (zkeep (wAc w) (8 * p + i))) 0) ∧ zfr wMo S S' := by
  have l12 := ho.2.2.2.1
  have hc := e1.1
  have hsc : mSc S 408 (wSc w) (wAs w) := hc.2.1
  have h3 := ho.2.2.2.2.2.2.2.2.1
  have r8 := (ps_w hsc.2.2.2.2.2.2.2.2.2.2.2.2 hp).1
  have v6 : zI S 408 66 = nI (wAc w).length := hc.2.2.2.2.2.1
  have va : ∀ k, k < (wAc w).length → zI S 445 k = nI (lg (wAc w) k) := hc.2.2.2.2.2.2.1
  have za : zinb (nI (8 * p + i)) 24 = true := (nn_in (by omega)).2 (by omega)
  have ca : (nI (8 * p + i)).toNatClampNeg = 8 * p + i := nI_clamp (by omega)
  have c01 : c = 0 ∨ c = 1 := by rw [hcc]; cases (wAs w p).testBit i <;> simp
  by_cases q : (wAc w).length = 12
  · have e12 : nI (wAc w).length = (12 : Int32) := by rw [q]; rfl
    rw [if_pos e12]
    obtain ⟨S1, a1, a2, a3⟩ := as_80 hc.1 c (nI (8 * p + i))
    have hm1 := mo_fr hc.1 a2
    have x66 : zI S1 408 66 = 12 := by rw [fr_I a2 (by omega), v6, e12]
    have t1 : (12 : Int32) - 1 = 11 := by decide
    have t2 : (11 : Int32) + 1 = 12 := by decide
    have z11 : zinb 11 12 = true := by decide
    have c11 : (11 : Int32).toNatClampNeg = 11 := by decide
    obtain ⟨S2, e2⟩ : ∃ S2, S2 = zwI (zwI (zwI (zwI S1 408 66 11) 445 11 (nI (8 * p + i))) 408 66 12) 426 (8 * p + i) c := ⟨_, rfl⟩
    have f2 : zfr wAd S S2 := by
      rw [e2]
      exact fr_trans (fr_mono a2 (fun b j x => Or.inr (Or.inl x))) (fr_trans (fr_trans (fr_trans (fr_wI _ _ (Or.inl ⟨rfl, rfl⟩)) (fr_wI _ _ (Or.inr (Or.inl rfl)))) (fr_wI _ _ (Or.inl ⟨rfl, rfl⟩))) (fr_wI _ _ (Or.inr (Or.inr rfl))))
    have ek : zkeep (wAc w) (8 * p + i) = (wAc w).drop 1 ++ [8 * p + i] := by unfold zkeep; rw [if_neg (by omega)]
    have ld : ((wAc w).drop 1).length = 11 := by simp [q]
    obtain ⟨g1, g2, g3⟩ := as_fin (p := p) (i := i) e1 ho hp (by omega) f2 (by rw [e2, ek]; simp [-Prod.exists, -Prod.forall, zgf, zgr, zpf, zpz, zpr, zga, zgl, zgo, zpa, zpb, zpl, zpo, mm_len, zcl, Option.bind_some, Option.bind_none, mm_hI, mm_hJ, mm_hR, mm_nI, mm_nJ, mm_nR, mm_sI, mm_sJ, mm_sR, mm_RI, mm_RJ, mm_IJ, mm_IR, mm_JI, mm_JR, mm_II, mm_JJ, mm_RR, q]; rfl) (fun k hk => by
      rw [ek] at hk ⊢
      simp [q] at hk
      by_cases ee : k = 11
      · subst ee
        rw [show (11 : Nat) = ((wAc w).drop 1).length by omega, lg_end, e2]; simp [-Prod.exists, -Prod.forall, zgf, zgr, zpf, zpz, zpr, zga, zgl, zgo, zpa, zpb, zpl, zpo, mm_len, zcl, Option.bind_some, Option.bind_none, mm_hI, mm_hJ, mm_hR, mm_nI, mm_nJ, mm_nR, mm_sI, mm_sJ, mm_sR, mm_RI, mm_RJ, mm_IJ, mm_IR, mm_JI, mm_JR, mm_II, mm_JJ, mm_RR, ld, q]
      · rw [lg_app1 (by omega), lg_drop, e2]
        simp [-Prod.exists, -Prod.forall, zgf, zgr, zpf, zpz, zpr, zga, zgl, zgo, zpa, zpb, zpl, zpo, mm_len, zcl, Option.bind_some, Option.bind_none, mm_hI, mm_hJ, mm_hR, mm_nI, mm_nJ, mm_nR, mm_sI, mm_sJ, mm_sR, mm_RI, mm_RJ, mm_IJ, mm_IR, mm_JI, mm_JR, mm_II, mm_JJ, mm_RR, ee]
        rw [a3 k (by omega), va (k + 1) (by omega), show 1 + k = k + 1 by omega]) (fun k hk => by
      rw [e2]
      by_cases ee : k = 8 * p + i
      · subst ee; simp [-Prod.exists, -Prod.forall, zgf, zgr, zpf, zpz, zpr, zga, zgl, zgo, zpa, zpb, zpl, zpo, mm_len, zcl, Option.bind_some, Option.bind_none, mm_hI, mm_hJ, mm_hR, mm_nI, mm_nJ, mm_nR, mm_sI, mm_sJ, mm_sR, mm_RI, mm_RJ, mm_IJ, mm_IR, mm_JI, mm_JR, mm_II, mm_JJ, mm_RR]; rw [hcc]
      · simp [-Prod.exists, -Prod.forall, zgf, zgr, zpf, zpz, zpr, zga, zgl, zgo, zpa, zpb, zpl, zpo, mm_len, zcl, Option.bind_some, Option.bind_none, mm_hI, mm_hJ, mm_hR, mm_nI, mm_nJ, mm_nR, mm_sI, mm_sJ, mm_sR, mm_RI, mm_RJ, mm_IJ, mm_IR, mm_JI, mm_JR, mm_II, mm_JJ, mm_RR, ee]; exact fr_I a2 (by omega))
    refine ⟨S2, ?_, g2, g3⟩
    rw [a1]
    rw [e2] at g1 ⊢
    have hh : zh S1 426 = (102, 24) := mh_isAside hm1
    rcases c01 with rfl | rfl
    · simp [F_Mo_aside_109, -Prod.exists, -Prod.forall, ↓bb_gf, ↓bb_gr, ↓bb_len, ↓bb_ga, ↓bb_gl, ↓bb_go, ↓bb_pf, ↓bb_pz, ↓bb_pr, ↓bb_pa, ↓bb_pb, ↓bb_pl, ↓bb_po, ↓bb_cl, ↓bb_some, ↓bb_RI, ↓bb_RJ, mm_hI, mm_hJ, mm_hR, mm_nI, mm_nJ, mm_nR, mm_sI, mm_sJ, mm_sR, mm_RI, mm_RJ, mm_IJ, mm_IR, mm_JI, mm_JR, mm_II, mm_JJ, mm_RR, hm1.1, x66, t1, ↓bS (mo_acts hm1), mh_acts hm1, z11, c11, t2, ↓bS (mo_isAside hm1), hh, za, ca, ↓bS g1]
    · simp [F_Mo_aside_109, -Prod.exists, -Prod.forall, ↓bb_gf, ↓bb_gr, ↓bb_len, ↓bb_ga, ↓bb_gl, ↓bb_go, ↓bb_pf, ↓bb_pz, ↓bb_pr, ↓bb_pa, ↓bb_pb, ↓bb_pl, ↓bb_po, ↓bb_cl, ↓bb_some, ↓bb_RI, ↓bb_RJ, mm_hI, mm_hJ, mm_hR, mm_nI, mm_nJ, mm_nR, mm_sI, mm_sJ, mm_sR, mm_RI, mm_RJ, mm_IJ, mm_IR, mm_JI, mm_JR, mm_II, mm_JJ, mm_RR, hm1.1, x66, t1, ↓bS (mo_acts hm1), mh_acts hm1, z11, c11, t2, ↓bS (mo_isAside hm1), hh, za, ca, ↓bS g1]
  · have ne : ¬ nI (wAc w).length = (12 : Int32) := fun x => q ((nI_eq (b := 12) (by omega) (by omega)).1 x)
    rw [if_neg ne]
    have z : zinb (nI (wAc w).length) 12 = true := (nn_in (by omega)).2 (by omega)
    have cl : (nI (wAc w).length).toNatClampNeg = (wAc w).length := nI_clamp (by omega)
    have ea : nI (wAc w).length + 1 = nI ((wAc w).length + 1) := nI_add _ 1
    obtain ⟨S2, e2⟩ : ∃ S2, S2 = zwI (zwI (zwI S 445 (wAc w).length (nI (8 * p + i))) 408 66 (nI ((wAc w).length + 1))) 426 (8 * p + i) c := ⟨_, rfl⟩
    have f2 : zfr wAd S S2 := by
      rw [e2]
      exact fr_trans (fr_trans (fr_wI _ _ (Or.inr (Or.inl rfl))) (fr_wI _ _ (Or.inl ⟨rfl, rfl⟩))) (fr_wI _ _ (Or.inr (Or.inr rfl)))
    have ek : zkeep (wAc w) (8 * p + i) = wAc w ++ [8 * p + i] := by unfold zkeep; rw [if_pos (by omega)]
    obtain ⟨g1, g2, g3⟩ := as_fin (p := p) (i := i) e1 ho hp (by omega) f2 (by rw [e2, ek]; simp [-Prod.exists, -Prod.forall, zgf, zgr, zpf, zpz, zpr, zga, zgl, zgo, zpa, zpb, zpl, zpo, mm_len, zcl, Option.bind_some, Option.bind_none, mm_hI, mm_hJ, mm_hR, mm_nI, mm_nJ, mm_nR, mm_sI, mm_sJ, mm_sR, mm_RI, mm_RJ, mm_IJ, mm_IR, mm_JI, mm_JR, mm_II, mm_JJ, mm_RR]) (fun k hk => by
      rw [ek] at hk ⊢
      simp at hk
      by_cases ee : k = (wAc w).length
      · subst ee; rw [lg_end, e2]; simp [-Prod.exists, -Prod.forall, zgf, zgr, zpf, zpz, zpr, zga, zgl, zgo, zpa, zpb, zpl, zpo, mm_len, zcl, Option.bind_some, Option.bind_none, mm_hI, mm_hJ, mm_hR, mm_nI, mm_nJ, mm_nR, mm_sI, mm_sJ, mm_sR, mm_RI, mm_RJ, mm_IJ, mm_IR, mm_JI, mm_JR, mm_II, mm_JJ, mm_RR]
      · rw [lg_app1 (by omega), e2]; simp [-Prod.exists, -Prod.forall, zgf, zgr, zpf, zpz, zpr, zga, zgl, zgo, zpa, zpb, zpl, zpo, mm_len, zcl, Option.bind_some, Option.bind_none, mm_hI, mm_hJ, mm_hR, mm_nI, mm_nJ, mm_nR, mm_sI, mm_sJ, mm_sR, mm_RI, mm_RJ, mm_IJ, mm_IR, mm_JI, mm_JR, mm_II, mm_JJ, mm_RR, ee]; exact va k (by omega)) (fun k hk => by
      rw [e2]
      by_cases ee : k = 8 * p + i
      · subst ee; simp [-Prod.exists, -Prod.forall, zgf, zgr, zpf, zpz, zpr, zga, zgl, zgo, zpa, zpb, zpl, zpo, mm_len, zcl, Option.bind_some, Option.bind_none, mm_hI, mm_hJ, mm_hR, mm_nI, mm_nJ, mm_nR, mm_sI, mm_sJ, mm_sR, mm_RI, mm_RJ, mm_IJ, mm_IR, mm_JI, mm_JR, mm_II, mm_JJ, mm_RR]; rw [hcc]
      · simp [-Prod.exists, -Prod.forall, zgf, zgr, zpf, zpz, zpr, zga, zgl, zgo, zpa, zpb, zpl, zpo, mm_len, zcl, Option.bind_some, Option.bind_none, mm_hI, mm_hJ, mm_hR, mm_nI, mm_nJ, mm_nR, mm_sI, mm_sJ, mm_sR, mm_RI, mm_RJ, mm_IJ, mm_IR, mm_JI, mm_JR, mm_II, mm_JJ, mm_RR, ee])
    refine ⟨S2, ?_, g2, g3⟩
    rw [e2] at g1 ⊢
    have hh : zh S 426 = (102, 24) := mh_isAside hc.1
    have h445 : zh S 445 = (100, 12) := mh_acts hc.1
    rcases c01 with rfl | rfl
    · simp [-Prod.exists, -Prod.forall, ↓bb_gf, ↓bb_gr, ↓bb_len, ↓bb_ga, ↓bb_gl, ↓bb_go, ↓bb_pf, ↓bb_pz, ↓bb_pr, ↓bb_pa, ↓bb_pb, ↓bb_pl, ↓bb_po, ↓bb_cl, ↓bb_some, ↓bb_RI, ↓bb_RJ, mm_hI, mm_hJ, mm_hR, mm_nI, mm_nJ, mm_nR, mm_sI, mm_sJ, mm_sR, mm_RI, mm_RJ, mm_IJ, mm_IR, mm_JI, mm_JR, mm_II, mm_JJ, mm_RR, h445, z, cl, hc.1.1, v6, ea, hh, za, ca, ↓bS g1]
    · simp [-Prod.exists, -Prod.forall, ↓bb_gf, ↓bb_gr, ↓bb_len, ↓bb_ga, ↓bb_gl, ↓bb_go, ↓bb_pf, ↓bb_pz, ↓bb_pr, ↓bb_pa, ↓bb_pb, ↓bb_pl, ↓bb_po, ↓bb_cl, ↓bb_some, ↓bb_RI, ↓bb_RJ, mm_hI, mm_hJ, mm_hR, mm_nI, mm_nJ, mm_nR, mm_sI, mm_sJ, mm_sR, mm_RI, mm_RJ, mm_IJ, mm_IR, mm_JI, mm_JR, mm_II, mm_JJ, mm_RR, h445, z, cl, hc.1.1, v6, ea, hh, za, ca, ↓bS g1]
theorem hm_aside (a b c : Int32) : zHm (f_Mo_aside 408 a b c) (sp_aside a b c) := fun S w h ho => by
  obtain ⟨e0, e1, e2⟩ := mo_fresh h; obtain ⟨n0, n1, n2⟩ := mo_no e1 (n := 1) (by omega); have n0' : f_Mo_no 408 1 (zfs S) = some (-1, zwI (zfs S) 408 1 (nI 1)) := n0; have hc := e1.1; have h8 := h.1.1.1; have g8 := hc.1.1; have h3 := ho.2.2.2.2.2.2.2.2.1; have ho' : okW (sTr w 0) := okW_tr ho (by omega)
  have ir : f_Mo_isRule 408 a b (zfs S) = some (if (zix2 w a b).isSome then 1 else 0, zfs S) := mo_isRule hc ho' a b
  have i2 := mo_in2 (S := zfs S) (w := w) c
  have v6 : zI (zfs S) 408 66 = nI (wAc w).length := hc.2.2.2.2.2.1
  unfold sp_aside
  cases e : zix2 w a b with
  | none =>
    rw [e] at ir
    simp only [Option.isSome_none, Bool.false_eq_true, if_false] at ir
    exact ⟨_, by simp [f_Mo_aside, -Prod.exists, -Prod.forall, ↓bb_gf, ↓bb_gr, ↓bb_len, ↓bb_ga, ↓bb_gl, ↓bb_go, ↓bb_pf, ↓bb_pz, ↓bb_pr, ↓bb_pa, ↓bb_pb, ↓bb_pl, ↓bb_po, ↓bb_cl, ↓bb_some, ↓bb_RI, ↓bb_RJ, mm_hI, mm_hJ, mm_hR, mm_nI, mm_nJ, mm_nR, mm_sI, mm_sJ, mm_sR, mm_RI, mm_RJ, mm_IJ, mm_IR, mm_JI, mm_JR, mm_II, mm_JJ, mm_RR, h8, ↓bS e0, g8, ↓bS ir, ↓bS n0', zrf] <;> rfl, n1, fr_trans e2 n2⟩
  | some q =>
    obtain ⟨p, i⟩ := q
    rw [e] at ir
    simp only [Option.isSome_some, if_true] at ir
    obtain ⟨_, _, rfl, rfl, hp, hi⟩ := ix2_some e
    have hsc : mSc (zfs S) 408 (wSc w) (wAs w) := hc.2.1
    have r8 := (ps_w hsc.2.2.2.2.2.2.2.2.2.2.2.2 hp).1
    have m8 : (8 : Int32) * nI p = nI (8 * p) := pk_mul 8 _
    have za : zinb (nI (8 * p + i)) 24 = true := (nn_in (by omega)).2 (by omega)
    have ca : (nI (8 * p + i)).toNatClampNeg = 8 * p + i := nI_clamp (by omega)
    have vb : zI (zfs S) (408 + 18) (8 * p + i) = if (wAs w p).testBit i then 1 else 0 := hsc.2.2.2.2.2.2.2.2.1 p i (by omega) (by omega)
    obtain ⟨k0, k1, k2⟩ := mo_no e1 (n := 5) (by omega)
    have k0' : f_Mo_no 408 5 (zfs S) = some (-1, zwI (zfs S) 408 1 (nI 5)) := k0
    simp only
    by_cases q0 : c = 0
    · subst q0
      rw [if_pos (Or.inl rfl)]
      have i2 : f_Mo_in 0 0 1 (zfs S) = some (1, zfs S) := i2
      cases eb : (wAs w p).testBit i with
      | false =>
        rw [eb] at vb
        simp only [Bool.false_eq_true, if_false] at vb
        exact ⟨_, by simp [f_Mo_aside, -Prod.exists, -Prod.forall, ↓bb_gf, ↓bb_gr, ↓bb_len, ↓bb_ga, ↓bb_gl, ↓bb_go, ↓bb_pf, ↓bb_pz, ↓bb_pr, ↓bb_pa, ↓bb_pb, ↓bb_pl, ↓bb_po, ↓bb_cl, ↓bb_some, ↓bb_RI, ↓bb_RJ, mm_hI, mm_hJ, mm_hR, mm_nI, mm_nJ, mm_nR, mm_sI, mm_sJ, mm_sR, mm_RI, mm_RJ, mm_IJ, mm_IR, mm_JI, mm_JR, mm_II, mm_JJ, mm_RR, h8, ↓bS e0, g8, ↓bS ir, ↓bS i2, ↓bS (mo_isAside hc.1), mh_isAside hc.1, m8, nI_add, za, ca, vb, ↓bS k0', zrf] <;> rfl, k1, fr_trans e2 k2⟩
      | true =>
        rw [eb] at vb
        simp only [if_true] at vb
        obtain ⟨S', t1, t2, t3⟩ := mo_asT e1 ho hp hi 0 (by rw [eb]; rfl)
        refine ⟨S', ?_, t2, fr_trans e2 t3⟩
        have : f_Mo_aside 408 (nI p) (nI i) 0 S = some (nI (zac (wSc w).2.2 (zasd (wAs w) p i) (wSc w).2.2.length), S') := by
          rw [← t1]
          simp [f_Mo_aside, -Prod.exists, -Prod.forall, ↓bb_gf, ↓bb_gr, ↓bb_len, ↓bb_ga, ↓bb_gl, ↓bb_go, ↓bb_pf, ↓bb_pz, ↓bb_pr, ↓bb_pa, ↓bb_pb, ↓bb_pl, ↓bb_po, ↓bb_cl, ↓bb_some, ↓bb_RI, ↓bb_RJ, mm_hI, mm_hJ, mm_hR, mm_nI, mm_nJ, mm_nR, mm_sI, mm_sJ, mm_sR, mm_RI, mm_RJ, mm_IJ, mm_IR, mm_JI, mm_JR, mm_II, mm_JJ, mm_RR, h8, ↓bS e0, g8, ↓bS ir, ↓bS i2, ↓bS (mo_isAside hc.1), mh_isAside hc.1, m8, nI_add, za, ca, vb, v6, ↓bS (mo_acts hc.1)]
        exact this
    · by_cases q1 : c = 1
      · subst q1
        rw [if_pos (Or.inr rfl)]
        have i2 : f_Mo_in 1 0 1 (zfs S) = some (1, zfs S) := i2
        cases eb : (wAs w p).testBit i with
        | true =>
          rw [eb] at vb
          simp only [if_true] at vb
          exact ⟨_, by simp [f_Mo_aside, -Prod.exists, -Prod.forall, ↓bb_gf, ↓bb_gr, ↓bb_len, ↓bb_ga, ↓bb_gl, ↓bb_go, ↓bb_pf, ↓bb_pz, ↓bb_pr, ↓bb_pa, ↓bb_pb, ↓bb_pl, ↓bb_po, ↓bb_cl, ↓bb_some, ↓bb_RI, ↓bb_RJ, mm_hI, mm_hJ, mm_hR, mm_nI, mm_nJ, mm_nR, mm_sI, mm_sJ, mm_sR, mm_RI, mm_RJ, mm_IJ, mm_IR, mm_JI, mm_JR, mm_II, mm_JJ, mm_RR, h8, ↓bS e0, g8, ↓bS ir, ↓bS i2, ↓bS (mo_isAside hc.1), mh_isAside hc.1, m8, nI_add, za, ca, vb, ↓bS k0', zrf] <;> rfl, k1, fr_trans e2 k2⟩
        | false =>
          rw [eb] at vb
          simp only [Bool.false_eq_true, if_false] at vb
          obtain ⟨S', t1, t2, t3⟩ := mo_asT e1 ho hp hi 1 (by rw [eb]; rfl)
          refine ⟨S', ?_, t2, fr_trans e2 t3⟩
          have : f_Mo_aside 408 (nI p) (nI i) 1 S = some (nI (zac (wSc w).2.2 (zasd (wAs w) p i) (wSc w).2.2.length), S') := by
            rw [← t1]
            simp [f_Mo_aside, -Prod.exists, -Prod.forall, ↓bb_gf, ↓bb_gr, ↓bb_len, ↓bb_ga, ↓bb_gl, ↓bb_go, ↓bb_pf, ↓bb_pz, ↓bb_pr, ↓bb_pa, ↓bb_pb, ↓bb_pl, ↓bb_po, ↓bb_cl, ↓bb_some, ↓bb_RI, ↓bb_RJ, mm_hI, mm_hJ, mm_hR, mm_nI, mm_nJ, mm_nR, mm_sI, mm_sJ, mm_sR, mm_RI, mm_RJ, mm_IJ, mm_IR, mm_JI, mm_JR, mm_II, mm_JJ, mm_RR, h8, ↓bS e0, g8, ↓bS ir, ↓bS i2, ↓bS (mo_isAside hc.1), mh_isAside hc.1, m8, nI_add, za, ca, vb, v6, ↓bS (mo_acts hc.1)]
          exact this
      · rw [if_neg (by simp only [not_or]; exact ⟨q0, q1⟩)]
        have nk : zok2 c w = false := by
          cases ek : zok2 c w with
          | false => rfl
          | true => rcases zok2_0 ek with x | x
                    · exact absurd x q0
                    · exact absurd x q1
        rw [nk] at i2
        simp only [Bool.false_eq_true, if_false] at i2
        obtain ⟨y0, y1, y2⟩ := mo_no e1 (n := 2) (by omega)
        have y0' : f_Mo_no 408 2 (zfs S) = some (-1, zwI (zfs S) 408 1 (nI 2)) := y0
        exact ⟨_, by simp [f_Mo_aside, -Prod.exists, -Prod.forall, ↓bb_gf, ↓bb_gr, ↓bb_len, ↓bb_ga, ↓bb_gl, ↓bb_go, ↓bb_pf, ↓bb_pz, ↓bb_pr, ↓bb_pa, ↓bb_pb, ↓bb_pl, ↓bb_po, ↓bb_cl, ↓bb_some, ↓bb_RI, ↓bb_RJ, mm_hI, mm_hJ, mm_hR, mm_nI, mm_nJ, mm_nR, mm_sI, mm_sJ, mm_sR, mm_RI, mm_RJ, mm_IJ, mm_IR, mm_JI, mm_JR, mm_II, mm_JJ, mm_RR, h8, ↓bS e0, g8, ↓bS ir, ↓bS i2, ↓bS y0', zrf] <;> rfl, y1, fr_trans e2 y2⟩
