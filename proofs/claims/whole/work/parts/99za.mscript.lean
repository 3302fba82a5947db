/-! script, the reference -/
theorem parse_pos {tx : List Nat} (h : (zparse tx).1 = 0) : 0 < (zparse tx).2.2.2.2.2.length := by
  by_cases q : 0 < (zparse tx).2.2.2.2.2.length
  · exact q
  · exfalso
    have hz : zmany (zparse tx).2.2.2.2.2 = 0 := by
      have : (zparse tx).2.2.2.2.2 = [] := List.length_eq_zero_iff.1 (by omega)
      rw [this]; rfl
    obtain ⟨r, hr⟩ : ∃ r, r = zlines tx tx.length (zline tx true (znext tx 0) (0, [], [], [])) := ⟨_, rfl⟩
    have z1 : (zparse tx).1 = if r.1 = 0 then (if r.2.1.2.2 = 0 then (if zmany r.2.2.2.2.2 = 0 then 6 else 0) else 1) else r.1 := by rw [hr]; rfl
    have z2 : (zparse tx).2.2 = r.2.2 := by rw [hr]; rfl
    rw [z2] at hz
    rw [z1, if_pos hz] at h
    split at h
    · split at h
      · cases h
      · cases h
    · rename_i q; exact q h
theorem pa_out {ps : List zPs} {p : Nat} (h : ps.length ≤ p) : (zpa_ ps p).2.length = 0 := by
  unfold zpa_
  rw [List.getD_eq_getElem?_getD, List.getElem?_eq_none h]; rfl
section
variable {S0 : zM}
theorem ms_88 {k : Nat → zM → Option (Int32 × zM)} (h : sMo S0 408) : ∃ S', L_Mo_script_88 k zF 408 0 S0 = k 408 S' ∧ zfr (fun b _ => b = 410) S0 S' ∧ ∀ i, i < 4 → zI S' 410 i = zI S0 414 i :=
  loop_st (N := 4) (by omega) (fun F i S => L_Mo_script_88 k F 408 (nI i) S) (fun S => k 408 S) (W := fun b _ => b = 410) (S0 := S0) (fun i S => zwI S 410 i (zI S 414 i)) (fun i S => zI S 410 i = zI S0 414 i)
    (fun F S hf => by
      show L_Mo_script_88 k (F + 1) _ _ _ = _
      rw [L_Mo_script_88, if_neg (by decide)])
    (fun F i S hi hf => by
      have hm := mo_fr h hf
      have lt : nI i < (4 : Int32) := (nI_ltI (b := 4) (by omega) (by omega)).2 hi
      have e1 : nI i + 1 = nI (i + 1) := nI_add i 1
      have z : zinb (nI i) 4 = true := (nn_in (by omega)).2 hi
      have c : (nI i).toNatClampNeg = i := nI_clamp (by omega)
      show L_Mo_script_88 k (F + 1) _ _ _ = _
      rw [L_Mo_script_88, if_pos lt]
      simp [-Prod.exists, -Prod.forall, ↓bb_gf, ↓bb_gr, ↓bb_len, ↓bb_ga, ↓bb_gl, ↓bb_go, ↓bb_pf, ↓bb_pz, ↓bb_pr, ↓bb_pa, ↓bb_pb, ↓bb_pl, ↓bb_po, ↓bb_cl, ↓bb_some, ↓bb_RI, ↓bb_RJ, mm_hI, mm_hJ, mm_hR, mm_nI, mm_nJ, mm_nR, mm_sI, mm_sJ, mm_sR, mm_RI, mm_RJ, mm_IJ, mm_IR, mm_JI, mm_JR, mm_II, mm_JJ, mm_RR, hm.1, ↓bS (mo_kinds hm), ↓bS (mo_newKinds hm), mh_kinds hm, mh_newKinds hm, z, c, e1])
    (fun i S hi => fr_wI _ _ rfl) (fun i S hi hf => by simp [-Prod.exists, -Prod.forall, zgf, zgr, zpf, zpz, zpr, zga, zgl, zgo, zpa, zpb, zpl, zpo, mm_len, zcl, Option.bind_some, Option.bind_none, mm_hI, mm_hJ, mm_hR, mm_nI, mm_nJ, mm_nR, mm_sI, mm_sJ, mm_sR, mm_RI, mm_RJ, mm_IJ, mm_IR, mm_JI, mm_JR, mm_II, mm_JJ, mm_RR]; exact fr_I hf (by omega)) (fun i j S hi hj hp => by
      have : i ≠ j := by omega
      simp [-Prod.exists, -Prod.forall, zgf, zgr, zpf, zpz, zpr, zga, zgl, zgo, zpa, zpb, zpl, zpo, mm_len, zcl, Option.bind_some, Option.bind_none, mm_hI, mm_hJ, mm_hR, mm_nI, mm_nJ, mm_nR, mm_sI, mm_sJ, mm_sR, mm_RI, mm_RJ, mm_IJ, mm_IR, mm_JI, mm_JR, mm_II, mm_JJ, mm_RR, this, hp])
theorem ms_113 {k : Nat → zM → Option (Int32 × zM)} {np : Nat} (h : sMo S0 408) (hnp : np ≤ 3) (h8 : zI S0 408 8 = nI np) (hb : ∀ j, zI S0 417 j = 0 ∨ zI S0 417 j = 1) : ∃ S', L_Mo_script_113 k zF 408 0 S0 = k 408 S' ∧ zfr (fun b _ => b = 411 ∨ b = 412) S0 S' ∧ ∀ i, i < 3 → zI S' 411 i = (if i < np then zI S0 416 i else 0) ∧ zI S' 412 i = zI S0 417 i :=
  loop_st (N := 3) (by omega) (fun F i S => L_Mo_script_113 k F 408 (nI i) S) (fun S => k 408 S) (W := fun b _ => b = 411 ∨ b = 412) (S0 := S0) (fun i S => zwI (zwI S 411 i (if i < np then zI S 416 i else 0)) 412 i (zI S 417 i)) (fun i S => zI S 411 i = (if i < np then zI S0 416 i else 0) ∧ zI S 412 i = zI S0 417 i)
    (fun F S hf => by
      show L_Mo_script_113 k (F + 1) _ _ _ = _
      rw [L_Mo_script_113, if_neg (by decide)])
    (fun F i S hi hf => by
      have hm := mo_fr h hf
      have lt : nI i < (3 : Int32) := (nI_ltI (b := 3) (by omega) (by omega)).2 hi
      have e1 : nI i + 1 = nI (i + 1) := nI_add i 1
      have z : zinb (nI i) 3 = true := (nn_in (by omega)).2 hi
      have c : (nI i).toNatClampNeg = i := nI_clamp (by omega)
      have v8 : zI S 408 8 = nI np := by rw [fr_I hf (by omega)]; exact h8
      have vb : zI S 417 i = 0 ∨ zI S 417 i = 1 := by rw [fr_I hf (by omega)]; exact hb i
      show L_Mo_script_113 k (F + 1) _ _ _ = _
      rw [L_Mo_script_113, if_pos lt]
      by_cases q : i < np
      · have l2 : nI i < nI np := (nI_ltI (by omega) (by omega)).2 q
        simp [-Prod.exists, -Prod.forall, ↓bb_gf, ↓bb_gr, ↓bb_len, ↓bb_ga, ↓bb_gl, ↓bb_go, ↓bb_pf, ↓bb_pz, ↓bb_pr, ↓bb_pa, ↓bb_pb, ↓bb_pl, ↓bb_po, ↓bb_cl, ↓bb_some, ↓bb_RI, ↓bb_RJ, mm_hI, mm_hJ, mm_hR, mm_nI, mm_nJ, mm_nR, mm_sI, mm_sJ, mm_sR, mm_RI, mm_RJ, mm_IJ, mm_IR, mm_JI, mm_JR, mm_II, mm_JJ, mm_RR, hm.1, ↓bS (mo_ruleMany hm), ↓bS (mo_newRuleMany hm), ↓bS (mo_isAgain hm), ↓bS (mo_newAgain hm), mh_ruleMany hm, mh_newRuleMany hm, mh_isAgain hm, mh_newAgain hm, v8, l2, z, c, e1, q, vb]
      · have l2 : ¬ nI i < nI np := fun x => q ((nI_ltI (by omega) (by omega)).1 x)
        simp [-Prod.exists, -Prod.forall, ↓bb_gf, ↓bb_gr, ↓bb_len, ↓bb_ga, ↓bb_gl, ↓bb_go, ↓bb_pf, ↓bb_pz, ↓bb_pr, ↓bb_pa, ↓bb_pb, ↓bb_pl, ↓bb_po, ↓bb_cl, ↓bb_some, ↓bb_RI, ↓bb_RJ, mm_hI, mm_hJ, mm_hR, mm_nI, mm_nJ, mm_nR, mm_sI, mm_sJ, mm_sR, mm_RI, mm_RJ, mm_IJ, mm_IR, mm_JI, mm_JR, mm_II, mm_JJ, mm_RR, hm.1, ↓bS (mo_ruleMany hm), ↓bS (mo_isAgain hm), ↓bS (mo_newAgain hm), mh_ruleMany hm, mh_isAgain hm, mh_newAgain hm, v8, l2, z, c, e1, q, vb])
    (fun i S hi => fr_trans (fr_wI _ _ (Or.inl rfl)) (fr_wI _ _ (Or.inr rfl))) (fun i S hi hf => by
      have g6 : zI S 416 i = zI S0 416 i := fr_I hf (by omega)
      have g7 : zI S 417 i = zI S0 417 i := fr_I hf (by omega)
      simp [-Prod.exists, -Prod.forall, zgf, zgr, zpf, zpz, zpr, zga, zgl, zgo, zpa, zpb, zpl, zpo, mm_len, zcl, Option.bind_some, Option.bind_none, mm_hI, mm_hJ, mm_hR, mm_nI, mm_nJ, mm_nR, mm_sI, mm_sJ, mm_sR, mm_RI, mm_RJ, mm_IJ, mm_IR, mm_JI, mm_JR, mm_II, mm_JJ, mm_RR, g6, g7]) (fun i j S hi hj hp => by
      have : i ≠ j := by omega
      simp [-Prod.exists, -Prod.forall, zgf, zgr, zpf, zpz, zpr, zga, zgl, zgo, zpa, zpb, zpl, zpo, mm_len, zcl, Option.bind_some, Option.bind_none, mm_hI, mm_hJ, mm_hR, mm_nI, mm_nJ, mm_nR, mm_sI, mm_sJ, mm_sR, mm_RI, mm_RJ, mm_IJ, mm_IR, mm_JI, mm_JR, mm_II, mm_JJ, mm_RR, this, hp.1, hp.2])
theorem ms_162 {k : Nat → zM → Option (Int32 × zM)} (h : sMo S0 408) : ∃ S', L_Mo_script_162 k zF 408 0 S0 = k 408 S' ∧ zfr (fun b _ => b = 413) S0 S' ∧ ∀ i, i < 264 → zI S' 413 i = zI S0 418 i :=
  loop_st (N := 264) (by omega) (fun F i S => L_Mo_script_162 k F 408 (nI i) S) (fun S => k 408 S) (W := fun b _ => b = 413) (S0 := S0) (fun i S => zwI S 413 i (zI S 418 i)) (fun i S => zI S 413 i = zI S0 418 i)
    (fun F S hf => by
      show L_Mo_script_162 k (F + 1) _ _ _ = _
      rw [L_Mo_script_162, if_neg (by decide)])
    (fun F i S hi hf => by
      have hm := mo_fr h hf
      have lt : nI i < (264 : Int32) := (nI_ltI (b := 264) (by omega) (by omega)).2 hi
      have e1 : nI i + 1 = nI (i + 1) := nI_add i 1
      have z : zinb (nI i) 264 = true := (nn_in (by omega)).2 hi
      have c : (nI i).toNatClampNeg = i := nI_clamp (by omega)
      show L_Mo_script_162 k (F + 1) _ _ _ = _
      rw [L_Mo_script_162, if_pos lt]
      simp [-Prod.exists, -Prod.forall, ↓bb_gf, ↓bb_gr, ↓bb_len, ↓bb_ga, ↓bb_gl, ↓bb_go, ↓bb_pf, ↓bb_pz, ↓bb_pr, ↓bb_pa, ↓bb_pb, ↓bb_pl, ↓bb_po, ↓bb_cl, ↓bb_some, ↓bb_RI, ↓bb_RJ, mm_hI, mm_hJ, mm_hR, mm_nI, mm_nJ, mm_nR, mm_sI, mm_sJ, mm_sR, mm_RI, mm_RJ, mm_IJ, mm_IR, mm_JI, mm_JR, mm_II, mm_JJ, mm_RR, hm.1, ↓bS (mo_rules hm), ↓bS (mo_newRules hm), mh_rules hm, mh_newRules hm, z, c, e1])
    (fun i S hi => fr_wI _ _ rfl) (fun i S hi hf => by simp [-Prod.exists, -Prod.forall, zgf, zgr, zpf, zpz, zpr, zga, zgl, zgo, zpa, zpb, zpl, zpo, mm_len, zcl, Option.bind_some, Option.bind_none, mm_hI, mm_hJ, mm_hR, mm_nI, mm_nJ, mm_nR, mm_sI, mm_sJ, mm_sR, mm_RI, mm_RJ, mm_IJ, mm_IR, mm_JI, mm_JR, mm_II, mm_JJ, mm_RR]; exact fr_I hf (by omega)) (fun i j S hi hj hp => by
      have : i ≠ j := by omega
      simp [-Prod.exists, -Prod.forall, zgf, zgr, zpf, zpz, zpr, zga, zgl, zgo, zpa, zpb, zpl, zpo, mm_len, zcl, Option.bind_some, Option.bind_none, mm_hI, mm_hJ, mm_hR, mm_nI, mm_nJ, mm_nR, mm_sI, mm_sJ, mm_sR, mm_RI, mm_RJ, mm_IJ, mm_IR, mm_JI, mm_JR, mm_II, mm_JJ, mm_RR, this, hp])
theorem ms_189 (h : sMo S0 408) : ∃ S', L_Mo_script_189 zF 408 0 S0 = some (zI S0 408 8, zwI (zwI (zwI S' 408 9 1) 408 48 0) 408 66 0) ∧ zfr (fun b _ => b = 426) S0 S' ∧ ∀ i, i < 24 → zI S' 426 i = 0 := by
  obtain ⟨S', a1, a2, a3⟩ := loop_st (N := 24) (by omega) (fun F i S => L_Mo_script_189 F 408 (nI i) S) (fun S => Option.bind (zpz S 12 408 9 (1 : Int32)) (fun S3 =>
    Option.bind (zpz S3 12 408 48 (0 : Int32)) (fun S4 =>
    Option.bind (zpf S4 12 408 66 (0 : Int32)) (fun S5 =>
    Option.bind (zgf S5 12 408 8) (fun x6 =>
    some (x6, S5)))))) (W := fun b _ => b = 426) (S0 := S0) (fun i S => zwI S 426 i 0) (fun i S => zI S 426 i = 0)
    (fun F S hf => by
      show L_Mo_script_189 (F + 1) _ _ _ = _
      rw [L_Mo_script_189, if_neg (by decide)])
    (fun F i S hi hf => by
      have hm := mo_fr h hf
      have lt : nI i < (24 : Int32) := (nI_ltI (b := 24) (by omega) (by omega)).2 hi
      have e1 : nI i + 1 = nI (i + 1) := nI_add i 1
      have z : zinb (nI i) 24 = true := (nn_in (by omega)).2 hi
      have c : (nI i).toNatClampNeg = i := nI_clamp (by omega)
      show L_Mo_script_189 (F + 1) _ _ _ = _
      rw [L_Mo_script_189, if_pos lt]
      simp [-Prod.exists, -Prod.forall, ↓bb_gf, ↓bb_gr, ↓bb_len, ↓bb_ga, ↓bb_gl, ↓bb_go, ↓bb_pf, ↓bb_pz, ↓bb_pr, ↓bb_pa, ↓bb_pb, ↓bb_pl, ↓bb_po, ↓bb_cl, ↓bb_some, ↓bb_RI, ↓bb_RJ, mm_hI, mm_hJ, mm_hR, mm_nI, mm_nJ, mm_nR, mm_sI, mm_sJ, mm_sR, mm_RI, mm_RJ, mm_IJ, mm_IR, mm_JI, mm_JR, mm_II, mm_JJ, mm_RR, hm.1, ↓bS (mo_isAside hm), mh_isAside hm, z, c, e1])
    (fun i S hi => fr_wI _ _ rfl) (fun i S hi hf => by simp [-Prod.exists, -Prod.forall, zgf, zgr, zpf, zpz, zpr, zga, zgl, zgo, zpa, zpb, zpl, zpo, mm_len, zcl, Option.bind_some, Option.bind_none, mm_hI, mm_hJ, mm_hR, mm_nI, mm_nJ, mm_nR, mm_sI, mm_sJ, mm_sR, mm_RI, mm_RJ, mm_IJ, mm_IR, mm_JI, mm_JR, mm_II, mm_JJ, mm_RR]) (fun i j S hi hj hp => by
      have : i ≠ j := by omega
      simp [-Prod.exists, -Prod.forall, zgf, zgr, zpf, zpz, zpr, zga, zgl, zgo, zpa, zpb, zpl, zpo, mm_len, zcl, Option.bind_some, Option.bind_none, mm_hI, mm_hJ, mm_hR, mm_nI, mm_nJ, mm_nR, mm_sI, mm_sJ, mm_sR, mm_RI, mm_RJ, mm_IJ, mm_IR, mm_JI, mm_JR, mm_II, mm_JJ, mm_RR, this, hp])
  have a1 : L_Mo_script_189 zF 408 0 S0 = _ := a1
  have hm := mo_fr h a2
  have v8 : zI S' 408 8 = zI S0 408 8 := fr_I a2 (by omega)
  exact ⟨S', by rw [a1]; simp [-Prod.exists, -Prod.forall, ↓bb_gf, ↓bb_gr, ↓bb_len, ↓bb_ga, ↓bb_gl, ↓bb_go, ↓bb_pf, ↓bb_pz, ↓bb_pr, ↓bb_pa, ↓bb_pb, ↓bb_pl, ↓bb_po, ↓bb_cl, ↓bb_some, ↓bb_RI, ↓bb_RJ, mm_hI, mm_hJ, mm_hR, mm_nI, mm_nJ, mm_nR, mm_sI, mm_sJ, mm_sR, mm_RI, mm_RJ, mm_IJ, mm_IR, mm_JI, mm_JR, mm_II, mm_JJ, mm_RR, hm.1, v8], a2, a3⟩
end
def wMoS (b j : Nat) : Prop := 408 ≤ b ∧ b < 446
theorem pCl_moS {S S' : zM} {w : zWs} (h : pCl S w) (hf : zfr wMoS S S') : pCl S' w := by
  obtain ⟨T, U, ⟨a1, a2, a3, a4, a5⟩, b1, b2⟩ := h
  have hq : zfq wMoS (fun _ _ => False) S S' := fq_fr hf
  have hTU := a1.2.2.2.2.2.2.2.2.2.2.2.2.2.2.2.2.2.2.2.1
  exact ⟨T, U, ⟨cRf_fq a1 hq (fun j _ x => x) (fun x => x), cDt_fq a2 hq ⟨by unfold wMoS; omega, by unfold wMoS; omega, by unfold wMoS; omega, by unfold wMoS; omega⟩ (fun b j q => by unfold wMoS; omega), cSp_fq a3 hq hTU (fun b j q r => ⟨by unfold wMoS; omega, fun x => x⟩), cLt_fq a4 hq (fun b j q r => ⟨by unfold wMoS; omega, fun x => x⟩), cCe_fq a5 hq (fun b j r => by
    rcases r with r | r
    · unfold wMoS at r; omega
    · exact absurd r (fun x => x)) (fun x => x) a1.2.2.2.2.2.2.2.2.2.2.2.2.2.2.2.2.2.2.2.2⟩, cSr_fq b1 hq (fun b j q r => ⟨by unfold wMoS; omega, fun x => x⟩), by rw [fr_I hf (by unfold wMoS; omega)]; exact b2⟩
theorem bl_fr {W : Nat → Nat → Prop} {S S' : zM} (h : zBl S) (hf : zfr W S S') (hw : ∀ j, ¬ W 417 j) : zBl S' := ⟨by rw [fr_h hf]; exact h.1, fun j => by rw [fr_I hf (hw j)]; exact h.2 j⟩
theorem hm_script (a : Int32) {S : zM} {w : zWs} (h : pMo S w) (ho : okW w) (hB : zBl S) : ∃ S', f_Mo_script 408 a S = some ((sp_script a w).1, S') ∧ pMo S' (sp_script a w).2 ∧ zfr wMoS S S' ∧ zBl S' := by
  obtain ⟨e0, e1, e2⟩ := mo_fresh h
  have l9 := ho.1
  have hh := h.1.1.1
  have v5 : zI (zfs S) 408 5 = nI (wTp w).length := e1.1.2.2.1
  have ii : f_Mo_in a 0 (nI (wTp w).length) (zfs S) = some (if (zix a ((wTp w).length + 1)).isSome then 1 else 0, zfs S) := m_inK a (by omega)
  have hh1 : zh (zfs S) 408 = (12, 0) := e1.1.1.1
  have e2' : zfr wMoS S (zfs S) := fr_mono e2 (fun b j q => ⟨q.1, q.2.1⟩)
  have b1 : zBl (zfs S) := bl_fr hB e2 (fun j => by unfold wMo; omega)
  have eI : Option.isSome (none : Option Nat) = false := rfl
  unfold sp_script
  cases e : zix a ((wTp w).length + 1) with
  | none =>
    obtain ⟨n0, n1, n2⟩ := mo_no e1 (n := 2) (by omega)
    have n0' : f_Mo_no 408 2 (zfs S) = some (-1, zwI (zfs S) 408 1 (nI 2)) := n0
    rw [e] at ii
    simp only [eI, Bool.false_eq_true, if_false] at ii
    refine ⟨zwI (zfs S) 408 1 (nI 2), ?_, n1, fr_trans e2' (fr_mono n2 (fun b j q => ⟨q.1, q.2.1⟩)), bl_fr b1 n2 (fun j => by unfold wMo; omega)⟩
    simp only [f_Mo_script, ↓bb_cl, hh, if_true, ↓bS e0, ↓bb_gf, hh1, v5, ↓bS ii, ↓bS n0', zrf]
  | some n =>
    obtain ⟨q1, q2, q3⟩ := ix_some e
    rw [e] at ii
    simp only [Option.isSome_some, if_true] at ii
    simp only
    have hl : ((wTp w).take n).length = n := by simp; omega
    obtain ⟨S6, h6⟩ : ∃ S6, S6 = zwI (zwI (zfs S) 408 5 0) 408 2 0 := ⟨_, rfl⟩
    have f6 : zfr (fun b j => b = 408 ∧ (j = 5 ∨ j = 2)) (zfs S) S6 := by rw [h6]; exact fr_trans (fr_wI _ _ (by omega)) (fr_wI _ _ (by omega))
    have m6 : sMo S6 408 := mo_fr e1.1.1 f6
    obtain ⟨S7, c1, c2, c3, c4⟩ := m_read (S := S6) (M := 408) (tx := (wTp w).take n) (n := n) m6 (fun k hk => by
      rw [hl] at hk
      rw [fr_I f6 (by omega), lg_take hk]; exact e1.1.2.2.2.1 k (by show k < (wTp w).length; omega)) hl (by omega) (fun k => by
      by_cases q : k < n
      · rw [lg_take q]; exact ho.2.1 k
      · rw [lg_out (by omega)]; omega)
    have b6 : zBl S6 := bl_fr b1 f6 (fun j => by omega)
    have b7 : zBl S7 := bk_f_Mo_readAll b6 _ c1
    have m7 : sMo S7 408 := mo_fr m6 c2
    obtain ⟨z, hz⟩ : ∃ z, z = zparse ((wTp w).take n) := ⟨_, rfl⟩
    rw [← hz] at c1 c3 c4 ⊢
    have f67 : zfr (fun b j => (b = 408 ∧ (j = 5 ∨ j = 2)) ∨ wMA 408 b j) (zfs S) S7 := fr_trans (fr_mono f6 (fun b j q => Or.inl q)) (fr_mono c2 (fun b j q => Or.inr q))
    have v57 : zI S7 408 5 = 0 := by rw [fr_I c2 (by unfold wMA; omega), h6]; simp [-Prod.exists, -Prod.forall, zgf, zgr, zpf, zpz, zpr, zga, zgl, zgo, zpa, zpb, zpl, zpo, mm_len, zcl, Option.bind_some, Option.bind_none, mm_hI, mm_hJ, mm_hR, mm_nI, mm_nJ, mm_nR, mm_sI, mm_sJ, mm_sR, mm_RI, mm_RJ, mm_IJ, mm_IR, mm_JI, mm_JR, mm_II, mm_JJ, mm_RR]
    have v27 : zI S7 408 2 = 0 := by rw [fr_I c2 (by unfold wMA; omega), h6]; simp [-Prod.exists, -Prod.forall, zgf, zgr, zpf, zpz, zpr, zga, zgl, zgo, zpa, zpb, zpl, zpo, mm_len, zcl, Option.bind_some, Option.bind_none, mm_hI, mm_hJ, mm_hR, mm_nI, mm_nJ, mm_nR, mm_sI, mm_sJ, mm_sR, mm_RI, mm_RJ, mm_IJ, mm_IR, mm_JI, mm_JR, mm_II, mm_JJ, mm_RR]
    have G7 : ∀ b j, ¬ ((b = 408 ∧ (j = 5 ∨ j = 2)) ∨ wMA 408 b j) → zI S7 b j = zI (zfs S) b j := fun b j q => fr_I f67 q
    obtain ⟨⟨x1, x2, x3, x4, x5, x6, x7, x8, x9⟩, t1, t2⟩ := e1
    have h65 : zh (zwI (zfs S) 408 5 0) 408 = (12, 0) := hh1
    by_cases z0 : z.1 = 0
    · rw [if_pos z0] at c1 ⊢
      have ms := c3 z0
      obtain ⟨y1, y2, y3, y4, _, y6, yw⟩ := ms
      have np3 : z.2.2.2.2.2.length ≤ 3 := yw.2.2.2.2.2.1
      have np0 : 0 < z.2.2.2.2.2.length := by rw [hz] at z0 ⊢; exact parse_pos z0
      obtain ⟨S18, h18⟩ : ∃ S18, S18 = zwI (zwI (zwI S7 408 6 (nI z.2.2.1)) 408 7 (nI z.2.2.2.2.1.length)) 408 8 (nI z.2.2.2.2.2.length) := ⟨_, rfl⟩
      have f18 : zfr (fun b j => b = 408 ∧ (j = 6 ∨ j = 7 ∨ j = 8)) S7 S18 := by rw [h18]; exact fr_trans (fr_trans (fr_wI _ _ (by omega)) (fr_wI _ _ (by omega))) (fr_wI _ _ (by omega))
      have m18 := mo_fr m7 f18
      obtain ⟨Sa, a1, a2, a3⟩ := ms_88 (k := F_Mo_script_111 (L_Mo_script_113 (F_Mo_script_160 (L_Mo_script_162 (F_Mo_script_187 (L_Mo_script_189 zF)) zF)) zF)) m18
      have ma := mo_fr m18 a2
      have w8 : zI S18 408 8 = nI z.2.2.2.2.2.length := by rw [h18]; simp [-Prod.exists, -Prod.forall, zgf, zgr, zpf, zpz, zpr, zga, zgl, zgo, zpa, zpb, zpl, zpo, mm_len, zcl, Option.bind_some, Option.bind_none, mm_hI, mm_hJ, mm_hR, mm_nI, mm_nJ, mm_nR, mm_sI, mm_sJ, mm_sR, mm_RI, mm_RJ, mm_IJ, mm_IR, mm_JI, mm_JR, mm_II, mm_JJ, mm_RR]
      have wa8 : zI Sa 408 8 = nI z.2.2.2.2.2.length := by rw [fr_I a2 (by omega)]; exact w8
      have ba : ∀ j, zI Sa 417 j = zI S7 417 j := fun j => by rw [fr_I a2 (by omega), fr_I f18 (by omega)]
      obtain ⟨Sb, p1, p2, p3⟩ := ms_113 (k := F_Mo_script_160 (L_Mo_script_162 (F_Mo_script_187 (L_Mo_script_189 zF)) zF)) ma np3 wa8 (fun j => by rw [ba]; exact b7.2 j)
      have mb := mo_fr ma p2
      obtain ⟨Sc, g1, g2, g3⟩ := ms_162 (k := F_Mo_script_187 (L_Mo_script_189 zF)) mb
      have mc := mo_fr mb g2
      obtain ⟨Sd, d1, d2, d3⟩ := ms_189 mc
      have md := mo_fr mc d2
      obtain ⟨S', hS'⟩ : ∃ S', S' = zwI (zwI (zwI Sd 408 9 1) 408 48 0) 408 66 0 := ⟨_, rfl⟩
      rw [← hS'] at d1
      have fl : zfr (fun b j => b = 408 ∧ (j = 9 ∨ j = 48 ∨ j = 66)) Sd S' := by rw [hS']; exact fr_trans (fr_trans (fr_wI _ _ (by omega)) (fr_wI _ _ (by omega))) (fr_wI _ _ (by omega))
      have fA : zfr (fun b j => (b = 408 ∧ (j = 6 ∨ j = 7 ∨ j = 8 ∨ j = 9 ∨ j = 48 ∨ j = 66)) ∨ (410 ≤ b ∧ b ≤ 413) ∨ b = 426) S7 S' := fr_trans (fr_mono f18 (fun b j q => by omega)) (fr_trans (fr_mono a2 (fun b j q => by omega)) (fr_trans (fr_mono p2 (fun b j q => by omega)) (fr_trans (fr_mono g2 (fun b j q => by omega)) (fr_trans (fr_mono d2 (fun b j q => by omega)) (fr_mono fl (fun b j q => by omega))))))
      have mS := mo_fr m7 fA
      have K : ∀ b j, ¬ ((b = 408 ∧ (j = 6 ∨ j = 7 ∨ j = 8 ∨ j = 9 ∨ j = 48 ∨ j = 66)) ∨ (410 ≤ b ∧ b ≤ 413) ∨ b = 426) → zI S' b j = zI S7 b j := fun b j q => fr_I fA q
      have k0 : ∀ j, (j = 6 ∨ j = 7 ∨ j = 8) → zI S' 408 j = zI S18 408 j := fun j q => by rw [fr_I fl (by omega), fr_I d2 (by omega), fr_I g2 (by omega), fr_I p2 (by omega), fr_I a2 (by omega)]
      have k2 : ∀ i, i < 4 → zI S' 410 i = zI S7 414 i := fun i q => by rw [fr_I fl (by omega), fr_I d2 (by omega), fr_I g2 (by omega), fr_I p2 (by omega), a3 i q, fr_I f18 (by omega)]
      have k3 : ∀ i, i < 3 → zI S' 411 i = (if i < z.2.2.2.2.2.length then zI S7 416 i else 0) := fun i q => by rw [fr_I fl (by omega), fr_I d2 (by omega), fr_I g2 (by omega), (p3 i q).1, fr_I a2 (by omega), fr_I f18 (by omega)]
      have k4 : ∀ i, i < 3 → zI S' 412 i = zI S7 417 i := fun i q => by rw [fr_I fl (by omega), fr_I d2 (by omega), fr_I g2 (by omega), (p3 i q).2, ba]
      have k5 : ∀ i, i < 264 → zI S' 413 i = zI S7 418 i := fun i q => by rw [fr_I fl (by omega), fr_I d2 (by omega), g3 i q, fr_I p2 (by omega), fr_I a2 (by omega), fr_I f18 (by omega)]
      have k6 : ∀ i, i < 24 → zI S' 426 i = 0 := fun i q => by rw [fr_I fl (by omega)]; exact d3 i q
      have z8 : zI Sc 408 8 = nI z.2.2.2.2.2.length := by rw [fr_I g2 (by omega), fr_I p2 (by omega)]; exact wa8
      have w8' : zI S' 408 8 = nI z.2.2.2.2.2.length := by rw [k0 8 (by omega)]; exact w8
      refine ⟨S', ?_, ⟨⟨mS, ⟨?_, ?_, w8', ?_, fun k hk => ?_, fun p hp => ?_, fun p hp => ?_, fun p i hp hi => ?_, fun p i hp hi => ?_, yw.1, yw.2.2.1, yw.2.2.2.1, yw.2.2.2.2.2⟩, ?_, fun k hk => absurd hk (Nat.not_lt_zero k), ?_, ?_, fun k hk => absurd hk (Nat.not_lt_zero k), ?_, fun c hc => by cases hc⟩, ?_, fun q => by cases q⟩, ?_, bl_fr b7 fA (fun j => by omega)⟩
      · have u1 : zI S7 408 14 = nI z.2.2.1 := y1
        have u2 : zI (zwI S7 408 6 (nI z.2.2.1)) 408 15 = nI z.2.2.2.2.1.length := by simp [-Prod.exists, -Prod.forall, zgf, zgr, zpf, zpz, zpr, zga, zgl, zgo, zpa, zpb, zpl, zpo, mm_len, zcl, Option.bind_some, Option.bind_none, mm_hI, mm_hJ, mm_hR, mm_nI, mm_nJ, mm_nR, mm_sI, mm_sJ, mm_sR, mm_RI, mm_RJ, mm_IJ, mm_IR, mm_JI, mm_JR, mm_II, mm_JJ, mm_RR]; exact y2
        have u3 : zI (zwI (zwI S7 408 6 (nI z.2.2.1)) 408 7 (nI z.2.2.2.2.1.length)) 408 16 = nI z.2.2.2.2.2.length := by simp [-Prod.exists, -Prod.forall, zgf, zgr, zpf, zpz, zpr, zga, zgl, zgo, zpa, zpb, zpl, zpo, mm_len, zcl, Option.bind_some, Option.bind_none, mm_hI, mm_hJ, mm_hR, mm_nI, mm_nJ, mm_nR, mm_sI, mm_sJ, mm_sR, mm_RI, mm_RJ, mm_IJ, mm_IR, mm_JI, mm_JR, mm_II, mm_JJ, mm_RR]; exact y3
        have one : ¬ (1 : Int32) = 0 := by decide
        have m76 : zh S6 408 = (12, 0) := m6.1
        have m77 : zh S7 408 = (12, 0) := m7.1
        rw [h6] at c1 m76
        rw [h18] at a1
        simp only [q1, f_Mo_script, ↓bb_cl, hh, if_true, ↓bS e0, ↓bb_gf, hh1, v5, one, if_false, ↓bb_pf, mm_hI, m77]
        rw [q1] at ii
        simp only [↓bS ii, one, if_false, ↓bS c1, m77, if_true, ↓bb_gf, ↓bb_pf, mm_hI, u1, u2, u3, ↓bb_cl, hh1]
        rw [a1, F_Mo_script_111, p1, F_Mo_script_160, g1, F_Mo_script_187, d1, z8]
      · rw [k0 6 (by omega), h18]; simp [-Prod.exists, -Prod.forall, zgf, zgr, zpf, zpz, zpr, zga, zgl, zgo, zpa, zpb, zpl, zpo, mm_len, zcl, Option.bind_some, Option.bind_none, mm_hI, mm_hJ, mm_hR, mm_nI, mm_nJ, mm_nR, mm_sI, mm_sJ, mm_sR, mm_RI, mm_RJ, mm_IJ, mm_IR, mm_JI, mm_JR, mm_II, mm_JJ, mm_RR]; rfl
      · rw [k0 7 (by omega), h18]; simp [-Prod.exists, -Prod.forall, zgf, zgr, zpf, zpz, zpr, zga, zgl, zgo, zpa, zpb, zpl, zpo, mm_len, zcl, Option.bind_some, Option.bind_none, mm_hI, mm_hJ, mm_hR, mm_nI, mm_nJ, mm_nR, mm_sI, mm_sJ, mm_sR, mm_RI, mm_RJ, mm_IJ, mm_IR, mm_JI, mm_JR, mm_II, mm_JJ, mm_RR]; rfl
      · have : ¬ (wSc (sNew z)).2.2.length = 0 := by show ¬ z.2.2.2.2.2.length = 0; omega
        rw [if_neg this, hS']; simp [-Prod.exists, -Prod.forall, zgf, zgr, zpf, zpz, zpr, zga, zgl, zgo, zpa, zpb, zpl, zpo, mm_len, zcl, Option.bind_some, Option.bind_none, mm_hI, mm_hJ, mm_hR, mm_nI, mm_nJ, mm_nR, mm_sI, mm_sJ, mm_sR, mm_RI, mm_RJ, mm_IJ, mm_IR, mm_JI, mm_JR, mm_II, mm_JJ, mm_RR]
      · have hk' : k < z.2.2.2.2.1.length := hk
        have := yw.2.2.1
        show zI S' 410 k = _
        rw [k2 k (by omega)]; exact y4 k hk'
      · show zI S' 411 p = nI (zpa_ z.2.2.2.2.2 p).2.length
        rw [k3 p hp]
        by_cases q : p < z.2.2.2.2.2.length
        · rw [if_pos q]; exact (y6 p q).1
        · rw [if_neg q, pa_out (by omega)]; rfl
      · have hp' : p < z.2.2.2.2.2.length := hp
        show zI S' 412 p = _
        rw [k4 p (by omega)]; exact (y6 p hp').2.1
      · have hp' : p < z.2.2.2.2.2.length := hp
        have hi' : i < (zpa_ z.2.2.2.2.2 p).2.length := hi
        have w3 := ps_w yw.2.2.2.2.2 hp'
        have r8 := w3.1
        have hru := ru_w w3 hi'
        exact mRu_eq ((y6 p hp').2.2 i hi') ⟨hru.2.1, hru.2.2.1⟩ (fun j j1 j2 => k5 j (by unfold aRu at j2; omega))
      · have : ((fun _ => 0 : Nat → Nat) p).testBit i = false := Nat.zero_testBit i
        show zI S' 426 (8 * p + i) = _
        rw [k6 _ (by omega)]
        show (0 : Int32) = if (0 : Nat).testBit i = true then 1 else 0
        rw [Nat.zero_testBit]; rfl
      · rw [K _ _ (by omega), v57]; rfl
      · rw [K _ _ (by omega), v27]; rfl
      · rw [hS']; simp [-Prod.exists, -Prod.forall, zgf, zgr, zpf, zpz, zpr, zga, zgl, zgo, zpa, zpb, zpl, zpo, mm_len, zcl, Option.bind_some, Option.bind_none, mm_hI, mm_hJ, mm_hR, mm_nI, mm_nJ, mm_nR, mm_sI, mm_sJ, mm_sR, mm_RI, mm_RJ, mm_IJ, mm_IR, mm_JI, mm_JR, mm_II, mm_JJ, mm_RR]; rfl
      · rw [hS']; simp [-Prod.exists, -Prod.forall, zgf, zgr, zpf, zpz, zpr, zga, zgl, zgo, zpa, zpb, zpl, zpo, mm_len, zcl, Option.bind_some, Option.bind_none, mm_hI, mm_hJ, mm_hR, mm_nI, mm_nJ, mm_nR, mm_sI, mm_sJ, mm_sR, mm_RI, mm_RJ, mm_IJ, mm_IR, mm_JI, mm_JR, mm_II, mm_JJ, mm_RR]; rfl
      · rw [K _ _ (by omega), G7 _ _ (by unfold wMA; omega)]; exact t1
      · exact fr_trans e2' (fr_trans (fr_mono f67 (fun b j q => by unfold wMA at q; unfold wMoS; omega)) (fr_mono fA (fun b j q => by unfold wMoS; omega)))
    · rw [if_neg z0] at c1 ⊢
      obtain ⟨u1, u2⟩ := c4 z0
      obtain ⟨S', hS'⟩ : ∃ S', S' = zwI (zwI (zwI S7 408 2 (nI z.1)) 408 3 (nI z.2.1)) 408 1 4 := ⟨_, rfl⟩
      have fA : zfr (fun b j => b = 408 ∧ (j = 1 ∨ j = 2 ∨ j = 3)) S7 S' := by rw [hS']; exact fr_trans (fr_trans (fr_wI _ _ (by omega)) (fr_wI _ _ (by omega))) (fr_wI _ _ (by omega))
      have fT : zfr (fun b j => (b = 408 ∧ (j = 1 ∨ j = 2 ∨ j = 3 ∨ j = 5)) ∨ wMA 408 b j) (zfs S) S' := fr_trans (fr_mono f67 (fun b j q => q.elim (fun q => Or.inl (by omega)) Or.inr)) (fr_mono fA (fun b j q => Or.inl (by omega)))
      have E : ∀ b j, ¬ ((b = 408 ∧ (j = 1 ∨ j = 2 ∨ j = 3 ∨ j = 5)) ∨ wMA 408 b j) → zI S' b j = zI (zfs S) b j := fun b j q => fr_I fT q
      refine ⟨S', ?_, ⟨⟨mo_fr m7 fA, mSc_fr x2 fT (fun j _ _ => by unfold wMA; omega) (fun b j _ => by unfold wMA; omega), ?_, fun k hk => absurd hk (Nat.not_lt_zero k), ?_, by rw [E _ _ (by unfold wMA; omega)]; exact x6, fun k hk => by rw [E _ _ (by unfold wMA; omega)]; exact x7 k hk, by rw [E _ _ (by unfold wMA; omega)]; exact x8, fun c hc => ?_⟩, ?_, fun _ => ?_⟩, ?_, bl_fr b7 fA (fun j => by omega)⟩
      · have m77 : zh S7 408 = (12, 0) := m7.1
        have u2' : zI (zwI S7 408 2 (nI z.1)) 408 28 = nI z.2.1 := by simp [-Prod.exists, -Prod.forall, zgf, zgr, zpf, zpz, zpr, zga, zgl, zgo, zpa, zpb, zpl, zpo, mm_len, zcl, Option.bind_some, Option.bind_none, mm_hI, mm_hJ, mm_hR, mm_nI, mm_nJ, mm_nR, mm_sI, mm_sJ, mm_sR, mm_RI, mm_RJ, mm_IJ, mm_IR, mm_JI, mm_JR, mm_II, mm_JJ, mm_RR]; exact u2
        have one : ¬ (1 : Int32) = 0 := by decide
        rw [h6] at c1
        rw [q1] at ii ⊢
        rw [hS']
        simp only [f_Mo_script, f_Mo_no, ↓bb_cl, hh, if_true, ↓bS e0, ↓bb_gf, hh1, v5, ↓bS ii, one, if_false, ↓bb_pf, mm_hI, ↓bS c1, m77, u1, u2', ↓bb_some]
      · rw [fr_I fA (by omega), v57]; rfl
      · rw [hS']; simp [-Prod.exists, -Prod.forall, zgf, zgr, zpf, zpz, zpr, zga, zgl, zgo, zpa, zpb, zpl, zpo, mm_len, zcl, Option.bind_some, Option.bind_none, mm_hI, mm_hJ, mm_hR, mm_nI, mm_nJ, mm_nR, mm_sI, mm_sJ, mm_sR, mm_RI, mm_RJ, mm_IJ, mm_IR, mm_JI, mm_JR, mm_II, mm_JJ, mm_RR]; rfl
      · obtain ⟨b1, b2, b3, b4⟩ := x9 c hc
        refine ⟨by rw [E _ _ (by unfold wMA; omega)]; exact b1, fun k hk => by rw [E _ _ (by unfold wMA; omega)]; exact b2 k hk, fun k hk => by rw [E _ _ (by unfold wMA; omega)]; exact b3 k hk, fun q q3 hq => ?_⟩
        obtain ⟨c1, c2, c3⟩ := b4 q q3 hq
        exact ⟨by rw [E _ _ (by unfold wMA; omega)]; exact c1, by rw [E _ _ (by unfold wMA; omega)]; exact c2, fun k hk => by rw [E _ _ (by unfold wMA; omega)]; exact c3 k hk⟩
      · rw [hS']; simp [-Prod.exists, -Prod.forall, zgf, zgr, zpf, zpz, zpr, zga, zgl, zgo, zpa, zpb, zpl, zpo, mm_len, zcl, Option.bind_some, Option.bind_none, mm_hI, mm_hJ, mm_hR, mm_nI, mm_nJ, mm_nR, mm_sI, mm_sJ, mm_sR, mm_RI, mm_RJ, mm_IJ, mm_IR, mm_JI, mm_JR, mm_II, mm_JJ, mm_RR]; rfl
      · rw [hS']; simp [-Prod.exists, -Prod.forall, zgf, zgr, zpf, zpz, zpr, zga, zgl, zgo, zpa, zpb, zpl, zpo, mm_len, zcl, Option.bind_some, Option.bind_none, mm_hI, mm_hJ, mm_hR, mm_nI, mm_nJ, mm_nR, mm_sI, mm_sJ, mm_sR, mm_RI, mm_RJ, mm_IJ, mm_IR, mm_JI, mm_JR, mm_II, mm_JJ, mm_RR]; rfl
      · exact fr_trans e2' (fr_mono fT (fun b j q => by unfold wMA at q; unfold wMoS; omega))
