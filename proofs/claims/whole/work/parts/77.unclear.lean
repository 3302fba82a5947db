/-! the reference: the fewest letters read twice -/
def pDD (S : zM) (M : Nat) (D : Nat → Nat) : Prop := (∀ k, k < 80 → zI S (M + 15) k = nI (D k)) ∧ ∀ k, D k ≤ zFar
def pDn (S : zM) (M : Nat) (dn : Nat → Bool) : Prop := ∀ k, k < 80 → zI S (M + 16) k = (if dn k then 1 else 0)
section
variable {S : zM} {M : Nat} {pcs : List (Nat × List Nat)}
theorem one_45 (hm : sMo S M) (hw : wPc pcs) (hc : mPcs S M pcs) {i fr j m : Nat} (hi : i < pcs.length) (hj : j < pcs.length) (hfr : fr ≤ pl pcs i) (hmm : m = min (pl pcs i - fr) (pl pcs j)) : ∀ d F k, d + k = m → d < F → (∀ e, e < k → lg (pcL pcs i) (fr + e) = lg (pcL pcs j) e) → L_Mo_areOne_45 F M (nI i) (nI fr) (nI j) 0 (nI m) (nI k) S = some (if zagr (pcL pcs i) fr (pcL pcs j) then 1 else 0, S) := by
  have h16 := hw.1
  obtain ⟨wi, _, w8i⟩ := hw.2 i hi
  obtain ⟨wj, _, w8j⟩ := hw.2 j hj
  change pl pcs i ≤ 4 at wi
  change pl pcs j ≤ 4 at wj
  obtain ⟨_, _, ai⟩ := hc.2 i hi
  obtain ⟨_, _, aj⟩ := hc.2 j hj
  intro d
  induction d with
  | zero =>
    intro F k hd hF hk
    cases F with
    | zero => omega
    | succ F =>
      have ek : k = m := by omega
      subst ek
      have hx : ¬ nI k < nI k := by rw [nI_ltI (by omega) (by omega)]; omega
      have : zagr (pcL pcs i) fr (pcL pcs j) = true := agr_iff.2 (fun e h1 h2 => hk e (by unfold pl at hmm; omega))
      rw [if_pos this, L_Mo_areOne_45]
      simp [hx]
  | succ d ih =>
    intro F k hd hF hk
    cases F with
    | zero => omega
    | succ F =>
      have hx : nI k < nI m := by rw [nI_ltI (by omega) (by omega)]; omega
      have e1 : nI k + 1 = nI (k + 1) := nI_add k 1
      have m4 : (4 : Int32) * nI i = nI (4 * i) := pk_mul 4 _
      have m4j : (4 : Int32) * nI j = nI (4 * j) := pk_mul 4 _
      have z0 : nI (4 * j) + 0 = nI (4 * j) := nI_add _ 0
      have z1 : zinb (nI (4 * i + fr + k)) 64 = true := (nn_in (by omega)).2 (by omega)
      have c1 : (nI (4 * i + fr + k)).toNatClampNeg = 4 * i + (fr + k) := by rw [nI_clamp (by omega)]; omega
      have z2 : zinb (nI (4 * j + k)) 64 = true := (nn_in (by omega)).2 (by omega)
      have c2 : (nI (4 * j + k)).toNatClampNeg = 4 * j + k := nI_clamp (by omega)
      have v1 := ai (fr + k) (by unfold pl at hmm; omega)
      have v2 := aj k (by unfold pl at hmm; omega)
      have b1 := w8i (fr + k)
      have b2 := w8j k
      by_cases q : lg (pcL pcs i) (fr + k) = lg (pcL pcs j) k
      · rw [← ih F (k + 1) (by omega) (by omega) (fun e he => by
          by_cases q2 : e = k
          · subst q2; exact q
          · exact hk e (by omega)), L_Mo_areOne_45]
        simp (disch := omega) [-Prod.exists, -Prod.forall, ↓bb_gf, ↓bb_gr, ↓bb_len, ↓bb_ga, ↓bb_gl, ↓bb_go, ↓bb_pf, ↓bb_pz, ↓bb_pr, ↓bb_pa, ↓bb_pb, ↓bb_pl, ↓bb_po, ↓bb_cl, ↓bb_some, ↓bb_RI, ↓bb_RJ, mm_hI, mm_hJ, mm_hR, mm_nI, mm_nJ, mm_nR, mm_sI, mm_sJ, mm_sR, mm_RI, mm_RJ, mm_IJ, mm_IR, mm_JI, mm_JR, mm_II, mm_JJ, mm_RR, hx, hm.1, ↓bS (mo_pieceAt hm), mh_pieceAt hm, m4, m4j, z0, nI_add, z1, c1, z2, c2, v1, v2, q, e1]
      · have q' : ¬ nI (lg (pcL pcs i) (fr + k)) = nI (lg (pcL pcs j) k) := fun w => q ((nI_eq (by omega) (by omega)).1 w)
        have : ¬ zagr (pcL pcs i) fr (pcL pcs j) = true := fun w => q (agr_iff.1 w k (by unfold pl at hmm; omega) (by unfold pl at hmm; omega))
        rw [if_neg this, L_Mo_areOne_45]
        simp (disch := omega) [-Prod.exists, -Prod.forall, ↓bb_gf, ↓bb_gr, ↓bb_len, ↓bb_ga, ↓bb_gl, ↓bb_go, ↓bb_pf, ↓bb_pz, ↓bb_pr, ↓bb_pa, ↓bb_pb, ↓bb_pl, ↓bb_po, ↓bb_cl, ↓bb_some, ↓bb_RI, ↓bb_RJ, mm_hI, mm_hJ, mm_hR, mm_nI, mm_nJ, mm_nR, mm_sI, mm_sJ, mm_sR, mm_RI, mm_RJ, mm_IJ, mm_IR, mm_JI, mm_JR, mm_II, mm_JJ, mm_RR, hx, hm.1, ↓bS (mo_pieceAt hm), mh_pieceAt hm, m4, m4j, z0, nI_add, z1, c1, z2, c2, v1, v2, q']
theorem m_one (hm : sMo S M) (hw : wPc pcs) (hc : mPcs S M pcs) {i fr j : Nat} (hi : i < pcs.length) (hj : j < pcs.length) (hfr : fr ≤ pl pcs i) : f_Mo_areOne M (nI i) (nI fr) (nI j) 0 S = some (if zagr (pcL pcs i) fr (pcL pcs j) then 1 else 0, S) := by
  have h16 := hw.1
  obtain ⟨wi, _, w8i⟩ := hw.2 i hi
  obtain ⟨wj, _, w8j⟩ := hw.2 j hj
  change pl pcs i ≤ 4 at wi
  change pl pcs j ≤ 4 at wj
  have a1 : zI S (M + 13) i = nI (pl pcs i) := (hc.2 i hi).2.1
  have a2 : zI S (M + 13) j = nI (pl pcs j) := (hc.2 j hj).2.1
  have zi : zinb (nI i) 16 = true := (nn_in (by omega)).2 (by omega)
  have ci : (nI i).toNatClampNeg = i := nI_clamp (by omega)
  have zj : zinb (nI j) 16 = true := (nn_in (by omega)).2 (by omega)
  have cj : (nI j).toNatClampNeg = j := nI_clamp (by omega)
  have es : nI (pl pcs i) - nI fr = nI (pl pcs i - fr) := pk_sub hfr
  have e0 : nI (pl pcs j) - 0 = nI (pl pcs j) := pk_sub (b := 0) (by omega)
  by_cases q : pl pcs i - fr < pl pcs j
  · have l : nI (pl pcs i - fr) < nI (pl pcs j) := (nI_ltI (by omega) (by omega)).2 q
    have := one_45 hm hw hc hi hj hfr (m := pl pcs i - fr) (by omega) (pl pcs i - fr) zF 0 (by omega) (by rw [zF_eq]; omega) (fun e he => by omega)
    rw [← this]
    simp (disch := omega) [f_Mo_areOne, -Prod.exists, -Prod.forall, ↓bb_gf, ↓bb_gr, ↓bb_len, ↓bb_ga, ↓bb_gl, ↓bb_go, ↓bb_pf, ↓bb_pz, ↓bb_pr, ↓bb_pa, ↓bb_pb, ↓bb_pl, ↓bb_po, ↓bb_cl, ↓bb_some, ↓bb_RI, ↓bb_RJ, mm_hI, mm_hJ, mm_hR, mm_nI, mm_nJ, mm_nR, mm_sI, mm_sJ, mm_sR, mm_RI, mm_RJ, mm_IJ, mm_IR, mm_JI, mm_JR, mm_II, mm_JJ, mm_RR, hm.1, ↓bS (mo_pieceLong hm), mh_pieceLong hm, zi, ci, zj, cj, a1, a2, es, e0, l]; rfl
  · have l : ¬ nI (pl pcs i - fr) < nI (pl pcs j) := by rw [nI_ltI (by omega) (by omega)]; exact q
    have := one_45 hm hw hc hi hj hfr (m := pl pcs j) (by omega) (pl pcs j) zF 0 (by omega) (by rw [zF_eq]; omega) (fun e he => by omega)
    rw [← this]
    simp (disch := omega) [f_Mo_areOne, -Prod.exists, -Prod.forall, ↓bb_gf, ↓bb_gr, ↓bb_len, ↓bb_ga, ↓bb_gl, ↓bb_go, ↓bb_pf, ↓bb_pz, ↓bb_pr, ↓bb_pa, ↓bb_pb, ↓bb_pl, ↓bb_po, ↓bb_cl, ↓bb_some, ↓bb_RI, ↓bb_RJ, mm_hI, mm_hJ, mm_hR, mm_nI, mm_nJ, mm_nR, mm_sI, mm_sJ, mm_sR, mm_RI, mm_RJ, mm_IJ, mm_IR, mm_JI, mm_JR, mm_II, mm_JJ, mm_RR, hm.1, ↓bS (mo_pieceLong hm), mh_pieceLong hm, zi, ci, zj, cj, a1, a2, es, e0, l]; rfl
theorem m_reached {D : Nat → Nat} (hm : sMo S M) (hD : pDD S M D) {i fr many : Nat} (hi : 5 * i + fr < 80) (ht : many ≤ 2 * zFar) : ∃ S', f_Mo_isReached M (nI i) (nI fr) (nI many) S = some S' ∧ zfr (fun b _ => b = M + 15) S S' ∧ pDD S' M (zdr i fr many D) := by
  have zf : zFar = 1000000 := rfl
  have m5 : (5 : Int32) * nI i = nI (5 * i) := pk_mul 5 _
  have z : zinb (nI (5 * i + fr)) 80 = true := (nn_in (by omega)).2 (by omega)
  have c : (nI (5 * i + fr)).toNatClampNeg = 5 * i + fr := nI_clamp (by omega)
  have v := hD.1 (5 * i + fr) (by omega)
  have hb := hD.2 (5 * i + fr)
  have hn : ∀ k, zdr i fr many D k ≤ zFar := fun k => Nat.le_trans ((dr_le i fr many D).1 k) (hD.2 k)
  refine ⟨zwI S (M + 15) (5 * i + fr) (nI (min many (D (5 * i + fr)))), ?_, fr_wI _ _ rfl, fun k hk => ?_, hn⟩
  · by_cases q : many < D (5 * i + fr)
    · have l3 : nI many < nI (D (5 * i + fr)) := (nI_ltI (by omega) (by omega)).2 q
      rw [Nat.min_eq_left (by omega)]
      simp (disch := omega) [f_Mo_isReached, -Prod.exists, -Prod.forall, ↓bb_gf, ↓bb_gr, ↓bb_len, ↓bb_ga, ↓bb_gl, ↓bb_go, ↓bb_pf, ↓bb_pz, ↓bb_pr, ↓bb_pa, ↓bb_pb, ↓bb_pl, ↓bb_po, ↓bb_cl, ↓bb_some, ↓bb_RI, ↓bb_RJ, mm_hI, mm_hJ, mm_hR, mm_nI, mm_nJ, mm_nR, mm_sI, mm_sJ, mm_sR, mm_RI, mm_RJ, mm_IJ, mm_IR, mm_JI, mm_JR, mm_II, mm_JJ, mm_RR, hm.1, ↓bS (mo_soFar hm), mh_soFar hm, m5, nI_add, z, c, v, l3]
    · have l3 : ¬ nI many < nI (D (5 * i + fr)) := by rw [nI_ltI (by omega) (by omega)]; exact q
      rw [Nat.min_eq_right (by omega)]
      simp (disch := omega) [f_Mo_isReached, -Prod.exists, -Prod.forall, ↓bb_gf, ↓bb_gr, ↓bb_len, ↓bb_ga, ↓bb_gl, ↓bb_go, ↓bb_pf, ↓bb_pz, ↓bb_pr, ↓bb_pa, ↓bb_pb, ↓bb_pl, ↓bb_po, ↓bb_cl, ↓bb_some, ↓bb_RI, ↓bb_RJ, mm_hI, mm_hJ, mm_hR, mm_nI, mm_nJ, mm_nR, mm_sI, mm_sJ, mm_sR, mm_RI, mm_RJ, mm_IJ, mm_IR, mm_JI, mm_JR, mm_II, mm_JJ, mm_RR, hm.1, ↓bS (mo_soFar hm), mh_soFar hm, m5, nI_add, z, c, v, l3]
  · unfold zdr zup
    by_cases q2 : k = 5 * i + fr
    · subst q2; simp [-Prod.exists, -Prod.forall, zgf, zgr, zpf, zpz, zpr, zga, zgl, zgo, zpa, zpb, zpl, zpo, mm_len, zcl, Option.bind_some, Option.bind_none, mm_hI, mm_hJ, mm_hR, mm_nI, mm_nJ, mm_nR, mm_sI, mm_sJ, mm_sR, mm_RI, mm_RJ, mm_IJ, mm_IR, mm_JI, mm_JR, mm_II, mm_JJ, mm_RR]
    · rw [if_neg q2, ← hD.1 k hk]; simp [-Prod.exists, -Prod.forall, zgf, zgr, zpf, zpz, zpr, zga, zgl, zgo, zpa, zpb, zpl, zpo, mm_len, zcl, Option.bind_some, Option.bind_none, mm_hI, mm_hJ, mm_hR, mm_nI, mm_nJ, mm_nR, mm_sI, mm_sJ, mm_sR, mm_RI, mm_RJ, mm_IJ, mm_IR, mm_JI, mm_JR, mm_II, mm_JJ, mm_RR, q2]
end
section
variable {S0 : zM} {M : Nat} {pcs : List (Nat × List Nat)}
theorem gf_13 (hm0 : sMo S0 M) (hw : wPc pcs) (hc0 : mPcs S0 M pcs) {i fr many : Nat} (hi : i < pcs.length) (hfr : fr ≤ pl pcs i) (ht : many ≤ zFar) {D : Nat → Nat} : ∀ d F (S : zM) j, d + j = pcs.length → d < F → zfr (fun b _ => b = M + 15) S0 S → pDD S M (zdg pcs i fr many D j) → ∃ S', L_Mo_goesFrom_13 F M (nI i) (nI fr) (nI many) (nI (pl pcs i - fr)) (nI j) S = some S' ∧ zfr (fun b _ => b = M + 15) S0 S' ∧ pDD S' M (zdg pcs i fr many D pcs.length) := by
  have zf : zFar = 1000000 := rfl
  have h16 := hw.1
  have wi : pl pcs i ≤ 4 := (hw.2 i hi).1
  intro d
  induction d with
  | zero =>
    intro F S j hd hF hf ha
    cases F with
    | zero => omega
    | succ F =>
      have el : j = pcs.length := by omega
      subst el
      have hm := mo_fr hm0 hf
      have hc := mPcs_fr hc0 hf (by omega) (fun b j a c => by omega)
      have hx : ¬ nI pcs.length < nI pcs.length := by rw [nI_ltI (by omega) (by omega)]; omega
      exact ⟨S, by simp [L_Mo_goesFrom_13, -Prod.exists, -Prod.forall, ↓bb_gf, ↓bb_gr, ↓bb_len, ↓bb_ga, ↓bb_gl, ↓bb_go, ↓bb_pf, ↓bb_pz, ↓bb_pr, ↓bb_pa, ↓bb_pb, ↓bb_pl, ↓bb_po, ↓bb_cl, ↓bb_some, ↓bb_RI, ↓bb_RJ, mm_hI, mm_hJ, mm_hR, mm_nI, mm_nJ, mm_nR, mm_sI, mm_sJ, mm_sR, mm_RI, mm_RJ, mm_IJ, mm_IR, mm_JI, mm_JR, mm_II, mm_JJ, mm_RR, hm.1, hc.1, hx], hf, ha⟩
  | succ d ih =>
    intro F S j hd hF hf ha
    cases F with
    | zero => omega
    | succ F =>
      have hm := mo_fr hm0 hf
      have hc := mPcs_fr hc0 hf (by omega) (fun b j a c => by omega)
      have hj : j < pcs.length := by omega
      have wj : pl pcs j ≤ 4 := (hw.2 j hj).1
      have hx : nI j < nI pcs.length := by rw [nI_ltI (by omega) (by omega)]; omega
      have e1 : nI j + 1 = nI (j + 1) := nI_add j 1
      have on := m_one hm hw hc hi hj hfr
      have zj : zinb (nI j) 16 = true := (nn_in (by omega)).2 (by omega)
      have cj : (nI j).toNatClampNeg = j := nI_clamp (by omega)
      have a2 : zI S (M + 13) j = nI (pl pcs j) := (hc.2 j hj).2.1
      by_cases q : zagr (pcL pcs i) fr (pcL pcs j) = true
      · rw [if_pos q] at on
        by_cases q2 : pl pcs j ≤ pl pcs i - fr
        · have l : nI (pl pcs j) ≤ nI (pl pcs i - fr) := (nI_leI (by omega) (by omega)).2 q2
          obtain ⟨S1, r1, r2, r3⟩ := m_reached (i := i) (fr := fr + pl pcs j) (many := many) hm ha (by omega) (by omega)
          obtain ⟨S', s1, s2⟩ := ih F S1 (j + 1) (by omega) (by omega) (fr_trans hf r2) (by rw [zdg, zdg1, if_pos q, if_pos q2]; exact r3)
          refine ⟨S', ?_, s2⟩
          rw [← s1, L_Mo_goesFrom_13]
          simp (disch := omega) [-Prod.exists, -Prod.forall, ↓bb_gf, ↓bb_gr, ↓bb_len, ↓bb_ga, ↓bb_gl, ↓bb_go, ↓bb_pf, ↓bb_pz, ↓bb_pr, ↓bb_pa, ↓bb_pb, ↓bb_pl, ↓bb_po, ↓bb_cl, ↓bb_some, ↓bb_RI, ↓bb_RJ, mm_hI, mm_hJ, mm_hR, mm_nI, mm_nJ, mm_nR, mm_sI, mm_sJ, mm_sR, mm_RI, mm_RJ, mm_IJ, mm_IR, mm_JI, mm_JR, mm_II, mm_JJ, mm_RR, hm.1, hc.1, hx, ↓bS on, ↓bS (mo_pieceLong hm), mh_pieceLong hm, zj, cj, a2, l, nI_add, ↓bS r1, e1]
        · have l : ¬ nI (pl pcs j) ≤ nI (pl pcs i - fr) := by rw [nI_leI (by omega) (by omega)]; exact q2
          have es : nI (many + pl pcs j) - nI (pl pcs i - fr) = nI (many + (pl pcs j - (pl pcs i - fr))) := by rw [pk_sub (by omega)]; congr 1; omega
          obtain ⟨S1, r1, r2, r3⟩ := m_reached (i := j) (fr := pl pcs i - fr) (many := many + (pl pcs j - (pl pcs i - fr))) hm ha (by omega) (by omega)
          obtain ⟨S', s1, s2⟩ := ih F S1 (j + 1) (by omega) (by omega) (fr_trans hf r2) (by rw [zdg, zdg1, if_pos q, if_neg q2]; exact r3)
          refine ⟨S', ?_, s2⟩
          rw [← s1, L_Mo_goesFrom_13]
          simp (disch := omega) [-Prod.exists, -Prod.forall, ↓bb_gf, ↓bb_gr, ↓bb_len, ↓bb_ga, ↓bb_gl, ↓bb_go, ↓bb_pf, ↓bb_pz, ↓bb_pr, ↓bb_pa, ↓bb_pb, ↓bb_pl, ↓bb_po, ↓bb_cl, ↓bb_some, ↓bb_RI, ↓bb_RJ, mm_hI, mm_hJ, mm_hR, mm_nI, mm_nJ, mm_nR, mm_sI, mm_sJ, mm_sR, mm_RI, mm_RJ, mm_IJ, mm_IR, mm_JI, mm_JR, mm_II, mm_JJ, mm_RR, hm.1, hc.1, hx, ↓bS on, ↓bS (mo_pieceLong hm), mh_pieceLong hm, zj, cj, a2, l, nI_add, es, ↓bS r1, e1]
      · rw [if_neg q] at on
        obtain ⟨S', s1, s2⟩ := ih F S (j + 1) (by omega) (by omega) hf (by rw [zdg, zdg1, if_neg q]; exact ha)
        refine ⟨S', ?_, s2⟩
        rw [← s1, L_Mo_goesFrom_13]
        simp (disch := omega) [-Prod.exists, -Prod.forall, ↓bb_gf, ↓bb_gr, ↓bb_len, ↓bb_ga, ↓bb_gl, ↓bb_go, ↓bb_pf, ↓bb_pz, ↓bb_pr, ↓bb_pa, ↓bb_pb, ↓bb_pl, ↓bb_po, ↓bb_cl, ↓bb_some, ↓bb_RI, ↓bb_RJ, mm_hI, mm_hJ, mm_hR, mm_nI, mm_nJ, mm_nR, mm_sI, mm_sJ, mm_sR, mm_RI, mm_RJ, mm_IJ, mm_IR, mm_JI, mm_JR, mm_II, mm_JJ, mm_RR, hm.1, hc.1, hx, ↓bS on, e1]
theorem m_goesFrom (hm : sMo S0 M) (hw : wPc pcs) (hc : mPcs S0 M pcs) {i fr many : Nat} (hi : i < pcs.length) (hfr : fr ≤ pl pcs i) (ht : many ≤ zFar) {D : Nat → Nat} (hD : pDD S0 M D) : ∃ S', f_Mo_goesFrom M (nI i) (nI fr) (nI many) S0 = some S' ∧ zfr (fun b _ => b = M + 15) S0 S' ∧ pDD S' M (zdg pcs i fr many D pcs.length) := by
  have h16 := hw.1
  have wi : pl pcs i ≤ 4 := (hw.2 i hi).1
  have a1 : zI S0 (M + 13) i = nI (pl pcs i) := (hc.2 i hi).2.1
  have zi : zinb (nI i) 16 = true := (nn_in (by omega)).2 (by omega)
  have ci : (nI i).toNatClampNeg = i := nI_clamp (by omega)
  have es : nI (pl pcs i) - nI fr = nI (pl pcs i - fr) := pk_sub hfr
  obtain ⟨S', r1, r2⟩ := gf_13 hm hw hc hi hfr ht (D := D) pcs.length zF S0 0 (by omega) (by rw [zF_eq]; omega) (fr_refl _ _) hD
  refine ⟨S', ?_, r2⟩
  rw [← r1]
  simp (disch := omega) [f_Mo_goesFrom, -Prod.exists, -Prod.forall, ↓bb_gf, ↓bb_gr, ↓bb_len, ↓bb_ga, ↓bb_gl, ↓bb_go, ↓bb_pf, ↓bb_pz, ↓bb_pr, ↓bb_pa, ↓bb_pb, ↓bb_pl, ↓bb_po, ↓bb_cl, ↓bb_some, ↓bb_RI, ↓bb_RJ, mm_hI, mm_hJ, mm_hR, mm_nI, mm_nJ, mm_nR, mm_sI, mm_sJ, mm_sR, mm_RI, mm_RJ, mm_IJ, mm_IR, mm_JI, mm_JR, mm_II, mm_JJ, mm_RR, hm.1, ↓bS (mo_pieceLong hm), mh_pieceLong hm, zi, ci, a1, es]; rfl
end
/-- the nearest of the first n that isn't done -/
def zNr (D : Nat → Nat) (dn : Nat → Bool) (n : Nat) (o : Option Nat) : Prop := match o with
  | none => ∀ k, k < n → dn k = true ∨ zFar ≤ D k
  | some b => b < n ∧ dn b = false ∧ D b < zFar ∧ ∀ k, k < n → dn k = false → D b ≤ D k
section
variable {S : zM} {M : Nat}
theorem nr_4 {D : Nat → Nat} {dn : Nat → Bool} (hm : sMo S M) (hD : pDD S M D) (hn : pDn S M dn) : ∀ d F k o, d + k = 80 → d < F → zNr D dn k o → ∃ o', L_Mo_nearest_4 F M (zsI o) (nI k) S = some (zsI o', S) ∧ zNr D dn 80 o' := by
  have zf : zFar = 1000000 := rfl
  intro d
  induction d with
  | zero =>
    intro F k o hd hF ho
    cases F with
    | zero => omega
    | succ F =>
      have ek : k = 80 := by omega
      subst ek
      have hx : ¬ nI 80 < (80 : Int32) := by decide
      exact ⟨o, by simp [L_Mo_nearest_4, hx], ho⟩
  | succ d ih =>
    intro F k o hd hF ho
    cases F with
    | zero => omega
    | succ F =>
      have hx : nI k < (80 : Int32) := (nI_ltI (b := 80) (by omega) (by omega)).2 (by omega)
      have e1 : nI k + 1 = nI (k + 1) := nI_add k 1
      have z : zinb (nI k) 80 = true := (nn_in (by omega)).2 (by omega)
      have c : (nI k).toNatClampNeg = k := nI_clamp (by omega)
      have v := hD.1 k (by omega)
      have w := hn k (by omega)
      have bk := hD.2 k
      cases en : dn k with
      | true =>
        rw [en] at w
        simp only [if_true] at w
        obtain ⟨o', r1, r2⟩ := ih F (k + 1) o (by omega) (by omega) (by
          cases o with
          | none =>
            intro j hj
            by_cases q : j = k
            · subst q; exact Or.inl en
            · exact ho j (by omega)
          | some b =>
            refine ⟨by have := ho.1; omega, ho.2.1, ho.2.2.1, fun j hj hdj => ?_⟩
            by_cases q : j = k
            · subst q; rw [en] at hdj; cases hdj
            · exact ho.2.2.2 j (by omega) hdj)
        refine ⟨o', ?_, r2⟩
        rw [← r1, L_Mo_nearest_4]
        simp (disch := omega) [-Prod.exists, -Prod.forall, ↓bb_gf, ↓bb_gr, ↓bb_len, ↓bb_ga, ↓bb_gl, ↓bb_go, ↓bb_pf, ↓bb_pz, ↓bb_pr, ↓bb_pa, ↓bb_pb, ↓bb_pl, ↓bb_po, ↓bb_cl, ↓bb_some, ↓bb_RI, ↓bb_RJ, mm_hI, mm_hJ, mm_hR, mm_nI, mm_nJ, mm_nR, mm_sI, mm_sJ, mm_sR, mm_RI, mm_RJ, mm_IJ, mm_IR, mm_JI, mm_JR, mm_II, mm_JJ, mm_RR, hx, hm.1, ↓bS (mo_isDone hm), mh_isDone hm, z, c, w, e1]
      | false =>
        rw [en] at w
        simp only [Bool.false_eq_true, if_false] at w
        by_cases q1 : D k < zFar
        · have l1 : nI (D k) < (1000000 : Int32) := (nI_ltI (b := 1000000) (by omega) (by omega)).2 (by omega)
          cases o with
          | none =>
            obtain ⟨o', r1, r2⟩ := ih F (k + 1) (some k) (by omega) (by omega) ⟨by omega, en, q1, fun j hj hdj => by
              by_cases q : j = k
              · subst q; omega
              · rcases ho j (by omega) with x | x
                · rw [x] at hdj; cases hdj
                · omega⟩
            refine ⟨o', ?_, r2⟩
            rw [← r1, L_Mo_nearest_4]
            simp (disch := omega) [-Prod.exists, -Prod.forall, ↓bb_gf, ↓bb_gr, ↓bb_len, ↓bb_ga, ↓bb_gl, ↓bb_go, ↓bb_pf, ↓bb_pz, ↓bb_pr, ↓bb_pa, ↓bb_pb, ↓bb_pl, ↓bb_po, ↓bb_cl, ↓bb_some, ↓bb_RI, ↓bb_RJ, mm_hI, mm_hJ, mm_hR, mm_nI, mm_nJ, mm_nR, mm_sI, mm_sJ, mm_sR, mm_RI, mm_RJ, mm_IJ, mm_IR, mm_JI, mm_JR, mm_II, mm_JJ, mm_RR, hx, hm.1, ↓bS (mo_isDone hm), mh_isDone hm, z, c, w, ↓bS (mo_soFar hm), mh_soFar hm, v, l1, zsI, e1]
          | some b =>
            have hb := ho.1
            have nb : ¬ nI b = -1 := (nn_eqm (i := b) (m := 1) (by omega) (by omega) (by omega)).1
            have zb : zinb (nI b) 80 = true := (nn_in (by omega)).2 (by omega)
            have cb : (nI b).toNatClampNeg = b := nI_clamp (by omega)
            have vb := hD.1 b (by omega)
            have bb := hD.2 b
            by_cases q2 : D k < D b
            · have l2 : nI (D k) < nI (D b) := (nI_ltI (by omega) (by omega)).2 q2
              obtain ⟨o', r1, r2⟩ := ih F (k + 1) (some k) (by omega) (by omega) ⟨by omega, en, q1, fun j hj hdj => by
                by_cases q : j = k
                · subst q; omega
                · have := ho.2.2.2 j (by omega) hdj; omega⟩
              refine ⟨o', ?_, r2⟩
              rw [← r1, L_Mo_nearest_4]
              simp (disch := omega) [-Prod.exists, -Prod.forall, ↓bb_gf, ↓bb_gr, ↓bb_len, ↓bb_ga, ↓bb_gl, ↓bb_go, ↓bb_pf, ↓bb_pz, ↓bb_pr, ↓bb_pa, ↓bb_pb, ↓bb_pl, ↓bb_po, ↓bb_cl, ↓bb_some, ↓bb_RI, ↓bb_RJ, mm_hI, mm_hJ, mm_hR, mm_nI, mm_nJ, mm_nR, mm_sI, mm_sJ, mm_sR, mm_RI, mm_RJ, mm_IJ, mm_IR, mm_JI, mm_JR, mm_II, mm_JJ, mm_RR, hx, hm.1, ↓bS (mo_isDone hm), mh_isDone hm, z, c, w, ↓bS (mo_soFar hm), mh_soFar hm, v, l1, zsI, nb, zb, cb, vb, l2, e1]
            · have l2 : ¬ nI (D k) < nI (D b) := by rw [nI_ltI (by omega) (by omega)]; exact q2
              obtain ⟨o', r1, r2⟩ := ih F (k + 1) (some b) (by omega) (by omega) ⟨by omega, ho.2.1, ho.2.2.1, fun j hj hdj => by
                by_cases q : j = k
                · subst q; omega
                · exact ho.2.2.2 j (by omega) hdj⟩
              refine ⟨o', ?_, r2⟩
              rw [← r1, L_Mo_nearest_4]
              simp (disch := omega) [-Prod.exists, -Prod.forall, ↓bb_gf, ↓bb_gr, ↓bb_len, ↓bb_ga, ↓bb_gl, ↓bb_go, ↓bb_pf, ↓bb_pz, ↓bb_pr, ↓bb_pa, ↓bb_pb, ↓bb_pl, ↓bb_po, ↓bb_cl, ↓bb_some, ↓bb_RI, ↓bb_RJ, mm_hI, mm_hJ, mm_hR, mm_nI, mm_nJ, mm_nR, mm_sI, mm_sJ, mm_sR, mm_RI, mm_RJ, mm_IJ, mm_IR, mm_JI, mm_JR, mm_II, mm_JJ, mm_RR, hx, hm.1, ↓bS (mo_isDone hm), mh_isDone hm, z, c, w, ↓bS (mo_soFar hm), mh_soFar hm, v, l1, zsI, nb, zb, cb, vb, l2, e1]
        · have l1 : ¬ nI (D k) < (1000000 : Int32) := fun x => q1 (by have := (nI_ltI (b := 1000000) (by omega) (by omega)).1 x; omega)
          obtain ⟨o', r1, r2⟩ := ih F (k + 1) o (by omega) (by omega) (by
            cases o with
            | none =>
              intro j hj
              by_cases q : j = k
              · subst q; exact Or.inr (by omega)
              · exact ho j (by omega)
            | some b =>
              refine ⟨by have := ho.1; omega, ho.2.1, ho.2.2.1, fun j hj hdj => ?_⟩
              by_cases q : j = k
              · subst q; have := ho.2.2.1; omega
              · exact ho.2.2.2 j (by omega) hdj)
          refine ⟨o', ?_, r2⟩
          rw [← r1, L_Mo_nearest_4]
          simp (disch := omega) [-Prod.exists, -Prod.forall, ↓bb_gf, ↓bb_gr, ↓bb_len, ↓bb_ga, ↓bb_gl, ↓bb_go, ↓bb_pf, ↓bb_pz, ↓bb_pr, ↓bb_pa, ↓bb_pb, ↓bb_pl, ↓bb_po, ↓bb_cl, ↓bb_some, ↓bb_RI, ↓bb_RJ, mm_hI, mm_hJ, mm_hR, mm_nI, mm_nJ, mm_nR, mm_sI, mm_sJ, mm_sR, mm_RI, mm_RJ, mm_IJ, mm_IR, mm_JI, mm_JR, mm_II, mm_JJ, mm_RR, hx, hm.1, ↓bS (mo_isDone hm), mh_isDone hm, z, c, w, ↓bS (mo_soFar hm), mh_soFar hm, v, l1, e1]
theorem m_nearest {D : Nat → Nat} {dn : Nat → Bool} (hm : sMo S M) (hD : pDD S M D) (hn : pDn S M dn) : ∃ o, f_Mo_nearest M S = some (zsI o, S) ∧ zNr D dn 80 o :=
  nr_4 hm hD hn 80 zF 0 none (by omega) (by rw [zF_eq]; omega) (fun k hk => by omega)
end
