/-! the reference: unclearOf -/
def wDj (M : Nat) : Nat → Nat → Prop := fun b _ => b = M + 15 ∨ b = M + 16
section
variable {S0 : zM} {M : Nat} {pcs : List (Nat × List Nat)}
theorem un_126 (hg : wG pcs) (hm0 : sMo S0 M) (hw : wPc pcs) (hc0 : mPcs S0 M pcs) : ∀ d F (S : zM) (D : Nat → Nat) (dn : Nat → Bool) d0 o, d + fb_ct dn 80 = 80 → d < F → zfr (wDj M) S0 S → pDD S M D → pDn S M dn → dJ pcs D dn d0 → zNr D dn 80 o → ∃ S', L_Mo_unclearOf_126 F M (zsI o) S = some (zoI (zun pcs) (-2), S') ∧ zfr (wDj M) S0 S' := by
  have zf : zFar = 1000000 := rfl
  have h16 := hw.1
  have hne : ∀ k, k < pcs.length → pcL pcs k ≠ [] := fun k hk q => by
    have := (hg.2 k hk).1
    unfold pl at this
    rw [q] at this
    simp at this
  intro d
  induction d with
  | zero =>
    intro F S D dn d0 o hd hF hf hD hn hJ ho
    have hall := fb_ct_all.1 (show fb_ct dn 80 = 80 by omega)
    cases o with
    | some k => have := ho.2.1; rw [hall k ho.1] at this; cases this
    | none =>
      cases F with
      | zero => omega
      | succ F =>
        have : zuncl pcs none := Or.inr ⟨hne, fun w hw2 => by
          obtain ⟨w', _, b, c⟩ := gA_small hg hw2
          have := dj_low hg hJ (d := zFar) (fun k hk hdk => by rw [hall k hk] at hdk; cases hdk) w' c
          omega⟩
        refine ⟨S, ?_, hf⟩
        rw [← uncl_zun this]
        simp [L_Mo_unclearOf_126, zsI, zoI]
  | succ d ih =>
    intro F S D dn d0 o hd hF hf hD hn hJ ho
    cases F with
    | zero => omega
    | succ F =>
      cases o with
      | none =>
        have : zuncl pcs none := Or.inr ⟨hne, fun w hw2 => by
          obtain ⟨w', _, b, c⟩ := gA_small hg hw2
          have := dj_low hg hJ (d := zFar) (fun k hk hdk => by
            rcases ho k hk with x | x
            · rw [x] at hdk; cases hdk
            · exact x) w' c
          omega⟩
        refine ⟨S, ?_, hf⟩
        rw [← uncl_zun this]
        simp [L_Mo_unclearOf_126, zsI, zoI]
      | some k =>
        obtain ⟨k1, k2, k3, k4⟩ := ho
        obtain ⟨v1, v2, v3, v4⟩ := (hJ.1 k).2 k3
        have hm := mo_fr hm0 hf
        have hc := mPcs_fr hc0 hf (by unfold wDj; omega) (fun b j a c => by unfold wDj; omega)
        have wk : pl pcs (k / 5) ≤ 4 := (hw.2 _ v1).1
        have nb : ¬ nI k = -1 := (nn_eqm (i := k) (m := 1) (by omega) (by omega) (by omega)).1
        have z : zinb (nI k) 80 = true := (nn_in (by omega)).2 (by omega)
        have c : (nI k).toNatClampNeg = k := nI_clamp (by omega)
        have ed : nI k / 5 = nI (k / 5) := pk_div (d := 5) (by omega) (by omega) (by omega)
        have er : nI k - nI (k / 5) * 5 = nI (k % 5) := by rw [← ed]; exact pk_rem (d := 5) (by omega) (by omega) (by omega)
        have z5 : zinb (nI (k / 5)) 16 = true := (nn_in (by omega)).2 (by omega)
        have c5 : (nI (k / 5)).toNatClampNeg = k / 5 := nI_clamp (by omega)
        have a1 : zI S (M + 13) (k / 5) = nI (pl pcs (k / 5)) := (hc.2 _ v1).2.1
        have vD := hD.1 k k1
        have n5 : ¬ (5 : Int32) = 0 := by decide
        have f1 : zfr (wDj M) S (zwI S (M + 16) k 1) := fr_wI _ _ (Or.inr rfl)
        by_cases q : k % 5 = pl pcs (k / 5)
        · have q' : nI (k % 5) = nI (pl pcs (k / 5)) := by rw [q]
          have : zuncl pcs (some (D k)) := Or.inr ⟨hne, v4 q, dj_low hg hJ k4⟩
          refine ⟨zwI S (M + 16) k 1, ?_, fr_trans hf f1⟩
          rw [← uncl_zun this]
          simp (disch := omega) [L_Mo_unclearOf_126, -Prod.exists, -Prod.forall, ↓bb_gf, ↓bb_gr, ↓bb_len, ↓bb_ga, ↓bb_gl, ↓bb_go, ↓bb_pf, ↓bb_pz, ↓bb_pr, ↓bb_pa, ↓bb_pb, ↓bb_pl, ↓bb_po, ↓bb_cl, ↓bb_some, ↓bb_RI, ↓bb_RJ, mm_hI, mm_hJ, mm_hR, mm_nI, mm_nJ, mm_nR, mm_sI, mm_sJ, mm_sR, mm_RI, mm_RJ, mm_IJ, mm_IR, mm_JI, mm_JR, mm_II, mm_JJ, mm_RR, zsI, nb, hm.1, ↓bS (mo_isDone hm), mh_isDone hm, z, c, n5, ↓bS (mo_pieceLong hm), mh_pieceLong hm, ed, er, z5, c5, a1, q', ↓bS (mo_soFar hm), mh_soFar hm, vD, zoI]
        · have q' : ¬ nI (k % 5) = nI (pl pcs (k / 5)) := fun w => q ((nI_eq (by omega) (by omega)).1 w)
          obtain ⟨hr, hJ'⟩ := dj_pop hg hJ k1 k2 k3 k4 q
          have hD1 : pDD (zwI S (M + 16) k 1) M D := ⟨fun j hj => by rw [← hD.1 j hj]; simp [-Prod.exists, -Prod.forall, zgf, zgr, zpf, zpz, zpr, zga, zgl, zgo, zpa, zpb, zpl, zpo, mm_len, zcl, Option.bind_some, Option.bind_none, mm_hI, mm_hJ, mm_hR, mm_nI, mm_nJ, mm_nR, mm_sI, mm_sJ, mm_sR, mm_RI, mm_RJ, mm_IJ, mm_IR, mm_JI, mm_JR, mm_II, mm_JJ, mm_RR], hD.2⟩
          obtain ⟨S2, r1, r2, r3⟩ := m_goesFrom (S0 := zwI S (M + 16) k 1) (mo_fr hm f1) hw (mPcs_fr hc f1 (by unfold wDj; omega) (fun b j a c => by unfold wDj; omega)) v1 v2 (many := D k) (by omega) hD1
          have hm2 := mo_fr (mo_fr hm f1) r2
          have hn2 : pDn S2 M (fun q => if q = k then true else dn q) := by
            intro j hj
            rw [fr_I r2 (by omega)]
            by_cases q2 : j = k
            · subst q2; simp [-Prod.exists, -Prod.forall, zgf, zgr, zpf, zpz, zpr, zga, zgl, zgo, zpa, zpb, zpl, zpo, mm_len, zcl, Option.bind_some, Option.bind_none, mm_hI, mm_hJ, mm_hR, mm_nI, mm_nJ, mm_nR, mm_sI, mm_sJ, mm_sR, mm_RI, mm_RJ, mm_IJ, mm_IR, mm_JI, mm_JR, mm_II, mm_JJ, mm_RR]
            · have := hn j hj
              simp [-Prod.exists, -Prod.forall, zgf, zgr, zpf, zpz, zpr, zga, zgl, zgo, zpa, zpb, zpl, zpo, mm_len, zcl, Option.bind_some, Option.bind_none, mm_hI, mm_hJ, mm_hR, mm_nI, mm_nJ, mm_nR, mm_sI, mm_sJ, mm_sR, mm_RI, mm_RJ, mm_IJ, mm_IR, mm_JI, mm_JR, mm_II, mm_JJ, mm_RR, q2, this]
          obtain ⟨o', o1, o2⟩ := m_nearest hm2 r3 hn2
          have hct := fb_ct_upd dn true (i := k) (n := 80) k1
          rw [k2] at hct
          simp only [Bool.false_eq_true, if_false, if_true] at hct
          obtain ⟨S', s1, s2⟩ := ih F S2 _ (fun q => if q = k then true else dn q) (D k) o' (by omega) (by omega) (fr_trans hf (fr_trans f1 (fr_mono r2 (fun b j h => Or.inl h)))) r3 hn2 hJ' o2
          refine ⟨S', ?_, s2⟩
          rw [← s1, L_Mo_unclearOf_126]
          simp (disch := omega) [-Prod.exists, -Prod.forall, ↓bb_gf, ↓bb_gr, ↓bb_len, ↓bb_ga, ↓bb_gl, ↓bb_go, ↓bb_pf, ↓bb_pz, ↓bb_pr, ↓bb_pa, ↓bb_pb, ↓bb_pl, ↓bb_po, ↓bb_cl, ↓bb_some, ↓bb_RI, ↓bb_RJ, mm_hI, mm_hJ, mm_hR, mm_nI, mm_nJ, mm_nR, mm_sI, mm_sJ, mm_sR, mm_RI, mm_RJ, mm_IJ, mm_IR, mm_JI, mm_JR, mm_II, mm_JJ, mm_RR, zsI, nb, hm.1, ↓bS (mo_isDone hm), mh_isDone hm, z, c, n5, ↓bS (mo_pieceLong hm), mh_pieceLong hm, ed, er, z5, c5, a1, q', ↓bS (mo_soFar hm), mh_soFar hm, vD, ↓bS r1, hm2.1, ↓bS o1]
theorem un_53 (hm0 : sMo S0 M) (hw : wPc pcs) (hc0 : mPcs S0 M pcs) {i : Nat} (hi : i < pcs.length) {D : Nat → Nat} {K : Nat → Int32 → zM → Option (Int32 × zM)} (Q : Option (Int32 × zM) → Prop) (HK : ∀ S', zfr (fun b _ => b = M + 15) S0 S' → pDD S' M (zds2 pcs i D pcs.length) → Q (K M (nI i) S')) : ∀ d F (S : zM) j, d + j = pcs.length → d < F → zfr (fun b _ => b = M + 15) S0 S → pDD S M (zds2 pcs i D j) → Q (L_Mo_unclearOf_53 K F M (nI i) (nI j) S) := by
  have zf : zFar = 1000000 := rfl
  have h16 := hw.1
  have wi : pl pcs i ≤ 4 := (hw.2 i hi).1
  intro d
  induction d with
  | zero =>
    intro F S j hd hF hf ha
    cases F with
    | zero => omega
    | succ F =>
      have el : j = pcs.length := by omega
      subst el
      have hm := mo_fr hm0 hf
      have hc := mPcs_fr hc0 hf (by omega) (fun b j a c => by omega)
      have hx : ¬ nI pcs.length < nI pcs.length := by rw [nI_ltI (by omega) (by omega)]; omega
      have : L_Mo_unclearOf_53 K (F + 1) M (nI i) (nI pcs.length) S = K M (nI i) S := by
        simp [L_Mo_unclearOf_53, -Prod.exists, -Prod.forall, ↓bb_gf, ↓bb_gr, ↓bb_len, ↓bb_ga, ↓bb_gl, ↓bb_go, ↓bb_pf, ↓bb_pz, ↓bb_pr, ↓bb_pa, ↓bb_pb, ↓bb_pl, ↓bb_po, ↓bb_cl, ↓bb_some, ↓bb_RI, ↓bb_RJ, mm_hI, mm_hJ, mm_hR, mm_nI, mm_nJ, mm_nR, mm_sI, mm_sJ, mm_sR, mm_RI, mm_RJ, mm_IJ, mm_IR, mm_JI, mm_JR, mm_II, mm_JJ, mm_RR, hm.1, hc.1, hx]
      rw [this]
      exact HK S hf ha
  | succ d ih =>
    intro F S j hd hF hf ha
    cases F with
    | zero => omega
    | succ F =>
      have hm := mo_fr hm0 hf
      have hc := mPcs_fr hc0 hf (by omega) (fun b j a c => by omega)
      have hj : j < pcs.length := by omega
      have wj : pl pcs j ≤ 4 := (hw.2 j hj).1
      have hx : nI j < nI pcs.length := by rw [nI_ltI (by omega) (by omega)]; omega
      have e1 : nI j + 1 = nI (j + 1) := nI_add j 1
      have on : f_Mo_areOne M (nI i) 0 (nI j) 0 S = some (if zagr (pcL pcs i) 0 (pcL pcs j) then 1 else 0, S) := m_one hm hw hc hi hj (fr := 0) (by omega)
      have zi : zinb (nI i) 16 = true := (nn_in (by omega)).2 (by omega)
      have ci : (nI i).toNatClampNeg = i := nI_clamp (by omega)
      have zj : zinb (nI j) 16 = true := (nn_in (by omega)).2 (by omega)
      have cj : (nI j).toNatClampNeg = j := nI_clamp (by omega)
      have a1 : zI S (M + 13) i = nI (pl pcs i) := (hc.2 i hi).2.1
      have a2 : zI S (M + 13) j = nI (pl pcs j) := (hc.2 j hj).2.1
      by_cases q1 : i = j
      · have st : L_Mo_unclearOf_53 K (F + 1) M (nI i) (nI j) S = L_Mo_unclearOf_53 K F M (nI i) (nI (j + 1)) S := by
          rw [L_Mo_unclearOf_53]
          simp (disch := omega) [-Prod.exists, -Prod.forall, ↓bb_gf, ↓bb_gr, ↓bb_len, ↓bb_ga, ↓bb_gl, ↓bb_go, ↓bb_pf, ↓bb_pz, ↓bb_pr, ↓bb_pa, ↓bb_pb, ↓bb_pl, ↓bb_po, ↓bb_cl, ↓bb_some, ↓bb_RI, ↓bb_RJ, mm_hI, mm_hJ, mm_hR, mm_nI, mm_nJ, mm_nR, mm_sI, mm_sJ, mm_sR, mm_RI, mm_RJ, mm_IJ, mm_IR, mm_JI, mm_JR, mm_II, mm_JJ, mm_RR, hm.1, hc.1, hx, q1, e1]
        rw [st]
        exact ih F S (j + 1) (by omega) (by omega) hf (by rw [zds2, zds1, if_neg (fun w => w.1 q1)]; exact ha)
      · have nq : ¬ nI i = nI j := fun w => q1 ((nI_eq (by omega) (by omega)).1 w)
        by_cases q2 : pl pcs j ≤ pl pcs i
        · have l : nI (pl pcs j) ≤ nI (pl pcs i) := (nI_leI (by omega) (by omega)).2 q2
          by_cases q3 : zagr (pcL pcs i) 0 (pcL pcs j) = true
          · rw [if_pos q3] at on
            obtain ⟨S1, r1, r2, r3⟩ := m_reached (i := i) (fr := pl pcs j) (many := pl pcs i) hm ha (by omega) (by omega)
            have st : L_Mo_unclearOf_53 K (F + 1) M (nI i) (nI j) S = L_Mo_unclearOf_53 K F M (nI i) (nI (j + 1)) S1 := by
              rw [L_Mo_unclearOf_53]
              simp (disch := omega) [-Prod.exists, -Prod.forall, ↓bb_gf, ↓bb_gr, ↓bb_len, ↓bb_ga, ↓bb_gl, ↓bb_go, ↓bb_pf, ↓bb_pz, ↓bb_pr, ↓bb_pa, ↓bb_pb, ↓bb_pl, ↓bb_po, ↓bb_cl, ↓bb_some, ↓bb_RI, ↓bb_RJ, mm_hI, mm_hJ, mm_hR, mm_nI, mm_nJ, mm_nR, mm_sI, mm_sJ, mm_sR, mm_RI, mm_RJ, mm_IJ, mm_IR, mm_JI, mm_JR, mm_II, mm_JJ, mm_RR, hm.1, hc.1, hx, nq, ↓bS (mo_pieceLong hm), mh_pieceLong hm, zi, ci, zj, cj, a1, a2, l, ↓bS on, ↓bS r1, e1]
            rw [st]
            exact ih F S1 (j + 1) (by omega) (by omega) (fr_trans hf r2) (by rw [zds2, zds1, if_pos ⟨q1, q2, q3⟩]; exact r3)
          · rw [if_neg q3] at on
            have st : L_Mo_unclearOf_53 K (F + 1) M (nI i) (nI j) S = L_Mo_unclearOf_53 K F M (nI i) (nI (j + 1)) S := by
              rw [L_Mo_unclearOf_53]
              simp (disch := omega) [-Prod.exists, -Prod.forall, ↓bb_gf, ↓bb_gr, ↓bb_len, ↓bb_ga, ↓bb_gl, ↓bb_go, ↓bb_pf, ↓bb_pz, ↓bb_pr, ↓bb_pa, ↓bb_pb, ↓bb_pl, ↓bb_po, ↓bb_cl, ↓bb_some, ↓bb_RI, ↓bb_RJ, mm_hI, mm_hJ, mm_hR, mm_nI, mm_nJ, mm_nR, mm_sI, mm_sJ, mm_sR, mm_RI, mm_RJ, mm_IJ, mm_IR, mm_JI, mm_JR, mm_II, mm_JJ, mm_RR, hm.1, hc.1, hx, nq, ↓bS (mo_pieceLong hm), mh_pieceLong hm, zi, ci, zj, cj, a1, a2, l, ↓bS on, e1]
            rw [st]
            exact ih F S (j + 1) (by omega) (by omega) hf (by rw [zds2, zds1, if_neg (fun w => q3 w.2.2)]; exact ha)
        · have l : ¬ nI (pl pcs j) ≤ nI (pl pcs i) := by rw [nI_leI (by omega) (by omega)]; exact q2
          have st : L_Mo_unclearOf_53 K (F + 1) M (nI i) (nI j) S = L_Mo_unclearOf_53 K F M (nI i) (nI (j + 1)) S := by
            rw [L_Mo_unclearOf_53]
            simp (disch := omega) [-Prod.exists, -Prod.forall, ↓bb_gf, ↓bb_gr, ↓bb_len, ↓bb_ga, ↓bb_gl, ↓bb_go, ↓bb_pf, ↓bb_pz, ↓bb_pr, ↓bb_pa, ↓bb_pb, ↓bb_pl, ↓bb_po, ↓bb_cl, ↓bb_some, ↓bb_RI, ↓bb_RJ, mm_hI, mm_hJ, mm_hR, mm_nI, mm_nJ, mm_nR, mm_sI, mm_sJ, mm_sR, mm_RI, mm_RJ, mm_IJ, mm_IR, mm_JI, mm_JR, mm_II, mm_JJ, mm_RR, hm.1, hc.1, hx, nq, ↓bS (mo_pieceLong hm), mh_pieceLong hm, zi, ci, zj, cj, a1, a2, l, e1]
          rw [st]
          exact ih F S (j + 1) (by omega) (by omega) hf (by rw [zds2, zds1, if_neg (fun w => q2 w.2.1)]; exact ha)
theorem un_32 (hm0 : sMo S0 M) (hw : wPc pcs) (hc0 : mPcs S0 M pcs) {K : Nat → zM → Option (Int32 × zM)} (Q : Option (Int32 × zM) → Prop) (H0 : ∀ S', zfr (fun b _ => b = M + 15) S0 S' → (∃ k, k < pcs.length ∧ pcL pcs k = []) → Q (some (0, S'))) (HK : ∀ S', zfr (fun b _ => b = M + 15) S0 S' → (∀ k, k < pcs.length → pcL pcs k ≠ []) → pDD S' M (zds pcs pcs.length) → Q (K M S')) : ∀ d F (S : zM) i, d + i = pcs.length → d < F → zfr (fun b _ => b = M + 15) S0 S → (∀ k, k < i → pcL pcs k ≠ []) → pDD S M (zds pcs i) → Q (L_Mo_unclearOf_32 K F M (nI i) S) := by
  have h16 := hw.1
  intro d
  induction d with
  | zero =>
    intro F S i hd hF hf hne ha
    cases F with
    | zero => omega
    | succ F =>
      have el : i = pcs.length := by omega
      subst el
      have hm := mo_fr hm0 hf
      have hc := mPcs_fr hc0 hf (by omega) (fun b j a c => by omega)
      have hx : ¬ nI pcs.length < nI pcs.length := by rw [nI_ltI (by omega) (by omega)]; omega
      have : L_Mo_unclearOf_32 K (F + 1) M (nI pcs.length) S = K M S := by
        simp [L_Mo_unclearOf_32, -Prod.exists, -Prod.forall, ↓bb_gf, ↓bb_gr, ↓bb_len, ↓bb_ga, ↓bb_gl, ↓bb_go, ↓bb_pf, ↓bb_pz, ↓bb_pr, ↓bb_pa, ↓bb_pb, ↓bb_pl, ↓bb_po, ↓bb_cl, ↓bb_some, ↓bb_RI, ↓bb_RJ, mm_hI, mm_hJ, mm_hR, mm_nI, mm_nJ, mm_nR, mm_sI, mm_sJ, mm_sR, mm_RI, mm_RJ, mm_IJ, mm_IR, mm_JI, mm_JR, mm_II, mm_JJ, mm_RR, hm.1, hc.1, hx]
      rw [this]
      exact HK S hf hne ha
  | succ d ih =>
    intro F S i hd hF hf hne ha
    cases F with
    | zero => omega
    | succ F =>
      have hm := mo_fr hm0 hf
      have hc := mPcs_fr hc0 hf (by omega) (fun b j a c => by omega)
      have hi : i < pcs.length := by omega
      have wi : pl pcs i ≤ 4 := (hw.2 i hi).1
      have hx : nI i < nI pcs.length := by rw [nI_ltI (by omega) (by omega)]; omega
      have e1 : nI i + 1 = nI (i + 1) := nI_add i 1
      have zi : zinb (nI i) 16 = true := (nn_in (by omega)).2 (by omega)
      have ci : (nI i).toNatClampNeg = i := nI_clamp (by omega)
      have a1 : zI S (M + 13) i = nI (pl pcs i) := (hc.2 i hi).2.1
      by_cases q : pcL pcs i = []
      · have g0 : nI (pl pcs i) = 0 := by unfold pl; rw [q]; rfl
        have st : L_Mo_unclearOf_32 K (F + 1) M (nI i) S = some (0, S) := by
          rw [L_Mo_unclearOf_32]
          simp (disch := omega) [-Prod.exists, -Prod.forall, ↓bb_gf, ↓bb_gr, ↓bb_len, ↓bb_ga, ↓bb_gl, ↓bb_go, ↓bb_pf, ↓bb_pz, ↓bb_pr, ↓bb_pa, ↓bb_pb, ↓bb_pl, ↓bb_po, ↓bb_cl, ↓bb_some, ↓bb_RI, ↓bb_RJ, mm_hI, mm_hJ, mm_hR, mm_nI, mm_nJ, mm_nR, mm_sI, mm_sJ, mm_sR, mm_RI, mm_RJ, mm_IJ, mm_IR, mm_JI, mm_JR, mm_II, mm_JJ, mm_RR, hm.1, hc.1, hx, ↓bS (mo_pieceLong hm), mh_pieceLong hm, zi, ci, a1, g0]
        rw [st]
        exact H0 S hf ⟨i, hi, q⟩
      · have hpos : 0 < pl pcs i := List.length_pos_iff.2 q
        have g0 : ¬ nI (pl pcs i) = 0 := fun w => by have := (nI_eq (b := 0) (by omega) (by omega)).1 w; omega
        have st : L_Mo_unclearOf_32 K (F + 1) M (nI i) S = L_Mo_unclearOf_53 (F_Mo_unclearOf_115 (L_Mo_unclearOf_32 K F)) zF M (nI i) (nI 0) S := by
          rw [L_Mo_unclearOf_32]
          simp (disch := omega) [-Prod.exists, -Prod.forall, ↓bb_gf, ↓bb_gr, ↓bb_len, ↓bb_ga, ↓bb_gl, ↓bb_go, ↓bb_pf, ↓bb_pz, ↓bb_pr, ↓bb_pa, ↓bb_pb, ↓bb_pl, ↓bb_po, ↓bb_cl, ↓bb_some, ↓bb_RI, ↓bb_RJ, mm_hI, mm_hJ, mm_hR, mm_nI, mm_nJ, mm_nR, mm_sI, mm_sJ, mm_sR, mm_RI, mm_RJ, mm_IJ, mm_IR, mm_JI, mm_JR, mm_II, mm_JJ, mm_RR, hm.1, hc.1, hx, ↓bS (mo_pieceLong hm), mh_pieceLong hm, zi, ci, a1, g0]; rfl
        rw [st]
        refine un_53 hm hw hc hi (D := zds pcs i) Q ?_ pcs.length zF S 0 (by omega) (by rw [zF_eq]; omega) (fr_refl _ _) ha
        intro S2 f2 h2
        rw [F_Mo_unclearOf_115, e1]
        exact ih F S2 (i + 1) (by omega) (by omega) (fr_trans hf f2) (fun k hk => by
          by_cases q3 : k = i
          · subst q3; exact q
          · exact hne k (by omega)) h2
theorem un_2 (hm0 : sMo S0 M) {K : Nat → zM → Option (Int32 × zM)} (Q : Option (Int32 × zM) → Prop) (HK : ∀ S', zfr (wDj M) S0 S' → pDD S' M (fun _ => zFar) → pDn S' M (fun _ => false) → Q (K M S')) : ∀ d F (S : zM) k, d + k = 80 → d < F → zfr (wDj M) S0 S → (∀ j, j < k → zI S (M + 15) j = nI zFar ∧ zI S (M + 16) j = 0) → Q (L_Mo_unclearOf_2 K F M (nI k) S) := by
  intro d
  induction d with
  | zero =>
    intro F S k hd hF hf ha
    cases F with
    | zero => omega
    | succ F =>
      have ek : k = 80 := by omega
      subst ek
      have hx : ¬ nI 80 < (80 : Int32) := by decide
      have : L_Mo_unclearOf_2 K (F + 1) M (nI 80) S = K M S := by simp [L_Mo_unclearOf_2, hx]
      rw [this]
      exact HK S hf ⟨fun j hj => (ha j hj).1, fun _ => Nat.le_refl _⟩ (fun j hj => by rw [(ha j hj).2]; rfl)
  | succ d ih =>
    intro F S k hd hF hf ha
    cases F with
    | zero => omega
    | succ F =>
      have hm := mo_fr hm0 hf
      have hx : nI k < (80 : Int32) := (nI_ltI (b := 80) (by omega) (by omega)).2 (by omega)
      have e1 : nI k + 1 = nI (k + 1) := nI_add k 1
      have z : zinb (nI k) 80 = true := (nn_in (by omega)).2 (by omega)
      have c : (nI k).toNatClampNeg = k := nI_clamp (by omega)
      have st : L_Mo_unclearOf_2 K (F + 1) M (nI k) S = L_Mo_unclearOf_2 K F M (nI (k + 1)) (zwI (zwI S (M + 15) k 1000000) (M + 16) k 0) := by
        rw [L_Mo_unclearOf_2]
        simp (disch := omega) [-Prod.exists, -Prod.forall, ↓bb_gf, ↓bb_gr, ↓bb_len, ↓bb_ga, ↓bb_gl, ↓bb_go, ↓bb_pf, ↓bb_pz, ↓bb_pr, ↓bb_pa, ↓bb_pb, ↓bb_pl, ↓bb_po, ↓bb_cl, ↓bb_some, ↓bb_RI, ↓bb_RJ, mm_hI, mm_hJ, mm_hR, mm_nI, mm_nJ, mm_nR, mm_sI, mm_sJ, mm_sR, mm_RI, mm_RJ, mm_IJ, mm_IR, mm_JI, mm_JR, mm_II, mm_JJ, mm_RR, hx, hm.1, ↓bS (mo_soFar hm), mh_soFar hm, ↓bS (mo_isDone hm), mh_isDone hm, z, c, e1]
      rw [st]
      refine ih F _ (k + 1) (by omega) (by omega) (fr_trans hf (fr_trans (fr_wI _ _ (Or.inl rfl)) (fr_wI _ _ (Or.inr rfl)))) (fun j hj => ?_)
      by_cases q : j = k
      · subst q; simp [-Prod.exists, -Prod.forall, zgf, zgr, zpf, zpz, zpr, zga, zgl, zgo, zpa, zpb, zpl, zpo, mm_len, zcl, Option.bind_some, Option.bind_none, mm_hI, mm_hJ, mm_hR, mm_nI, mm_nJ, mm_nR, mm_sI, mm_sJ, mm_sR, mm_RI, mm_RJ, mm_IJ, mm_IR, mm_JI, mm_JR, mm_II, mm_JJ, mm_RR]; rfl
      · rw [← (ha j (by omega)).1, ← (ha j (by omega)).2]
        have := (ha j (by omega)).2
        simp [-Prod.exists, -Prod.forall, zgf, zgr, zpf, zpz, zpr, zga, zgl, zgo, zpa, zpb, zpl, zpo, mm_len, zcl, Option.bind_some, Option.bind_none, mm_hI, mm_hJ, mm_hR, mm_nI, mm_nJ, mm_nR, mm_sI, mm_sJ, mm_sR, mm_RI, mm_RJ, mm_IJ, mm_IR, mm_JI, mm_JR, mm_II, mm_JJ, mm_RR, q, this]
theorem m_unclear (hm : sMo S0 M) (hw : wPc pcs) (hc : mPcs S0 M pcs) : ∃ S', f_Mo_unclearOf M S0 = some (zoI (zun pcs) (-2), S') ∧ zfr (wDj M) S0 S' := by
  have zf : zFar = 1000000 := rfl
  have h16 := hw.1
  unfold f_Mo_unclearOf
  refine un_2 hm (fun o => ∃ S', o = some (zoI (zun pcs) (-2), S') ∧ zfr (wDj M) S0 S') ?_ 80 zF S0 0 (by omega) (by rw [zF_eq]; omega) (fr_refl _ _) (fun j hj => by omega)
  intro S1 f1 hD1 hn1
  have hm1 := mo_fr hm f1
  have hc1 := mPcs_fr hc f1 (by unfold wDj; omega) (fun b j a c => by unfold wDj; omega)
  unfold F_Mo_unclearOf_30
  refine un_32 hm1 hw hc1 (fun o => ∃ S', o = some (zoI (zun pcs) (-2), S') ∧ zfr (wDj M) S0 S') ?_ ?_ pcs.length zF S1 0 (by omega) (by rw [zF_eq]; omega) (fr_refl _ _) (fun k hk => by omega) hD1
  · intro S' f3 he
    refine ⟨S', ?_, fr_trans f1 (fr_mono f3 (fun b j h => Or.inl h))⟩
    rw [← uncl_zun (Or.inl ⟨he, rfl⟩)]; rfl
  · intro S2 f2 hne hD2
    have hg : wG pcs := ⟨h16, fun k hk => ⟨List.length_pos_iff.2 (hne k hk), (hw.2 k hk).1⟩⟩
    have hm2 := mo_fr hm1 f2
    have hc2 := mPcs_fr hc1 f2 (by omega) (fun b j a c => by omega)
    have hn2 : pDn S2 M (fun _ => false) := fun k hk => by rw [fr_I f2 (by omega)]; exact hn1 k hk
    obtain ⟨o, o1, o2⟩ := m_nearest hm2 hD2 hn2
    obtain ⟨d1, d2⟩ := ds_ok hg pcs.length (Nat.le_refl _)
    have hJ : dJ pcs (zds pcs pcs.length) (fun _ => false) 0 := ⟨d1, fun k hk h => (by cases h), fun k hk h => Nat.zero_le _, fun k hk h => (by cases h), d2⟩
    have h0 : fb_ct (fun _ => false) 80 = 0 := fb_ct_zero.2 (fun k hk => rfl)
    obtain ⟨S', s1, s2⟩ := un_126 hg hm2 hw hc2 80 zF S2 _ _ 0 o (by omega) (by rw [zF_eq]; omega) (fr_refl _ _) hD2 hn2 hJ o2
    refine ⟨S', ?_, fr_trans f1 (fr_trans (fr_mono f2 (fun b j h => Or.inl h)) s2)⟩
    rw [← s1]
    simp (disch := omega) [F_Mo_unclearOf_121, -Prod.exists, -Prod.forall, ↓bb_gf, ↓bb_gr, ↓bb_len, ↓bb_ga, ↓bb_gl, ↓bb_go, ↓bb_pf, ↓bb_pz, ↓bb_pr, ↓bb_pa, ↓bb_pb, ↓bb_pl, ↓bb_po, ↓bb_cl, ↓bb_some, ↓bb_RI, ↓bb_RJ, mm_hI, mm_hJ, mm_hR, mm_nI, mm_nJ, mm_nR, mm_sI, mm_sJ, mm_sR, mm_RI, mm_RJ, mm_IJ, mm_IR, mm_JI, mm_JR, mm_II, mm_JJ, mm_RR, hm2.1, ↓bS o1]
end
