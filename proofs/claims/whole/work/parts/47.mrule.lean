/-! the reference's reader: letters of a rule, a rule's line -/
def wRlM (M b lo la n : Nat) : Nat → Nat → Prop := fun c j => wMr M c j ∨ (c = M + 10 ∧ (j = b + lo ∨ (b + la ≤ j ∧ j < b + la + n)))
section
variable {S : zM} {M : Nat} {tx : List Nat} {t : zTk} {st : zRt}
theorem m_let_l {S0 : zM} {b la : Nat} (hp : pMr S0 M tx t) (hz : ∀ j, t.1 ≤ j → j < t.2.1 → 97 ≤ lg tx j ∧ lg tx j ≤ 104) (hb : b + la + (t.2.1 - t.1) ≤ 264) : ∀ d F k (S : zM), d + k = t.2.1 → d < F → t.1 ≤ k → zfr (fun c j => c = M + 10 ∧ b + la ≤ j ∧ j < b + la + (t.2.1 - t.1)) S0 S → (∀ j, j < k - t.1 → zI S (M + 10) (b + la + j) = nI (lg (zlow (zsl tx t)) j)) → ∃ S', L_Mo_readLetters_38 F M (nI b) (nI la) (nI k) S = some (1, S') ∧ zfr (fun c j => wMr M c j ∨ (c = M + 10 ∧ b + la ≤ j ∧ j < b + la + (t.2.1 - t.1))) S0 S' ∧ pMr S' M tx (znext tx t.2.1) ∧ ∀ j, j < t.2.1 - t.1 → zI S' (M + 10) (b + la + j) = nI (lg (zlow (zsl tx t)) j) := by
  have t900 := hp.1.2.2.2.1
  have ht1 := hp.2.2.2.2.1.1
  have ht2 := hp.2.2.2.2.1.2.1
  have sll := sl_len hp.2.2.2.2.1
  intro d
  induction d with
  | zero =>
    intro F k S hdk hF hk hf hv
    cases F with
    | zero => omega
    | succ F =>
      have p1 : pMr S M tx t := pMr_fr hp hf (by omega) (fun j => by omega)
      obtain ⟨S1, e1, f1, p2⟩ := m_next p1
      have ek : k = t.2.1 := by omega
      subst ek
      refine ⟨S1, ?_, fr_trans (fr_mono hf (fun b j hb => Or.inr hb)) (fr_mono f1 (fun b j hb => Or.inl hb)), p2, fun j hj => by rw [fr_I f1 (by unfold wMr; omega)]; exact hv j hj⟩
      simp (disch := omega) [L_Mo_readLetters_38, -Prod.exists, -Prod.forall, ↓bb_gf, ↓bb_gr, ↓bb_len, ↓bb_ga, ↓bb_gl, ↓bb_go, ↓bb_pf, ↓bb_pz, ↓bb_pr, ↓bb_pa, ↓bb_pb, ↓bb_pl, ↓bb_po, ↓bb_cl, ↓bb_some, ↓bb_RI, ↓bb_RJ, mm_hI, mm_hJ, mm_hR, mm_nI, mm_nJ, mm_nR, mm_sI, mm_sJ, mm_sR, mm_RI, mm_RJ, mm_IJ, mm_IR, mm_JI, mm_JR, mm_II, mm_JJ, mm_RR, nI_ltI, p1.1.1.1, p1.2.1, ↓bS e1]
  | succ d ih =>
    intro F k S hdk hF hk hf hv
    cases F with
    | zero => omega
    | succ F =>
      have p1 : pMr S M tx t := pMr_fr hp hf (by omega) (fun j => by omega)
      have hm := p1.1.1
      have hk2 : k < t.2.1 := by omega
      have et := p1.1.2.1 k (by omega)
      have cz := hz k hk hk2
      have esub : nI (lg tx k) - 97 = nI (lg tx k - 97) := pk_sub (a := lg tx k) (b := 97) (by omega)
      have eix : nI b + nI la + nI k - nI t.1 = nI (b + la + (k - t.1)) := by rw [nI_add, nI_add, pk_sub (by omega)]; congr 1; omega
      have ev : lg (zlow (zsl tx t)) (k - t.1) = lg tx k - 97 := by
        rw [low_lg (by omega), sl_lg (by omega), show t.1 + (k - t.1) = k by omega]
      have zin : zinb (nI k) 900 = true := (nn_in (by omega)).2 (by omega)
      have ncl : (nI k).toNatClampNeg = k := nI_clamp (by omega)
      have zin2 : zinb (nI (b + la + (k - t.1))) 264 = true := (nn_in (by omega)).2 (by omega)
      have ncl2 : (nI (b + la + (k - t.1))).toNatClampNeg = b + la + (k - t.1) := nI_clamp (by omega)
      obtain ⟨S', g1, g2⟩ := ih F (k + 1) (zwI S (M + 10) (b + la + (k - t.1)) (nI (lg tx k - 97))) (by omega) (by omega) (by omega) (fr_trans hf (fr_wI _ _ (by omega))) (fun j hj => by
        by_cases e : j = k - t.1
        · subst e; rw [mm_II, if_pos ⟨rfl, rfl⟩, ev]
        · rw [mm_II, if_neg (by omega)]; exact hv j (by omega))
      refine ⟨S', ?_, g2⟩
      rw [← g1]
      simp (disch := omega) [L_Mo_readLetters_38, -Prod.exists, -Prod.forall, ↓bb_gf, ↓bb_gr, ↓bb_len, ↓bb_ga, ↓bb_gl, ↓bb_go, ↓bb_pf, ↓bb_pz, ↓bb_pr, ↓bb_pa, ↓bb_pb, ↓bb_pl, ↓bb_po, ↓bb_cl, ↓bb_some, ↓bb_RI, ↓bb_RJ, mm_hI, mm_hJ, mm_hR, mm_nI, mm_nJ, mm_nR, mm_sI, mm_sJ, mm_sR, mm_RI, mm_RJ, mm_IJ, mm_IR, mm_JI, mm_JR, mm_II, mm_JJ, mm_RR, nI_ltI, nI_1, hm.1, p1.2.1, hk2, ↓bS (mo_newRules hm), ↓bS (mo_tape hm), mh_tape hm, mh_newRules hm, p1.2.2.1, zin, ncl, et, eix, zin2, ncl2, esub]
theorem m_let {b lo la most : Nat} (hp : pMr S M tx t) (hb : b + la + most ≤ 264) (hbl : b + lo < 264) (hlo : b + lo < b + la) (hm2 : most < 100) (hl : zlets tx t most = true) : ∃ S', f_Mo_readLetters M (nI b) (nI lo) (nI la) (nI most) S = some (1, S') ∧ zfr (wRlM M b lo la (t.2.1 - t.1)) S S' ∧ pMr S' M tx (znext tx t.2.1) ∧ zI S' (M + 10) (b + lo) = nI (zlow (zsl tx t)).length ∧ ∀ j, j < (zlow (zsl tx t)).length → zI S' (M + 10) (b + la + j) = nI (lg (zlow (zsl tx t)) j) := by
  have ar := m_are hp hm2
  rw [hl] at ar
  simp only [if_true] at ar
  obtain ⟨l1, l2, l3⟩ := lets_is hl
  have t900 := hp.1.2.2.2.1
  have ht1 := hp.2.2.2.2.1.1
  have ht2 := hp.2.2.2.2.1.2.1
  have sll := sl_len hp.2.2.2.2.1
  have hm := hp.1.1
  have esub : nI t.2.1 - nI t.1 = nI (t.2.1 - t.1) := pk_sub ht1
  have fw : zfr (fun c j => c = M + 10 ∧ j = b + lo) S (zwI S (M + 10) (b + lo) (nI (t.2.1 - t.1))) := fr_wI _ _ ⟨rfl, rfl⟩
  have p1 : pMr (zwI S (M + 10) (b + lo) (nI (t.2.1 - t.1))) M tx t := pMr_fr hp fw (by omega) (fun j => by omega)
  obtain ⟨S', g1, g2, g3, g4⟩ := m_let_l (b := b) (la := la) p1 (lets_z hp.2.2.2.2.1 hl) (by omega) (t.2.1 - t.1) zF t.1 _ (by omega) (by rw [zF_eq]; omega) (by omega) (fr_refl _ _) (fun j hj => by omega)
  refine ⟨S', ?_, fr_trans (fr_mono fw (fun c j hb => Or.inr (by omega))) (fr_mono g2 (fun c j hb => hb.elim Or.inl (fun z => Or.inr (by omega)))), g3, ?_, fun j hj => g4 j (by rw [low_len, sll] at hj; exact hj)⟩
  · have zin2 : zinb (nI (b + lo)) 264 = true := (nn_in (by omega)).2 (by omega)
    have ncl2 : (nI (b + lo)).toNatClampNeg = b + lo := nI_clamp (by omega)
    rw [← g1]
    simp (disch := omega) [f_Mo_readLetters, -Prod.exists, -Prod.forall, ↓bb_gf, ↓bb_gr, ↓bb_len, ↓bb_ga, ↓bb_gl, ↓bb_go, ↓bb_pf, ↓bb_pz, ↓bb_pr, ↓bb_pa, ↓bb_pb, ↓bb_pl, ↓bb_po, ↓bb_cl, ↓bb_some, ↓bb_RI, ↓bb_RJ, mm_hI, mm_hJ, mm_hR, mm_nI, mm_nJ, mm_nR, mm_sI, mm_sJ, mm_sR, mm_RI, mm_RJ, mm_IJ, mm_IR, mm_JI, mm_JR, mm_II, mm_JJ, mm_RR, hm.1, ↓bS ar, ↓bS (mo_newRules hm), mh_newRules hm, hp.2.1, hp.2.2.1, esub, nI_add, zin2, ncl2]
  · rw [fr_I g2 (by unfold wMr; omega), mm_II, if_pos ⟨rfl, rfl⟩, low_len, sll]
theorem m_letF {b lo la most : Nat} (hp : pMr S M tx t) (hm2 : most < 100) (hl : zlets tx t most = false) : ∃ S', f_Mo_readLetters M (nI b) (nI lo) (nI la) (nI most) S = some (0, S') ∧ zfr (fun b j => b = M ∧ (j = 27 ∨ j = 28)) S S' ∧ zI S' M 27 = nI 1 ∧ zI S' M 28 = nI t.1 := by
  have ar := m_are hp hm2
  rw [hl] at ar
  simp only [Bool.false_eq_true, if_false] at ar
  obtain ⟨S3, e3, f3, x1, x2⟩ := m_errs hp 1
  have e3' : f_Mo_errs M 1 S = some (0, S3) := e3
  refine ⟨S3, ?_, f3, x1, x2⟩
  simp (disch := omega) [f_Mo_readLetters, -Prod.exists, -Prod.forall, ↓bb_gf, ↓bb_gr, ↓bb_len, ↓bb_ga, ↓bb_gl, ↓bb_go, ↓bb_pf, ↓bb_pz, ↓bb_pr, ↓bb_pa, ↓bb_pb, ↓bb_pl, ↓bb_po, ↓bb_cl, ↓bb_some, ↓bb_RI, ↓bb_RJ, mm_hI, mm_hJ, mm_hR, mm_nI, mm_nJ, mm_nR, mm_sI, mm_sJ, mm_sR, mm_RI, mm_RJ, mm_IJ, mm_IR, mm_JI, mm_JR, mm_II, mm_JJ, mm_RR, hp.1.1.1, ↓bS ar, ↓bS e3']
end
