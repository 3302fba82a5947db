/-! the reference's reader: a rule -/
noncomputable def y_inc (a0 : Nat) (x1 : Int32) (S : zM) : Option (Int32 × zM) :=
  Option.bind (zgr S 12 a0 19) (fun q18 =>
  Option.bind (zga S 100 q18 (x1 - (1 : Int32))) (fun x19 =>
  Option.bind (zpa S q18 (x1 - (1 : Int32)) (x19 + (1 : Int32))) (fun S20 =>
  if (1 : Int32) = 0 ∨ (1 : Int32) = 1 then some ((1 : Int32), S20) else none)))
noncomputable def y_tail (a0 : Nat) (x1 x7 : Int32) (S : zM) : Option (Int32 × zM) :=
  Option.bind (zcl S 12 a0 (f_Mo_needs a0 (1000000 + 9) S)) (fun p15 =>
  if p15.1 = (0 : Int32) then
    if (0 : Int32) = 0 ∨ (0 : Int32) = 1 then some ((0 : Int32), p15.2) else none
  else
    Option.bind (zcl p15.2 12 a0 (f_Mo_isWord a0 (1000000 + 10) p15.2)) (fun p16 =>
    if p16.1 = (0 : Int32) then
      Option.bind (zcl p16.2 12 a0 (f_Mo_readLetters a0 ((11 : Int32) * (((8 : Int32) * (x1 - (1 : Int32))) + x7)) (1 : Int32) (7 : Int32) (4 : Int32) p16.2)) (fun p17 =>
      if p17.1 = (0 : Int32) then
        if (0 : Int32) = 0 ∨ (0 : Int32) = 1 then some ((0 : Int32), p17.2) else none
      else y_inc a0 x1 p17.2)
    else
      Option.bind (zgr p16.2 12 a0 21) (fun q21 =>
      Option.bind (zpa p16.2 q21 (((11 : Int32) * (((8 : Int32) * (x1 - (1 : Int32))) + x7)) + (1 : Int32)) (0 : Int32)) (fun S22 =>
      Option.bind (zcl S22 12 a0 (f_Mo_goesOn a0 S22)) (fun p23 => y_inc a0 x1 p23)))))
noncomputable def y_mid (a0 : Nat) (x1 x7 : Int32) (S : zM) : Option (Int32 × zM) :=
  Option.bind (zcl S 12 a0 (f_Mo_readLetters a0 ((11 : Int32) * (((8 : Int32) * (x1 - (1 : Int32))) + x7)) (0 : Int32) (4 : Int32) (3 : Int32) S)) (fun p13 =>
  if p13.1 = (0 : Int32) then
    if (0 : Int32) = 0 ∨ (0 : Int32) = 1 then some ((0 : Int32), p13.2) else none
  else
    Option.bind (zcl p13.2 12 a0 (f_Mo_isWord a0 (1000000 + 8) p13.2)) (fun p14 =>
    if p14.1 = (0 : Int32) then y_tail a0 x1 x7 p14.2
    else
      Option.bind (zcl p14.2 12 a0 (f_Mo_goesOn a0 p14.2)) (fun p27 =>
      Option.bind (zcl p27 12 a0 (f_Mo_readSide a0 p27)) (fun p28 =>
      if p28.1 = (0 : Int32) then
        if (0 : Int32) = 0 ∨ (0 : Int32) = 1 then some ((0 : Int32), p28.2) else none
      else
        Option.bind (zgr p28.2 12 a0 21) (fun q29 =>
        Option.bind (zgf p28.2 12 a0 29) (fun x30 =>
        Option.bind (zpa p28.2 q29 (((11 : Int32) * (((8 : Int32) * (x1 - (1 : Int32))) + x7)) + (3 : Int32)) x30) (fun S31 => y_tail a0 x1 x7 S31)))))))
noncomputable def y_top (a0 : Nat) (x1 : Int32) (S : zM) : Option (Int32 × zM) :=
  Option.bind (zcl S 12 a0 (f_Mo_goesOn a0 S)) (fun p5 =>
  Option.bind (zgr p5 12 a0 19) (fun q6 =>
  Option.bind (zga p5 100 q6 (x1 - (1 : Int32))) (fun x7 =>
  Option.bind (zgr p5 12 a0 21) (fun q8 =>
  Option.bind (zpa p5 q8 (((11 : Int32) * (((8 : Int32) * (x1 - (1 : Int32))) + x7)) + (2 : Int32)) (511 : Int32)) (fun S9 =>
  Option.bind (zgr S9 12 a0 21) (fun q10 =>
  Option.bind (zpa S9 q10 (((11 : Int32) * (((8 : Int32) * (x1 - (1 : Int32))) + x7)) + (3 : Int32)) (511 : Int32)) (fun S11 =>
  Option.bind (zcl S11 12 a0 (f_Mo_isWord a0 (1000000 + 7) S11)) (fun p12 =>
  if p12.1 = (0 : Int32) then y_mid a0 x1 x7 p12.2
  else
    Option.bind (zcl p12.2 12 a0 (f_Mo_goesOn a0 p12.2)) (fun p125 =>
    Option.bind (zcl p125 12 a0 (f_Mo_readSide a0 p125)) (fun p126 =>
    if p126.1 = (0 : Int32) then
      if (0 : Int32) = 0 ∨ (0 : Int32) = 1 then some ((0 : Int32), p126.2) else none
    else
      Option.bind (zgr p126.2 12 a0 21) (fun q127 =>
      Option.bind (zgf p126.2 12 a0 29) (fun x128 =>
      Option.bind (zpa p126.2 q127 (((11 : Int32) * (((8 : Int32) * (x1 - (1 : Int32))) + x7)) + (2 : Int32)) x128) (fun S129 => y_mid a0 x1 x7 S129)))))))))))))
theorem readRule_eq (a0 : Nat) (S : zM) : f_Mo_readRule a0 S = Option.bind (zgf S 12 a0 16) (fun x1 =>
  if (x1 - (1 : Int32)) < (0 : Int32) then
    Option.bind (zcl S 12 a0 (f_Mo_hasScript a0 S)) (fun p2 =>
    if p2.1 = (0 : Int32) then
      Option.bind (zcl p2.2 12 a0 (f_Mo_errs a0 (6 : Int32) p2.2)) (fun p3 =>
      if p3.1 = 0 ∨ p3.1 = 1 then some (p3.1, p3.2) else none)
    else
      if (x1 - (1 : Int32)) < (0 : Int32) then
        Option.bind (zcl p2.2 12 a0 (f_Mo_errs a0 (6 : Int32) p2.2)) (fun p4 =>
        if p4.1 = 0 ∨ p4.1 = 1 then some (p4.1, p4.2) else none)
      else y_top a0 x1 p2.2)
  else
    Option.bind (zgr S 12 a0 19) (fun q80 =>
    Option.bind (zga S 100 q80 (x1 - (1 : Int32))) (fun x81 =>
    if x81 = (8 : Int32) then
      Option.bind (zcl S 12 a0 (f_Mo_errs a0 (5 : Int32) S)) (fun p82 =>
      if p82.1 = 0 ∨ p82.1 = 1 then some (p82.1, p82.2) else none)
    else
      Option.bind (zcl S 12 a0 (f_Mo_hasScript a0 S)) (fun p83 =>
      if p83.1 = (0 : Int32) then
        Option.bind (zcl p83.2 12 a0 (f_Mo_errs a0 (6 : Int32) p83.2)) (fun p84 =>
        if p84.1 = 0 ∨ p84.1 = 1 then some (p84.1, p84.2) else none)
      else
        if (x1 - (1 : Int32)) < (0 : Int32) then
          Option.bind (zcl p83.2 12 a0 (f_Mo_errs a0 (6 : Int32) p83.2)) (fun p85 =>
          if p85.1 = 0 ∨ p85.1 = 1 then some (p85.1, p85.2) else none)
        else y_top a0 x1 p83.2)))) := rfl
/-- what a rule's reading changes: the reader, the rule's row, its count -/
def wRuM (M b p : Nat) : Nat → Nat → Prop := fun c j => (c = M ∧ 23 ≤ j ∧ j ≤ 29) ∨ (c = M + 10 ∧ b ≤ j ∧ j < b + 11) ∨ (c = M + 8 ∧ j = p)
section
variable {S : zM} {M : Nat} {tx : List Nat} {t : zTk} {st : zRt} {p m b : Nat}
theorem row_eq {p m b : Nat} (hb : b = aRu p m) : (11 : Int32) * ((8 : Int32) * (nI (p + 1) - 1) + nI m) = nI b := by
  rw [nI_pred, show (8 : Int32) = nI 8 from rfl, show (11 : Int32) = nI 11 from rfl, pk_mul, nI_add, pk_mul, hb]; rfl
theorem y_inc_ok (hm : sMo S M) (hp3 : p < 3) (h8 : zI S (M + 8) p = nI m) : y_inc M (nI (p + 1)) S = some (1, zwI S (M + 8) p (nI (m + 1))) := by
  have zin : zinb (nI p) 3 = true := (nn_in (by omega)).2 (by omega)
  have ncl : (nI p).toNatClampNeg = p := nI_clamp (by omega)
  simp [y_inc, -Prod.exists, -Prod.forall, ↓bb_gf, ↓bb_gr, ↓bb_len, ↓bb_ga, ↓bb_gl, ↓bb_go, ↓bb_pf, ↓bb_pz, ↓bb_pr, ↓bb_pa, ↓bb_pb, ↓bb_pl, ↓bb_po, ↓bb_cl, ↓bb_some, ↓bb_RI, ↓bb_RJ, mm_hI, mm_hJ, mm_hR, mm_nI, mm_nJ, mm_nR, mm_sI, mm_sJ, mm_sR, mm_RI, mm_RJ, mm_IJ, mm_IR, mm_JI, mm_JR, mm_II, mm_JJ, mm_RR, hm.1, ↓bS (mo_newRuleMany hm), mh_newRuleMany hm, nI_pred, zin, ncl, h8, nI_1]
/-- the end of a rule -/
theorem y_tail_ok (hp3 : p < 3) (hm8 : m < 8) (hb : b = aRu p m) (h : pMr S M tx t) (h8 : zI S (M + 8) p = nI m) : ((zoutc tx t).1 = 0 → ∃ S', y_tail M (nI (p + 1)) (nI m) S = some (1, S') ∧ zfr (fun c j => wMr M c j ∨ (c = M + 10 ∧ (j = b + 1 ∨ (b + 7 ≤ j ∧ j < b + 11))) ∨ (c = M + 8 ∧ j = p)) S S' ∧ pMr S' M tx (zoutc tx t).2.2 ∧ zI S' (M + 8) p = nI (m + 1) ∧ zI S' (M + 10) (b + 1) = nI (zoutc tx t).2.1.length ∧ ∀ k, k < (zoutc tx t).2.1.length → zI S' (M + 10) (b + 7 + k) = nI (lg (zoutc tx t).2.1 k)) ∧ ((zoutc tx t).1 ≠ 0 → ∃ S', y_tail M (nI (p + 1)) (nI m) S = some (0, S') ∧ zfr (fun c j => c = M ∧ 23 ≤ j ∧ j ≤ 28) S S' ∧ zI S' M 27 = nI (zoutc tx t).1 ∧ zI S' M 28 = nI (zoutc tx t).2.2.1) := by
  have hh := h.1.1.1
  have hrow := row_eq hb
  have hbb : b = 11 * (8 * p + m) := hb
  obtain ⟨n1, n2⟩ := m_needs h (show 9 < 13 by omega)
  cases c1 : zisw tx t 9 with
  | false =>
    have ez : zoutc tx t = (1, [], t) := by simp [zoutc, c1]
    rw [ez]
    obtain ⟨S1, e1, f1, x1, x2⟩ := n2 c1
    refine ⟨fun q => by simp at q, fun _ => ⟨S1, ?_, fr_mono f1 (fun c j hb => by omega), x1, x2⟩⟩
    simp [y_tail, -Prod.exists, -Prod.forall, ↓bb_gf, ↓bb_gr, ↓bb_len, ↓bb_ga, ↓bb_gl, ↓bb_go, ↓bb_pf, ↓bb_pz, ↓bb_pr, ↓bb_pa, ↓bb_pb, ↓bb_pl, ↓bb_po, ↓bb_cl, ↓bb_some, ↓bb_RI, ↓bb_RJ, mm_hI, mm_hJ, mm_hR, mm_nI, mm_nJ, mm_nR, mm_sI, mm_sJ, mm_sR, mm_RI, mm_RJ, mm_IJ, mm_IR, mm_JI, mm_JR, mm_II, mm_JJ, mm_RR, hh, ↓bS e1]
  | true =>
    obtain ⟨S1, e1, f1, p1⟩ := n1 c1
    obtain ⟨t1, ht1⟩ : ∃ t1, t1 = znext tx t.2.1 := ⟨_, rfl⟩
    rw [← ht1] at p1
    have hm1 := p1.1.1
    have hh1 := hm1.1
    have is := m_is p1 (show 10 < 13 by omega)
    cases c2 : zisw tx t1 10 with
    | true =>
      rw [c2] at is
      simp only [if_true] at is
      have ez : zoutc tx t = (0, [], znext tx t1.2.1) := by simp only [zoutc, c1, ← ht1, c2, if_true]
      rw [ez]
      have fw : zfr (fun c j => c = M + 10 ∧ j = b + 1) S1 (zwI S1 (M + 10) (b + 1) 0) := fr_wI _ _ ⟨rfl, rfl⟩
      have p2 : pMr (zwI S1 (M + 10) (b + 1) 0) M tx t1 := pMr_fr p1 fw (by omega) (fun j => by omega)
      obtain ⟨S3, e3, f3, p3⟩ := m_next p2
      have hm3 := p3.1.1
      have i8 : zI S3 (M + 8) p = nI m := by
        rw [fr_I f3 (by unfold wMr; omega), fr_I fw (by omega), fr_I f1 (by unfold wMr; omega)]; exact h8
      have yi := y_inc_ok hm3 hp3 i8
      have fi : zfr (fun c j => c = M + 8 ∧ j = p) S3 (zwI S3 (M + 8) p (nI (m + 1))) := fr_wI _ _ ⟨rfl, rfl⟩
      refine ⟨fun _ => ⟨_, ?_, fr_trans (fr_mono f1 (fun c j hb => Or.inl hb)) (fr_trans (fr_mono fw (fun c j hb => Or.inr (Or.inl (by omega)))) (fr_trans (fr_mono f3 (fun c j hb => Or.inl hb)) (fr_mono fi (fun c j hb => Or.inr (Or.inr hb))))), pMr_fr p3 fi (by omega) (fun j => by omega), by simp [mm_II], ?_, fun k hk => by simp at hk⟩, fun q => absurd rfl q⟩
      · have zin2 : zinb (nI (b + 1)) 264 = true := (nn_in (by omega)).2 (by omega)
        have ncl2 : (nI (b + 1)).toNatClampNeg = b + 1 := nI_clamp (by omega)
        simp [y_tail, -Prod.exists, -Prod.forall, ↓bb_gf, ↓bb_gr, ↓bb_len, ↓bb_ga, ↓bb_gl, ↓bb_go, ↓bb_pf, ↓bb_pz, ↓bb_pr, ↓bb_pa, ↓bb_pb, ↓bb_pl, ↓bb_po, ↓bb_cl, ↓bb_some, ↓bb_RI, ↓bb_RJ, mm_hI, mm_hJ, mm_hR, mm_nI, mm_nJ, mm_nR, mm_sI, mm_sJ, mm_sR, mm_RI, mm_RJ, mm_IJ, mm_IR, mm_JI, mm_JR, mm_II, mm_JJ, mm_RR, hh, ↓bS e1, hh1, ↓bS is, ↓bS (mo_newRules hm1), mh_newRules hm1, hrow, nI_1, zin2, ncl2, ↓bS e3]
        exact yi
      · rw [fr_I fi (by omega), fr_I f3 (by unfold wMr; omega), mm_II, if_pos ⟨rfl, rfl⟩]; rfl
    | false =>
      rw [c2] at is
      simp only [Bool.false_eq_true, if_false] at is
      cases c3 : zlets tx t1 4 with
      | true =>
        have ez : zoutc tx t = (0, zlow (zsl tx t1), znext tx t1.2.1) := by simp only [zoutc, c1, ← ht1, c2, c3, if_true, Bool.false_eq_true, if_false]
        rw [ez]
        obtain ⟨S3, e3, f3, p3, v1, v2⟩ := m_let (b := b) (lo := 1) (la := 7) (most := 4) p1 (by omega) (by omega) (by omega) (by omega) c3
        have e3' : f_Mo_readLetters M (nI b) 1 7 4 S1 = some (1, S3) := e3
        have hm3 := p3.1.1
        obtain ⟨l1, l2, l3⟩ := lets_is c3
        have i8 : zI S3 (M + 8) p = nI m := by
          rw [fr_I f3 (by unfold wRlM wMr; omega), fr_I f1 (by unfold wMr; omega)]; exact h8
        have yi := y_inc_ok hm3 hp3 i8
        have fi : zfr (fun c j => c = M + 8 ∧ j = p) S3 (zwI S3 (M + 8) p (nI (m + 1))) := fr_wI _ _ ⟨rfl, rfl⟩
        refine ⟨fun _ => ⟨_, ?_, fr_trans (fr_mono f1 (fun c j hb => Or.inl hb)) (fr_trans (fr_mono f3 (fun c j hb => hb.elim Or.inl (fun z => Or.inr (Or.inl (by omega))))) (fr_mono fi (fun c j hb => Or.inr (Or.inr hb)))), pMr_fr p3 fi (by omega) (fun j => by omega), by simp [mm_II], ?_, fun k hk => ?_⟩, fun q => absurd rfl q⟩
        · simp [y_tail, -Prod.exists, -Prod.forall, ↓bb_gf, ↓bb_gr, ↓bb_len, ↓bb_ga, ↓bb_gl, ↓bb_go, ↓bb_pf, ↓bb_pz, ↓bb_pr, ↓bb_pa, ↓bb_pb, ↓bb_pl, ↓bb_po, ↓bb_cl, ↓bb_some, ↓bb_RI, ↓bb_RJ, mm_hI, mm_hJ, mm_hR, mm_nI, mm_nJ, mm_nR, mm_sI, mm_sJ, mm_sR, mm_RI, mm_RJ, mm_IJ, mm_IR, mm_JI, mm_JR, mm_II, mm_JJ, mm_RR, hh, ↓bS e1, hh1, ↓bS is, hrow, e3']
          exact yi
        · rw [fr_I fi (by omega)]; exact v1
        · rw [fr_I fi (by omega)]; exact v2 k hk
      | false =>
        have ez : zoutc tx t = (1, [], t1) := by simp only [zoutc, c1, ← ht1, c2, c3, if_true, Bool.false_eq_true, if_false]
        rw [ez]
        obtain ⟨S3, e3, f3, x1, x2⟩ := m_letF (b := b) (lo := 1) (la := 7) (most := 4) p1 (by omega) c3
        have e3' : f_Mo_readLetters M (nI b) 1 7 4 S1 = some (0, S3) := e3
        refine ⟨fun q => by simp at q, fun _ => ⟨S3, ?_, fr_trans (fr_mono f1 (fun c j hb => by unfold wMr at hb; omega)) (fr_mono f3 (fun c j hb => by omega)), x1, x2⟩⟩
        simp [y_tail, -Prod.exists, -Prod.forall, ↓bb_gf, ↓bb_gr, ↓bb_len, ↓bb_ga, ↓bb_gl, ↓bb_go, ↓bb_pf, ↓bb_pz, ↓bb_pr, ↓bb_pa, ↓bb_pb, ↓bb_pl, ↓bb_po, ↓bb_cl, ↓bb_some, ↓bb_RI, ↓bb_RJ, mm_hI, mm_hJ, mm_hR, mm_nI, mm_nJ, mm_nR, mm_sI, mm_sJ, mm_sR, mm_RI, mm_RJ, mm_IJ, mm_IR, mm_JI, mm_JR, mm_II, mm_JJ, mm_RR, hh, ↓bS e1, hh1, ↓bS is, hrow, e3']
end
