/-! the class's reader: a rule whole, a line, the text -/
/-- from the match on -/
noncomputable def y_rule2 (a0 q4 : Nat) (S : zM) : Option (Int32 × zM) :=
  Option.bind (zgr S 9 q4 0) (fun q7 =>
  Option.bind (zcl S 7 a0 (f_Reader_lettersInto a0 q7 (3 : Int32) S)) (fun p8 =>
  if p8.1 = (0 : Int32) then
    Option.bind (zcl p8.2 7 a0 (f_Reader_is a0 (1000000 + 8) p8.2)) (fun p9 =>
    if p9.1 = (0 : Int32) then
      Option.bind (zcl p9.2 7 a0 (f_Reader_outcomeFault a0 q4 p9.2)) (fun p10 =>
      some (p10.1, p10.2))
    else
      Option.bind (zcl p9.2 7 a0 (f_Reader_next a0 p9.2)) (fun p11 =>
      Option.bind (zcl p11 7 a0 (f_Reader_sideBits a0 p11)) (fun p12 =>
      Option.bind (zpf p12.2 9 q4 3 p12.1) (fun S13 =>
      Option.bind (zgf S13 9 q4 3) (fun x14 =>
      if x14 < (0 : Int32) then
        Option.bind (zgf S13 9 q4 3) (fun x15 =>
        some ((-x15), S13))
      else
        Option.bind (zcl S13 7 a0 (f_Reader_outcomeFault a0 q4 S13)) (fun p16 =>
        some (p16.1, p16.2)))))))
  else
    some (p8.1, p8.2)))
theorem ruleLine_eq (a0 : Nat) (S : zM) : f_Reader_ruleLine a0 S = (if (zh S a0).1 = 7 then (match zR S a0 4 with
  | some _ => Option.bind (zgr S 7 a0 4) (fun q2 =>
    Option.bind (zcl S 5 q2 (f_Pass_addRule q2 S)) (fun p3 =>
    match p3.1 with
    | some q4 => Option.bind (zcl p3.2 7 a0 (f_Reader_next a0 p3.2)) (fun p5 =>
      Option.bind (zcl p5 7 a0 (f_Reader_is a0 (1000000 + 7) p5)) (fun p6 =>
      if p6.1 = (0 : Int32) then y_rule2 a0 q4 p6.2
      else
        Option.bind (zcl p6.2 7 a0 (f_Reader_next a0 p6.2)) (fun p17 =>
        Option.bind (zcl p17 7 a0 (f_Reader_sideBits a0 p17)) (fun p18 =>
        Option.bind (zpf p18.2 9 q4 2 p18.1) (fun S19 =>
        Option.bind (zgf S19 9 q4 2) (fun x20 =>
        if x20 < (0 : Int32) then
          Option.bind (zgf S19 9 q4 2) (fun x21 =>
          some ((-x21), S19))
        else y_rule2 a0 q4 S19))))))
    | none => some ((5 : Int32), p3.2)))
  | none => some ((6 : Int32), S)) else none) := rfl
section
variable {S : zM} {rd q T : Nat} {tx : List Nat} {t : zTk} {st : zRt}
theorem r_rule2 {r ah : Nat} (hd : dRd rd q T) (hr : (rd < r ∨ r + 5 ≤ rd) ∧ (q < r ∨ r + 5 ≤ q) ∧ T + 4 ≤ r ∧ r + 5 ≤ T + 172) (hp : pRd S rd q tx t) (r3 : zR S rd 3 = some T) (hk : kScr S T st) (hR : pRule S r ([], [], ah, 511)) : ∃ S', y_rule2 rd r S = some (nI (zrule2 tx t st).1, S') ∧ zfr (wRl rd r) S S' ∧ pRd S' rd q tx (zrule2 tx t st).2.1 ∧ (∃ ru, pRule S' r ru) ∧ ((zrule2 tx t st).1 = 0 → pRule S' r ((zrule2 tx t st).2.2.1, (zrule2 tx t st).2.2.2.1, ah, (zrule2 tx t st).2.2.2.2)) := by
  have hh := hp.1.1
  obtain ⟨z1, z2, z3, z4, z5, z6, z7⟩ := hR
  have dd := hd
  unfold dRd at dd
  cases c1 : zlets tx t 3 with
  | false =>
    have ez : zrule2 tx t st = (1, t, [], [], 0) := by simp [zrule2, c1]
    rw [ez]
    have e2 : f_Reader_lettersInto rd (r + 1) 3 S = some (1, S) := r_intoF (most := 3) hp (by omega) c1
    refine ⟨S, ?_, fr_refl _ _, hp, ⟨_, z1, z2, z3, z4, z5, z6, z7⟩, fun q => by simp at q⟩
    simp (disch := omega) [y_rule2, -Prod.exists, -Prod.forall, ↓bb_gf, ↓bb_gr, ↓bb_len, ↓bb_ga, ↓bb_gl, ↓bb_go, ↓bb_pf, ↓bb_pz, ↓bb_pr, ↓bb_pa, ↓bb_pb, ↓bb_pl, ↓bb_po, ↓bb_cl, ↓bb_some, ↓bb_RI, ↓bb_RJ, mm_hI, mm_hJ, mm_hR, mm_nI, mm_nJ, mm_nR, mm_sI, mm_sJ, mm_sR, mm_RI, mm_RJ, mm_IJ, mm_IR, mm_JI, mm_JR, mm_II, mm_JJ, mm_RR, z1, ↓bS z2, hh, ↓bS e2]; rfl
  | true =>
    obtain ⟨S1, e1, f1, p1, m1⟩ := r_into hd (by omega) hp z4 (Nat.le_refl 3) (by omega) c1
    have e1' : f_Reader_lettersInto rd (r + 1) 3 S = some (0, S1) := e1
    obtain ⟨t1, ht1⟩ : ∃ t1, t1 = znext tx t.2.1 := ⟨_, rfl⟩
    rw [← ht1] at p1
    have f1' : zfr (wRl rd r) S S1 := fr_mono f1 (fun b j hb => hb.elim (fun z => Or.inl z) (fun z => Or.inr (by omega)))
    have g1 : ∀ j, zI S1 r j = zI S r j := fun j => fr_I f1 (by unfold wLi wRdr; omega)
    have hR1 : pRule S1 r (zlow (zsl tx t), [], ah, 511) := ⟨by rw [fr_h f1]; exact z1, by rw [fr_R f1]; exact z2, by rw [fr_R f1]; exact z3, m1, row_fr z5 f1 (fun j => by unfold wLi wRdr; omega) (fun j => by unfold wLi wRdr; omega), by rw [g1]; exact z6, by rw [g1]; exact z7⟩
    have hh1 : zh S1 rd = (7, 0) := p1.1.1
    have is1 := rd_is p1 (show 8 < 13 by omega)
    cases c2 : zisw tx t1 8 with
    | false =>
      rw [c2] at is1
      simp only [Bool.false_eq_true, if_false] at is1
      have ez : zrule2 tx t st = ((zoutc tx t1).1, (zoutc tx t1).2.2, zlow (zsl tx t), (zoutc tx t1).2.1, 511) := by
        simp only [zrule2, c1, ← ht1, c2, if_true, Bool.false_eq_true, if_false]
      rw [ez]
      obtain ⟨S2, e2, f2, p2, u2⟩ := r_outc hd ⟨hr.1, hr.2.1⟩ p1 hR1
      refine ⟨S2, ?_, fr_trans f1' f2, p2, ⟨_, u2⟩, fun _ => u2⟩
      simp (disch := omega) [y_rule2, -Prod.exists, -Prod.forall, ↓bb_gf, ↓bb_gr, ↓bb_len, ↓bb_ga, ↓bb_gl, ↓bb_go, ↓bb_pf, ↓bb_pz, ↓bb_pr, ↓bb_pa, ↓bb_pb, ↓bb_pl, ↓bb_po, ↓bb_cl, ↓bb_some, ↓bb_RI, ↓bb_RJ, mm_hI, mm_hJ, mm_hR, mm_nI, mm_nJ, mm_nR, mm_sI, mm_sJ, mm_sR, mm_RI, mm_RJ, mm_IJ, mm_IR, mm_JI, mm_JR, mm_II, mm_JJ, mm_RR, z1, ↓bS z2, hh, ↓bS e1', hh1, ↓bS is1, ↓bS e2]
    | true =>
      rw [c2] at is1
      simp only [if_true] at is1
      obtain ⟨S2, e2, f2, p2, s2, h2, R2⟩ := r_next hd p1
      have hh2 : zh S2 rd = (7, 0) := p2.1.1
      have smT1 : zsm T (T + 4) S S1 := sm_fr f1 (fun b j q1 q2 => by unfold wLi wRdr; omega)
      have smT2 : zsm T (T + 4) S1 S2 := sm_sub s2 (by omega) (by omega)
      have r31 : zR S1 rd 3 = some T := by rw [fr_R f1]; exact r3
      have r32 : zR S2 rd 3 = some T := by rw [R2]; exact r31
      have hk2 := kScr_sm (kScr_sm hk smT1) smT2
      obtain ⟨S3, e3, f3, p3, s3, R3, l3⟩ := r_side hd p2 r32 hk2
      have hh3 : zh S3 rd = (7, 0) := p3.1.1
      have wl := side_lt (tx := tx) (t := znext tx t1.2.1) hk.2.2.2.2
      have sm2 : zsm r (r + 5) S1 S2 := sm_fr f2 (fun b j q1 q2 => by unfold wRdr; omega)
      have sm3 : zsm r (r + 5) S2 S3 := sm_fr f3 (fun b j q1 q2 => by unfold wRdr; omega)
      have hR3 := rule_sm (rule_sm hR1 sm2 (by omega) (by omega)) sm3 (by omega) (by omega)
      obtain ⟨y1, y2, y3, y4, y5, y6, y7⟩ := hR3
      have f13 : zfr (wRl rd r) S S3 := fr_trans f1' (fr_trans (fr_mono f2 (fun b j hb => Or.inl hb)) (fr_mono f3 (fun b j hb => Or.inl hb)))
      have setB : ∀ v : Int32, zfr (wRl rd r) S3 (zwI S3 r 3 v) ∧ pRd (zwI S3 r 3 v) rd q tx (zside tx (znext tx t1.2.1) st).2.2 := fun v => by
        have fw : zfr (fun b j => b = r ∧ j = 3) S3 (zwI S3 r 3 v) := fr_wI _ _ ⟨rfl, rfl⟩
        exact ⟨fr_mono fw (fun b j hb => Or.inr (by omega)), pRd_fr p3 fw (fun j => by omega) (fun j => by omega)⟩
      have mkR : ∀ v : Nat, pRule (zwI S3 r 3 (nI v)) r (zlow (zsl tx t), [], ah, v) := fun v => by
        have fw : zfr (fun b j => b = r ∧ j = 3) S3 (zwI S3 r 3 (nI v)) := fr_wI _ _ ⟨rfl, rfl⟩
        exact ⟨y1, y2, y3, row_fr y4 fw (fun j => by omega) (fun j => by omega), row_fr y5 fw (fun j => by omega) (fun j => by omega), by simp [mm_II]; exact y6, by simp [mm_II]⟩
      by_cases c3 : (zside tx (znext tx t1.2.1) st).1 = 0
      · rw [if_pos c3] at e3
        obtain ⟨sb, hsb⟩ : ∃ sb, sb = (zside tx (znext tx t1.2.1) st).2.1 := ⟨_, rfl⟩
        obtain ⟨t4, ht4⟩ : ∃ t4, t4 = (zside tx (znext tx t1.2.1) st).2.2 := ⟨_, rfl⟩
        rw [← hsb] at e3 wl
        have ez : zrule2 tx t st = ((zoutc tx t4).1, (zoutc tx t4).2.2, zlow (zsl tx t), (zoutc tx t4).2.1, sb) := by
          simp only [zrule2, c1, ← ht1, c2, if_true, c3, ← ht4, ← hsb]
        rw [ez]
        obtain ⟨b1, b2⟩ := setB (nI sb)
        rw [← ht4] at b2
        obtain ⟨S4, e4, f4, p4, u4⟩ := r_outc hd ⟨hr.1, hr.2.1⟩ b2 (mkR sb)
        refine ⟨S4, ?_, fr_trans f13 (fr_trans b1 f4), p4, ⟨_, u4⟩, fun _ => u4⟩
        have nneg : ¬ nI sb < 0 := nI_pos (by omega)
        simp (disch := omega) [y_rule2, -Prod.exists, -Prod.forall, ↓bb_gf, ↓bb_gr, ↓bb_len, ↓bb_ga, ↓bb_gl, ↓bb_go, ↓bb_pf, ↓bb_pz, ↓bb_pr, ↓bb_pa, ↓bb_pb, ↓bb_pl, ↓bb_po, ↓bb_cl, ↓bb_some, ↓bb_RI, ↓bb_RJ, mm_hI, mm_hJ, mm_hR, mm_nI, mm_nJ, mm_nR, mm_sI, mm_sJ, mm_sR, mm_RI, mm_RJ, mm_IJ, mm_IR, mm_JI, mm_JR, mm_II, mm_JJ, mm_RR, z1, ↓bS z2, hh, ↓bS e1', hh1, ↓bS is1, ↓bS e2, hh2, ↓bS e3, y1, nneg, hh3, ↓bS e4]
      · rw [if_neg c3] at e3
        obtain ⟨fc, hfc⟩ : ∃ fc, fc = (zside tx (znext tx t1.2.1) st).1 := ⟨_, rfl⟩
        rw [← hfc] at e3 l3 c3
        have ez : zrule2 tx t st = (fc, (zside tx (znext tx t1.2.1) st).2.2, [], [], 0) := by
          simp only [zrule2, c1, ← ht1, c2, if_true, ← hfc, if_neg c3]
        rw [ez]
        obtain ⟨b1, b2⟩ := setB (-nI fc)
        obtain ⟨w, hw, ew⟩ := wb_of32 (-nI fc)
        refine ⟨_, ?_, fr_trans f13 b1, b2, ⟨_, by rw [ew]; exact mkR w⟩, fun z => absurd z c3⟩
        have neg : -nI fc < 0 := (nn_mlt (i := 0) (by omega) (by omega) (by omega)).2 trivial
        simp (disch := omega) [y_rule2, -Prod.exists, -Prod.forall, ↓bb_gf, ↓bb_gr, ↓bb_len, ↓bb_ga, ↓bb_gl, ↓bb_go, ↓bb_pf, ↓bb_pz, ↓bb_pr, ↓bb_pa, ↓bb_pb, ↓bb_pl, ↓bb_po, ↓bb_cl, ↓bb_some, ↓bb_RI, ↓bb_RJ, mm_hI, mm_hJ, mm_hR, mm_nI, mm_nJ, mm_nR, mm_sI, mm_sJ, mm_sR, mm_RI, mm_RJ, mm_IJ, mm_IR, mm_JI, mm_JR, mm_II, mm_JJ, mm_RR, z1, ↓bS z2, hh, ↓bS e1', hh1, ↓bS is1, ↓bS e2, hh2, ↓bS e3, y1, neg]
end
