/-! the class's reader: rule line, line, all lines -/
section
variable {S : zM} {rd q T : Nat} {tx : List Nat} {t : zTk} {st : zRt}
theorem l_rule (hd : dRd rd q T) (h : rAll S rd q tx t T st) : ∃ S', f_Reader_ruleLine rd S = some (nI (zruleLine tx t st).1, S') ∧ eLn S S' rd q tx T (zruleLine tx t st) := by
  have hh := h.1.1.1
  have dd := hd
  unfold dRd at dd
  have h0 := h
  obtain ⟨hp, r3, r4, hR⟩ := h
  rw [ruleLine_eq]
  by_cases c0 : st.2.2.2.length = 0
  · have ez : zruleLine tx t st = (6, t, st) := by simp [zruleLine, c0]
    rw [ez]
    rw [if_pos c0] at r4
    refine ⟨S, ?_, e_stop h0 hp ⟨rfl, fun _ _ _ _ => ⟨rfl, rfl, rfl⟩⟩ rfl (fr_refl _ _) (by omega)⟩
    simp [hh, r4]; rfl
  · rw [if_neg c0] at r4
    obtain ⟨P, hP⟩ : ∃ P, P = aPs T (st.2.2.2.length - 1) := ⟨_, rfl⟩
    rw [← hP] at r4
    have w3 := hR.2.2.2.2.2.2.2.2.2.2.2.2.1
    have sA := hR.1.2 (st.2.2.2.length - 1) (by omega)
    have qP := hR.2.2.2.2.2.2.1 (st.2.2.2.length - 1) (by omega)
    rw [← hP] at sA qP
    have hPh := sA.1.1
    by_cases c1 : 8 ≤ (zpa_ st.2.2.2 (st.2.2.2.length - 1)).2.length
    · have ez : zruleLine tx t st = (5, t, st) := by simp only [zruleLine, if_neg c0, if_pos c1]
      rw [ez]
      have w8 := qP.2.2.2.2.2.1.1
      have ea : f_Pass_addRule P S = some (none, S) := by
        simp (disch := omega) [f_Pass_addRule, -Prod.exists, -Prod.forall, ↓bb_gf, ↓bb_gr, ↓bb_len, ↓bb_ga, ↓bb_gl, ↓bb_go, ↓bb_pf, ↓bb_pz, ↓bb_pr, ↓bb_pa, ↓bb_pb, ↓bb_pl, ↓bb_po, ↓bb_cl, ↓bb_some, ↓bb_RI, ↓bb_RJ, mm_hI, mm_hJ, mm_hR, mm_nI, mm_nJ, mm_nR, mm_sI, mm_sJ, mm_sR, mm_RI, mm_RJ, mm_IJ, mm_IR, mm_JI, mm_JR, mm_II, mm_JJ, mm_RR, nn_lit, nI_add, pk_mul, nI_clamp, nI_ltI, nI_leI, nI_eq, nn_in, nn_eqm, nn_meq, nn_ltm, nn_mlt, nn_lem, nn_mle, nn_in_m, hPh, qP.2.1, show ¬ (zpa_ st.2.2.2 (st.2.2.2.length - 1)).2.length < 8 by omega]
      refine ⟨S, ?_, e_stop h0 hp ⟨rfl, fun _ _ _ _ => ⟨rfl, rfl, rfl⟩⟩ rfl (fr_refl _ _) (by omega)⟩
      simp [hh, r4, -Prod.exists, -Prod.forall, ↓bb_gf, ↓bb_gr, ↓bb_len, ↓bb_ga, ↓bb_gl, ↓bb_go, ↓bb_pf, ↓bb_pz, ↓bb_pr, ↓bb_pa, ↓bb_pb, ↓bb_pl, ↓bb_po, ↓bb_cl, ↓bb_some, ↓bb_RI, ↓bb_RJ, mm_hI, mm_hJ, mm_hR, mm_nI, mm_nJ, mm_nR, mm_sI, mm_sJ, mm_sR, mm_RI, mm_RJ, mm_IJ, mm_IR, mm_JI, mm_JR, mm_II, mm_JJ, mm_RR, ↓bS r4, hPh, ↓bS ea]; rfl
    · obtain ⟨S1, e1, f1, i1, u1⟩ := p_addRule qP sA (show (zpa_ st.2.2.2 (st.2.2.2.length - 1)).2.length < 8 by omega)
      obtain ⟨r, hr⟩ : ∃ r, r = P + 16 + 5 * (zpa_ st.2.2.2 (st.2.2.2.length - 1)).2.length := ⟨_, rfl⟩
      rw [← hr] at e1 f1 u1
      have hPv : P = T + 4 + 56 * (st.2.2.2.length - 1) := hP
      have hh1 : zh S1 = zh S := fr_h f1
      have R1 : zR S1 = zR S := fr_R f1
      have p1 : pRd S1 rd q tx t := pRd_fr hp f1 (fun j => by omega) (fun j => by omega)
      have r31 : zR S1 rd 3 = some T := by rw [R1]; exact r3
      have hk1 : kScr S1 T st := kScr_sm (kOf hR) (sm_fr f1 (fun b j q1 q2 => by omega))
      obtain ⟨S2, e2, f2, p2, s2, h2, R2⟩ := r_next hd p1
      obtain ⟨t1, ht1⟩ : ∃ t1, t1 = znext tx t.2.1 := ⟨_, rfl⟩
      rw [← ht1] at p2
      have r32 : zR S2 rd 3 = some T := by rw [R2]; exact r31
      have hk2 := kScr_sm hk1 (sm_sub s2 (by omega) (by omega))
      have sm2 : zsm r (r + 5) S1 S2 := sm_fr f2 (fun b j q1 q2 => by unfold wRdr; omega)
      have u2 := rule_sm u1 sm2 (by omega) (by omega)
      have is2 := rd_is p2 (show 7 < 13 by omega)
      have hh2 : zh S2 rd = (7, 0) := p2.1.1
      have hh1r : zh S1 rd = (7, 0) := p1.1.1
      have F2 : zfr (fun b j => wRdr rd b j ∨ (b = P ∧ j = 3) ∨ (r ≤ b ∧ b < r + 5)) S S2 := fr_trans (fr_mono f1 (fun b j hb => Or.inr hb)) (fr_mono f2 (fun b j hb => Or.inl hb))
      have i2 : zI S2 P 3 = nI ((zpa_ st.2.2.2 (st.2.2.2.length - 1)).2.length + 1) := by rw [fr_I f2 (by unfold wRdr; omega)]; exact i1
      have rr : (rd < r ∨ r + 5 ≤ rd) ∧ (q < r ∨ r + 5 ≤ q) ∧ T + 4 ≤ r ∧ r + 5 ≤ T + 172 := by omega
      -- the end of a line that came to S' with the rule under work
      have fin : ∀ (S' : zM) (f : Nat) (t' : zTk) (ru ru' : zRu), zfr (wRl rd r) S2 S' → pRd S' rd q tx t' → pRule S' r ru → (f = 0 → ru = ru' ∧ wRu ru') → eLn S S' rd q tx T (f, t', (st.1, st.2.1, st.2.2.1, zadd st.2.2.2 ru')) := by
        intro S' f t' ru ru' ff pp rp hw
        have FF : zfr (fun b j => wRdr rd b j ∨ (b = P ∧ j = 3) ∨ (r ≤ b ∧ b < r + 5)) S S' := fr_trans F2 (fr_mono ff (fun b j hb => hb.elim Or.inl (fun z => Or.inr (Or.inr z))))
        have RR := fr_R FF
        obtain ⟨x1, x2⟩ := rl_end hd hR (by omega) hP (by omega) hr FF (by rw [fr_I ff (by unfold wRl wRdr; omega)]; exact i2) rp
        refine ⟨fq_fr (fr_mono FF (fun b j hb => by unfold wLn; unfold wRdr at hb; omega)), by rw [RR]; exact r3, pp, x1, fun f0 => ?_⟩
        obtain ⟨y1, y2⟩ := hw f0
        subst y1
        have ln : (zadd st.2.2.2 ru).length = st.2.2.2.length := add_len (by omega)
        refine ⟨pp, by rw [RR]; exact r3, ?_, x2 y2⟩
        rw [RR, r4]
        simp only [ln, if_neg c0]
        rw [hP]
      have fin' : ∀ (S' : zM) (f : Nat) (t' : zTk) (ru : zRu), zfr (wRl rd r) S2 S' → pRd S' rd q tx t' → pRule S' r ru → f ≠ 0 → eLn S S' rd q tx T (f, t', st) := by
        intro S' f t' ru ff pp rp hw
        obtain ⟨y1, y2, y3, y4, _⟩ := fin S' f t' ru ru ff pp rp (fun z => absurd z hw)
        exact ⟨y1, y2, y3, y4, fun z => absurd z hw⟩
      cases c2 : zisw tx t1 7 with
      | false =>
        rw [c2] at is2
        simp only [Bool.false_eq_true, if_false] at is2
        have ez : zruleLine tx t st = ((zrule2 tx t1 st).1, (zrule2 tx t1 st).2.1, (st.1, st.2.1, st.2.2.1, zadd st.2.2.2 ((zrule2 tx t1 st).2.2.1, (zrule2 tx t1 st).2.2.2.1, 511, (zrule2 tx t1 st).2.2.2.2))) := by
          simp only [zruleLine, if_neg c0, if_neg c1, ← ht1, c2, Bool.false_eq_true, if_false]
        rw [ez]
        obtain ⟨S3, e3, f3, p3, ⟨ru, ru3⟩, u3⟩ := r_rule2 hd rr p2 r32 hk2 u2
        refine ⟨S3, ?_, ?_⟩
        · simp (disch := omega) [hh, r4, -Prod.exists, -Prod.forall, ↓bb_gf, ↓bb_gr, ↓bb_len, ↓bb_ga, ↓bb_gl, ↓bb_go, ↓bb_pf, ↓bb_pz, ↓bb_pr, ↓bb_pa, ↓bb_pb, ↓bb_pl, ↓bb_po, ↓bb_cl, ↓bb_some, ↓bb_RI, ↓bb_RJ, mm_hI, mm_hJ, mm_hR, mm_nI, mm_nJ, mm_nR, mm_sI, mm_sJ, mm_sR, mm_RI, mm_RJ, mm_IJ, mm_IR, mm_JI, mm_JR, mm_II, mm_JJ, mm_RR, ↓bS r4, hPh, ↓bS e1, hh1r, ↓bS e2, hh2, ↓bS is2]
          exact e3
        · by_cases z : (zrule2 tx t1 st).1 = 0
          · exact fin S3 _ _ _ _ f3 p3 (u3 z) (fun _ => ⟨rfl, rule2_w p2.2.2.2.2 hk1.2.2.2.2 (by omega) z⟩)
          · exact fin S3 _ _ ru _ f3 p3 ru3 (fun q => absurd q z)
      | true =>
        rw [c2] at is2
        simp only [if_true] at is2
        obtain ⟨S3, e3, f3, p3, s3, h3, R3⟩ := r_next hd p2
        have hh3 : zh S3 rd = (7, 0) := p3.1.1
        have r33 : zR S3 rd 3 = some T := by rw [R3]; exact r32
        have hk3 := kScr_sm hk2 (sm_sub s3 (by omega) (by omega))
        obtain ⟨S4, e4, f4, p4, s4, R4, l4⟩ := r_side hd p3 r33 hk3
        have hh4 : zh S4 rd = (7, 0) := p4.1.1
        have r34 : zR S4 rd 3 = some T := by rw [R4]; exact r33
        have wl := side_lt (tx := tx) (t := znext tx t1.2.1) hk1.2.2.2.2
        have sm3 : zsm r (r + 5) S2 S3 := sm_fr f3 (fun b j q1 q2 => by unfold wRdr; omega)
        have sm4 : zsm r (r + 5) S3 S4 := sm_fr f4 (fun b j q1 q2 => by unfold wRdr; omega)
        have u4 := rule_sm (rule_sm u2 sm3 (by omega) (by omega)) sm4 (by omega) (by omega)
        obtain ⟨y1, y2, y3, y4, y5, y6, y7⟩ := u4
        have f24 : zfr (wRl rd r) S2 S4 := fr_trans (fr_mono f3 (fun b j hb => Or.inl hb)) (fr_mono f4 (fun b j hb => Or.inl hb))
        have setB : ∀ v : Int32, zfr (fun b j => b = r ∧ j = 2) S4 (zwI S4 r 2 v) := fun v => fr_wI _ _ ⟨rfl, rfl⟩
        have mkR : ∀ v : Nat, pRule (zwI S4 r 2 (nI v)) r ([], [], v, 511) := fun v => ⟨y1, y2, y3, row_fr y4 (setB _) (fun j => by omega) (fun j => by omega), row_fr y5 (setB _) (fun j => by omega) (fun j => by omega), by simp [mm_II], by simp [mm_II]; exact y7⟩
        by_cases c3 : (zside tx (znext tx t1.2.1) st).1 = 0
        · rw [if_pos c3] at e4
          obtain ⟨sb, hsb⟩ : ∃ sb, sb = (zside tx (znext tx t1.2.1) st).2.1 := ⟨_, rfl⟩
          obtain ⟨t4, ht4⟩ : ∃ t4, t4 = (zside tx (znext tx t1.2.1) st).2.2 := ⟨_, rfl⟩
          rw [← hsb] at e4 wl
          rw [← ht4] at p4
          have ez : zruleLine tx t st = ((zrule2 tx t4 st).1, (zrule2 tx t4 st).2.1, (st.1, st.2.1, st.2.2.1, zadd st.2.2.2 ((zrule2 tx t4 st).2.2.1, (zrule2 tx t4 st).2.2.2.1, sb, (zrule2 tx t4 st).2.2.2.2))) := by
            simp only [zruleLine, if_neg c0, if_neg c1, ← ht1, c2, if_true, c3, ← ht4, ← hsb]
          rw [ez]
          have b2 : pRd (zwI S4 r 2 (nI sb)) rd q tx t4 := pRd_fr p4 (setB _) (fun j => by omega) (fun j => by omega)
          have hk5 : kScr (zwI S4 r 2 (nI sb)) T st := kScr_sm (kScr_sm hk3 (sm_sub s4 (by omega) (by omega))) (sm_fr (setB _) (fun b j q1 q2 => by omega))
          obtain ⟨S5, e5, f5, p5, ⟨ru, ru5⟩, u5⟩ := r_rule2 hd rr b2 r34 hk5 (mkR sb)
          have f25 : zfr (wRl rd r) S2 S5 := fr_trans f24 (fr_trans (fr_mono (setB (nI sb)) (fun b j hb => Or.inr (by omega))) f5)
          have nneg : ¬ nI sb < 0 := nI_pos (by omega)
          refine ⟨S5, ?_, ?_⟩
          · simp (disch := omega) [hh, r4, -Prod.exists, -Prod.forall, ↓bb_gf, ↓bb_gr, ↓bb_len, ↓bb_ga, ↓bb_gl, ↓bb_go, ↓bb_pf, ↓bb_pz, ↓bb_pr, ↓bb_pa, ↓bb_pb, ↓bb_pl, ↓bb_po, ↓bb_cl, ↓bb_some, ↓bb_RI, ↓bb_RJ, mm_hI, mm_hJ, mm_hR, mm_nI, mm_nJ, mm_nR, mm_sI, mm_sJ, mm_sR, mm_RI, mm_RJ, mm_IJ, mm_IR, mm_JI, mm_JR, mm_II, mm_JJ, mm_RR, ↓bS r4, hPh, ↓bS e1, hh1r, ↓bS e2, hh2, ↓bS is2, ↓bS e3, hh3, ↓bS e4, y1, nneg]
            exact e5
          · by_cases z : (zrule2 tx t4 st).1 = 0
            · exact fin S5 _ _ _ _ f25 p5 (u5 z) (fun _ => ⟨rfl, rule2_w p4.2.2.2.2 hk1.2.2.2.2 wl z⟩)
            · exact fin S5 _ _ ru _ f25 p5 ru5 (fun q => absurd q z)
        · rw [if_neg c3] at e4
          obtain ⟨fc, hfc⟩ : ∃ fc, fc = (zside tx (znext tx t1.2.1) st).1 := ⟨_, rfl⟩
          rw [← hfc] at e4 l4 c3
          have ez : zruleLine tx t st = (fc, (zside tx (znext tx t1.2.1) st).2.2, st) := by
            simp only [zruleLine, if_neg c0, if_neg c1, ← ht1, c2, if_true, ← hfc, if_neg c3]
          rw [ez]
          obtain ⟨w, hw, ew⟩ := wb_of32 (-nI fc)
          have b2 : pRd (zwI S4 r 2 (-nI fc)) rd q tx (zside tx (znext tx t1.2.1) st).2.2 := pRd_fr p4 (setB _) (fun j => by omega) (fun j => by omega)
          have neg : -nI fc < 0 := (nn_mlt (i := 0) (by omega) (by omega) (by omega)).2 trivial
          refine ⟨zwI S4 r 2 (-nI fc), ?_, fin' _ fc _ ([], [], w, 511) (fr_trans f24 (fr_mono (setB (-nI fc)) (fun b j hb => Or.inr (by omega)))) b2 (by rw [ew]; exact mkR w) c3⟩
          simp (disch := omega) [hh, r4, -Prod.exists, -Prod.forall, ↓bb_gf, ↓bb_gr, ↓bb_len, ↓bb_ga, ↓bb_gl, ↓bb_go, ↓bb_pf, ↓bb_pz, ↓bb_pr, ↓bb_pa, ↓bb_pb, ↓bb_pl, ↓bb_po, ↓bb_cl, ↓bb_some, ↓bb_RI, ↓bb_RJ, mm_hI, mm_hJ, mm_hR, mm_nI, mm_nJ, mm_nR, mm_sI, mm_sJ, mm_sR, mm_RI, mm_RJ, mm_IJ, mm_IR, mm_JI, mm_JR, mm_II, mm_JJ, mm_RR, ↓bS r4, hPh, ↓bS e1, hh1r, ↓bS e2, hh2, ↓bS is2, ↓bS e3, hh3, ↓bS e4, y1, neg]
theorem l_line (hd : dRd rd q T) (first : Bool) (h : rAll S rd q tx t T st) : ∃ S', f_Reader_line rd (if first then 1 else 0) S = some (nI (zline tx first t st).1, S') ∧ eLn S S' rd q tx T (zline tx first t st) := by
  have hh := h.1.1.1
  have sm0 : zsm T (T + 172) S S := ⟨rfl, fun _ _ _ _ => ⟨rfl, rfl, rfl⟩⟩
  have stop : ∀ f : Nat, f ≠ 0 → eLn S S rd q tx T (f, t, st) := fun f hf => e_stop h h.1 sm0 rfl (fr_refl _ _) hf
  have i0 := rd_is h.1 (show 0 < 13 by omega)
  have i1 := rd_is h.1 (show 1 < 13 by omega)
  have i2 := rd_is h.1 (show 2 < 13 by omega)
  have i3 := rd_is h.1 (show 3 < 13 by omega)
  cases c0 : zisw tx t 0 with
  | true =>
    rw [c0] at i0
    simp only [if_true] at i0
    cases first
    · have ez : zline tx false t st = (3, t, st) := by simp [zline, c0]
      rw [ez]
      refine ⟨S, ?_, stop 3 (by omega)⟩
      simp [f_Reader_line, -Prod.exists, -Prod.forall, ↓bb_gf, ↓bb_gr, ↓bb_len, ↓bb_ga, ↓bb_gl, ↓bb_go, ↓bb_pf, ↓bb_pz, ↓bb_pr, ↓bb_pa, ↓bb_pb, ↓bb_pl, ↓bb_po, ↓bb_cl, ↓bb_some, ↓bb_RI, ↓bb_RJ, mm_hI, mm_hJ, mm_hR, mm_nI, mm_nJ, mm_nR, mm_sI, mm_sJ, mm_sR, mm_RI, mm_RJ, mm_IJ, mm_IR, mm_JI, mm_JR, mm_II, mm_JJ, mm_RR, hh, ↓bS i0]; rfl
    · have ez : zline tx true t st = zscriptLine tx t st := by simp [zline, c0]
      rw [ez]
      obtain ⟨S', e, l⟩ := l_script hd h
      refine ⟨S', ?_, l⟩
      simp [f_Reader_line, -Prod.exists, -Prod.forall, ↓bb_gf, ↓bb_gr, ↓bb_len, ↓bb_ga, ↓bb_gl, ↓bb_go, ↓bb_pf, ↓bb_pz, ↓bb_pr, ↓bb_pa, ↓bb_pb, ↓bb_pl, ↓bb_po, ↓bb_cl, ↓bb_some, ↓bb_RI, ↓bb_RJ, mm_hI, mm_hJ, mm_hR, mm_nI, mm_nJ, mm_nR, mm_sI, mm_sJ, mm_sR, mm_RI, mm_RJ, mm_IJ, mm_IR, mm_JI, mm_JR, mm_II, mm_JJ, mm_RR, hh, ↓bS i0, ↓bS e]
  | false =>
    rw [c0] at i0
    simp only [Bool.false_eq_true, if_false] at i0
    cases c1 : zisw tx t 1 with
    | true =>
      rw [c1] at i1
      simp only [if_true] at i1
      cases first
      · have ez : zline tx false t st = zkindLine tx t st := by simp [zline, c0, c1]
        rw [ez]
        obtain ⟨S', e, l⟩ := l_kind hd h
        refine ⟨S', ?_, l⟩
        simp [f_Reader_line, -Prod.exists, -Prod.forall, ↓bb_gf, ↓bb_gr, ↓bb_len, ↓bb_ga, ↓bb_gl, ↓bb_go, ↓bb_pf, ↓bb_pz, ↓bb_pr, ↓bb_pa, ↓bb_pb, ↓bb_pl, ↓bb_po, ↓bb_cl, ↓bb_some, ↓bb_RI, ↓bb_RJ, mm_hI, mm_hJ, mm_hR, mm_nI, mm_nJ, mm_nR, mm_sI, mm_sJ, mm_sR, mm_RI, mm_RJ, mm_IJ, mm_IR, mm_JI, mm_JR, mm_II, mm_JJ, mm_RR, hh, ↓bS i0, ↓bS i1, ↓bS e]
      · have ez : zline tx true t st = (6, t, st) := by simp [zline, c0, c1]
        rw [ez]
        refine ⟨S, ?_, stop 6 (by omega)⟩
        simp [f_Reader_line, -Prod.exists, -Prod.forall, ↓bb_gf, ↓bb_gr, ↓bb_len, ↓bb_ga, ↓bb_gl, ↓bb_go, ↓bb_pf, ↓bb_pz, ↓bb_pr, ↓bb_pa, ↓bb_pb, ↓bb_pl, ↓bb_po, ↓bb_cl, ↓bb_some, ↓bb_RI, ↓bb_RJ, mm_hI, mm_hJ, mm_hR, mm_nI, mm_nJ, mm_nR, mm_sI, mm_sJ, mm_sR, mm_RI, mm_RJ, mm_IJ, mm_IR, mm_JI, mm_JR, mm_II, mm_JJ, mm_RR, hh, ↓bS i0, ↓bS i1]; rfl
    | false =>
      rw [c1] at i1
      simp only [Bool.false_eq_true, if_false] at i1
      cases c2 : zisw tx t 2 with
      | true =>
        rw [c2] at i2
        simp only [if_true] at i2
        cases first
        · have ez : zline tx false t st = zpassLine tx t st := by simp [zline, c0, c1, c2]
          rw [ez]
          obtain ⟨S', e, l⟩ := l_pass hd h
          refine ⟨S', ?_, l⟩
          simp [f_Reader_line, -Prod.exists, -Prod.forall, ↓bb_gf, ↓bb_gr, ↓bb_len, ↓bb_ga, ↓bb_gl, ↓bb_go, ↓bb_pf, ↓bb_pz, ↓bb_pr, ↓bb_pa, ↓bb_pb, ↓bb_pl, ↓bb_po, ↓bb_cl, ↓bb_some, ↓bb_RI, ↓bb_RJ, mm_hI, mm_hJ, mm_hR, mm_nI, mm_nJ, mm_nR, mm_sI, mm_sJ, mm_sR, mm_RI, mm_RJ, mm_IJ, mm_IR, mm_JI, mm_JR, mm_II, mm_JJ, mm_RR, hh, ↓bS i0, ↓bS i1, ↓bS i2, ↓bS e]
        · have ez : zline tx true t st = (6, t, st) := by simp [zline, c0, c1, c2]
          rw [ez]
          refine ⟨S, ?_, stop 6 (by omega)⟩
          simp [f_Reader_line, -Prod.exists, -Prod.forall, ↓bb_gf, ↓bb_gr, ↓bb_len, ↓bb_ga, ↓bb_gl, ↓bb_go, ↓bb_pf, ↓bb_pz, ↓bb_pr, ↓bb_pa, ↓bb_pb, ↓bb_pl, ↓bb_po, ↓bb_cl, ↓bb_some, ↓bb_RI, ↓bb_RJ, mm_hI, mm_hJ, mm_hR, mm_nI, mm_nJ, mm_nR, mm_sI, mm_sJ, mm_sR, mm_RI, mm_RJ, mm_IJ, mm_IR, mm_JI, mm_JR, mm_II, mm_JJ, mm_RR, hh, ↓bS i0, ↓bS i1, ↓bS i2]; rfl
      | false =>
        rw [c2] at i2
        simp only [Bool.false_eq_true, if_false] at i2
        cases c3 : zisw tx t 3 with
        | true =>
          rw [c3] at i3
          simp only [if_true] at i3
          cases first
          · have ez : zline tx false t st = zruleLine tx t st := by simp [zline, c0, c1, c2, c3]
            rw [ez]
            obtain ⟨S', e, l⟩ := l_rule hd h
            refine ⟨S', ?_, l⟩
            simp [f_Reader_line, -Prod.exists, -Prod.forall, ↓bb_gf, ↓bb_gr, ↓bb_len, ↓bb_ga, ↓bb_gl, ↓bb_go, ↓bb_pf, ↓bb_pz, ↓bb_pr, ↓bb_pa, ↓bb_pb, ↓bb_pl, ↓bb_po, ↓bb_cl, ↓bb_some, ↓bb_RI, ↓bb_RJ, mm_hI, mm_hJ, mm_hR, mm_nI, mm_nJ, mm_nR, mm_sI, mm_sJ, mm_sR, mm_RI, mm_RJ, mm_IJ, mm_IR, mm_JI, mm_JR, mm_II, mm_JJ, mm_RR, hh, ↓bS i0, ↓bS i1, ↓bS i2, ↓bS i3, ↓bS e]
          · have ez : zline tx true t st = (6, t, st) := by simp [zline, c0, c1, c2, c3]
            rw [ez]
            refine ⟨S, ?_, stop 6 (by omega)⟩
            simp [f_Reader_line, -Prod.exists, -Prod.forall, ↓bb_gf, ↓bb_gr, ↓bb_len, ↓bb_ga, ↓bb_gl, ↓bb_go, ↓bb_pf, ↓bb_pz, ↓bb_pr, ↓bb_pa, ↓bb_pb, ↓bb_pl, ↓bb_po, ↓bb_cl, ↓bb_some, ↓bb_RI, ↓bb_RJ, mm_hI, mm_hJ, mm_hR, mm_nI, mm_nJ, mm_nR, mm_sI, mm_sJ, mm_sR, mm_RI, mm_RJ, mm_IJ, mm_IR, mm_JI, mm_JR, mm_II, mm_JJ, mm_RR, hh, ↓bS i0, ↓bS i1, ↓bS i2, ↓bS i3]; rfl
        | false =>
          rw [c3] at i3
          simp only [Bool.false_eq_true, if_false] at i3
          have ez : zline tx first t st = (1, t, st) := by simp [zline, c0, c1, c2, c3]
          rw [ez]
          refine ⟨S, ?_, stop 1 (by omega)⟩
          simp [f_Reader_line, -Prod.exists, -Prod.forall, ↓bb_gf, ↓bb_gr, ↓bb_len, ↓bb_ga, ↓bb_gl, ↓bb_go, ↓bb_pf, ↓bb_pz, ↓bb_pr, ↓bb_pa, ↓bb_pb, ↓bb_pl, ↓bb_po, ↓bb_cl, ↓bb_some, ↓bb_RI, ↓bb_RJ, mm_hI, mm_hJ, mm_hR, mm_nI, mm_nJ, mm_nR, mm_sI, mm_sJ, mm_sR, mm_RI, mm_RJ, mm_IJ, mm_IR, mm_JI, mm_JR, mm_II, mm_JJ, mm_RR, hh, ↓bS i0, ↓bS i1, ↓bS i2, ↓bS i3]; rfl
end
