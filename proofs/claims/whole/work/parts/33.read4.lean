/-! the class's reader: the text whole -/
theorem passAt_g {S : zM} {T n p : Nat} (hs : sScr S T) (h5 : zI S T 5 = nI n) (hn : n ≤ 3) (hp : p < n) : f_Script_passAt T (nI p) S = some (some (aPs T p), S) := by
  obtain ⟨b1, b2, b3, b4, b5, b6, b7, b8⟩ := hs
  have b8p := b8 p (by omega)
  simp (disch := omega) [f_Script_passAt, -Prod.exists, -Prod.forall, ↓bb_gf, ↓bb_gr, ↓bb_len, ↓bb_ga, ↓bb_gl, ↓bb_go, ↓bb_pf, ↓bb_pz, ↓bb_pr, ↓bb_pa, ↓bb_pb, ↓bb_pl, ↓bb_po, ↓bb_cl, ↓bb_some, ↓bb_RI, ↓bb_RJ, mm_hI, mm_hJ, mm_hR, mm_nI, mm_nJ, mm_nR, mm_sI, mm_sJ, mm_sR, mm_RI, mm_RJ, mm_IJ, mm_IR, mm_JI, mm_JR, mm_II, mm_JJ, mm_RR, nn_lit, nI_add, pk_mul, nI_clamp, nI_ltI, nI_leI, nI_eq, nn_in, nn_eqm, nn_meq, nn_ltm, nn_mlt, nn_lem, nn_mle, nn_in_m, b1, h5, hp, show p < 3 by omega, ↓bS b6, b7, b8p]
theorem count_l {S : zM} {T : Nat} {ps : List zPs} (hs : sScr S T) (h5 : zI S T 5 = nI ps.length) (hw : wPs ps) (hq : ∀ p, p < ps.length → zh S (aPs T p) = (5, 0) ∧ zI S (aPs T p) 3 = nI (zpa_ ps p).2.length) : ∀ d F p, d + p = ps.length → d < F → L_Script_ruleCount_4 F T (nI (zmany (ps.take p))) (nI p) S = some (nI (zmany ps), S) := by
  have h3 := hw.1
  intro d
  induction d with
  | zero =>
    intro F p hd hF
    cases F with
    | zero => omega
    | succ F =>
      have : ps.take p = ps := List.take_of_length_le (by omega)
      rw [this]
      simp (disch := omega) [L_Script_ruleCount_4, -Prod.exists, -Prod.forall, ↓bb_gf, ↓bb_gr, ↓bb_len, ↓bb_ga, ↓bb_gl, ↓bb_go, ↓bb_pf, ↓bb_pz, ↓bb_pr, ↓bb_pa, ↓bb_pb, ↓bb_pl, ↓bb_po, ↓bb_cl, ↓bb_some, ↓bb_RI, ↓bb_RJ, mm_hI, mm_hJ, mm_hR, mm_nI, mm_nJ, mm_nR, mm_sI, mm_sJ, mm_sR, mm_RI, mm_RJ, mm_IJ, mm_IR, mm_JI, mm_JR, mm_II, mm_JJ, mm_RR, nn_lit, nI_add, pk_mul, nI_clamp, nI_ltI, nI_leI, nI_eq, nn_in, nn_eqm, nn_meq, nn_ltm, nn_mlt, nn_lem, nn_mle, nn_in_m, hs.1, h5, show ¬ p < ps.length by omega]
  | succ d ih =>
    intro F p hd hF
    cases F with
    | zero => omega
    | succ F =>
      have hp : p < ps.length := by omega
      have pa := passAt_g hs h5 h3 hp
      obtain ⟨q1, q2⟩ := hq p hp
      have e : zmany (ps.take p) + (zpa_ ps p).2.length = zmany (ps.take (p + 1)) := by
        rw [List.take_succ_eq_append_getElem hp]
        have : zpa_ ps p = ps[p] := by simp [zpa_, hp]
        rw [this]
        unfold zmany
        rw [List.map_append, List.sum_append]
        simp only [List.map_cons, List.map_nil, List.sum_cons, List.sum_nil, Nat.add_zero]
      rw [← ih F (p + 1) (by omega) (by omega), ← e]
      simp (disch := omega) [L_Script_ruleCount_4, -Prod.exists, -Prod.forall, ↓bb_gf, ↓bb_gr, ↓bb_len, ↓bb_ga, ↓bb_gl, ↓bb_go, ↓bb_pf, ↓bb_pz, ↓bb_pr, ↓bb_pa, ↓bb_pb, ↓bb_pl, ↓bb_po, ↓bb_cl, ↓bb_some, ↓bb_RI, ↓bb_RJ, mm_hI, mm_hJ, mm_hR, mm_nI, mm_nJ, mm_nR, mm_sI, mm_sJ, mm_sR, mm_RI, mm_RJ, mm_IJ, mm_IR, mm_JI, mm_JR, mm_II, mm_JJ, mm_RR, nn_lit, nI_add, pk_mul, nI_clamp, nI_ltI, nI_leI, nI_eq, nn_in, nn_eqm, nn_meq, nn_ltm, nn_mlt, nn_lem, nn_mle, nn_in_m, hs.1, h5, hp, ↓bS pa, q1, q2]
theorem ruleCount {S : zM} {T : Nat} {ps : List zPs} (hs : sScr S T) (h5 : zI S T 5 = nI ps.length) (hw : wPs ps) (hq : ∀ p, p < ps.length → zh S (aPs T p) = (5, 0) ∧ zI S (aPs T p) 3 = nI (zpa_ ps p).2.length) : f_Script_ruleCount T S = some (nI (zmany ps), S) :=
  count_l hs h5 hw hq ps.length zF 0 (by omega) (by rw [zF_eq]; have := hw.1; omega)
theorem many_le {ps : List zPs} (hw : wPs ps) : zmany ps ≤ 24 := by
  have : ∀ l : List zPs, (∀ p ∈ l, wRs p.2) → zmany l ≤ 8 * l.length := by
    intro l
    induction l with
    | nil => intro _; simp [zmany]
    | cons a l ih =>
      intro h
      have h1 := (h a (by simp)).1
      have h2 := ih (fun p hp => h p (List.mem_cons_of_mem _ hp))
      simp only [zmany, List.map_cons, List.sum_cons, List.length_cons] at h2 ⊢
      omega
  have h1 := this ps hw.2
  have := hw.1
  omega
section
variable {S : zM} {rd q T : Nat} {tx : List Nat} {t : zTk} {st : zRt}
theorem side_c : (zside tx t st).1 < 5 := by
  unfold zside
  split
  · simp
  · split
    · simp
    · split
      · split <;> simp
      · simp
theorem outc_c : (zoutc tx t).1 < 5 := by
  unfold zoutc
  split
  · simp only
    split
    · simp
    · split <;> simp
  · simp
theorem rule2_c : (zrule2 tx t st).1 < 5 := by
  unfold zrule2
  split
  · simp only
    split
    · split
      · exact outc_c
      · exact side_c
    · exact outc_c
  · simp
theorem line_c (first : Bool) : (zline tx first t st).1 < 7 := by
  unfold zline
  split
  · split
    · unfold zscriptLine
      simp only
      split
      · split
        · split <;> simp
        · simp
      · simp
    · simp
  · split
    · split
      · simp
      · unfold zkindLine
        split
        · simp
        · simp only
          split
          · split
            · simp
            · split
              · split
                · split <;> simp
                · simp
              · simp
          · simp
    · split
      · split
        · simp
        · unfold zpassLine
          split
          · simp
          · simp only
            split <;> simp
      · split
        · split
          · simp
          · unfold zruleLine
            split
            · simp
            · split
              · simp
              · simp only
                split
                · split
                  · have := rule2_c (tx := tx) (t := (zside tx (znext tx (znext tx t.2.1).2.1) st).2.2) (st := st); simp only; omega
                  · have := side_c (tx := tx) (t := znext tx (znext tx t.2.1).2.1) (st := st); simp only; omega
                · have := rule2_c (tx := tx) (t := znext tx t.2.1) (st := st); simp only; omega
        · simp
/-- reader and script between two lines -/
def mLn (S0 S : zM) (rd q : Nat) (tx : List Nat) (T : Nat) (r : Nat × zTk × zRt) : Prop := eLn S0 S rd q tx T r
theorem read_58 {S0 : zM} (hd : dRd rd q T) (Q : Option (Int32 × zM) → Prop) {k97 : Nat → Int32 → zM → Option (Int32 × zM)} : ∀ f F (S : zM) (r : Nat × zTk × zRt), f ≤ tx.length → f < F → r.1 < 7 → eLn S0 S rd q tx T r → (∀ S', eLn S0 S' rd q tx T (zlines tx f r) → (zlines tx f r).1 < 7 → Q (k97 rd (nI (zlines tx f r).1) S')) → Q (L_Reader_read_58 k97 F rd (nI r.1) (nI (tx.length - f)) S) := by
  intro f
  induction f with
  | zero =>
    intro F S r hf hF h7 he HK
    cases F with
    | zero => omega
    | succ F =>
      have hp := he.2.2.1
      have t900 := hp.1.2.2.2.2.2.2.1
      have := HK S he h7
      simp (disch := omega) [L_Reader_read_58, -Prod.exists, -Prod.forall, ↓bb_gf, ↓bb_gr, ↓bb_len, ↓bb_ga, ↓bb_gl, ↓bb_go, ↓bb_pf, ↓bb_pz, ↓bb_pr, ↓bb_pa, ↓bb_pb, ↓bb_pl, ↓bb_po, ↓bb_cl, ↓bb_some, ↓bb_RI, ↓bb_RJ, mm_hI, mm_hJ, mm_hR, mm_nI, mm_nJ, mm_nR, mm_sI, mm_sJ, mm_sR, mm_RI, mm_RJ, mm_IJ, mm_IR, mm_JI, mm_JR, mm_II, mm_JJ, mm_RR, nI_ltI, hp.1.1, hp.1.2.2.2.2.2.1]
      exact this
  | succ f ih =>
    intro F S r hf hF h7 he HK
    cases F with
    | zero => omega
    | succ F =>
      have hp := he.2.2.1
      have t900 := hp.1.2.2.2.2.2.2.1
      have lt : tx.length - (f + 1) < tx.length := by omega
      have h5 := hp.2.2.2.1
      have k5 := hp.2.2.2.2.2.2.1
      by_cases c : r.1 = 0 ∧ r.2.1.2.2 = 3
      · obtain ⟨ca, cb⟩ := c
        obtain ⟨S1, e1, f1, p1, s1, h1, R1⟩ := r_next hd hp
        have A := he.2.2.2.2 ca
        have A1 := r_all A p1 s1 R1
        obtain ⟨S2, e2, l2⟩ := l_line hd false A1
        have e2' : f_Reader_line rd 0 S1 = some (nI (zline tx false (znext tx r.2.1.2.1) r.2.2).1, S2) := e2
        have er : zlines tx (f + 1) r = zlines tx f (zline tx false (znext tx r.2.1.2.1) r.2.2) := by rw [zlines, if_pos ⟨ca, cb⟩]
        rw [er] at HK
        have l2' : eLn S0 S2 rd q tx T (zline tx false (znext tx r.2.1.2.1) r.2.2) := ⟨fq_trans he.1 (fq_trans (fq_fr (fr_mono f1 (fun b j hb => Or.inl hb))) l2.1), l2.2⟩
        have := ih F S2 _ (by omega) (by omega) (line_c false) l2' HK
        rw [show tx.length - f = tx.length - (f + 1) + 1 by omega] at this
        rw [ca]
        rw [cb] at h5
        have n3 : nI 3 = 3 := rfl
        simp (disch := omega) [L_Reader_read_58, -Prod.exists, -Prod.forall, ↓bb_gf, ↓bb_gr, ↓bb_len, ↓bb_ga, ↓bb_gl, ↓bb_go, ↓bb_pf, ↓bb_pz, ↓bb_pr, ↓bb_pa, ↓bb_pb, ↓bb_pl, ↓bb_po, ↓bb_cl, ↓bb_some, ↓bb_RI, ↓bb_RJ, mm_hI, mm_hJ, mm_hR, mm_nI, mm_nJ, mm_nR, mm_sI, mm_sJ, mm_sR, mm_RI, mm_RJ, mm_IJ, mm_IR, mm_JI, mm_JR, mm_II, mm_JJ, mm_RR, nI_ltI, nI_1, hp.1.1, hp.1.2.2.2.2.2.1, lt, h5, nI_0, n3, ↓bS e1, p1.1.1, ↓bS e2']
        exact this
      · have er : zlines tx (f + 1) r = r := by rw [zlines, if_neg c]
        rw [er] at HK
        have := HK S he h7
        by_cases ca : r.1 = 0
        · have cb : ¬ r.2.1.2.2 = 3 := fun z => c ⟨ca, z⟩
          have n3 : ¬ nI r.2.1.2.2 = 3 := fun z => cb ((nI_eq (b := 3) (by omega) (by omega)).1 z)
          rw [ca] at this ⊢
          simp (disch := omega) [L_Reader_read_58, -Prod.exists, -Prod.forall, ↓bb_gf, ↓bb_gr, ↓bb_len, ↓bb_ga, ↓bb_gl, ↓bb_go, ↓bb_pf, ↓bb_pz, ↓bb_pr, ↓bb_pa, ↓bb_pb, ↓bb_pl, ↓bb_po, ↓bb_cl, ↓bb_some, ↓bb_RI, ↓bb_RJ, mm_hI, mm_hJ, mm_hR, mm_nI, mm_nJ, mm_nR, mm_sI, mm_sJ, mm_sR, mm_RI, mm_RJ, mm_IJ, mm_IR, mm_JI, mm_JR, mm_II, mm_JJ, mm_RR, nI_ltI, hp.1.1, hp.1.2.2.2.2.2.1, lt, h5, nI_0, n3]
          exact this
        · have nz : ¬ nI r.1 = 0 := nI_ne0 (by omega) (by omega)
          simp (disch := omega) [L_Reader_read_58, -Prod.exists, -Prod.forall, ↓bb_gf, ↓bb_gr, ↓bb_len, ↓bb_ga, ↓bb_gl, ↓bb_go, ↓bb_pf, ↓bb_pz, ↓bb_pr, ↓bb_pa, ↓bb_pb, ↓bb_pl, ↓bb_po, ↓bb_cl, ↓bb_some, ↓bb_RI, ↓bb_RJ, mm_hI, mm_hJ, mm_hR, mm_nI, mm_nJ, mm_nR, mm_sI, mm_sJ, mm_sR, mm_RI, mm_RJ, mm_IJ, mm_IR, mm_JI, mm_JR, mm_II, mm_JJ, mm_RR, nI_ltI, hp.1.1, hp.1.2.2.2.2.2.1, lt, nz]
          exact this
theorem read_97 {S0 : zM} (hd : dRd rd q T) (hf7 : True) {r : Nat × zTk × zRt} (h7 : r.1 < 7) (he : eLn S0 S rd q tx T r) : ∃ S' F, F = (if r.1 = 0 then (if r.2.1.2.2 = 0 then (if zmany r.2.2.2.2.2 = 0 then 6 else 0) else 1) else r.1) ∧ F_Reader_read_97 rd (nI r.1) S = some (nI F, S') ∧ zfq (fun b j => wLn rd T b j ∨ (b = rd ∧ j = 7)) (vLn rd) S0 S' ∧ aScr S' T ∧ zI S' rd 7 = nI r.2.1.1 ∧ (F = 0 → pScr S' T (r.2.2.1, r.2.2.2.2.1, r.2.2.2.2.2) (fun _ => 0) ∧ 0 < r.2.2.2.2.2.length) := by
  obtain ⟨fq, r3, hp, aS, hA⟩ := he
  have dd := hd
  unfold dRd at dd
  have hh := hp.1.1
  have h5 := hp.2.2.2.1
  have h6 := hp.2.2.1
  have k5 := hp.2.2.2.2.2.2.1
  have hT := aS.1.1
  obtain ⟨S1, hS1⟩ : ∃ S1, S1 = zwI S rd 7 (nI r.2.1.1) := ⟨_, rfl⟩
  have fw : zfr (fun b j => b = rd ∧ j = 7) S S1 := by rw [hS1]; exact fr_wI _ _ ⟨rfl, rfl⟩
  have smT : zsm T (T + 172) S S1 := sm_fr fw (fun b j q1 q2 => by omega)
  have fq1 : zfq (fun b j => wLn rd T b j ∨ (b = rd ∧ j = 7)) (vLn rd) S0 S1 := fq_trans (fq_mono fq (fun b j hb => Or.inl hb) (fun _ _ z => z)) (fq_fr (fr_mono fw (fun b j hb => Or.inr hb)))
  have i7 : zI S1 rd 7 = nI r.2.1.1 := by rw [hS1]; simp [mm_II]
  have aS1 := aScr_sm aS smT
  by_cases c0 : r.1 = 0
  · have A := hA c0
    have w := A.2.2.2.2.2.2.2.2.2.2
    have hq : ∀ p, p < r.2.2.2.2.2.length → zh S (aPs T p) = (5, 0) ∧ zI S (aPs T p) 3 = nI (zpa_ r.2.2.2.2.2 p).2.length := fun p hp => ⟨(A.2.2.2.2.2.2.2.2.2.1 p hp).1.1, (A.2.2.2.2.2.2.2.2.2.1 p hp).2.1⟩
    have rc := ruleCount aS.1 A.2.2.2.2.2.2.1 w.2.2.2.2.2 hq
    have ml := many_le w.2.2.2.2.2
    rw [if_pos c0, c0, nI_0]
    by_cases c1 : r.2.1.2.2 = 0
    · rw [if_pos c1]
      rw [c1, nI_0] at h5
      by_cases c2 : zmany r.2.2.2.2.2 = 0
      · rw [if_pos c2]
        rw [c2, nI_0] at rc
        refine ⟨S1, 6, rfl, ?_, fq1, aS1, i7, fun z => by omega⟩
        rw [hS1]
        simp (disch := omega) [F_Reader_read_97, -Prod.exists, -Prod.forall, ↓bb_gf, ↓bb_gr, ↓bb_len, ↓bb_ga, ↓bb_gl, ↓bb_go, ↓bb_pf, ↓bb_pz, ↓bb_pr, ↓bb_pa, ↓bb_pb, ↓bb_pl, ↓bb_po, ↓bb_cl, ↓bb_some, ↓bb_RI, ↓bb_RJ, mm_hI, mm_hJ, mm_hR, mm_nI, mm_nJ, mm_nR, mm_sI, mm_sJ, mm_sR, mm_RI, mm_RJ, mm_IJ, mm_IR, mm_JI, mm_JR, mm_II, mm_JJ, mm_RR, hh, h5, ↓bS r3, hT, ↓bS rc, h6]; rfl
      · rw [if_neg c2]
        have nz : ¬ nI (zmany r.2.2.2.2.2) = 0 := nI_ne0 (by omega) (by omega)
        have rS1 := rScr_sm A.2.2.2 smT
        have hp0 : 0 < r.2.2.2.2.2.length := by
          refine Nat.pos_of_ne_zero (fun z => c2 ?_)
          have := List.length_eq_zero_iff.1 z
          rw [this]; rfl
        obtain ⟨S2, e2, f2, m2⟩ := buildMachines (asd := fun _ => 0) rS1.1.1 rS1.2.2.2.1 w.2.2.2.2.2.1 (fun p hp => ⟨rS1.2.2.2.2.2.2.1 p hp, (rS1.1.2 p (by have := w.2.2.2.2.2.1; omega)).2.1, (rS1.1.2 p (by have := w.2.2.2.2.2.1; omega)).2.2.1⟩)
        have smT2 : zsm T (T + 4) S1 S2 := sm_fr f2 (fun b j q1 q2 => by unfold wBm; omega)
        have r31 : zR S1 rd 3 = some T := by rw [fr_R fw]; exact r3
        have hh1 : zh S1 rd = (7, 0) := by rw [fr_h fw]; exact hh
        have hT1 : zh S1 T = (10, 0) := by rw [fr_h fw]; exact hT
        have pS : pScr S2 T (r.2.2.1, r.2.2.2.2.1, r.2.2.2.2.2) (fun _ => 0) := by
          refine ⟨sScr_sm rS1.1.1 smT2 (by omega) (by omega), ?_, ?_, ?_, fun k hk => ?_, m2, w.1, w.2.2.1, w.2.2.2.1, w.2.2.2.2.2⟩
          · rw [(smT2.2 _ _ (by omega) (by omega)).2.1]; exact rS1.2.1
          · rw [(smT2.2 _ _ (by omega) (by omega)).2.1]; exact rS1.2.2.1
          · rw [(smT2.2 _ _ (by omega) (by omega)).2.1]; exact rS1.2.2.2.1
          · rw [(smT2.2 _ _ (by omega) (by omega)).2.1]; exact rS1.2.2.2.2.1 k hk
        have aS2 : aScr S2 T := by
          refine ⟨pS.1, fun p hp => ?_⟩
          obtain ⟨x1, x2, x3, x4⟩ := rS1.1.2 p hp
          refine ⟨?_, ?_, ?_, fun i hi => ?_⟩
          · unfold sPass; simp only [fr_h f2, fr_R f2]; exact x1
          · unfold sMach; simp only [fr_h f2, fr_R f2]; exact x2
          · unfold sMach; simp only [fr_h f2, fr_R f2]; exact x3
          · obtain ⟨ru, hr⟩ := x4 i hi
            exact ⟨ru, rule_sm hr (sm_fr (lo := aPs T p + 16 + 5 * i) (hi := aPs T p + 16 + 5 * i + 5) f2 (fun b j q1 q2 => by
              unfold wBm; unfold aPs at q1 q2
              have hx : 56 * p + 16 ≤ b - (T + 4) ∧ b - (T + 4) < 56 * p + 56 := by omega
              have hm : (b - (T + 4)) % 56 = b - (T + 4) - 56 * p := by
                obtain ⟨x, hxx⟩ : ∃ x, x = b - (T + 4) := ⟨_, rfl⟩
                rw [← hxx] at hx ⊢
                have e : x = 56 * p + (x - 56 * p) := by omega
                rw [e, Nat.mul_add_mod, Nat.mod_eq_of_lt (by omega)]; omega
              rw [hm]; omega)) (by omega) (by omega)⟩
        refine ⟨S2, 0, rfl, ?_, fq_trans fq1 (fq_fr (fr_mono f2 (fun b j hb => Or.inl (Or.inr (by have := hb.1; have := hb.2; omega))))), aS2, ?_, fun _ => ⟨pS, hp0⟩⟩
        · simp (disch := omega) [F_Reader_read_97, -Prod.exists, -Prod.forall, ↓bb_gf, ↓bb_gr, ↓bb_len, ↓bb_ga, ↓bb_gl, ↓bb_go, ↓bb_pf, ↓bb_pz, ↓bb_pr, ↓bb_pa, ↓bb_pb, ↓bb_pl, ↓bb_po, ↓bb_cl, ↓bb_some, ↓bb_RI, ↓bb_RJ, mm_hI, mm_hJ, mm_hR, mm_nI, mm_nJ, mm_nR, mm_sI, mm_sJ, mm_sR, mm_RI, mm_RJ, mm_IJ, mm_IR, mm_JI, mm_JR, mm_II, mm_JJ, mm_RR, hh, h5, ↓bS r3, hT, ↓bS rc, h6, nz]
          rw [← hS1]
          simp (disch := omega) [-Prod.exists, -Prod.forall, ↓bb_gf, ↓bb_gr, ↓bb_len, ↓bb_ga, ↓bb_gl, ↓bb_go, ↓bb_pf, ↓bb_pz, ↓bb_pr, ↓bb_pa, ↓bb_pb, ↓bb_pl, ↓bb_po, ↓bb_cl, ↓bb_some, ↓bb_RI, ↓bb_RJ, mm_hI, mm_hJ, mm_hR, mm_nI, mm_nJ, mm_nR, mm_sI, mm_sJ, mm_sR, mm_RI, mm_RJ, mm_IJ, mm_IR, mm_JI, mm_JR, mm_II, mm_JJ, mm_RR, hh1, ↓bS r31, hT1, ↓bS e2]; rfl
        · rw [fr_I f2 (fun hb => by have := hb.1; have := hb.2; omega)]; exact i7
    · rw [if_neg c1]
      have n5 : ¬ nI r.2.1.2.2 = 0 := nI_ne0 (by omega) (by omega)
      refine ⟨S1, 1, rfl, ?_, fq1, aS1, i7, fun z => by omega⟩
      rw [hS1]
      simp (disch := omega) [F_Reader_read_97, -Prod.exists, -Prod.forall, ↓bb_gf, ↓bb_gr, ↓bb_len, ↓bb_ga, ↓bb_gl, ↓bb_go, ↓bb_pf, ↓bb_pz, ↓bb_pr, ↓bb_pa, ↓bb_pb, ↓bb_pl, ↓bb_po, ↓bb_cl, ↓bb_some, ↓bb_RI, ↓bb_RJ, mm_hI, mm_hJ, mm_hR, mm_nI, mm_nJ, mm_nR, mm_sI, mm_sJ, mm_sR, mm_RI, mm_RJ, mm_IJ, mm_IR, mm_JI, mm_JR, mm_II, mm_JJ, mm_RR, hh, h5, n5, h6]; rfl
  · rw [if_neg c0]
    have nz : ¬ nI r.1 = 0 := nI_ne0 (by omega) (by omega)
    refine ⟨S1, r.1, rfl, ?_, fq1, aS1, i7, fun z => absurd z c0⟩
    rw [hS1]
    simp (disch := omega) [F_Reader_read_97, -Prod.exists, -Prod.forall, ↓bb_gf, ↓bb_gr, ↓bb_len, ↓bb_ga, ↓bb_gl, ↓bb_go, ↓bb_pf, ↓bb_pz, ↓bb_pr, ↓bb_pa, ↓bb_pb, ↓bb_pl, ↓bb_po, ↓bb_cl, ↓bb_some, ↓bb_RI, ↓bb_RJ, mm_hI, mm_hJ, mm_hR, mm_nI, mm_nJ, mm_nR, mm_sI, mm_sJ, mm_sR, mm_RI, mm_RJ, mm_IJ, mm_IR, mm_JI, mm_JR, mm_II, mm_JJ, mm_RR, hh, nz, h6]
/-- the text is read: n bytes of the tape, into the script at T -/
theorem read {n : Nat} {len : Nat} (hd : dRd rd q T) (hh : zh S rd = (7, 0)) (hq : zh S q = (100, 900)) (htx : ∀ k, k < tx.length → zI S q k = nI (lg tx k)) (hn : tx.length = n) (h900 : n ≤ 900) (h256 : ∀ k, lg tx k < 256) (aS : aScr S T) : ∃ S', f_Reader_read rd q (nI n) T S = some (nI (zparse tx).1, S') ∧ zfq (fun b j => wLn rd T b j ∨ (b = rd ∧ (j = 1 ∨ j = 7))) (fun b j => b = rd ∧ (j = 0 ∨ j = 3 ∨ j = 4)) S S' ∧ aScr S' T ∧ zI S' rd 7 = nI (zparse tx).2.1 ∧ ((zparse tx).1 = 0 → pScr S' T ((zparse tx).2.2.1, (zparse tx).2.2.2.2.1, (zparse tx).2.2.2.2.2) (fun _ => 0) ∧ 0 < (zparse tx).2.2.2.2.2.length) := by
  have dd := hd
  unfold dRd at dd
  obtain ⟨S1, hS1⟩ : ∃ S1, S1 = zwI (zwI (zwI (zwR (zwR (zwI (zwI (zwR S rd 0 (some q)) rd 1 (nI n)) rd 2 (nI 0)) rd 3 (some T)) rd 4 none) T 3 (nI 0)) T 4 (nI 0)) T 5 (nI 0) := ⟨_, rfl⟩
  have fq1 : zfq (fun b j => wLn rd T b j ∨ (b = rd ∧ (j = 1 ∨ j = 7))) (fun b j => b = rd ∧ (j = 0 ∨ j = 3 ∨ j = 4)) S S1 := by
    rw [hS1]
    refine fq_trans (fq_trans (fq_trans (fq_trans (fq_trans (fq_trans (fq_trans (fq_wR _ _ ?_) (fq_fr (fr_wI _ _ ?_))) (fq_fr (fr_wI _ _ ?_))) (fq_wR _ _ ?_)) (fq_wR _ _ ?_)) (fq_fr (fr_wI _ _ ?_))) (fq_fr (fr_wI _ _ ?_))) (fq_fr (fr_wI _ _ ?_))
    all_goals first | (unfold wLn; omega) | omega
  have bR : bRd S1 rd q tx := by
    refine ⟨by rw [fq_h fq1]; exact hh, by rw [hS1]; simp [mm_RR, mm_RI], by rw [fq_h fq1]; exact hq, dd.2.2, fun k hk => ?_, by rw [hS1, hn]; simp [mm_II, mm_IR, show ¬ rd = T by omega], by omega, h256⟩
    rw [fq_I fq1 (by unfold wLn; omega)]; exact htx k hk
  have i2 : zI S1 rd 2 = nI 0 := by rw [hS1]; simp [mm_II, mm_IR, show ¬ rd = T by omega]
  have aS1 : aScr S1 T := by
    have rr : ∀ b j, T ≤ b → b < T + 172 → zR S1 b j = zR S b j := fun b j q1 q2 => fq_R fq1 (by omega)
    have smP : zsm (T + 1) (T + 172) S S1 := by
      refine ⟨fq_h fq1, fun b j q1 q2 => ⟨rr b j (by omega) q2, ?_, ?_⟩⟩
      · rw [hS1]; simp [mm_II, mm_IR, show ¬ b = T by omega, show ¬ b = rd by omega]
      · rw [hS1]; rfl
    obtain ⟨⟨b1, b2, b3, b4, b5, b6, b7, b8⟩, bA⟩ := aS
    refine ⟨⟨by rw [fq_h fq1]; exact b1, by rw [rr _ _ (by omega) (by omega)]; exact b2, by rw [fq_h fq1]; exact b3, by rw [rr _ _ (by omega) (by omega)]; exact b4, by rw [fq_h fq1]; exact b5, by rw [rr _ _ (by omega) (by omega)]; exact b6, by rw [fq_h fq1]; exact b7, fun p hp => by rw [rr _ _ (by omega) (by omega)]; exact b8 p hp⟩, fun p hp => sPassA_sm (bA p hp) smP (by unfold aPs; omega) (by unfold aPs; omega)⟩
  have rS1 : rScr S1 T (0, [], [], []) := by
    refine ⟨aS1, by rw [hS1]; simp [mm_II], by rw [hS1]; simp [mm_II], by rw [hS1]; simp [mm_II], fun k hk => by simp at hk, fun k hk => by simp at hk, fun p hp => by simp at hp, ⟨by simp, rfl, by simp, fun k => by rw [lg_nil]; omega, fun n hn => by simp at hn, by simp, fun p hp => by simp at hp⟩⟩
  obtain ⟨S2, e2, f2, p2⟩ := rd_next bR i2 (by omega)
  have s2 : zsm T (T + 172) S1 S2 := sm_fr f2 (fun b j q1 q2 => by unfold wRdr; omega)
  have R2 := fr_R f2
  have r31 : zR S1 rd 3 = some T := by rw [hS1]; simp [mm_RR, mm_RI]
  have r41 : zR S1 rd 4 = none := by rw [hS1]; simp [mm_RR, mm_RI]
  have A2 : rAll S2 rd q tx (znext tx 0) T (0, [], [], []) := ⟨p2, by rw [R2]; exact r31, by rw [R2]; exact r41, rScr_sm rS1 s2⟩
  obtain ⟨S3, e3, l3⟩ := l_line hd true A2
  have e3' : f_Reader_line rd 1 S2 = some (nI (zline tx true (znext tx 0) (0, [], [], [])).1, S3) := e3
  have key := read_58 (S0 := S2) hd (fun o => ∃ S' F, F = (zparse tx).1 ∧ o = some (nI F, S') ∧ zfq (fun b j => wLn rd T b j ∨ (b = rd ∧ j = 7)) (vLn rd) S2 S' ∧ aScr S' T ∧ zI S' rd 7 = nI (zparse tx).2.1 ∧ (F = 0 → pScr S' T ((zparse tx).2.2.1, (zparse tx).2.2.2.2.1, (zparse tx).2.2.2.2.2) (fun _ => 0) ∧ 0 < (zparse tx).2.2.2.2.2.length)) (k97 := F_Reader_read_97) tx.length zF S3 _ (Nat.le_refl _) (by rw [zF_eq]; omega) (line_c true) l3 (fun S' he h7 => by
    obtain ⟨S'', F, x1, x2, x3, x4, x5, x6⟩ := read_97 hd trivial h7 he
    exact ⟨S'', F, x1, x2, x3, x4, x5, x6⟩)
  rw [Nat.sub_self] at key
  obtain ⟨S4, F, k1, k2, k3, k4, k5, k6⟩ := key
  subst k1
  refine ⟨S4, ?_, fq_trans fq1 (fq_trans (fq_fr (fr_mono f2 (fun b j hb => Or.inl (Or.inl hb)))) (fq_mono k3 (fun b j hb => hb.elim Or.inl (fun z => Or.inr (by omega))) (fun b j hb => by unfold vLn at hb; omega))), k4, k5, k6⟩
  have hT := aS.1.1
  have mx : zmax 0 (zmin (nI n) (nI 900)) = nI n := by
    rw [nn_min (by omega) (by omega), show min n 900 = n by omega, show (0 : Int32) = nI 0 from rfl, nn_max (by omega) (by omega)]; congr 1
  have hh1 : zh S1 rd = (7, 0) := bR.1
  have hh2 : zh S2 rd = (7, 0) := p2.1.1
  rw [← k2]
  unfold f_Reader_read f_Script_drop
  have rq : zR (zwR S rd 0 (some q)) rd 0 = some q := by simp [mm_RR]
  have rT : ∀ X : zM, zR (zwR (zwR X rd 3 (some T)) rd 4 none) rd 3 = some T := fun X => by simp [mm_RR]
  simp only [↓bb_pr, ↓bb_gr, ↓bb_len, ↓bb_pf, ↓bb_cl, ↓bb_some, mm_hR, mm_hI, hh, if_true, ↓bS rq, hq, mx, ↓bS (rT _), hT]
  rw [show (0 : Int32) = nI 0 from rfl, ← hS1]
  simp only [↓bb_cl, ↓bb_some, hh1, if_true, ↓bS e2, hh2, ↓bS e3']
end
