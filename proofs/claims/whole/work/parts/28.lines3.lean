/-! the class's reader: passes and rules -/
theorem pa_app1 {ps : List zPs} {x : zPs} {p : Nat} (h : p < ps.length) : zpa_ (ps ++ [x]) p = zpa_ ps p := by
  simp [zpa_, List.getElem?_append_left h]
theorem pa_app2 {ps : List zPs} {x : zPs} : zpa_ (ps ++ [x]) ps.length = x := by simp [zpa_]
theorem ru_app1 {rs : List zRu} {x : zRu} {i : Nat} (h : i < rs.length) : zru (rs ++ [x]) i = zru rs i := by
  simp [zru, List.getElem?_append_left h]
theorem ru_app2 {rs : List zRu} {x : zRu} : zru (rs ++ [x]) rs.length = x := by simp [zru]
section
variable {S : zM} {rd q T : Nat} {tx : List Nat} {t : zTk} {st : zRt}
theorem wPs_app {ps : List zPs} (h : wPs ps) (h3 : ps.length < 3) {ag : Bool} {rs : List zRu} (hr : wRs rs) : wPs (ps ++ [(ag, rs)]) := by
  refine ⟨by simp; omega, fun p hp => ?_⟩
  rcases List.mem_append.1 hp with q | q
  · exact h.2 p q
  · rw [List.mem_singleton.1 q]; exact hr
theorem l_pass (hd : dRd rd q T) (h : rAll S rd q tx t T st) : ∃ S', f_Reader_passLine rd S = some (nI (zpassLine tx t st).1, S') ∧ eLn S S' rd q tx T (zpassLine tx t st) := by
  have h0 := h
  obtain ⟨hp, r3, r4, hR⟩ := h
  have hh := hp.1.1
  obtain ⟨⟨⟨b1, b2, b3, b4, b5, b6, b7, b8⟩, bA⟩, a2, a3, a4, a5, a6, a7, w⟩ := hR
  have w3 := w.2.2.2.2.2.1
  have dd := hd
  unfold dRd at dd
  obtain ⟨n, hn⟩ : ∃ n, n = st.2.2.2.length := ⟨_, rfl⟩
  rw [← hn] at a4 w3
  by_cases c0 : 3 ≤ n
  · have ez : zpassLine tx t st = (5, t, st) := by simp [zpassLine, ← hn, c0]
    rw [ez]
    have ea : f_Script_addPass T S = some (none, S) := by
      simp (disch := omega) [f_Script_addPass, -Prod.exists, -Prod.forall, ↓bb_gf, ↓bb_gr, ↓bb_len, ↓bb_ga, ↓bb_gl, ↓bb_go, ↓bb_pf, ↓bb_pz, ↓bb_pr, ↓bb_pa, ↓bb_pb, ↓bb_pl, ↓bb_po, ↓bb_cl, ↓bb_some, ↓bb_RI, ↓bb_RJ, mm_hI, mm_hJ, mm_hR, mm_nI, mm_nJ, mm_nR, mm_sI, mm_sJ, mm_sR, mm_RI, mm_RJ, mm_IJ, mm_IR, mm_JI, mm_JR, mm_II, mm_JJ, mm_RR, nn_lit, nI_add, pk_mul, nI_clamp, nI_ltI, nI_leI, nI_eq, nn_in, nn_eqm, nn_meq, nn_ltm, nn_mlt, nn_lem, nn_mle, nn_in_m, b1, a4, show ¬ n < 3 by omega]
    have fq : zfq (fun _ _ => False) (vLn rd) S (zwR S rd 4 none) := fq_wR _ _ ⟨rfl, rfl⟩
    have sm : zsm T (T + 172) S (zwR S rd 4 none) := sm_fq fq (fun b j q1 q2 => ⟨fun z => z, by unfold vLn; omega⟩)
    refine ⟨zwR S rd 4 none, ?_, fq_mono fq (fun _ _ z => z.elim) (fun _ _ z => z), by simp [mm_RR, r3], ?_, aScr_sm ⟨⟨b1, b2, b3, b4, b5, b6, b7, b8⟩, bA⟩ sm, fun q => by simp at q⟩
    · simp (disch := omega) [f_Reader_passLine, -Prod.exists, -Prod.forall, ↓bb_gf, ↓bb_gr, ↓bb_len, ↓bb_ga, ↓bb_gl, ↓bb_go, ↓bb_pf, ↓bb_pz, ↓bb_pr, ↓bb_pa, ↓bb_pb, ↓bb_pl, ↓bb_po, ↓bb_cl, ↓bb_some, ↓bb_RI, ↓bb_RJ, mm_hI, mm_hJ, mm_hR, mm_nI, mm_nJ, mm_nR, mm_sI, mm_sJ, mm_sR, mm_RI, mm_RJ, mm_IJ, mm_IR, mm_JI, mm_JR, mm_II, mm_JJ, mm_RR, hh, ↓bS r3, b1, ↓bS ea]; rfl
    · obtain ⟨⟨x1, x2, x3, x4, x5, x6, x7, x8⟩, y1⟩ := hp
      exact ⟨⟨x1, by simp [mm_RR, x2], x3, x4, x5, x6, x7, x8⟩, y1⟩
  · have lt3 : n < 3 := by omega
    obtain ⟨P, hP⟩ : ∃ P, P = aPs T n := ⟨_, rfl⟩
    have hPv : P = T + 4 + 56 * n := hP
    have sA := bA n lt3
    rw [← hP] at sA
    have hPh := sA.1.1
    have rP := b8 n lt3
    rw [← hP] at rP
    obtain ⟨S1, hS1⟩ : ∃ S1, S1 = zwI (zwI (zwI (zwI S P 3 (nI 0)) P 4 (nI 0)) P 5 (nI 0)) T 5 (nI (n + 1)) := ⟨_, rfl⟩
    have f1 : zfr (fun b j => (b = P ∧ (j = 3 ∨ j = 4 ∨ j = 5)) ∨ (b = T ∧ j = 5)) S S1 := by
      rw [hS1]
      exact fr_trans (fr_trans (fr_trans (fr_wI _ _ (by omega)) (fr_wI _ _ (by omega))) (fr_wI _ _ (by omega))) (fr_wI _ _ (by omega))
    have ea : f_Script_addPass T S = some (some P, S1) := by
      rw [hS1]
      simp (disch := omega) [f_Script_addPass, f_Pass_drop, -Prod.exists, -Prod.forall, ↓bb_gf, ↓bb_gr, ↓bb_len, ↓bb_ga, ↓bb_gl, ↓bb_go, ↓bb_pf, ↓bb_pz, ↓bb_pr, ↓bb_pa, ↓bb_pb, ↓bb_pl, ↓bb_po, ↓bb_cl, ↓bb_some, ↓bb_RI, ↓bb_RJ, mm_hI, mm_hJ, mm_hR, mm_nI, mm_nJ, mm_nR, mm_sI, mm_sJ, mm_sR, mm_RI, mm_RJ, mm_IJ, mm_IR, mm_JI, mm_JR, mm_II, mm_JJ, mm_RR, nn_lit, nI_add, pk_mul, nI_clamp, nI_ltI, nI_leI, nI_eq, nn_in, nn_eqm, nn_meq, nn_ltm, nn_mlt, nn_lem, nn_mle, nn_in_m, b1, a4, lt3, ↓bS b6, b7, rP, hPh, show ¬ T = P by omega]
    obtain ⟨S2, hS2⟩ : ∃ S2, S2 = zwR S1 rd 4 (some P) := ⟨_, rfl⟩
    have fq2 : zfq (fun b j => (b = P ∧ (j = 3 ∨ j = 4 ∨ j = 5)) ∨ (b = T ∧ j = 5)) (vLn rd) S S2 := by
      rw [hS2]; exact fq_trans (fq_fr f1) (fq_wR _ _ ⟨rfl, rfl⟩)
    have r32 : zR S2 rd 3 = some T := by rw [fq_R fq2 (by unfold vLn; omega)]; exact r3
    have r42 : zR S2 rd 4 = some P := by rw [hS2]; simp [mm_RR]
    have hh2 : zh S2 = zh S := fq_h fq2
    have p2 : pRd S2 rd q tx t := by
      obtain ⟨⟨x1, x2, x3, x4, x5, x6, x7, x8⟩, y1, y2, y3, y4⟩ := hp
      have g : ∀ j, zI S2 rd j = zI S rd j := fun j => fq_I fq2 (by omega)
      have g2 : ∀ j, zI S2 q j = zI S q j := fun j => fq_I fq2 (by omega)
      exact ⟨⟨by rw [hh2]; exact x1, by rw [fq_R fq2 (by unfold vLn; omega)]; exact x2, by rw [hh2]; exact x3, x4, fun k hk => by rw [g2]; exact x5 k hk, by rw [g]; exact x6, x7, x8⟩, by rw [g]; exact y1, by rw [g]; exact y2, by rw [g]; exact y3, y4⟩
    -- the script with a pass more, again or not
    have mk : ∀ (S' : zM) (ag : Bool), zfq (fun b j => (b = P ∧ (j = 3 ∨ j = 4 ∨ j = 5)) ∨ (b = T ∧ j = 5) ∨ wRdr rd b j) (vLn rd) S S' → zI S' T 5 = nI (n + 1) → zI S' P 3 = nI 0 → zI S' P 4 = (if ag then 1 else 0) → zI S' P 5 = nI 0 → rScr S' T (st.1, st.2.1, st.2.2.1, st.2.2.2 ++ [(ag, [])]) := by
      intro S' ag fq e5 p3 p4 p5
      have g : ∀ b j, T ≤ b → b < T + 172 → zR S' b j = zR S b j := fun b j q1 q2 => fq_R fq (by unfold vLn; omega)
      have oth : ∀ p, p < 3 → p ≠ n → zsm (aPs T p) (aPs T p + 56) S S' := fun p hp hne => sm_fq fq (fun b j q1 q2 => by unfold vLn wRdr; unfold aPs at q1 q2; omega)
      have smP : zsm (P + 1) (P + 56) S S' := sm_fq fq (fun b j q1 q2 => by unfold vLn wRdr; omega)
      have sP : sPass S' P := by
        obtain ⟨z1, z2, z3, z4, z5, z6⟩ := sA.1
        exact ⟨by rw [fq_h fq]; exact z1, by rw [g _ _ (by omega) (by omega)]; exact z2, by rw [fq_h fq]; exact z3, fun i hi => by rw [g _ _ (by omega) (by omega)]; exact z4 i hi, by rw [g _ _ (by omega) (by omega)]; exact z5, by rw [g _ _ (by omega) (by omega)]; exact z6⟩
      refine ⟨⟨⟨by rw [fq_h fq]; exact b1, by rw [g _ _ (by omega) (by omega)]; exact b2, by rw [fq_h fq]; exact b3, by rw [g _ _ (by omega) (by omega)]; exact b4, by rw [fq_h fq]; exact b5, by rw [g _ _ (by omega) (by omega)]; exact b6, by rw [fq_h fq]; exact b7, fun p hp => by rw [g _ _ (by omega) (by omega)]; exact b8 p hp⟩, fun p hp => ?_⟩, ?_, ?_, ?_, fun k hk => ?_, fun k hk => ?_, fun p hp => ?_, ⟨w.1, w.2.1, w.2.2.1, w.2.2.2.1, w.2.2.2.2.1, wPs_app w.2.2.2.2.2 (by omega) ⟨by simp, fun r hr => by simp at hr⟩⟩⟩
      · by_cases e : p = n
        · subst e
          rw [← hP]
          exact ⟨sP, sMach_sm sA.2.1 smP (by omega) (by omega), sMach_sm sA.2.2.1 smP (by omega) (by omega), fun i hi => by
            obtain ⟨ru, hr⟩ := sA.2.2.2 i hi
            exact ⟨ru, rule_sm hr smP (by omega) (by omega)⟩⟩
        · exact sPassA_sm (bA p hp) (oth p hp e) (by omega) (by omega)
      · rw [fq_I fq (by unfold wRdr; omega)]; exact a2
      · rw [fq_I fq (by unfold wRdr; omega)]; exact a3
      · rw [e5]; simp [hn]
      · rw [fq_I fq (by unfold wRdr; omega)]; exact a5 k hk
      · rw [fq_J fq (by unfold wRdr; omega)]; exact a6 k hk
      · simp only [List.length_append, List.length_cons, List.length_nil, ← hn] at hp
        by_cases e : p = n
        · subst e
          rw [show zpa_ (st.2.2.2 ++ [(ag, [])]) p = (ag, []) by rw [hn]; exact pa_app2, ← hP]
          exact ⟨sP, p3, p4, p5, fun i hi => by simp at hi, ⟨by simp, fun r hr => by simp at hr⟩, by omega⟩
        · rw [pa_app1 (by omega)]
          exact qPass_sm (a7 p (by omega)) (oth p (by omega) e) (by omega) (by omega)
    obtain ⟨S3, e3, f3, p3, s3, h3, R3⟩ := r_next hd p2
    have hh3 : zh S3 = zh S := h3.trans hh2
    obtain ⟨t1, ht1⟩ : ∃ t1, t1 = znext tx t.2.1 := ⟨_, rfl⟩
    rw [← ht1] at p3
    have is3 := rd_is p3 (show 6 < 13 by omega)
    have fq3 : zfq (fun b j => (b = P ∧ (j = 3 ∨ j = 4 ∨ j = 5)) ∨ (b = T ∧ j = 5) ∨ wRdr rd b j) (vLn rd) S S3 := fq_trans (fq_mono fq2 (fun b j hb => by omega) (fun _ _ z => z)) (fq_fr (fr_mono f3 (fun b j hb => Or.inr (Or.inr hb))))
    have i3 : ∀ b j, T ≤ b → b < T + 172 → zI S3 b j = zI S1 b j := fun b j q1 q2 => by rw [(s3.2 b j q1 q2).2.1, hS2]; rfl
    have eq5 : zI S3 T 5 = nI (n + 1) := by rw [i3 _ _ (by omega) (by omega), hS1]; simp [mm_II]
    have eP3 : zI S3 P 3 = nI 0 := by rw [i3 _ _ (by omega) (by omega), hS1]; simp [mm_II, show ¬ P = T by omega]
    have eP4 : zI S3 P 4 = nI 0 := by rw [i3 _ _ (by omega) (by omega), hS1]; simp [mm_II, show ¬ P = T by omega]
    have eP5 : zI S3 P 5 = nI 0 := by rw [i3 _ _ (by omega) (by omega), hS1]; simp [mm_II, show ¬ P = T by omega]
    have r33 : zR S3 rd 3 = some T := by rw [R3]; exact r32
    have r43 : zR S3 rd 4 = some P := by rw [R3]; exact r42
    have hrd2 : zh S2 rd = (7, 0) := by rw [hh2]; exact hh
    have hrd3 : zh S3 rd = (7, 0) := by rw [hh3]; exact hh
    have hP3 : zh S3 P = (5, 0) := by rw [hh3]; exact hPh
    have hS1h : zh S1 rd = (7, 0) := by rw [fr_h f1]; exact hh
    have ln1 : ∀ x : zPs, (st.2.2.2 ++ [x]).length - 1 = n := fun x => by simp [hn]
    cases c1 : zisw tx t1 6 with
    | false =>
      rw [c1] at is3
      simp only [Bool.false_eq_true, if_false] at is3
      have ez : zpassLine tx t st = (0, t1, (st.1, st.2.1, st.2.2.1, st.2.2.2 ++ [(false, [])])) := by
        simp only [zpassLine, ← hn, if_neg c0, ← ht1, c1, Bool.false_eq_true, if_false]
      rw [ez]
      have rS := mk S3 false fq3 eq5 eP3 (by rw [eP4]; rfl) eP5
      have rA : rAll S3 rd q tx t1 T (st.1, st.2.1, st.2.2.1, st.2.2.2 ++ [(false, [])]) := ⟨p3, r33, by rw [r43]; simp only [ln1]; simp [hP], rS⟩
      refine ⟨S3, ?_, fq_mono fq3 (fun b j hb => by unfold wLn; unfold wRdr at hb; omega) (fun _ _ z => z), r33, p3, rS.1, fun _ => rA⟩
      simp (disch := omega) [f_Reader_passLine, -Prod.exists, -Prod.forall, ↓bb_gf, ↓bb_gr, ↓bb_len, ↓bb_ga, ↓bb_gl, ↓bb_go, ↓bb_pf, ↓bb_pz, ↓bb_pr, ↓bb_pa, ↓bb_pb, ↓bb_pl, ↓bb_po, ↓bb_cl, ↓bb_some, ↓bb_RI, ↓bb_RJ, mm_hI, mm_hJ, mm_hR, mm_nI, mm_nJ, mm_nR, mm_sI, mm_sJ, mm_sR, mm_RI, mm_RJ, mm_IJ, mm_IR, mm_JI, mm_JR, mm_II, mm_JJ, mm_RR, hh, ↓bS r3, b1, ↓bS ea, hS1h]
      rw [← hS2]
      simp (disch := omega) [-Prod.exists, -Prod.forall, ↓bb_gf, ↓bb_gr, ↓bb_len, ↓bb_ga, ↓bb_gl, ↓bb_go, ↓bb_pf, ↓bb_pz, ↓bb_pr, ↓bb_pa, ↓bb_pb, ↓bb_pl, ↓bb_po, ↓bb_cl, ↓bb_some, ↓bb_RI, ↓bb_RJ, mm_hI, mm_hJ, mm_hR, mm_nI, mm_nJ, mm_nR, mm_sI, mm_sJ, mm_sR, mm_RI, mm_RJ, mm_IJ, mm_IR, mm_JI, mm_JR, mm_II, mm_JJ, mm_RR, hrd2, ↓bS e3, hrd3, ↓bS is3]; rfl
    | true =>
      rw [c1] at is3
      simp only [if_true] at is3
      have ez : zpassLine tx t st = (0, znext tx t1.2.1, (st.1, st.2.1, st.2.2.1, st.2.2.2 ++ [(true, [])])) := by
        simp only [zpassLine, ← hn, if_neg c0, ← ht1, c1, if_true]
      rw [ez]
      have fw : zfr (fun b j => b = P ∧ j = 4) S3 (zwI S3 P 4 1) := fr_wI _ _ ⟨rfl, rfl⟩
      have p4 : pRd (zwI S3 P 4 1) rd q tx t1 := pRd_fr p3 fw (fun j => by omega) (fun j => by omega)
      obtain ⟨S5, e5, f5, p5, s5, h5, R5⟩ := r_next hd p4
      have fq5 : zfq (fun b j => (b = P ∧ (j = 3 ∨ j = 4 ∨ j = 5)) ∨ (b = T ∧ j = 5) ∨ wRdr rd b j) (vLn rd) S S5 := fq_trans fq3 (fq_trans (fq_fr (fr_mono fw (fun b j hb => by omega))) (fq_fr (fr_mono f5 (fun b j hb => Or.inr (Or.inr hb)))))
      have i5 : ∀ b j, T ≤ b → b < T + 172 → zI S5 b j = zI (zwI S3 P 4 1) b j := fun b j q1 q2 => (s5.2 b j q1 q2).2.1
      have rS := mk S5 true fq5 (by rw [i5 _ _ (by omega) (by omega)]; simp [mm_II, eq5]) (by rw [i5 _ _ (by omega) (by omega)]; simp [mm_II, eP3]) (by rw [i5 _ _ (by omega) (by omega)]; simp [mm_II]) (by rw [i5 _ _ (by omega) (by omega)]; simp [mm_II, eP5])
      have r35 : zR S5 rd 3 = some T := by rw [R5]; exact r33
      have r45 : zR S5 rd 4 = some P := by rw [R5]; exact r43
      have rA : rAll S5 rd q tx (znext tx t1.2.1) T (st.1, st.2.1, st.2.2.1, st.2.2.2 ++ [(true, [])]) := ⟨p5, r35, by rw [r45]; simp only [ln1]; simp [hP], rS⟩
      refine ⟨S5, ?_, fq_mono fq5 (fun b j hb => by unfold wLn; unfold wRdr at hb; omega) (fun _ _ z => z), r35, p5, rS.1, fun _ => rA⟩
      simp (disch := omega) [f_Reader_passLine, -Prod.exists, -Prod.forall, ↓bb_gf, ↓bb_gr, ↓bb_len, ↓bb_ga, ↓bb_gl, ↓bb_go, ↓bb_pf, ↓bb_pz, ↓bb_pr, ↓bb_pa, ↓bb_pb, ↓bb_pl, ↓bb_po, ↓bb_cl, ↓bb_some, ↓bb_RI, ↓bb_RJ, mm_hI, mm_hJ, mm_hR, mm_nI, mm_nJ, mm_nR, mm_sI, mm_sJ, mm_sR, mm_RI, mm_RJ, mm_IJ, mm_IR, mm_JI, mm_JR, mm_II, mm_JJ, mm_RR, hh, ↓bS r3, b1, ↓bS ea, hS1h]
      rw [← hS2]
      simp (disch := omega) [-Prod.exists, -Prod.forall, ↓bb_gf, ↓bb_gr, ↓bb_len, ↓bb_ga, ↓bb_gl, ↓bb_go, ↓bb_pf, ↓bb_pz, ↓bb_pr, ↓bb_pa, ↓bb_pb, ↓bb_pl, ↓bb_po, ↓bb_cl, ↓bb_some, ↓bb_RI, ↓bb_RJ, mm_hI, mm_hJ, mm_hR, mm_nI, mm_nJ, mm_nR, mm_sI, mm_sJ, mm_sR, mm_RI, mm_RJ, mm_IJ, mm_IR, mm_JI, mm_JR, mm_II, mm_JJ, mm_RR, hrd2, ↓bS e3, hrd3, ↓bS is3, ↓bS r43, hP3, ↓bS e5]; rfl
end
