/-! the class's reader: kinds and passes -/
theorem lb_lt (cs : List Nat) : zlb cs < 256 := bits_lt _ 8
theorem lb_nodup {cs : List Nat} (h : ∀ c ∈ cs, 97 ≤ c ∧ c ≤ 104) : zpop_ (zlb cs) = cs.length ↔ cs.Nodup := by
  have hp : ((List.range 8).filter (fun i => (zlb cs).testBit i)) = (List.range 8).filter (fun i => cs.contains (97 + i)) := by
    refine List.filter_congr (fun i hi => ?_)
    rw [zlb, bits_tb]; simp [List.mem_range.1 hi]
  have key : ∀ ds : List Nat, (∀ c ∈ ds, 97 ≤ c ∧ c ≤ 104) → ((List.range 8).filter (fun i => ds.contains (97 + i))).length ≤ ds.length ∧ (((List.range 8).filter (fun i => ds.contains (97 + i))).length = ds.length ↔ ds.Nodup) := by
    intro ds
    induction ds with
    | nil => intro _; decide
    | cons a ds ih =>
      intro hc
      obtain ⟨i1, i2⟩ := ih (fun c hcc => hc c (List.mem_cons_of_mem _ hcc))
      have ha := hc a (by simp)
      by_cases hm : a ∈ ds
      · have e : (List.range 8).filter (fun i => (a :: ds).contains (97 + i)) = (List.range 8).filter (fun i => ds.contains (97 + i)) := by
          refine List.filter_congr (fun i hi => ?_)
          by_cases q : 97 + i = a
          · subst q; simp [hm]
          · simp [q]
        rw [e]
        refine ⟨by rw [List.length_cons]; omega, ?_⟩
        simp only [List.length_cons, List.nodup_cons, hm, not_true, false_and, iff_false]
        omega
      · have e : ((List.range 8).filter (fun i => (a :: ds).contains (97 + i))).length = ((List.range 8).filter (fun i => ds.contains (97 + i))).length + 1 := by
          have cnt : ∀ (p : Nat → Bool), ((List.range 8).filter p).length = (List.range 8).countP p := fun p => List.countP_eq_length_filter.symm
          rw [cnt, cnt]
          obtain ⟨k, hk, e⟩ : ∃ k, k < 8 ∧ a = 97 + k := ⟨a - 97, by omega, by omega⟩
          subst e
          have f0 : ds.contains (97 + k) = false := by simpa using hm
          have g : ∀ i, ((97 + k) :: ds).contains (97 + i) = (ds.contains (97 + i) || decide (i = k)) := by
            intro i
            by_cases q : i = k
            · subst q; simp
            · have : ¬ 97 + i = 97 + k := by omega
              simp [q]
          have st : ∀ n, (List.range n).countP (fun i => ((97 + k) :: ds).contains (97 + i)) = (List.range n).countP (fun i => ds.contains (97 + i)) + (if k < n then 1 else 0) := by
            intro n
            induction n with
            | zero => simp
            | succ n ih =>
              rw [List.range_succ, List.countP_append, List.countP_append, ih]
              simp only [List.countP_cons, List.countP_nil, g]
              by_cases q : n = k
              · subst q; simp [hm]
              · have : (k < n + 1) ↔ k < n := by omega
                simp [q, this]; omega
          rw [st 8, if_pos hk]
        rw [e]
        refine ⟨by rw [List.length_cons]; omega, ?_⟩
        simp only [List.length_cons, List.nodup_cons, hm, not_false_eq_true, true_and]
        rw [← i2]; omega
  unfold zpop_
  rw [hp]
  exact (key cs h).2
section
variable {S : zM} {rd q T : Nat} {tx : List Nat} {t : zTk} {st : zRt}
theorem scr_addKind (h : rScr S T st) {nm : List Nat} (hn : wNm nm) {b : Nat} (hb : b < 256) (h4 : st.2.2.1.length < 4) : ∃ S', f_Script_addKind T (lN (zn256 nm)) (nI b) S = some S' ∧ zfr (rg T (T + 3)) S S' ∧ rScr S' T (st.1, st.2.1 ++ [nm], st.2.2.1 ++ [b], st.2.2.2) := by
  have h0 := h
  obtain ⟨⟨⟨b1, b2, b3, b4, b5, b6, b7, b8⟩, bA⟩, a2, a3, a4, a5, a6, a7, w1, w2, w3, w4, w5, w6⟩ := h
  obtain ⟨n, hnn⟩ : ∃ n, n = st.2.2.1.length := ⟨_, rfl⟩
  rw [← hnn] at a3 h4 w2
  obtain ⟨S1, hS1⟩ : ∃ S1, S1 = zwI (zwI (zwJ S (T + 1) n (lN (zn256 nm))) (T + 2) n (nI b)) T 4 (nI (n + 1)) := ⟨_, rfl⟩
  have f1 : zfr (rg T (T + 3)) S S1 := by
    rw [hS1]
    exact fr_trans (fr_trans (fr_wJ _ _ ⟨by omega, by omega⟩) (fr_wI _ _ ⟨by omega, by omega⟩)) (fr_wI _ _ ⟨by omega, by omega⟩)
  have sm : zsm (T + 3) (T + 172) S S1 := sm_fr f1 (fun b j q1 q2 => by unfold rg; omega)
  refine ⟨S1, ?_, f1, ⟨⟨?_, fun p hp => sPassA_sm (bA p hp) sm (by unfold aPs; omega) (by unfold aPs; omega)⟩, ?_, ?_, ?_, fun k hk => ?_, fun k hk => ?_, fun p hp => ?_, ⟨w1, by simp [w2, ← hnn], by simp [← hnn]; omega, fun k => ?_, fun m hm => ?_, w6⟩⟩⟩
  · rw [hS1]
    simp (disch := omega) [f_Script_addKind, -Prod.exists, -Prod.forall, ↓bb_gf, ↓bb_gr, ↓bb_len, ↓bb_ga, ↓bb_gl, ↓bb_go, ↓bb_pf, ↓bb_pz, ↓bb_pr, ↓bb_pa, ↓bb_pb, ↓bb_pl, ↓bb_po, ↓bb_cl, ↓bb_some, ↓bb_RI, ↓bb_RJ, mm_hI, mm_hJ, mm_hR, mm_nI, mm_nJ, mm_nR, mm_sI, mm_sJ, mm_sR, mm_RI, mm_RJ, mm_IJ, mm_IR, mm_JI, mm_JR, mm_II, mm_JJ, mm_RR, nn_lit, nI_add, pk_mul, nI_clamp, nI_ltI, nI_leI, nI_eq, nn_in, nn_eqm, nn_meq, nn_ltm, nn_mlt, nn_lem, nn_mle, nn_in_m, b1, a3, h4, ↓bS b2, b3, ↓bS b4, b5]
  · rw [hS1]; exact ⟨b1, b2, b3, b4, b5, b6, b7, b8⟩
  · rw [hS1]; simp [mm_II, mm_IJ, a2]
  · rw [hS1]; simp [mm_II, ← hnn]
  · rw [hS1]; simp [mm_II, mm_IJ, a4]
  · simp only [List.length_append, List.length_cons, List.length_nil, ← hnn] at hk
    rw [hS1]
    by_cases e : k = n
    · subst e; simp only [mm_II]; simp; rw [hnn, lg_end]
    · simp [mm_II, mm_IJ, e]; rw [a5 k (by omega), lg_app1 (by omega)]
  · simp only [List.length_append, List.length_cons, List.length_nil, w2] at hk
    rw [hS1]
    by_cases e : k = n
    · subst e; simp [mm_JI, mm_JJ, lnm, ← w2]
    · simp [mm_JI, mm_JJ, e]; rw [a6 k (by omega)]; simp [lnm, List.getElem?_append_left (show k < st.2.1.length by omega)]
  · have hp' : p < st.2.2.2.length := hp
    exact qPass_sm (a7 p hp') sm (by unfold aPs; omega) (by have := w6.1; unfold aPs; omega)
  · by_cases e : k < st.2.2.1.length
    · rw [lg_app1 e]; exact w4 k
    · rw [lg_app2 (by omega)]
      cases hx : k - st.2.2.1.length with
      | zero => rw [lg_cons0]; exact hb
      | succ m => rw [lg_consS, lg_nil]; omega
  · rcases List.mem_append.1 hm with q | q
    · exact w5 m q
    · rw [List.mem_singleton.1 q]; exact hn
theorem l_kind (hd : dRd rd q T) (h : rAll S rd q tx t T st) : ∃ S', f_Reader_kindLine rd S = some (nI (zkindLine tx t st).1, S') ∧ eLn S S' rd q tx T (zkindLine tx t st) := by
  have hh := h.1.1.1
  have hT := h.2.2.2.1.1.1
  have r3 := h.2.1
  have k4 := h.2.2.2.2.2.1
  have k44 := h.2.2.2.2.2.2.2.2.2.2.2.2.1
  by_cases c0 : 4 ≤ st.2.2.1.length
  · have ez : zkindLine tx t st = (5, t, st) := by simp [zkindLine, c0]
    rw [ez]
    refine ⟨S, ?_, e_stop h h.1 ⟨rfl, fun _ _ _ _ => ⟨rfl, rfl, rfl⟩⟩ rfl (fr_refl _ _) (by omega)⟩
    simp (disch := omega) [f_Reader_kindLine, -Prod.exists, -Prod.forall, ↓bb_gf, ↓bb_gr, ↓bb_len, ↓bb_ga, ↓bb_gl, ↓bb_go, ↓bb_pf, ↓bb_pz, ↓bb_pr, ↓bb_pa, ↓bb_pb, ↓bb_pl, ↓bb_po, ↓bb_cl, ↓bb_some, ↓bb_RI, ↓bb_RJ, mm_hI, mm_hJ, mm_hR, mm_nI, mm_nJ, mm_nR, mm_sI, mm_sJ, mm_sR, mm_RI, mm_RJ, mm_IJ, mm_IR, mm_JI, mm_JR, mm_II, mm_JJ, mm_RR, nn_lit, nI_add, pk_mul, nI_clamp, nI_ltI, nI_leI, nI_eq, nn_in, nn_eqm, nn_meq, nn_ltm, nn_mlt, nn_lem, nn_mle, nn_in_m, hh, ↓bS r3, hT, k4, show ¬ st.2.2.1.length < 4 by omega]
  · have lt4 : st.2.2.1.length < 4 := by omega
    obtain ⟨S1, e1, f1, p1, s1, h1, R1⟩ := r_next hd h.1
    have hh1 : zh S1 rd = (7, 0) := by rw [h1]; exact hh
    have hT1 : zh S1 T = (10, 0) := by rw [h1]; exact hT
    obtain ⟨t1, ht1⟩ : ∃ t1, t1 = znext tx t.2.1 := ⟨_, rfl⟩
    rw [← ht1] at p1
    have h51 := p1.2.2.2.1
    have h21 := p1.2.1
    have h61 := p1.2.2.1
    have w1 := p1.2.2.2.2
    have w11 := w1.1
    have w12 := w1.2.1
    have w13 := w1.2.2.1
    have t900 := p1.1.2.2.2.2.2.2.1
    have esub : nI t1.2.1 - nI t1.1 = nI (t1.2.1 - t1.1) := pk_sub w11
    have kp := rd_kept p1
    by_cases c1 : t1.2.2 = 1 ∧ 2 ≤ t1.2.1 - t1.1 ∧ zkept tx t1 = false
    · obtain ⟨ca, cb, cc⟩ := c1
      rw [cc] at kp
      simp only [Bool.false_eq_true, if_false] at kp
      have nm1 := sl_nm w1 ca
      have A1 := r_all h p1 s1 R1
      have na := rd_name p1
      have lk := scr_kind (kOf A1.2.2.2) nm1
      have r31 : zR S1 rd 3 = some T := A1.2.1
      by_cases c2 : zsl tx t1 ∈ st.2.1
      · have ez : zkindLine tx t st = (3, t1, st) := by
          simp only [zkindLine, if_neg c0, ← ht1, ca, cb, cc, true_and, and_true, if_true, if_pos c2]
        rw [ez]
        rw [if_pos c2] at lk
        have lt := A1.2.2.2.2.2.2.2.2.2.2.2.2.2.1 (st.2.1.idxOf (zsl tx t1))
        refine ⟨S1, ?_, e_stop h p1 s1 R1 f1 (by omega)⟩
        simp (disch := omega) [f_Reader_kindLine, -Prod.exists, -Prod.forall, ↓bb_gf, ↓bb_gr, ↓bb_len, ↓bb_ga, ↓bb_gl, ↓bb_go, ↓bb_pf, ↓bb_pz, ↓bb_pr, ↓bb_pa, ↓bb_pb, ↓bb_pl, ↓bb_po, ↓bb_cl, ↓bb_some, ↓bb_RI, ↓bb_RJ, mm_hI, mm_hJ, mm_hR, mm_nI, mm_nJ, mm_nR, mm_sI, mm_sJ, mm_sR, mm_RI, mm_RJ, mm_IJ, mm_IR, mm_JI, mm_JR, mm_II, mm_JJ, mm_RR, nn_lit, nI_add, pk_mul, nI_clamp, nI_ltI, nI_leI, nI_eq, nn_in, nn_eqm, nn_meq, nn_ltm, nn_mlt, nn_lem, nn_mle, nn_in_m, hh, ↓bS r3, hT, k4, lt4, ↓bS e1, hh1, h51, ca, h21, h61, esub, show ¬ t1.2.1 - t1.1 < 2 by omega, ↓bS kp, ↓bS na, ↓bS r31, hT1, ↓bS lk]
      · rw [if_neg c2] at lk
        have lk' : f_Script_lettersOfKind T (lN (zn256 (zsl tx t1))) S1 = some (-nI 1, S1) := lk
        obtain ⟨S2, e2, f2, p2, s2, h2, R2⟩ := r_next hd p1
        have hh2 : zh S2 rd = (7, 0) := by rw [h2]; exact hh1
        have f12 := fr_trans f1 f2
        have s12 := sm_trans s1 s2
        have R12 : zR S2 = zR S := R2.trans R1
        obtain ⟨t2, ht2⟩ : ∃ t2, t2 = znext tx t1.2.1 := ⟨_, rfl⟩
        rw [← ht2] at p2
        have is2 := rd_is p2 (show 5 < 13 by omega)
        cases c3 : zisw tx t2 5 with
        | false =>
          rw [c3] at is2
          simp only [Bool.false_eq_true, if_false] at is2
          have is2' : f_Reader_is rd (1000000 + 5) S2 = some (nI 0, S2) := is2
          have ez : zkindLine tx t st = (1, t2, st) := by
            simp only [zkindLine, if_neg c0, ← ht1, ca, cb, cc, true_and, and_true, if_true, if_neg c2, ← ht2, c3, Bool.false_eq_true, if_false]
          rw [ez]
          refine ⟨S2, ?_, e_stop h p2 s12 R12 f12 (by omega)⟩
          simp (disch := omega) [f_Reader_kindLine, -Prod.exists, -Prod.forall, ↓bb_gf, ↓bb_gr, ↓bb_len, ↓bb_ga, ↓bb_gl, ↓bb_go, ↓bb_pf, ↓bb_pz, ↓bb_pr, ↓bb_pa, ↓bb_pb, ↓bb_pl, ↓bb_po, ↓bb_cl, ↓bb_some, ↓bb_RI, ↓bb_RJ, mm_hI, mm_hJ, mm_hR, mm_nI, mm_nJ, mm_nR, mm_sI, mm_sJ, mm_sR, mm_RI, mm_RJ, mm_IJ, mm_IR, mm_JI, mm_JR, mm_II, mm_JJ, mm_RR, nn_lit, nI_add, pk_mul, nI_clamp, nI_ltI, nI_leI, nI_eq, nn_in, nn_eqm, nn_meq, nn_ltm, nn_mlt, nn_lem, nn_mle, nn_in_m, hh, ↓bS r3, hT, k4, lt4, ↓bS e1, hh1, h51, ca, h21, h61, esub, show ¬ t1.2.1 - t1.1 < 2 by omega, ↓bS kp, ↓bS na, ↓bS r31, hT1, ↓bS lk', ↓bS e2, hh2, ↓bS is2']
        | true =>
          rw [c3] at is2
          simp only [if_true] at is2
          obtain ⟨S3, e3, f3, p3, s3, h3, R3⟩ := r_next hd p2
          have hh3 : zh S3 rd = (7, 0) := by rw [h3]; exact hh2
          have f13 := fr_trans f12 f3
          have s13 := sm_trans s12 s3
          have R13 : zR S3 = zR S := R3.trans R12
          obtain ⟨t3, ht3⟩ : ∃ t3, t3 = znext tx t2.2.1 := ⟨_, rfl⟩
          rw [← ht3] at p3
          have ar := rd_are p3 (most := 7) (by omega)
          cases c4 : zlets tx t3 7 with
          | false =>
            rw [c4] at ar
            simp only [Bool.false_eq_true, if_false] at ar
            have ez : zkindLine tx t st = (1, t3, st) := by
              simp only [zkindLine, if_neg c0, ← ht1, ca, cb, cc, true_and, and_true, if_true, if_neg c2, ← ht2, c3, ← ht3, c4, Bool.false_eq_true, if_false]
            rw [ez]
            refine ⟨S3, ?_, e_stop h p3 s13 R13 f13 (by omega)⟩
            simp (disch := omega) [f_Reader_kindLine, -Prod.exists, -Prod.forall, ↓bb_gf, ↓bb_gr, ↓bb_len, ↓bb_ga, ↓bb_gl, ↓bb_go, ↓bb_pf, ↓bb_pz, ↓bb_pr, ↓bb_pa, ↓bb_pb, ↓bb_pl, ↓bb_po, ↓bb_cl, ↓bb_some, ↓bb_RI, ↓bb_RJ, mm_hI, mm_hJ, mm_hR, mm_nI, mm_nJ, mm_nR, mm_sI, mm_sJ, mm_sR, mm_RI, mm_RJ, mm_IJ, mm_IR, mm_JI, mm_JR, mm_II, mm_JJ, mm_RR, nn_lit, nI_add, pk_mul, nI_clamp, nI_ltI, nI_leI, nI_eq, nn_in, nn_eqm, nn_meq, nn_ltm, nn_mlt, nn_lem, nn_mle, nn_in_m, hh, ↓bS r3, hT, k4, lt4, ↓bS e1, hh1, h51, ca, h21, h61, esub, show ¬ t1.2.1 - t1.1 < 2 by omega, ↓bS kp, ↓bS na, ↓bS r31, hT1, ↓bS lk', ↓bS e2, hh2, ↓bS is2, ↓bS e3, hh3, ↓bS ar]
          | true =>
            rw [c4] at ar
            simp only [if_true] at ar
            have bi := rd_bits p3 c4
            have bl := lb_lt (zsl tx t3)
            obtain ⟨l1, l2, l3⟩ := lets_is c4
            have w3 := p3.2.2.2.2
            have rng := sl_rng w3 l1
            have nod := lb_nodup (cs := zsl tx t3) (fun c hc => ⟨(rng c hc).1, l3 c hc⟩)
            have bcv := bc_pop _ bl
            have h23 := p3.2.1
            have h63 := p3.2.2.1
            have w31 := w3.1
            have w32 := w3.2.1
            have esub3 : nI t3.2.1 - nI t3.1 = nI (t3.2.1 - t3.1) := pk_sub w31
            have pl : zpop_ (zlb (zsl tx t3)) ≤ 8 := by
              unfold zpop_
              exact Nat.le_trans (List.length_filter_le _ _) (by simp)
            have sl3 := sl_len w3
            by_cases c5 : (zsl tx t3).Nodup
            · have pe : zpop_ (zlb (zsl tx t3)) = t3.2.1 - t3.1 := by rw [← sl3]; exact nod.2 c5
              have ez : zkindLine tx t st = (0, znext tx t3.2.1, (st.1, st.2.1 ++ [zsl tx t1], st.2.2.1 ++ [zlb (zsl tx t3)], st.2.2.2)) := by
                simp only [zkindLine, if_neg c0, ← ht1, ca, cb, cc, true_and, and_true, if_true, if_neg c2, ← ht2, c3, ← ht3, c4, if_pos c5]
              rw [ez]
              have A3 := r_all h p3 s13 R13
              have r33 : zR S3 rd 3 = some T := A3.2.1
              have hT3 := A3.2.2.2.1.1.1
              obtain ⟨S4, e4, f4, r4⟩ := scr_addKind A3.2.2.2 nm1 bl lt4
              have dd := hd
              unfold dRd at dd
              have p4 : pRd S4 rd q tx t3 := pRd_fr p3 f4 (fun j hb => by have := hb.1; have := hb.2; omega) (fun j hb => by have := hb.1; have := hb.2; omega)
              have hh4 : zh S4 rd = (7, 0) := by rw [fr_h f4]; exact hh3
              obtain ⟨S5, e5, f5, p5, s5, h5, R5⟩ := r_next hd p4
              have R4 := fr_R f4
              have rA : rAll S5 rd q tx (znext tx t3.2.1) T (st.1, st.2.1 ++ [zsl tx t1], st.2.2.1 ++ [zlb (zsl tx t3)], st.2.2.2) := ⟨p5, by rw [R5, R4]; exact r33, by rw [R5, R4]; exact A3.2.2.1, rScr_sm r4 s5⟩
              have fT : zfr (wLn rd T) S S5 := fr_trans (fr_mono f13 (fun b j hb => Or.inl hb)) (fr_trans (fr_mono f4 (fun b j hb => Or.inr (by have := hb.1; have := hb.2; omega))) (fr_mono f5 (fun b j hb => Or.inl hb)))
              refine ⟨S5, ?_, fq_fr fT, rA.2.1, p5, rA.2.2.2.1, fun _ => rA⟩
              simp (disch := omega) [f_Reader_kindLine, -Prod.exists, -Prod.forall, ↓bb_gf, ↓bb_gr, ↓bb_len, ↓bb_ga, ↓bb_gl, ↓bb_go, ↓bb_pf, ↓bb_pz, ↓bb_pr, ↓bb_pa, ↓bb_pb, ↓bb_pl, ↓bb_po, ↓bb_cl, ↓bb_some, ↓bb_RI, ↓bb_RJ, mm_hI, mm_hJ, mm_hR, mm_nI, mm_nJ, mm_nR, mm_sI, mm_sJ, mm_sR, mm_RI, mm_RJ, mm_IJ, mm_IR, mm_JI, mm_JR, mm_II, mm_JJ, mm_RR, nn_lit, nI_add, pk_mul, nI_clamp, nI_ltI, nI_leI, nI_eq, nn_in, nn_eqm, nn_meq, nn_ltm, nn_mlt, nn_lem, nn_mle, nn_in_m, hh, ↓bS r3, hT, k4, lt4, ↓bS e1, hh1, h51, ca, h21, h61, esub, show ¬ t1.2.1 - t1.1 < 2 by omega, ↓bS kp, ↓bS na, ↓bS r31, hT1, ↓bS lk', ↓bS e2, hh2, ↓bS is2, ↓bS e3, hh3, ↓bS ar, ↓bS bi, bc_eq, bcv, h23, h63, esub3, pe, ↓bS r33, hT3, ↓bS e4, hh4, ↓bS e5]
            · have pe : ¬ zpop_ (zlb (zsl tx t3)) = t3.2.1 - t3.1 := by rw [← sl3]; exact fun q => c5 (nod.1 q)
              have ez : zkindLine tx t st = (3, t3, st) := by
                simp only [zkindLine, if_neg c0, ← ht1, ca, cb, cc, true_and, and_true, if_true, if_neg c2, ← ht2, c3, ← ht3, c4, if_neg c5]
              rw [ez]
              refine ⟨S3, ?_, e_stop h p3 s13 R13 f13 (by omega)⟩
              simp (disch := omega) [f_Reader_kindLine, -Prod.exists, -Prod.forall, ↓bb_gf, ↓bb_gr, ↓bb_len, ↓bb_ga, ↓bb_gl, ↓bb_go, ↓bb_pf, ↓bb_pz, ↓bb_pr, ↓bb_pa, ↓bb_pb, ↓bb_pl, ↓bb_po, ↓bb_cl, ↓bb_some, ↓bb_RI, ↓bb_RJ, mm_hI, mm_hJ, mm_hR, mm_nI, mm_nJ, mm_nR, mm_sI, mm_sJ, mm_sR, mm_RI, mm_RJ, mm_IJ, mm_IR, mm_JI, mm_JR, mm_II, mm_JJ, mm_RR, nn_lit, nI_add, pk_mul, nI_clamp, nI_ltI, nI_leI, nI_eq, nn_in, nn_eqm, nn_meq, nn_ltm, nn_mlt, nn_lem, nn_mle, nn_in_m, hh, ↓bS r3, hT, k4, lt4, ↓bS e1, hh1, h51, ca, h21, h61, esub, show ¬ t1.2.1 - t1.1 < 2 by omega, ↓bS kp, ↓bS na, ↓bS r31, hT1, ↓bS lk', ↓bS e2, hh2, ↓bS is2, ↓bS e3, hh3, ↓bS ar, ↓bS bi, bc_eq, bcv, h23, h63, esub3, pe]
    · have ez : zkindLine tx t st = (1, t1, st) := by
        simp only [zkindLine, if_neg c0, ← ht1, if_neg c1]
      rw [ez]
      refine ⟨S1, ?_, e_stop h p1 s1 R1 f1 (by omega)⟩
      by_cases ca : t1.2.2 = 1
      · by_cases cb : 2 ≤ t1.2.1 - t1.1
        · cases cc : zkept tx t1 with
          | false => exact absurd ⟨ca, cb, cc⟩ c1
          | true =>
            rw [cc] at kp
            simp only [if_true] at kp
            simp (disch := omega) [f_Reader_kindLine, -Prod.exists, -Prod.forall, ↓bb_gf, ↓bb_gr, ↓bb_len, ↓bb_ga, ↓bb_gl, ↓bb_go, ↓bb_pf, ↓bb_pz, ↓bb_pr, ↓bb_pa, ↓bb_pb, ↓bb_pl, ↓bb_po, ↓bb_cl, ↓bb_some, ↓bb_RI, ↓bb_RJ, mm_hI, mm_hJ, mm_hR, mm_nI, mm_nJ, mm_nR, mm_sI, mm_sJ, mm_sR, mm_RI, mm_RJ, mm_IJ, mm_IR, mm_JI, mm_JR, mm_II, mm_JJ, mm_RR, nn_lit, nI_add, pk_mul, nI_clamp, nI_ltI, nI_leI, nI_eq, nn_in, nn_eqm, nn_meq, nn_ltm, nn_mlt, nn_lem, nn_mle, nn_in_m, hh, ↓bS r3, hT, k4, lt4, ↓bS e1, hh1, h51, ca, h21, h61, esub, show ¬ t1.2.1 - t1.1 < 2 by omega, ↓bS kp]
        · simp (disch := omega) [f_Reader_kindLine, -Prod.exists, -Prod.forall, ↓bb_gf, ↓bb_gr, ↓bb_len, ↓bb_ga, ↓bb_gl, ↓bb_go, ↓bb_pf, ↓bb_pz, ↓bb_pr, ↓bb_pa, ↓bb_pb, ↓bb_pl, ↓bb_po, ↓bb_cl, ↓bb_some, ↓bb_RI, ↓bb_RJ, mm_hI, mm_hJ, mm_hR, mm_nI, mm_nJ, mm_nR, mm_sI, mm_sJ, mm_sR, mm_RI, mm_RJ, mm_IJ, mm_IR, mm_JI, mm_JR, mm_II, mm_JJ, mm_RR, nn_lit, nI_add, pk_mul, nI_clamp, nI_ltI, nI_leI, nI_eq, nn_in, nn_eqm, nn_meq, nn_ltm, nn_mlt, nn_lem, nn_mle, nn_in_m, hh, ↓bS r3, hT, k4, lt4, ↓bS e1, hh1, h51, ca, h21, h61, esub, show t1.2.1 - t1.1 < 2 by omega]
      · simp (disch := omega) [f_Reader_kindLine, -Prod.exists, -Prod.forall, ↓bb_gf, ↓bb_gr, ↓bb_len, ↓bb_ga, ↓bb_gl, ↓bb_go, ↓bb_pf, ↓bb_pz, ↓bb_pr, ↓bb_pa, ↓bb_pb, ↓bb_pl, ↓bb_po, ↓bb_cl, ↓bb_some, ↓bb_RI, ↓bb_RJ, mm_hI, mm_hJ, mm_hR, mm_nI, mm_nJ, mm_nR, mm_sI, mm_sJ, mm_sR, mm_RI, mm_RJ, mm_IJ, mm_IR, mm_JI, mm_JR, mm_II, mm_JJ, mm_RR, nn_lit, nI_add, pk_mul, nI_clamp, nI_ltI, nI_leI, nI_eq, nn_in, nn_eqm, nn_meq, nn_ltm, nn_mlt, nn_lem, nn_mle, nn_in_m, hh, ↓bS r3, hT, k4, lt4, ↓bS e1, hh1, h51, ca]
end
