/-! the machine is built: in memory -/
theorem bits_cong {n : Nat} {f g : Nat → Bool} (h : ∀ j, j < n → f j = g j) : zbits n f = zbits n g := by
  refine bits_ext (fun i => ?_)
  rw [bits_tb, bits_tb]
  by_cases hi : i < n
  · rw [h i hi]
  · simp [hi]
theorem bits_add {n i : Nat} {f g : Nat → Bool} (hi : i < n) (h : ∀ j, j < n → g j = (f j || decide (j = i))) : zbits n f ||| 2 ^ i = zbits n g := by
  refine bits_ext (fun j => ?_)
  rw [fb_bit_set, bits_tb, bits_tb]
  by_cases hj : j < n
  · rw [h j hj]; simp [hj]
  · have : ¬ j = i := by omega
    simp [hj, this]
def qPass (S : zM) (P : Nat) (ps : zPs) (mask : Nat) : Prop := sPass S P ∧ zI S P 3 = nI ps.2.length ∧ zI S P 4 = (if ps.1 then 1 else 0) ∧ zI S P 5 = nI mask ∧ (∀ i, i < ps.2.length → pRule S (P + 16 + 5 * i) (zru ps.2 i)) ∧ wRs ps.2 ∧ mask < 256
theorem qPass_fr {S S' : zM} {P m : Nat} {ps : zPs} {mask : Nat} (h : qPass S P ps mask) (hf : zfr (rg m (m + 7)) S S') (h1 : P + 2 ≤ m) (h2 : m + 7 ≤ P + 16) : qPass S' P ps mask := by
  obtain ⟨a1, a2, a3, a4, a5, a6, a7⟩ := h
  have s1 : zsm P (P + 2) S S' := sm_fr hf (fun b j q1 q2 => by unfold rg; omega)
  have s2 : zsm (P + 16) (P + 56) S S' := sm_fr hf (fun b j q1 q2 => by unfold rg; omega)
  have e : ∀ j, zI S' P j = zI S P j := fun j => (s1.2 _ _ (by omega) (by omega)).2.1
  refine ⟨sPass_sm a1 s1 (by omega) (by omega), by rw [e]; exact a2, by rw [e]; exact a3, by rw [e]; exact a4, fun i hi => rule_sm (a5 i hi) s2 (by omega) (by have := a6.1; omega), a6, a7⟩
/-- what the building of states changes -/
def wLd (m : Nat) : Nat → Nat → Prop := fun b _ => m ≤ b ∧ b < m + 7 ∧ b ≠ m + 4 ∧ b ≠ m + 5
theorem qPass_fl {S S' : zM} {P m : Nat} {ps : zPs} {mask : Nat} (h : qPass S P ps mask) (hf : zfr (wLd m) S S') (h1 : P + 2 ≤ m) (h2 : m + 7 ≤ P + 16) : qPass S' P ps mask := qPass_fr h (fr_mono hf (fun b j hb => ⟨hb.1, hb.2.1⟩)) h1 h2
theorem qpass_ruleAt {S : zM} {P : Nat} {ps : zPs} {mask : Nat} (h : qPass S P ps mask) {j : Nat} (hj : j < ps.2.length) : f_Pass_ruleAt P (nI j) S = some (some (P + 16 + 5 * j), S) := by
  obtain ⟨⟨b1, b2, b3, b4, b5, b6⟩, a2, a3, a4, a5, a8, a9⟩ := h
  have h8 := a8.1
  have q8 : j < 8 := by omega
  have hp : ¬ nI j < nI 0 := nI_pos (by omega)
  simp (disch := omega) [f_Pass_ruleAt, -Prod.exists, -Prod.forall, zgf, zgr, zpf, zpz, zpr, zga, zgl, zgo, zpa, zpb, zpl, zpo, mm_len, zcl, Option.bind_some, Option.bind_none, mm_hI, mm_hJ, mm_hR, mm_nI, mm_nJ, mm_nR, mm_sI, mm_sJ, mm_sR, mm_RI, mm_RJ, mm_IJ, mm_IR, mm_JI, mm_JR, mm_II, mm_JJ, mm_RR, nn_lit, nI_add, pk_mul, nI_clamp, nI_ltI, nI_leI, nI_eq, nn_in, nn_eqm, nn_meq, nn_ltm, nn_mlt, nn_lem, nn_mle, nn_in_m, b1, b2, b3, a2, hj, q8, b4 j q8]
def bEnd (rs : List zRu) (tn : Bool) (nd : List (List Nat)) (d : Nat → Nat) (s : Nat) : Nat := zbits rs.length (fun j => decide (d j = (bT rs tn j).length ∧ bT rs tn j = ln nd s ∧ bT rs tn j ≠ [] ∧ s < nd.length))
def bMem (S : zM) (m : Nat) (rs : List zRu) (tn : Bool) (nd : List (List Nat)) (d : Nat → Nat) : Prop := zI S m 6 = nI nd.length ∧
  (∀ s l, s < 33 → l < 8 → zI S (m + 1) (s * 8 + l) = if s < nd.length then zidx nd (ln nd s ++ [l]) else -2) ∧
  (∀ s, s < nd.length → zI S (m + 2) s = nI (ln nd s).length) ∧
  (∀ s, s < 33 → zI S (m + 3) s = nI (bEnd rs tn nd d s)) ∧
  (∀ j, j < rs.length → zI S (m + 6) j = nI (nd.idxOf ((bT rs tn j).take (d j))))
theorem take_eq_len {t u : List Nat} {e : Nat} (h : t.take e = u) (he : e ≤ t.length) : e = u.length := by
  have := congrArg List.length h
  rw [List.length_take] at this; omega
section
variable {S0 : zM} {m P : Nat} {ps : zPs} {mask : Nat} {tn : Bool}
theorem lead_l {fl : Int32} (hfl : fl = if tn then 1 else 0) (hs : sMach S0 m) (hP : qPass S0 P ps mask) (h1 : P + 2 ≤ m) (h2 : m + 7 ≤ P + 16) {s l : Nat} {t0 : List Nat} (hl : l < 8) (ht4 : t0.length ≤ 4) : ∀ dd F i (S : zM) nd d, dd + i = ps.2.length → dd < F → zfr (wLd m) S0 S → bMem S m ps.2 tn nd d → bPure ps.2 tn nd d → bFr ps.2 tn nd d (s * 8 + l) i → bG nd (s * 8 + l + 1) → s < nd.length → nd.length ≤ 33 → ln nd s = t0 →
    ∃ S' nd' d', L_Machine_leadOn_15 F m P fl (nI s) (nI l) (nI t0.length) (zidx nd (t0 ++ [l])) (nI i) S = some S' ∧ zfr (wLd m) S0 S' ∧ bMem S' m ps.2 tn nd' d' ∧ bPure ps.2 tn nd' d' ∧ bFr ps.2 tn nd' d' (s * 8 + l) ps.2.length ∧ bG nd' (s * 8 + l + 1) ∧ s < nd'.length ∧ nd'.length ≤ 33 ∧ ln nd' s = t0 := by
  have rt : ∀ {S : zM} {r : Nat} {ru : zRu}, pRule S r ru → f_Rule_taken r fl S = some (if tn then r + 3 else r + 1, S) := fun h => by rw [hfl]; exact rule_taken h tn
  have hw := hP.2.2.2.2.2.1
  have hw8 := hw.1
  intro dd
  induction dd with
  | zero =>
    intro F i S nd d hdi hF hf hM hp hFr hG hsn h33 ht
    cases F with
    | zero => omega
    | succ F =>
      have kP := qPass_fl hP hf h1 h2
      have ei : i = ps.2.length := by omega
      subst ei
      refine ⟨S, nd, d, ?_, hf, hM, hp, hFr, hG, hsn, h33, ht⟩
      rw [L_Machine_leadOn_15]
      simp (disch := omega) [-Prod.exists, -Prod.forall, ↓bb_gf, ↓bb_gr, ↓bb_len, ↓bb_ga, ↓bb_gl, ↓bb_go, ↓bb_pf, ↓bb_pz, ↓bb_pr, ↓bb_pa, ↓bb_pb, ↓bb_pl, ↓bb_po, ↓bb_cl, ↓bb_some, ↓bb_RI, ↓bb_RJ, mm_hI, mm_hJ, mm_hR, mm_nI, mm_nJ, mm_nR, mm_sI, mm_sJ, mm_sR, mm_RI, mm_RJ, mm_IJ, mm_IR, mm_JI, mm_JR, mm_II, mm_JJ, mm_RR, kP.1.1, kP.2.1, nI_ltI]
  | succ dd ih =>
    intro F i S nd d hdi hF hf hM hp hFr hG hsn h33 ht
    cases F with
    | zero => omega
    | succ F =>
      have kP := qPass_fl hP hf h1 h2
      have hi : i < ps.2.length := by omega
      have hi8 : i < 8 := by omega
      have hru := kP.2.2.2.2.1 i hi
      obtain ⟨nT, hT⟩ := rule_rowT hru tn
      have wr := ru_w hw hi
      obtain ⟨gT, g8⟩ := ruT_le wr tn
      have ks : sMach S m := by unfold sMach; simp only [fr_h hf, fr_R hf]; exact hs
      obtain ⟨s1, s2, s3, s4, s5, s6, s7, s8, s9, s10, s11, s12, s13⟩ := ks
      have hM0 := hM
      obtain ⟨m1, m2, m3, m4, m5⟩ := hM
      have hp0 := hp
      obtain ⟨p1, p2, p3, p4, p5, p6, p7⟩ := hp
      have hra := qpass_ruleAt kP hi
      have mi := m5 i hi
      have hin := (p4 i hi).2 (d i) (by omega)
      have hix := List.idxOf_lt_length_iff.2 hin
      have hgT : zh S (if tn then P + 16 + 5 * i + 3 else P + 16 + 5 * i + 1) = (8, 0) := hT.1
      have hTd : ruT tn (zru ps.2 i) = bT ps.2 tn i := rfl
      rw [hTd] at hT gT g8
      have skip : (∀ x, d i < (bT ps.2 tn i).length → x = nd.idxOf ((bT ps.2 tn i).take (d i)) → x * 8 + lg (bT ps.2 tn i) (d i) ≠ s * 8 + l) → ∃ S' nd' d', L_Machine_leadOn_15 F m P fl (nI s) (nI l) (nI t0.length) (zidx nd (t0 ++ [l])) (nI (i + 1)) S = some S' ∧ zfr (wLd m) S0 S' ∧ bMem S' m ps.2 tn nd' d' ∧ bPure ps.2 tn nd' d' ∧ bFr ps.2 tn nd' d' (s * 8 + l) ps.2.length ∧ bG nd' (s * 8 + l + 1) ∧ s < nd'.length ∧ nd'.length ≤ 33 ∧ ln nd' s = t0 := by
        intro hne
        refine ih F (i + 1) S nd d (by omega) (by omega) hf hM0 hp0 (fun j hj hdj => ?_) hG hsn h33 ht
        rcases hFr j hj hdj with q | q
        · exact Or.inl q
        · by_cases e : j = i
          · subst e; exact absurd q.1.symm (hne _ hdj rfl)
          · exact Or.inr ⟨q.1, by omega⟩
      by_cases hc : nd.idxOf ((bT ps.2 tn i).take (d i)) = s
      · have et : (bT ps.2 tn i).take (d i) = t0 := by rw [← ht, ← hc, ln_idx hin]
        have ed : d i = t0.length := take_eq_len et (p4 i hi).1
        have hat := row_at hT (nI t0.length)
        rw [atD_nI (by omega)] at hat
        by_cases hc2 : t0.length < (bT ps.2 tn i).length ∧ lg (bT ps.2 tn i) t0.length = l
        · obtain ⟨c1, c2⟩ := hc2
          rw [if_pos c1, c2] at hat
          have hK : s * 8 + l = nd.idxOf ((bT ps.2 tn i).take (d i)) * 8 + lg (bT ps.2 tn i) (d i) := by rw [hc, ed, c2]
          have hu0 : (bT ps.2 tn i).take (d i + 1) = t0 ++ [l] := by rw [take_lg (by omega), et, ed, c2]
          have hfu : (bT ps.2 tn i).length = t0.length + 1 → bT ps.2 tn i = t0 ++ [l] := fun q => by rw [← hu0, ed, ← q, List.take_length]
          by_cases hu : (t0 ++ [l]) ∈ nd
          · obtain ⟨q1, q2⟩ := b_old (K := s * 8 + l) hp0 hi (by omega) g8 hK (by rw [hu0]; exact hu) hFr
            obtain ⟨v, hv⟩ : ∃ v, v = nd.idxOf (t0 ++ [l]) := ⟨_, rfl⟩
            have hvl : v < nd.length := by rw [hv]; exact List.idxOf_lt_length_iff.2 hu
            have hlnv : ln nd v = t0 ++ [l] := by rw [hv]; exact ln_idx hu
            have ez : zidx nd (t0 ++ [l]) = nI v := by rw [zidx, if_pos hu, hv]
            have e4 := m4 v (by omega)
            have hne2 : ¬ nI v = -nI 2 := fun q => (nn_eqm (by omega) (by omega) (by omega)).1 q
            have fR : zfr (wLd m) S (zwI S (m + 6) i (nI v)) := fr_wI _ _ (by unfold wLd; omega)
            have hTr1 : pRow (zwI S (m + 6) i (nI v)) (if tn then P + 16 + 5 * i + 3 else P + 16 + 5 * i + 1) nT (bT ps.2 tn i) := row_fr hT fR (fun j hb => by unfold wLd at hb; split at hb <;> omega) (fun j hb => by unfold wLd at hb; split at hb <;> omega)
            have hT1 := hTr1.2.2.2.2.2.1
            have hru1 : pRule (zwI S (m + 6) i (nI v)) (P + 16 + 5 * i) (zru ps.2 i) := rule_sm hru (sm_fr (lo := P + 16) (hi := P + 56) fR (fun b j q1 q2 => by unfold wLd; omega)) (by omega) (by omega)
            by_cases hfull : (bT ps.2 tn i).length = t0.length + 1
            · have hbb : nI (bEnd ps.2 tn nd d v) ||| nI (2 ^ i) = nI (bEnd ps.2 tn nd (zup d i (d i + 1)) v) := by
                rw [fa_or]; congr 1
                refine bits_add hi (fun j hj => ?_)
                unfold zup
                by_cases e : j = i
                · subst e
                  simp [hlnv, hfu hfull, ed, hvl]
                · simp [e]
              obtain ⟨S', nd', d', k1, k2⟩ := ih F (i + 1) (zwI (zwI S (m + 6) i (nI v)) (m + 3) v (nI (bEnd ps.2 tn nd (zup d i (d i + 1)) v))) nd (zup d i (d i + 1)) (by omega) (by omega) (fr_trans hf (fr_trans fR (fr_wI _ _ (by unfold wLd; omega)))) ⟨by simp [mm_II, m1], fun s l a b => by simp [mm_II, m2 s l a b], fun s a => by simp [mm_II, m3 s a], fun s' a => by
                  by_cases e : s' = v
                  · subst e; simp [mm_II]
                  · simp only [mm_II, e, and_false, if_false]
                    rw [if_neg (by omega), m4 s' a]
                    congr 1
                    refine bits_cong (fun j hj => ?_)
                    unfold zup
                    by_cases ej : j = i
                    · subst ej
                      have : s' < nd.length → ¬ t0 ++ [l] = ln nd s' := by
                        intro hs' q; have := idx_ln p1 hs'; rw [← q, ← hv] at this; omega
                      rw [hfu hfull]
                      by_cases hs' : s' < nd.length
                      · simp [this hs']
                      · simp [hs']
                    · simp [ej], fun j hj => by
                  unfold zup
                  by_cases e : j = i
                  · subst e; simp [mm_II, hu0, hv]
                  · simp [mm_II, e, m5 j hj]⟩ q1 q2 hG hsn h33 ht
              refine ⟨S', nd', d', ?_, k2⟩
              rw [← k1, ez, L_Machine_leadOn_15, ← hbb]
              simp (disch := omega) [-Prod.exists, -Prod.forall, ↓bb_gf, ↓bb_gr, ↓bb_len, ↓bb_ga, ↓bb_gl, ↓bb_go, ↓bb_pf, ↓bb_pz, ↓bb_pr, ↓bb_pa, ↓bb_pb, ↓bb_pl, ↓bb_po, ↓bb_cl, ↓bb_some, ↓bb_RI, ↓bb_RJ, mm_hI, mm_hJ, mm_hR, mm_nI, mm_nJ, mm_nR, mm_sI, mm_sJ, mm_sR, mm_RI, mm_RJ, mm_IJ, mm_IR, mm_JI, mm_JR, mm_II, mm_JJ, mm_RR, nn_lit, nI_add, pk_mul, nI_clamp, nI_ltI, nI_leI, nI_eq, nn_in, nn_eqm, nn_meq, nn_ltm, nn_mlt, nn_lem, nn_mle, nn_in_m, nn_pow2, kP.1.1, kP.2.1, hi, hi8, ↓bS hra, ↓bS s12, s1, s13, mi, hc, hru.1, ↓bS (rt hru), hgT, ↓bS hat, hne2, hru1.1, ↓bS (rt hru1), hT1, hfull, ↓bS s6, s7, show v < 33 by omega, e4]
            · obtain ⟨S', nd', d', k1, k2⟩ := ih F (i + 1) (zwI S (m + 6) i (nI v)) nd (zup d i (d i + 1)) (by omega) (by omega) (fr_trans hf fR) ⟨by simp [mm_II, m1], fun s l a b => by simp [mm_II, m2 s l a b], fun s a => by simp [mm_II, m3 s a], fun s' a => by
                  rw [mm_II, if_neg (by omega), m4 s' a]
                  congr 1
                  refine bits_cong (fun j hj => ?_)
                  unfold zup
                  by_cases ej : j = i
                  · subst ej
                    have n1 : ¬ d j = (bT ps.2 tn j).length := by omega
                    have n2 : ¬ d j + 1 = (bT ps.2 tn j).length := by omega
                    simp [n1, n2]
                  · simp [ej], fun j hj => by
                  unfold zup
                  by_cases e : j = i
                  · subst e; simp [mm_II, hu0, hv]
                  · simp [mm_II, e, m5 j hj]⟩ q1 q2 hG hsn h33 ht
              refine ⟨S', nd', d', ?_, k2⟩
              rw [← k1, ez, L_Machine_leadOn_15]
              simp (disch := omega) [-Prod.exists, -Prod.forall, ↓bb_gf, ↓bb_gr, ↓bb_len, ↓bb_ga, ↓bb_gl, ↓bb_go, ↓bb_pf, ↓bb_pz, ↓bb_pr, ↓bb_pa, ↓bb_pb, ↓bb_pl, ↓bb_po, ↓bb_cl, ↓bb_some, ↓bb_RI, ↓bb_RJ, mm_hI, mm_hJ, mm_hR, mm_nI, mm_nJ, mm_nR, mm_sI, mm_sJ, mm_sR, mm_RI, mm_RJ, mm_IJ, mm_IR, mm_JI, mm_JR, mm_II, mm_JJ, mm_RR, nn_lit, nI_add, pk_mul, nI_clamp, nI_ltI, nI_leI, nI_eq, nn_in, nn_eqm, nn_meq, nn_ltm, nn_mlt, nn_lem, nn_mle, nn_in_m, nn_pow2, kP.1.1, kP.2.1, hi, hi8, ↓bS hra, ↓bS s12, s1, s13, mi, hc, hru.1, ↓bS (rt hru), hgT, ↓bS hat, hne2, hru1.1, ↓bS (rt hru1), hT1, hfull]
          · obtain ⟨q1, q2, q3⟩ := b_new (K := s * 8 + l) hp0 hi (by omega) g8 (fun j hj => l8_iff.1 (ruT_le (ru_w hw hj) tn).2) hK (by rw [hu0]; exact hu) hFr hG
            rw [hu0] at q1 q2 q3
            have ez : zidx nd (t0 ++ [l]) = -2 := by rw [zidx, if_neg hu]
            have hN : nd.length < 33 := by
              have b1 := q1.2.2.2.2.2.1
              have b2 := fb_sm_bound (f := zup d i (d i + 1)) (c := 4) (n := ps.2.length) (fun k hk => by
                have b3 := (q1.2.2.2.1 k hk).1
                have b4 := (ruT_le (ru_w hw hk) tn).1
                have b5 : (bT ps.2 tn k).length ≤ 4 := b4
                omega)
              simp only [List.length_append, List.length_cons, List.length_nil] at b1
              omega
            obtain ⟨N, hNd⟩ : ∃ N, N = nd.length := ⟨_, rfl⟩
            have hln : ∀ x, x < N → ln (nd ++ [t0 ++ [l]]) x = ln nd x := fun x hx => ln_app (by omega)
            have hlN : ln (nd ++ [t0 ++ [l]]) N = t0 ++ [l] := by rw [hNd]; exact ln_new
            have hlen : (nd ++ [t0 ++ [l]]).length = N + 1 := by simp [hNd]
            obtain ⟨S1, hS1⟩ : ∃ S1, S1 = zwI (zwI (zwI (zwI S (m + 2) N (nI (t0.length + 1))) (m + 1) (s * 8 + l) (nI N)) m 6 (nI (N + 1))) (m + 6) i (nI N) := ⟨_, rfl⟩
            have fR : zfr (wLd m) S S1 := by
              rw [hS1]
              exact fr_trans (fr_trans (fr_trans (fr_wI _ _ (by unfold wLd; omega)) (fr_wI _ _ (by unfold wLd; omega))) (fr_wI _ _ (by unfold wLd; omega))) (fr_wI _ _ (by unfold wLd; omega))
            have hTr1 : pRow S1 (if tn then P + 16 + 5 * i + 3 else P + 16 + 5 * i + 1) nT (bT ps.2 tn i) := row_fr hT fR (fun j hb => by unfold wLd at hb; split at hb <;> omega) (fun j hb => by unfold wLd at hb; split at hb <;> omega)
            have hT1 := hTr1.2.2.2.2.2.1
            have hru1 : pRule S1 (P + 16 + 5 * i) (zru ps.2 i) := rule_sm hru (sm_fr (lo := P + 16) (hi := P + 56) fR (fun b j q1 q2 => by unfold wLd; omega)) (by omega) (by omega)
            have e4 := m4 N (by omega)
            have eN0 : bEnd ps.2 tn nd d N = 0 := by
              have : zbits ps.2.length (fun _ => false) = 0 := bits_ext (fun i => by rw [bits_tb]; simp)
              rw [← this]
              refine bits_cong (fun j hj => ?_)
              have : ¬ N < nd.length := by omega
              simp [this]
            have eEnd : ∀ s', s' ≠ N → bEnd ps.2 tn (nd ++ [t0 ++ [l]]) (zup d i (d i + 1)) s' = bEnd ps.2 tn nd d s' := by
              intro s' hs'
              refine bits_cong (fun j hj => ?_)
              unfold zup
              by_cases hx : s' < N
              · rw [hln s' hx]
                have hx2 : s' < nd.length := by omega
                have hx3 : s' < (nd ++ [t0 ++ [l]]).length := by omega
                by_cases ej : j = i
                · subst ej
                  have n1 : ¬ d j = (bT ps.2 tn j).length := by omega
                  by_cases n2 : d j + 1 = (bT ps.2 tn j).length
                  · have := hfu (by omega)
                    have n3 : ¬ t0 ++ [l] = ln nd s' := fun q => hu (by rw [q]; exact ln_mem hx2)
                    rw [this]; simp [n3]
                  · simp [n1, n2]
                · simp only [if_neg ej, hx2, hx3]
              · have hx2 : ¬ s' < nd.length := by omega
                have hx3 : ¬ s' < (nd ++ [t0 ++ [l]]).length := by omega
                simp [hx2]
                intro _ _ _; simp at hx3; omega
            have eEndN : bEnd ps.2 tn (nd ++ [t0 ++ [l]]) (zup d i (d i + 1)) N = if (bT ps.2 tn i).length = t0.length + 1 then 2 ^ i else 0 := by
              have only : ∀ j, j < ps.2.length → j ≠ i → ¬ (d j = (bT ps.2 tn j).length ∧ bT ps.2 tn j = t0 ++ [l]) := by
                intro j hj _ q
                have := (p4 j hj).2 (d j) (by omega)
                rw [q.1, List.take_length, q.2] at this
                exact hu this
              by_cases hfull : (bT ps.2 tn i).length = t0.length + 1
              · rw [if_pos hfull]
                have z : zbits ps.2.length (fun _ => false) = 0 := bits_ext (fun i => by rw [bits_tb]; simp)
                have := bits_add (f := fun _ => false) (g := fun j => decide (zup d i (d i + 1) j = (bT ps.2 tn j).length ∧ bT ps.2 tn j = ln (nd ++ [t0 ++ [l]]) N ∧ bT ps.2 tn j ≠ [] ∧ N < (nd ++ [t0 ++ [l]]).length)) hi (fun j hj => by
                  rw [hlN, hlen]
                  unfold zup
                  by_cases ej : j = i
                  · subst ej; simp [hfu hfull, ed]
                  · have := only j hj ej
                    simp only [if_neg ej, ej, decide_false, Bool.or_false, decide_eq_false_iff_not]
                    exact fun q => this ⟨q.1, q.2.1⟩)
                rw [z, Nat.zero_or] at this
                exact this.symm
              · rw [if_neg hfull]
                have z : zbits ps.2.length (fun _ => false) = 0 := bits_ext (fun i => by rw [bits_tb]; simp)
                rw [← z]
                refine bits_cong (fun j hj => ?_)
                rw [hlN]
                unfold zup
                simp only [decide_eq_false_iff_not]
                by_cases ej : j = i
                · subst ej; rw [if_pos rfl]; intro q; omega
                · rw [if_neg ej]; exact fun q => only j hj ej ⟨q.1, q.2.1⟩
            have cM : ∀ S2, zfr (rg (m + 3) (m + 4)) S1 S2 → (∀ s', s' < 33 → zI S2 (m + 3) s' = if s' = N then nI (bEnd ps.2 tn (nd ++ [t0 ++ [l]]) (zup d i (d i + 1)) N) else zI S (m + 3) s') → bMem S2 m ps.2 tn (nd ++ [t0 ++ [l]]) (zup d i (d i + 1)) := by
              intro S2 f2 h3
              have g : ∀ b j, b ≠ m + 3 → zI S2 b j = zI S1 b j := fun b j hb => fr_I f2 (fun q => by have := q.1; have := q.2; omega)
              refine ⟨by rw [g _ _ (by omega), hS1, hlen]; simp [mm_II], fun s' l' a b => ?_, fun s' a => ?_, fun s' a => ?_, fun j hj => ?_⟩
              · rw [g _ _ (by omega), hS1]
                by_cases e : s' * 8 + l' = s * 8 + l
                · have e1 : s' = s := by omega
                  have e2 : l' = l := by omega
                  subst e1; subst e2
                  rw [if_pos (by rw [hlen]; omega), hln _ (by omega), ht]
                  simp [mm_II, zidx, idx_new hu, hNd]
                · have eS : zI (zwI (zwI (zwI (zwI S (m + 2) N (nI (t0.length + 1))) (m + 1) (s * 8 + l) (nI N)) m 6 (nI (N + 1))) (m + 6) i (nI N)) (m + 1) (s' * 8 + l') = zI S (m + 1) (s' * 8 + l') := by simp [mm_II, e]
                  rw [eS, m2 s' l' a b]
                  by_cases hx : s' < N
                  · rw [if_pos (by omega), if_pos (by omega), hln s' hx]
                    have ne : ¬ ln nd s' ++ [l'] = t0 ++ [l] := by
                      intro q
                      obtain ⟨q1, q2⟩ := List.append_inj' q rfl
                      have e1 := idx_ln p1 (show s' < nd.length by omega)
                      have e2 := idx_ln p1 hsn
                      rw [q1, ← ht, e2] at e1
                      simp at q2; omega
                    unfold zidx
                    by_cases hm2 : ln nd s' ++ [l'] ∈ nd
                    · rw [if_pos hm2, if_pos (List.mem_append_left _ hm2), idx_app hm2]
                    · rw [if_neg hm2, if_neg (fun q => (List.mem_append.1 q).elim hm2 (fun r => ne (List.mem_singleton.1 r)))]
                  · rw [if_neg (by omega)]
                    by_cases hx2 : s' = N
                    · subst hx2
                      rw [if_pos (by omega), hlN, zidx, if_neg]
                      intro q
                      rcases List.mem_append.1 q with r | r
                      · exact hu (b_closed hp0 r)
                      · have := List.mem_singleton.1 r; simp at this
                    · rw [if_neg (by omega)]
              · rw [g _ _ (by omega), hS1]
                by_cases e : s' = N
                · subst e; rw [hlN]; simp [mm_II]
                · rw [hln s' (by omega)]; simp [mm_II, e, m3 s' (by omega)]
              · rw [h3 s' a]
                by_cases e : s' = N
                · subst e; rw [if_pos rfl]
                · rw [if_neg e, eEnd s' e, m4 s' a]
              · rw [g _ _ (by omega), hS1]
                unfold zup
                by_cases e : j = i
                · subst e; rw [if_pos rfl, hu0, idx_new hu]; simp [mm_II, hNd]
                · rw [if_neg e, idx_app ((p4 j hj).2 _ (by omega))]; simp [mm_II, e, m5 j hj]
            have hlt' : s * 8 + l < 264 := by omega
            by_cases hfull : (bT ps.2 tn i).length = t0.length + 1
            · rw [if_pos hfull] at eEndN
              obtain ⟨S', nd', d', k1, k2⟩ := ih F (i + 1) (zwI S1 (m + 3) N (nI (2 ^ i))) (nd ++ [t0 ++ [l]]) (zup d i (d i + 1)) (by omega) (by omega) (fr_trans hf (fr_trans fR (fr_wI _ _ (by unfold wLd; omega)))) (cM _ (fr_wI _ _ ⟨by omega, by omega⟩) (fun s' a => by
                  rw [mm_II, eEndN]
                  by_cases e : s' = N
                  · subst e; simp
                  · rw [if_neg (by omega), if_neg e, hS1]; simp [mm_II])) q1 q2 q3 (by omega) (by omega) (by rw [hln s (by omega)]; exact ht)
              have ez2 : zidx (nd ++ [t0 ++ [l]]) (t0 ++ [l]) = nI N := by
                rw [zidx, if_pos (by simp), idx_new hu, hNd]
              rw [ez2] at k1
              refine ⟨S', nd', d', ?_, k2⟩
              have e4' : zI S1 (m + 3) N = nI 0 := by rw [hS1]; simp [mm_II, e4, eN0]
              have o0 : nI 0 ||| nI (2 ^ i) = nI (2 ^ i) := by rw [fa_or, Nat.zero_or]
              have m1' : zI S m 6 = nI N := by rw [hNd]; exact m1
              have s1' : zh S1 = zh S := fr_h fR
              have r1' : zR S1 = zR S := fr_R fR
              rw [← k1, ez, L_Machine_leadOn_15]
              simp (disch := omega) [-Prod.exists, -Prod.forall, ↓bb_gf, ↓bb_gr, ↓bb_len, ↓bb_ga, ↓bb_gl, ↓bb_go, ↓bb_pf, ↓bb_pz, ↓bb_pr, ↓bb_pa, ↓bb_pb, ↓bb_pl, ↓bb_po, ↓bb_cl, ↓bb_some, ↓bb_RI, ↓bb_RJ, mm_hI, mm_hJ, mm_hR, mm_nI, mm_nJ, mm_nR, mm_sI, mm_sJ, mm_sR, mm_RI, mm_RJ, mm_IJ, mm_IR, mm_JI, mm_JR, mm_II, mm_JJ, mm_RR, nn_lit, nI_add, pk_mul, nI_clamp, nI_ltI, nI_leI, nI_eq, nn_in, nn_eqm, nn_meq, nn_ltm, nn_mlt, nn_lem, nn_mle, nn_in_m, nn_pow2, kP.1.1, kP.2.1, hi, hi8, ↓bS hra, ↓bS s12, s1, s13, mi, hc, hru.1, ↓bS (rt hru), hgT, ↓bS hat, m1', show N < 33 by omega, ↓bS s4, s5, ↓bS s2, s3, hlt']
              rw [← hS1]
              simp (disch := omega) [-Prod.exists, -Prod.forall, ↓bb_gf, ↓bb_gr, ↓bb_len, ↓bb_ga, ↓bb_gl, ↓bb_go, ↓bb_pf, ↓bb_pz, ↓bb_pr, ↓bb_pa, ↓bb_pb, ↓bb_pl, ↓bb_po, ↓bb_cl, ↓bb_some, ↓bb_RI, ↓bb_RJ, mm_hI, mm_hJ, mm_hR, mm_nI, mm_nJ, mm_nR, mm_sI, mm_sJ, mm_sR, mm_RI, mm_RJ, mm_IJ, mm_IR, mm_JI, mm_JR, mm_II, mm_JJ, mm_RR, nn_lit, nI_add, pk_mul, nI_clamp, nI_ltI, nI_leI, nI_eq, nn_in, nn_eqm, nn_meq, nn_ltm, nn_mlt, nn_lem, nn_mle, nn_in_m, nn_pow2, hru1.1, ↓bS (rt hru1), hT1, hTr1.1, hfull, s1', r1', s1, ↓bS s6, s7, show N < 33 by omega, e4', o0]
            · rw [if_neg hfull] at eEndN
              obtain ⟨S', nd', d', k1, k2⟩ := ih F (i + 1) S1 (nd ++ [t0 ++ [l]]) (zup d i (d i + 1)) (by omega) (by omega) (fr_trans hf fR) (cM _ (fr_refl _ _) (fun s' a => by
                  rw [eEndN, hS1]
                  by_cases e : s' = N
                  · subst e; simp [mm_II, e4, eN0]
                  · rw [if_neg e]; simp [mm_II])) q1 q2 q3 (by omega) (by omega) (by rw [hln s (by omega)]; exact ht)
              have ez2 : zidx (nd ++ [t0 ++ [l]]) (t0 ++ [l]) = nI N := by
                rw [zidx, if_pos (by simp), idx_new hu, hNd]
              rw [ez2] at k1
              refine ⟨S', nd', d', ?_, k2⟩
              have m1' : zI S m 6 = nI N := by rw [hNd]; exact m1
              rw [← k1, ez, L_Machine_leadOn_15]
              simp (disch := omega) [-Prod.exists, -Prod.forall, ↓bb_gf, ↓bb_gr, ↓bb_len, ↓bb_ga, ↓bb_gl, ↓bb_go, ↓bb_pf, ↓bb_pz, ↓bb_pr, ↓bb_pa, ↓bb_pb, ↓bb_pl, ↓bb_po, ↓bb_cl, ↓bb_some, ↓bb_RI, ↓bb_RJ, mm_hI, mm_hJ, mm_hR, mm_nI, mm_nJ, mm_nR, mm_sI, mm_sJ, mm_sR, mm_RI, mm_RJ, mm_IJ, mm_IR, mm_JI, mm_JR, mm_II, mm_JJ, mm_RR, nn_lit, nI_add, pk_mul, nI_clamp, nI_ltI, nI_leI, nI_eq, nn_in, nn_eqm, nn_meq, nn_ltm, nn_mlt, nn_lem, nn_mle, nn_in_m, nn_pow2, kP.1.1, kP.2.1, hi, hi8, ↓bS hra, ↓bS s12, s1, s13, mi, hc, hru.1, ↓bS (rt hru), hgT, ↓bS hat, m1', show N < 33 by omega, ↓bS s4, s5, ↓bS s2, s3, hlt']
              rw [← hS1]
              simp (disch := omega) [-Prod.exists, -Prod.forall, ↓bb_gf, ↓bb_gr, ↓bb_len, ↓bb_ga, ↓bb_gl, ↓bb_go, ↓bb_pf, ↓bb_pz, ↓bb_pr, ↓bb_pa, ↓bb_pb, ↓bb_pl, ↓bb_po, ↓bb_cl, ↓bb_some, ↓bb_RI, ↓bb_RJ, mm_hI, mm_hJ, mm_hR, mm_nI, mm_nJ, mm_nR, mm_sI, mm_sJ, mm_sR, mm_RI, mm_RJ, mm_IJ, mm_IR, mm_JI, mm_JR, mm_II, mm_JJ, mm_RR, nn_lit, nI_add, pk_mul, nI_clamp, nI_ltI, nI_leI, nI_eq, nn_in, nn_eqm, nn_meq, nn_ltm, nn_mlt, nn_lem, nn_mle, nn_in_m, nn_pow2, hru1.1, ↓bS (rt hru1), hT1, hTr1.1, hfull]
        · have hat2 : ¬ (if t0.length < (bT ps.2 tn i).length then nI (lg (bT ps.2 tn i) t0.length) else -1) = nI l := by
            split
            · rename_i q
              intro h
              have := g8 t0.length
              exact hc2 ⟨q, (nI_eq (by omega) (by omega)).1 h⟩
            · intro h
              exact (nn_meq (i := l) (m := 1) (by omega) (by omega) (by omega)).1 h
          obtain ⟨w9, hw9⟩ : ∃ w9, w9 = (if t0.length < (bT ps.2 tn i).length then nI (lg (bT ps.2 tn i) t0.length) else -1) := ⟨_, rfl⟩
          rw [← hw9] at hat hat2
          obtain ⟨S', nd', d', k1, k2⟩ := skip (fun x hd hx q => hc2 ⟨by omega, by
            have := g8 (d i); rw [ed] at this q; omega⟩)
          refine ⟨S', nd', d', ?_, k2⟩
          rw [← k1, L_Machine_leadOn_15]
          simp (disch := omega) [-Prod.exists, -Prod.forall, ↓bb_gf, ↓bb_gr, ↓bb_len, ↓bb_ga, ↓bb_gl, ↓bb_go, ↓bb_pf, ↓bb_pz, ↓bb_pr, ↓bb_pa, ↓bb_pb, ↓bb_pl, ↓bb_po, ↓bb_cl, ↓bb_some, ↓bb_RI, ↓bb_RJ, mm_hI, mm_hJ, mm_hR, mm_nI, mm_nJ, mm_nR, mm_sI, mm_sJ, mm_sR, mm_RI, mm_RJ, mm_IJ, mm_IR, mm_JI, mm_JR, mm_II, mm_JJ, mm_RR, nn_lit, nI_add, pk_mul, nI_clamp, nI_ltI, nI_leI, nI_eq, nn_in, nn_eqm, nn_meq, nn_ltm, nn_mlt, nn_lem, nn_mle, nn_in_m, kP.1.1, kP.2.1, hi, hi8, ↓bS hra, ↓bS s12, s1, s13, mi, hc, hru.1, ↓bS (rt hru), hgT, ↓bS hat, hat2]
      · obtain ⟨S', nd', d', k1, k2⟩ := skip (fun x hd hx q => by
          have := g8 (d i); rw [hx] at q; omega)
        refine ⟨S', nd', d', ?_, k2⟩
        rw [← k1, L_Machine_leadOn_15]
        simp (disch := omega) [-Prod.exists, -Prod.forall, ↓bb_gf, ↓bb_gr, ↓bb_len, ↓bb_ga, ↓bb_gl, ↓bb_go, ↓bb_pf, ↓bb_pz, ↓bb_pr, ↓bb_pa, ↓bb_pb, ↓bb_pl, ↓bb_po, ↓bb_cl, ↓bb_some, ↓bb_RI, ↓bb_RJ, mm_hI, mm_hJ, mm_hR, mm_nI, mm_nJ, mm_nR, mm_sI, mm_sJ, mm_sR, mm_RI, mm_RJ, mm_IJ, mm_IR, mm_JI, mm_JR, mm_II, mm_JJ, mm_RR, nn_lit, nI_add, pk_mul, nI_clamp, nI_ltI, nI_leI, nI_eq, nn_in, nn_eqm, nn_meq, nn_ltm, nn_mlt, nn_lem, nn_mle, nn_in_m, kP.1.1, kP.2.1, hi, hi8, ↓bS hra, ↓bS s12, s1, s13, mi, hc]
end
