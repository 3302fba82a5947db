/-! the machine is built: whole -/
section
variable {S0 : zM} {m P : Nat} {ps : zPs} {mask : Nat} {tn : Bool} {fl : Int32}
def bZ (_ : Nat) : Nat := 0
theorem node_len {rs : List zRu} (hw : wRs rs) {nd : List (List Nat)} {d : Nat → Nat} (h : bPure rs tn nd d) {t : List Nat} (ht : t ∈ nd) : t.length ≤ 4 := by
  rcases h.2.2.2.2.1 t ht with r | ⟨j, hj, e, he, r⟩
  · subst r; simp
  · have b4 := (ruT_le (ru_w hw hj) tn).1
    have b5 : (bT rs tn j).length ≤ 4 := b4
    rw [r, List.length_take]; omega
theorem lead (hfl : fl = if tn then 1 else 0) (hs : sMach S0 m) (hP : qPass S0 P ps mask) (h1 : P + 2 ≤ m) (h2 : m + 7 ≤ P + 16) {s l : Nat} (hl : l < 8) {S : zM} {nd : List (List Nat)} {d : Nat → Nat} (hf : zfr (wLd m) S0 S) (hM : bMem S m ps.2 tn nd d) (hp : bPure ps.2 tn nd d) (hF : bFr ps.2 tn nd d (s * 8 + l) 0) (hG : bG nd (s * 8 + l)) (hsn : s < nd.length) (h33 : nd.length ≤ 33) :
    ∃ S' nd' d', f_Machine_leadOn m P fl (nI s) (nI l) S = some S' ∧ zfr (wLd m) S0 S' ∧ bMem S' m ps.2 tn nd' d' ∧ bPure ps.2 tn nd' d' ∧ bFr ps.2 tn nd' d' (s * 8 + l + 1) 0 ∧ bG nd' (s * 8 + l + 1) ∧ s < nd'.length ∧ nd'.length ≤ 33 := by
  have hw := hP.2.2.2.2.2.1
  have hnm : ¬ ln nd s ++ [l] ∈ nd := hG s l hsn hl (by omega)
  obtain ⟨S', nd', d', k1, k2, k3, k4, k5, k6, k7, k8, k9⟩ := lead_l hfl hs hP h1 h2 hl (node_len hw hp (ln_mem hsn)) ps.2.length zF 0 S nd d (by omega) (by rw [zF_eq]; have := hw.1; omega) hf hM hp hF (fun s' l' a b c => hG s' l' a b (by omega)) hsn h33 rfl
  refine ⟨S', nd', d', ?_, k2, k3, k4, fun j hj hdj => ?_, k6, k7, k8⟩
  · have ks : sMach S m := by unfold sMach; simp only [fr_h hf, fr_R hf]; exact hs
    have e := hM.2.2.1 s hsn
    rw [zidx, if_neg hnm] at k1
    rw [← k1]
    simp (disch := omega) [f_Machine_leadOn, -Prod.exists, -Prod.forall, ↓bb_gf, ↓bb_gr, ↓bb_len, ↓bb_ga, ↓bb_gl, ↓bb_go, ↓bb_pf, ↓bb_pz, ↓bb_pr, ↓bb_pa, ↓bb_pb, ↓bb_pl, ↓bb_po, ↓bb_cl, ↓bb_some, ↓bb_RI, ↓bb_RJ, mm_hI, mm_hJ, mm_hR, mm_nI, mm_nJ, mm_nR, mm_sI, mm_sJ, mm_sR, mm_RI, mm_RJ, mm_IJ, mm_IR, mm_JI, mm_JR, mm_II, mm_JJ, mm_RR, nn_lit, nI_add, pk_mul, nI_clamp, nI_ltI, nI_leI, nI_eq, nn_in, nn_eqm, nn_meq, nn_ltm, nn_mlt, nn_lem, nn_mle, nn_in_m, ks.1, ↓bS ks.2.2.2.1, ks.2.2.2.2.1, show s < 33 by omega, e]
  · rcases k5 j hj hdj with q | q
    · by_cases e : s * 8 + l + 1 < nd'.idxOf ((bT ps.2 tn j).take (d' j)) * 8 + lg (bT ps.2 tn j) (d' j)
      · exact Or.inl e
      · exact Or.inr ⟨by omega, by omega⟩
    · omega
theorem build61 (hfl : fl = if tn then 1 else 0) (hs : sMach S0 m) (hP : qPass S0 P ps mask) (h1 : P + 2 ≤ m) (h2 : m + 7 ≤ P + 16) {s : Nat} {k83 : Nat → Nat → Int32 → Int32 → zM → Option zM} (Q : Option zM → Prop) (HK : ∀ S nd d, zfr (wLd m) S0 S → bMem S m ps.2 tn nd d → bPure ps.2 tn nd d → bFr ps.2 tn nd d ((s + 1) * 8) 0 → bG nd ((s + 1) * 8) → s < nd.length → nd.length ≤ 33 → Q (k83 m P fl (nI s) S)) : ∀ dd F l (S : zM) nd d, dd + l = 8 → dd < F → zfr (wLd m) S0 S → bMem S m ps.2 tn nd d → bPure ps.2 tn nd d → bFr ps.2 tn nd d (s * 8 + l) 0 → bG nd (s * 8 + l) → s < nd.length → nd.length ≤ 33 → Q (L_Machine_build_61 k83 F m P fl (nI s) (nI l) S) := by
  intro dd
  induction dd with
  | zero =>
    intro F l S nd d hd hF hf hM hp hFr hG hsn h33
    cases F with
    | zero => omega
    | succ F =>
      have el : l = 8 := by omega
      subst el
      rw [L_Machine_build_61, if_neg (by decide)]
      exact HK S nd d hf hM hp (by rw [show (s + 1) * 8 = s * 8 + 8 by omega]; exact hFr) (by rw [show (s + 1) * 8 = s * 8 + 8 by omega]; exact hG) hsn h33
  | succ dd ih =>
    intro F l S nd d hd hF hf hM hp hFr hG hsn h33
    cases F with
    | zero => omega
    | succ F =>
      obtain ⟨S', nd', d', k1, k2, k3, k4, k5, k6, k7, k8⟩ := lead hfl hs hP h1 h2 (show l < 8 by omega) hf hM hp hFr hG hsn h33
      have hlt : nI l < 8 := (nI_ltI (b := 8) (by omega) (by omega)).2 (by omega)
      have hh : zh S m = (3, 0) := by rw [fr_h hf]; exact hs.1
      rw [L_Machine_build_61, if_pos hlt]
      simp only [zcl, hh, if_true, k1, Option.bind_some, nI_1]
      exact ih F (l + 1) S' nd' d' (by omega) (by omega) k2 k3 k4 k5 k6 k7 k8
theorem build44 (hfl : fl = if tn then 1 else 0) (hs : sMach S0 m) (hP : qPass S0 P ps mask) (h1 : P + 2 ≤ m) (h2 : m + 7 ≤ P + 16) : ∀ dd F s (S : zM) nd d, dd + s = 34 → dd < F → zfr (wLd m) S0 S → bMem S m ps.2 tn nd d → bPure ps.2 tn nd d → bFr ps.2 tn nd d (s * 8) 0 → bG nd (s * 8) → s ≤ nd.length → nd.length ≤ 33 → ∃ S' nd' d', L_Machine_build_44 F m P fl (nI s) S = some S' ∧ zfr (wLd m) S0 S' ∧ bMem S' m ps.2 tn nd' d' ∧ (∀ i, i < ps.2.length → d' i = (bT ps.2 tn i).length) ∧ wNd ps.2 tn nd' := by
  have hw := hP.2.2.2.2.2.1
  intro dd
  induction dd with
  | zero => intro F s S nd d hd hF hf hM hp hFr hG hsn h33; omega
  | succ dd ih =>
    intro F s S nd d hd hF hf hM hp hFr hG hsn h33
    have hh : zh S m = (3, 0) := by rw [fr_h hf]; exact hs.1
    cases F with
    | zero => omega
    | succ F =>
      by_cases e : s < nd.length
      · have := build61 (k83 := F_Machine_build_83 (L_Machine_build_44 F)) hfl hs hP h1 h2 (s := s) (fun o => ∃ S' nd' d', o = some S' ∧ zfr (wLd m) S0 S' ∧ bMem S' m ps.2 tn nd' d' ∧ (∀ i, i < ps.2.length → d' i = (bT ps.2 tn i).length) ∧ wNd ps.2 tn nd') (fun S' nd' d' a1 a2 a3 a4 a5 a6 a7 => by
          simp only [F_Machine_build_83, nI_1]
          exact ih F (s + 1) S' nd' d' (by omega) (by omega) a1 a2 a3 a4 a5 (by omega) a7) 8 zF 0 S nd d (by omega) (by rw [zF_eq]; omega) hf hM hp hFr hG e h33
        obtain ⟨S', nd', d', k1, k2⟩ := this
        refine ⟨S', nd', d', ?_, k2⟩
        simp (disch := omega) [L_Machine_build_44, -Prod.exists, -Prod.forall, ↓bb_gf, ↓bb_gr, ↓bb_len, ↓bb_ga, ↓bb_gl, ↓bb_go, ↓bb_pf, ↓bb_pz, ↓bb_pr, ↓bb_pa, ↓bb_pb, ↓bb_pl, ↓bb_po, ↓bb_cl, ↓bb_some, ↓bb_RI, ↓bb_RJ, mm_hI, mm_hJ, mm_hR, mm_nI, mm_nJ, mm_nR, mm_sI, mm_sJ, mm_sR, mm_RI, mm_RJ, mm_IJ, mm_IR, mm_JI, mm_JR, mm_II, mm_JJ, mm_RR, nn_lit, nI_add, pk_mul, nI_clamp, nI_ltI, nI_leI, nI_eq, nn_in, nn_eqm, nn_meq, nn_ltm, nn_mlt, nn_lem, nn_mle, nn_in_m, hh, hM.1, e, show s < 33 by omega]
        exact k1
      · obtain ⟨q1, q2⟩ := b_end hp hFr (by omega) (fun i hi => (ruT_le (ru_w hw hi) tn).2) h33
        refine ⟨S, nd, d, ?_, hf, hM, q1, q2⟩
        simp (disch := omega) [L_Machine_build_44, -Prod.exists, -Prod.forall, ↓bb_gf, ↓bb_gr, ↓bb_len, ↓bb_ga, ↓bb_gl, ↓bb_go, ↓bb_pf, ↓bb_pz, ↓bb_pr, ↓bb_pa, ↓bb_pb, ↓bb_pl, ↓bb_po, ↓bb_cl, ↓bb_some, ↓bb_RI, ↓bb_RJ, mm_hI, mm_hJ, mm_hR, mm_nI, mm_nJ, mm_nR, mm_sI, mm_sJ, mm_sR, mm_RI, mm_RJ, mm_IJ, mm_IR, mm_JI, mm_JR, mm_II, mm_JJ, mm_RR, nn_lit, nI_add, pk_mul, nI_clamp, nI_ltI, nI_leI, nI_eq, nn_in, nn_eqm, nn_meq, nn_ltm, nn_mlt, nn_lem, nn_mle, nn_in_m, hh, hM.1, e]
/-! what may stand beside -/
theorem bear24 (hs : sMach S0 m) (hP : qPass S0 P ps mask) (h1 : P + 2 ≤ m) (h2 : m + 7 ≤ P + 16) {s : Nat} (hs9 : s < 9) {k90 : Nat → Nat → Int32 → zM → Option zM} (Q : Option zM → Prop) {A B : Nat → Int32} (HK : ∀ S, zfr (rg (m + 4) (m + 6)) S0 S → (∀ k, k < 9 → zI S (m + 4) k = if k = s then nI (zbits ps.2.length (fun i => (zru ps.2 i).2.2.1.testBit s)) else A k) → (∀ k, k < 9 → zI S (m + 5) k = if k = s then nI (zbits ps.2.length (fun i => (zru ps.2 i).2.2.2.testBit s)) else B k) → Q (k90 m P (nI s) S)) : ∀ dd F i (S : zM), dd + i = ps.2.length → dd < F → zfr (rg (m + 4) (m + 6)) S0 S → (∀ k, k < 9 → zI S (m + 4) k = if k = s then nI (zbits i (fun i => (zru ps.2 i).2.2.1.testBit s)) else A k) → (∀ k, k < 9 → zI S (m + 5) k = if k = s then nI (zbits i (fun i => (zru ps.2 i).2.2.2.testBit s)) else B k) → Q (L_Machine_bearSides_24 k90 F m P (nI s) (nI i) S) := by
  have hw := hP.2.2.2.2.2.1
  have hw8 := hw.1
  intro dd
  induction dd with
  | zero =>
    intro F i S hd hF hf hA hB
    cases F with
    | zero => omega
    | succ F =>
      have kP := qPass_fr hP (fr_mono hf (fun b j hb => by have := hb.1; have := hb.2; unfold rg; omega)) h1 h2
      have ei : i = ps.2.length := by omega
      subst ei
      simp (disch := omega) [L_Machine_bearSides_24, -Prod.exists, -Prod.forall, ↓bb_gf, ↓bb_gr, ↓bb_len, ↓bb_ga, ↓bb_gl, ↓bb_go, ↓bb_pf, ↓bb_pz, ↓bb_pr, ↓bb_pa, ↓bb_pb, ↓bb_pl, ↓bb_po, ↓bb_cl, ↓bb_some, ↓bb_RI, ↓bb_RJ, mm_hI, mm_hJ, mm_hR, mm_nI, mm_nJ, mm_nR, mm_sI, mm_sJ, mm_sR, mm_RI, mm_RJ, mm_IJ, mm_IR, mm_JI, mm_JR, mm_II, mm_JJ, mm_RR, kP.1.1, kP.2.1, nI_ltI]
      exact HK S hf hA hB
  | succ dd ih =>
    intro F i S hd hF hf hA hB
    cases F with
    | zero => omega
    | succ F =>
      have hf7 := fr_mono hf (V := rg m (m + 7)) (fun b j hb => by have := hb.1; have := hb.2; unfold rg; omega)
      have kP := qPass_fr hP hf7 h1 h2
      have hi : i < ps.2.length := by omega
      have hru := kP.2.2.2.2.1 i hi
      have hra := qpass_ruleAt kP hi
      have wr := ru_w hw hi
      have ks : sMach S m := by unfold sMach; simp only [fr_h hf, fr_R hf]; exact hs
      obtain ⟨s1, s2, s3, s4, s5, s6, s7, s8, s9, s10, s11, s12, s13⟩ := ks
      have eA := hA s hs9
      have eB := hB s hs9
      rw [if_pos rfl] at eA eB
      have bit : ∀ x, x < 512 → ((nI x >>> (nI s &&& nI 31)) &&& nI 1) <<< (nI i &&& nI 31) = nI (if x.testBit s then 2 ^ i else 0) := by
        intro x hx
        rw [nn_bit (by omega) (by omega)]
        split
        · rw [nn_pow2 (by omega)]
        · have := nn_shl (n := 0) (k := i) (by omega) (by omega)
          rw [Nat.zero_mul] at this; exact this
      have orA : nI (zbits i (fun i => (zru ps.2 i).2.2.1.testBit s)) ||| nI (if (zru ps.2 i).2.2.1.testBit s then 2 ^ i else 0) = nI (zbits (i + 1) (fun i => (zru ps.2 i).2.2.1.testBit s)) := by rw [fa_or, bits_or]
      have orB : nI (zbits i (fun i => (zru ps.2 i).2.2.2.testBit s)) ||| nI (if (zru ps.2 i).2.2.2.testBit s then 2 ^ i else 0) = nI (zbits (i + 1) (fun i => (zru ps.2 i).2.2.2.testBit s)) := by rw [fa_or, bits_or]
      have b1 := bit (zru ps.2 i).2.2.1 wr.2.2.2.2.2.1
      have b2 := bit (zru ps.2 i).2.2.2 wr.2.2.2.2.2.2
      obtain ⟨S1, hS1⟩ : ∃ S1, S1 = zwI (zwI S (m + 4) s (nI (zbits (i + 1) (fun i => (zru ps.2 i).2.2.1.testBit s)))) (m + 5) s (nI (zbits (i + 1) (fun i => (zru ps.2 i).2.2.2.testBit s))) := ⟨_, rfl⟩
      have key := ih F (i + 1) S1 (by omega) (by omega) (by rw [hS1]; exact fr_trans hf (fr_trans (fr_wI _ _ ⟨by omega, by omega⟩) (fr_wI _ _ ⟨by omega, by omega⟩))) (fun k hk => by
          rw [hS1]
          by_cases e : k = s
          · subst e; simp [mm_II]
          · simp [mm_II, e]; rw [hA k hk, if_neg e]) (fun k hk => by
          rw [hS1]
          by_cases e : k = s
          · subst e; simp [mm_II]
          · simp [mm_II, e]; rw [hB k hk, if_neg e])
      have i3 : ¬ m + 5 = m + 4 := by omega
      have r3 : zI (zwI S (m + 4) s (nI (zbits (i + 1) (fun i => (zru ps.2 i).2.2.1.testBit s)))) (P + 16 + 5 * i) 3 = nI (zru ps.2 i).2.2.2 := by
        rw [mm_II, if_neg (by omega)]; exact hru.2.2.2.2.2.2
      have ix : ¬ P + 16 + 5 * i = m + 4 := by omega
      simp (disch := omega) [L_Machine_bearSides_24, -Prod.exists, -Prod.forall, ↓bb_gf, ↓bb_gr, ↓bb_len, ↓bb_ga, ↓bb_gl, ↓bb_go, ↓bb_pf, ↓bb_pz, ↓bb_pr, ↓bb_pa, ↓bb_pb, ↓bb_pl, ↓bb_po, ↓bb_cl, ↓bb_some, ↓bb_RI, ↓bb_RJ, mm_hI, mm_hJ, mm_hR, mm_nI, mm_nJ, mm_nR, mm_sI, mm_sJ, mm_sR, mm_RI, mm_RJ, mm_IJ, mm_IR, mm_JI, mm_JR, mm_II, mm_JJ, mm_RR, nn_lit, nI_add, pk_mul, nI_clamp, nI_ltI, nI_leI, nI_eq, nn_in, nn_eqm, nn_meq, nn_ltm, nn_mlt, nn_lem, nn_mle, nn_in_m, kP.1.1, kP.2.1, hi, ↓bS hra, s1, ↓bS s8, s9, hs9, eA, hru.1, hru.2.2.2.2.2.1, b1, orA, ↓bS s10, s11, eB, r3, ix, hru.2.2.2.2.2.2, b2, orB]
      rw [← hS1]
      exact key
theorem bear2 (hs : sMach S0 m) (hP : qPass S0 P ps mask) (h1 : P + 2 ≤ m) (h2 : m + 7 ≤ P + 16) : ∀ dd F s (S : zM), dd + s = 9 → dd < F → zfr (rg (m + 4) (m + 6)) S0 S → (∀ k, k < s → zI S (m + 4) k = nI (zbits ps.2.length (fun i => (zru ps.2 i).2.2.1.testBit k))) → (∀ k, k < s → zI S (m + 5) k = nI (zbits ps.2.length (fun i => (zru ps.2 i).2.2.2.testBit k))) → ∃ S', L_Machine_bearSides_2 F m P (nI s) S = some S' ∧ zfr (rg (m + 4) (m + 6)) S0 S' ∧ (∀ k, k < 9 → zI S' (m + 4) k = nI (zbits ps.2.length (fun i => (zru ps.2 i).2.2.1.testBit k))) ∧ (∀ k, k < 9 → zI S' (m + 5) k = nI (zbits ps.2.length (fun i => (zru ps.2 i).2.2.2.testBit k))) := by
  have hw := hP.2.2.2.2.2.1
  intro dd
  induction dd with
  | zero =>
    intro F s S hd hF hf hA hB
    cases F with
    | zero => omega
    | succ F =>
      have es : s = 9 := by omega
      subst es
      refine ⟨S, ?_, hf, hA, hB⟩
      rw [L_Machine_bearSides_2, if_neg (by decide)]
  | succ dd ih =>
    intro F s S hd hF hf hA hB
    cases F with
    | zero => omega
    | succ F =>
      have ks : sMach S m := by unfold sMach; simp only [fr_h hf, fr_R hf]; exact hs
      obtain ⟨s1, s2, s3, s4, s5, s6, s7, s8, s9, s10, s11, s12, s13⟩ := ks
      have hs9 : s < 9 := by omega
      have key := bear24 hs hP h1 h2 hs9 (k90 := F_Machine_bearSides_90 (L_Machine_bearSides_2 F)) (fun o => ∃ S', o = some S' ∧ zfr (rg (m + 4) (m + 6)) S0 S' ∧ (∀ k, k < 9 → zI S' (m + 4) k = nI (zbits ps.2.length (fun i => (zru ps.2 i).2.2.1.testBit k))) ∧ (∀ k, k < 9 → zI S' (m + 5) k = nI (zbits ps.2.length (fun i => (zru ps.2 i).2.2.2.testBit k)))) (A := zI S (m + 4)) (B := zI S (m + 5)) (fun S' f a b => by
        simp only [F_Machine_bearSides_90, nI_1]
        refine ih F (s + 1) S' (by omega) (by omega) f (fun k hk => ?_) (fun k hk => ?_)
        · rw [a k (by omega)]
          by_cases e : k = s
          · subst e; rw [if_pos rfl]
          · rw [if_neg e]; exact hA k (by omega)
        · rw [b k (by omega)]
          by_cases e : k = s
          · subst e; rw [if_pos rfl]
          · rw [if_neg e]; exact hB k (by omega)) ps.2.length zF 0 (zwI (zwI S (m + 4) s (nI 0)) (m + 5) s (nI 0)) (by omega) (by rw [zF_eq]; have := hw.1; omega) (fr_trans hf (fr_trans (fr_wI _ _ ⟨by omega, by omega⟩) (fr_wI _ _ ⟨by omega, by omega⟩))) (fun k hk => by
          by_cases e : k = s
          · subst e; simp [mm_II, zbits]
          · simp [mm_II, e]) (fun k hk => by
          by_cases e : k = s
          · subst e; simp [mm_II, zbits]
          · simp [mm_II, e])
      simp (disch := omega) [L_Machine_bearSides_2, -Prod.exists, -Prod.forall, ↓bb_gf, ↓bb_gr, ↓bb_len, ↓bb_ga, ↓bb_gl, ↓bb_go, ↓bb_pf, ↓bb_pz, ↓bb_pr, ↓bb_pa, ↓bb_pb, ↓bb_pl, ↓bb_po, ↓bb_cl, ↓bb_some, ↓bb_RI, ↓bb_RJ, mm_hI, mm_hJ, mm_hR, mm_nI, mm_nJ, mm_nR, mm_sI, mm_sJ, mm_sR, mm_RI, mm_RJ, mm_IJ, mm_IR, mm_JI, mm_JR, mm_II, mm_JJ, mm_RR, nn_lit, nI_add, pk_mul, nI_clamp, nI_ltI, nI_leI, nI_eq, nn_in, nn_eqm, nn_meq, nn_ltm, nn_mlt, nn_lem, nn_mle, nn_in_m, show s ≤ 8 by omega, s1, ↓bS s8, s9, hs9, ↓bS s10, s11]
      exact key
theorem build (hfl : fl = if tn then 1 else 0) (hs : sMach S0 m) (hP : qPass S0 P ps mask) (h1 : P + 2 ≤ m) (h2 : m + 7 ≤ P + 16) : ∃ S', f_Machine_build m P fl S0 = some S' ∧ zfr (rg m (m + 7)) S0 S' ∧ pMach S' m ps.2 tn := by
  have hw := hP.2.2.2.2.2.1
  obtain ⟨s1, s2, s3, s4, s5, s6, s7, s8, s9, s10, s11, s12, s13⟩ := hs
  obtain ⟨S1, e1, f1, v1⟩ := j_fill (v := -2) s3 (by omega) (by omega)
  obtain ⟨S2, e2, f2, v2⟩ := j_fill (S := S1) (v := 0) (by rw [fr_h f1]; exact s7) (by omega) (by omega)
  obtain ⟨S3, e3, f3, v3⟩ := j_fill (S := S2) (v := 0) (by rw [fr_h f2, fr_h f1]; exact s13) (by omega) (by omega)
  have g3 : zfr (rg m (m + 7)) S0 S3 := fr_trans (fr_trans (fr_mono f1 (fun b j hb => by have := hb.1; have := hb.2; unfold rg; omega)) (fr_mono f2 (fun b j hb => by have := hb.1; have := hb.2; unfold rg; omega))) (fr_mono f3 (fun b j hb => by have := hb.1; have := hb.2; unfold rg; omega))
  have ks3 : sMach S3 m := by unfold sMach; simp only [fr_h g3, fr_R g3]; exact ⟨s1, s2, s3, s4, s5, s6, s7, s8, s9, s10, s11, s12, s13⟩
  have kP3 := qPass_fr hP g3 h1 h2
  obtain ⟨S4, e4, f4, a4, b4⟩ := bear2 ks3 kP3 h1 h2 9 zF 0 S3 (by omega) (by rw [zF_eq]; omega) (fr_refl _ _) (fun k hk => by omega) (fun k hk => by omega)
  obtain ⟨S5, hS5⟩ : ∃ S5, S5 = zwI (zwI S4 (m + 2) 0 (nI 0)) m 6 (nI 1) := ⟨_, rfl⟩
  have f5 : zfr (fun b j => (b = m + 2 ∧ j = 0) ∨ (b = m ∧ j = 6)) S4 S5 := by rw [hS5]; exact fr_trans (fr_wI _ _ (Or.inl ⟨rfl, rfl⟩)) (fr_wI _ _ (Or.inr ⟨rfl, rfl⟩))
  have g4 : zfr (rg m (m + 7)) S0 S4 := fr_trans g3 (fr_mono f4 (fun b j hb => by have := hb.1; have := hb.2; unfold rg; omega))
  have g5 : zfr (rg m (m + 7)) S0 S5 := fr_trans g4 (fr_mono f5 (fun b j hb => by unfold rg; omega))
  have ks5 : sMach S5 m := by unfold sMach; simp only [fr_h g5, fr_R g5]; exact ⟨s1, s2, s3, s4, s5, s6, s7, s8, s9, s10, s11, s12, s13⟩
  have kP5 := qPass_fr hP g5 h1 h2
  have st5 : ∀ k, k < 264 → zI S5 (m + 1) k = -2 := fun k hk => by
    rw [fr_I f5 (by omega), fr_I f4 (fun hb => by have := hb.1; have := hb.2; omega), fr_I f3 (fun hb => by have := hb.1; have := hb.2; omega), fr_I f2 (fun hb => by have := hb.1; have := hb.2; omega)]; exact v1 k hk
  have en5 : ∀ k, k < 33 → zI S5 (m + 3) k = 0 := fun k hk => by
    rw [fr_I f5 (by omega), fr_I f4 (fun hb => by have := hb.1; have := hb.2; omega), fr_I f3 (fun hb => by have := hb.1; have := hb.2; omega)]; exact v2 k hk
  have re5 : ∀ k, k < 8 → zI S5 (m + 6) k = 0 := fun k hk => by
    rw [fr_I f5 (by omega), fr_I f4 (fun hb => by have := hb.1; have := hb.2; omega)]; exact v3 k hk
  have M5 : bMem S5 m ps.2 tn [[]] bZ := by
    refine ⟨by rw [hS5]; simp [mm_II], fun s l a b => ?_, fun s a => ?_, fun s a => ?_, fun j hj => ?_⟩
    · rw [st5 _ (by omega)]
      split
      · rename_i q
        have : s = 0 := by simpa using q
        subst this; simp [zidx, ln]
      · rfl
    · have : s = 0 := by simpa using a
      subst this; rw [hS5]; simp [mm_II, ln]
    · rw [en5 s a]
      have z : bEnd ps.2 tn [[]] bZ s = 0 := by
        have z : zbits ps.2.length (fun _ => false) = 0 := bits_ext (fun i => by rw [bits_tb]; simp)
        rw [← z]
        refine bits_cong (fun j hj => ?_)
        rw [decide_eq_false_iff_not]
        intro q
        exact q.2.2.1 (List.length_eq_zero_iff.1 (q.1.symm.trans rfl))
      rw [z]; rfl
    · rw [re5 j (by have := hw.1; omega), show bZ j = 0 from rfl, List.take_zero]; simp; rfl
  have p5 : bPure ps.2 tn [[]] bZ := by
    refine ⟨by simp, by simp, by simp [ln], fun i hi => ⟨Nat.zero_le _, fun e he => ?_⟩, fun t ht => Or.inl (by simpa using ht), by simp, fun t x q => ?_, fun t x t2 x2 q => by simp at q⟩
    · have : e = 0 := Nat.le_zero.1 he
      subst this; simp
    · simp at q
  have F5 : bFr ps.2 tn [[]] bZ (0 * 8) 0 := by
    intro j hj hd
    by_cases e : 0 * 8 < List.idxOf ((bT ps.2 tn j).take (bZ j)) [[]] * 8 + lg (bT ps.2 tn j) (bZ j)
    · exact Or.inl e
    · exact Or.inr ⟨by omega, by omega⟩
  have G5 : bG [[]] (0 * 8) := by
    intro s l hs hl hk hm
    simp at hm
  obtain ⟨S6, nd, d, e6, f6, m6, d6, w6⟩ := build44 hfl ks5 kP5 h1 h2 34 zF 0 S5 [[]] bZ (by omega) (by rw [zF_eq]; omega) (fr_refl _ _) M5 p5 F5 G5 (by simp) (by simp)
  refine ⟨S6, ?_, fr_trans g5 (fr_mono f6 (fun b j hb => ⟨hb.1, hb.2.1⟩)), ?_, nd, w6, ?_⟩
  · have hh1 : zh S1 = zh S0 := fr_h f1
    have hr1 : zR S1 = zR S0 := fr_R f1
    have hh2 : zh S2 = zh S0 := by rw [fr_h f2, hh1]
    have hr2 : zR S2 = zR S0 := by rw [fr_R f2, hr1]
    have hh3 : zh S3 = zh S0 := fr_h g3
    have hr3 : zR S3 = zR S0 := fr_R g3
    have hh4 : zh S4 = zh S0 := fr_h g4
    have hr4 : zR S4 = zR S0 := fr_R g4
    have e4' : f_Machine_bearSides m P S3 = some S4 := e4
    have z0 : zinb 0 33 = true := by decide
    unfold f_Machine_build
    simp (disch := omega) only [bb_gr, bb_pf, bb_pa, bb_cl, s1, if_true, bS s2, bS e1, hh1, hr1, bS s6, bS e2, hh2, hr2, bS s12, bS e3, hh3, hr3, bS e4', hh4, hr4, bS s4, s5, mm_hI, z0, and_true, ne_eq, not_false_eq_true]
    rw [if_pos ⟨trivial, by omega⟩]
    rw [hS5] at e6
    exact e6
  · have g6 := fr_trans g5 (fr_mono f6 (V := rg m (m + 7)) (fun b j hb => ⟨hb.1, hb.2.1⟩))
    unfold sMach; simp only [fr_h g6, fr_R g6]; exact ⟨s1, s2, s3, s4, s5, s6, s7, s8, s9, s10, s11, s12, s13⟩
  · obtain ⟨c1, c2, c3, c4, c5⟩ := m6
    have n33 := w6.1
    have keepB : ∀ k, k < 9 → zI S6 (m + 4) k = zI S5 (m + 4) k ∧ zI S6 (m + 5) k = zI S5 (m + 5) k := fun k hk => ⟨fr_I f6 (by unfold wLd; omega), fr_I f6 (by unfold wLd; omega)⟩
    refine ⟨c1, fun s l a b => by rw [c2 s l (by omega) b, if_pos a], c3, fun s a => ?_, fun k hk => ?_, fun k hk => ?_⟩
    · rw [c4 s (by omega)]
      congr 1
      refine bits_cong (fun j hj => ?_)
      rw [d6 j hj]
      have e : ruT tn (zru ps.2 j) = bT ps.2 tn j := rfl
      rw [e]
      by_cases q : bT ps.2 tn j = ln nd s
      · rw [q]; simp [a]
      · simp [q]
    · rw [(keepB k hk).1, fr_I f5 (by omega)]; exact a4 k hk
    · rw [(keepB k hk).2, fr_I f5 (by omega)]; exact b4 k hk
end
theorem q_p {S : zM} {P : Nat} {ps : zPs} {mask : Nat} (h : qPass S P ps mask) (h1 : pMach S (P + 2) ps.2 false) (h2 : pMach S (P + 9) ps.2 true) : pPass S P ps mask := by
  obtain ⟨a1, a2, a3, a4, a5, a6, a7⟩ := h
  exact ⟨a1, a2, a3, a4, a5, h1, h2, a6, a7⟩
theorem qPass_sm {S S' : zM} {P lo hi : Nat} {ps : zPs} {mask : Nat} (h : qPass S P ps mask) (q : zsm lo hi S S') (h1 : lo ≤ P) (h2 : P + 56 ≤ hi) : qPass S' P ps mask := by
  obtain ⟨a1, a2, a3, a4, a5, a6, a7⟩ := h
  have e : ∀ j, zI S' P j = zI S P j := fun j => (q.2 _ _ (by omega) (by omega)).2.1
  exact ⟨sPass_sm a1 q h1 (by omega), by rw [e]; exact a2, by rw [e]; exact a3, by rw [e]; exact a4, fun i hi => rule_sm (a5 i hi) q (by omega) (by have := a6.1; omega), a6, a7⟩
/-- the cells of a script's machines -/
def wBm (T : Nat) : Nat → Nat → Prop := fun b _ => T + 4 ≤ b ∧ b < T + 172 ∧ 2 ≤ (b - (T + 4)) % 56 ∧ (b - (T + 4)) % 56 < 16
theorem bm_l {S0 : zM} {T : Nat} {ps : List zPs} {asd : Nat → Nat} (hs : sScr S0 T) (hn : zI S0 T 5 = nI ps.length) (h3 : ps.length ≤ 3) : ∀ dd F p (S : zM), dd + p = ps.length → dd < F → zfr (wBm T) S0 S → (∀ q, q < p → pPass S (aPs T q) (zpa_ ps q) (asd q)) → (∀ q, p ≤ q → q < ps.length → qPass S (aPs T q) (zpa_ ps q) (asd q) ∧ sMach S (aPs T q + 2) ∧ sMach S (aPs T q + 9)) → ∃ S', L_Script_buildMachines_2 F T (nI p) S = some S' ∧ zfr (wBm T) S0 S' ∧ ∀ q, q < ps.length → pPass S' (aPs T q) (zpa_ ps q) (asd q) := by
  intro dd
  induction dd with
  | zero =>
    intro F p S hd hF hf h1 h2
    cases F with
    | zero => omega
    | succ F =>
      have hh : zh S T = (10, 0) := by rw [fr_h hf]; exact hs.1
      have e5 : zI S T 5 = nI ps.length := by rw [fr_I hf (fun hb => by have := hb.1; omega)]; exact hn
      refine ⟨S, ?_, hf, fun q hq => h1 q (by omega)⟩
      simp (disch := omega) [L_Script_buildMachines_2, -Prod.exists, -Prod.forall, ↓bb_gf, ↓bb_gr, ↓bb_len, ↓bb_ga, ↓bb_gl, ↓bb_go, ↓bb_pf, ↓bb_pz, ↓bb_pr, ↓bb_pa, ↓bb_pb, ↓bb_pl, ↓bb_po, ↓bb_cl, ↓bb_some, ↓bb_RI, ↓bb_RJ, mm_hI, mm_hJ, mm_hR, mm_nI, mm_nJ, mm_nR, mm_sI, mm_sJ, mm_sR, mm_RI, mm_RJ, mm_IJ, mm_IR, mm_JI, mm_JR, mm_II, mm_JJ, mm_RR, nn_lit, nI_add, pk_mul, nI_clamp, nI_ltI, nI_leI, nI_eq, nn_in, nn_eqm, nn_meq, nn_ltm, nn_mlt, nn_lem, nn_mle, nn_in_m, hh, e5, show ¬ p < ps.length by omega]
  | succ dd ih =>
    intro F p S hd hF hf h1 h2
    cases F with
    | zero => omega
    | succ F =>
      have hp : p < ps.length := by omega
      have hp3 : p < 3 := by omega
      have hh : zh S T = (10, 0) := by rw [fr_h hf]; exact hs.1
      have hh3 : zh S (T + 3) = (115, 3) := by rw [fr_h hf]; exact hs.2.2.2.2.2.2.1
      have hr2 : zR S T 2 = some (T + 3) := by rw [fr_R hf]; exact hs.2.2.2.2.2.1
      have hr3 : zR S (T + 3) p = some (aPs T p) := by rw [fr_R hf]; exact hs.2.2.2.2.2.2.2 p hp3
      have e5 : zI S T 5 = nI ps.length := by rw [fr_I hf (fun hb => by have := hb.1; omega)]; exact hn
      obtain ⟨kP, km, km2⟩ := h2 p (by omega) hp
      have ha : aPs T p = T + 4 + 56 * p := rfl
      obtain ⟨S1, e1, f1, m1⟩ := build (tn := false) (fl := 0) (by simp) km kP (by omega) (by omega)
      have kP1 := qPass_fr kP f1 (by omega) (by omega)
      have km21 : sMach S1 (aPs T p + 9) := sMach_sm km2 (sm_fr (lo := aPs T p + 9) (hi := aPs T p + 16) f1 (fun b j q1 q2 => by unfold rg; omega)) (by omega) (by omega)
      obtain ⟨S2, e2, f2, m2⟩ := build (tn := true) (fl := 1) (by simp) km21 kP1 (by omega) (by omega)
      have kP2 := qPass_fr kP1 f2 (by omega) (by omega)
      have m12 : pMach S2 (aPs T p + 2) (zpa_ ps p).2 false := mach_sm m1 (sm_fr (lo := aPs T p + 2) (hi := aPs T p + 9) f2 (fun b j q1 q2 => by unfold rg; omega)) (by omega) (by omega)
      have f12 : zfr (rg (aPs T p) (aPs T p + 56)) S S2 := fr_trans (fr_mono f1 (fun b j hb => by have := hb.1; have := hb.2; unfold rg; omega)) (fr_mono f2 (fun b j hb => by have := hb.1; have := hb.2; unfold rg; omega))
      have oth : ∀ q, q ≠ p → zsm (aPs T q) (aPs T q + 56) S S2 := fun q hq => sm_fr f12 (fun b j q1 q2 => by unfold rg; unfold aPs at *; omega)
      obtain ⟨S', k1, k2, k3⟩ := ih F (p + 1) S2 (by omega) (by omega) (fr_trans hf (fr_trans (fr_mono f1 (fun b j hb => by have := hb.1; have := hb.2; unfold wBm; omega)) (fr_mono f2 (fun b j hb => by have := hb.1; have := hb.2; unfold wBm; omega)))) (fun q hq => by
        by_cases e : q = p
        · subst e; exact q_p kP2 m12 m2
        · exact pass_sm (h1 q (by omega)) (oth q e) (by omega) (by omega)) (fun q hq hq2 => by
        obtain ⟨w1, w2, w3⟩ := h2 q (by omega) hq2
        exact ⟨qPass_sm w1 (oth q (by omega)) (by omega) (by omega), sMach_sm w2 (oth q (by omega)) (by omega) (by omega), sMach_sm w3 (oth q (by omega)) (by omega) (by omega)⟩)
      refine ⟨S', ?_, k2, k3⟩
      have hpa : f_Script_passAt T (nI p) S = some (some (aPs T p), S) := by
        simp (disch := omega) [f_Script_passAt, -Prod.exists, -Prod.forall, ↓bb_gf, ↓bb_gr, ↓bb_len, ↓bb_ga, ↓bb_gl, ↓bb_go, ↓bb_pf, ↓bb_pz, ↓bb_pr, ↓bb_pa, ↓bb_pb, ↓bb_pl, ↓bb_po, ↓bb_cl, ↓bb_some, ↓bb_RI, ↓bb_RJ, mm_hI, mm_hJ, mm_hR, mm_nI, mm_nJ, mm_nR, mm_sI, mm_sJ, mm_sR, mm_RI, mm_RJ, mm_IJ, mm_IR, mm_JI, mm_JR, mm_II, mm_JJ, mm_RR, nn_lit, nI_add, pk_mul, nI_clamp, nI_ltI, nI_leI, nI_eq, nn_in, nn_eqm, nn_meq, nn_ltm, nn_mlt, nn_lem, nn_mle, nn_in_m, hh, e5, hp, hp3, ↓bS hr2, hh3, hr3]
      have hP0 := kP.1.1
      have hP1 := kP1.1.1
      rw [← k1]
      simp (disch := omega) [L_Script_buildMachines_2, -Prod.exists, -Prod.forall, ↓bb_gf, ↓bb_gr, ↓bb_len, ↓bb_ga, ↓bb_gl, ↓bb_go, ↓bb_pf, ↓bb_pz, ↓bb_pr, ↓bb_pa, ↓bb_pb, ↓bb_pl, ↓bb_po, ↓bb_cl, ↓bb_some, ↓bb_RI, ↓bb_RJ, mm_hI, mm_hJ, mm_hR, mm_nI, mm_nJ, mm_nR, mm_sI, mm_sJ, mm_sR, mm_RI, mm_RJ, mm_IJ, mm_IR, mm_JI, mm_JR, mm_II, mm_JJ, mm_RR, nI_ltI, nI_1, hh, e5, hp, ↓bS hpa, hP0, ↓bS kP.1.2.2.2.2.1, km.1, ↓bS e1, hP1, ↓bS kP1.1.2.2.2.2.2, km21.1, ↓bS e2]
theorem buildMachines {S : zM} {T : Nat} {ps : List zPs} {asd : Nat → Nat} (hs : sScr S T) (hn : zI S T 5 = nI ps.length) (h3 : ps.length ≤ 3) (hq : ∀ q, q < ps.length → qPass S (aPs T q) (zpa_ ps q) (asd q) ∧ sMach S (aPs T q + 2) ∧ sMach S (aPs T q + 9)) : ∃ S', f_Script_buildMachines T S = some S' ∧ zfr (wBm T) S S' ∧ ∀ q, q < ps.length → pPass S' (aPs T q) (zpa_ ps q) (asd q) :=
  bm_l hs hn h3 ps.length zF 0 S (by omega) (by rw [zF_eq]; omega) (fr_refl _ _) (fun q hq => by omega) (fun q _ h => hq q h)
