/-! the reference: the states laid out -/
def mSt (S : zM) (M : Nat) (nd : List (List Nat)) : Prop := zI S M 31 = nI nd.length ∧ ∀ i, i < nd.length → zI S (M + 11) i = nI (zcd (ln nd i))
theorem ln_idx_ {nd : List (List Nat)} (hd : nd.Nodup) {i : Nat} (h : i < nd.length) : nd.idxOf (ln nd i) = i := by
  have : ln nd i = nd[i] := by simp [ln, h]
  rw [this]
  exact List.Nodup.idxOf_getElem hd i h
theorem nd_c3 {rs : List zRu} {nd : List (List Nat)} (hw : wRs rs) (hn : wNd rs false nd) {t : List Nat} (h : t ∈ nd) : zc3 t := by
  rcases (hn.2.2.2.2.1 t).1 h with rfl | ⟨i, hi, hp⟩
  · exact ⟨by simp, fun x hx => by simp at hx⟩
  · exact c3_pre (ru_w hw hi) hp
theorem nd_pre {rs : List zRu} {tn : Bool} {nd : List (List Nat)} (hn : wNd rs tn nd) {t : List Nat} {x : Nat} (h : t ++ [x] ∈ nd) : t ∈ nd := by
  rcases (hn.2.2.2.2.1 _).1 h with q | ⟨i, hi, hp⟩
  · simp at q
  · exact (hn.2.2.2.2.1 t).2 (Or.inr ⟨i, hi, (List.prefix_append t [x]).trans hp⟩)
theorem nd_mono {rs : List zRu} {nd : List (List Nat)} (hw : wRs rs) (hn : wNd rs false nd) {i j : Nat} (hi : i < j) (hj : j < nd.length) : zcd (ln nd i) < zcd (ln nd j) := by
  have hd := hn.2.2.2.1
  refine cd_mono (fun t h => nd_c3 hw hn h) (fun t x h => nd_pre hn h) hn.2.2.2.2.2 ?_ j (ln nd i) (ln nd j) ?_ (ln_mem (by omega)) (ln_mem hj) ?_
  · rw [← hn.2.2.1]; exact ln_idx_ hd hn.2.1
  · rw [ln_idx_ hd hj]; omega
  · rw [ln_idx_ hd hj, ln_idx_ hd (by omega)]; exact hi
theorem cd_inj {rs : List zRu} {nd : List (List Nat)} (hw : wRs rs) (hn : wNd rs false nd) {i j : Nat} (hi : i < nd.length) (hj : j < nd.length) (h : zcd (ln nd i) = zcd (ln nd j)) : i = j := by
  by_cases a : i < j
  · have := nd_mono hw hn a hj; omega
  by_cases b : j < i
  · have := nd_mono hw hn b hi; omega
  omega
section
variable {S S0 : zM} {M : Nat} {sc : zSc} {asd : Nat → Nat} {p : Nat} {nd : List (List Nat)}
theorem states_l (hm0 : sMo S0 M) (hs0 : mSc S0 M sc asd) (hp : p < sc.2.2.length) (hn : wNd (zpa_ sc.2.2 p).2 false nd) : ∀ d F (S : zM) c k, d + c = 2048 → d < F → k ≤ nd.length → zfr (fun b j => (b = M ∧ j = 31) ∨ b = M + 11) S0 S → zI S M 31 = nI k → (∀ i, i < k → zI S (M + 11) i = nI (zcd (ln nd i)) ∧ zcd (ln nd i) < c) → (∀ i, k ≤ i → i < nd.length → c ≤ zcd (ln nd i)) → ∃ S', L_Mo_laysStates_7 F M (nI p) (nI c) S = some S' ∧ zfr (fun b j => (b = M ∧ j = 31) ∨ b = M + 11) S0 S' ∧ mSt S' M nd := by
  have wr := ps_w hs0.2.2.2.2.2.2.2.2.2.2.2.2 hp
  have n33 := hn.1
  intro d
  induction d with
  | zero =>
    intro F S c k hd hF hk hf h31 h1 h2
    cases F with
    | zero => omega
    | succ F =>
      have ek : k = nd.length := Classical.byContradiction (fun q => by
        have := h2 k (by omega) (by omega)
        have := cd_lt (nd_c3 wr hn (ln_mem (s := k) (by omega)))
        omega)
      have ec : c = 2048 := by omega
      subst ec
      subst ek
      have hx : ¬ nI 2048 < (2048 : Int32) := by decide
      exact ⟨S, by simp [L_Mo_laysStates_7, hx], hf, h31, fun i hi => (h1 i hi).1⟩
  | succ d ih =>
    intro F S c k hd hF hk hf h31 h1 h2
    cases F with
    | zero => omega
    | succ F =>
      have hm := mo_fr hm0 hf
      have hs := mSc_fr hs0 hf (fun j a b => by omega) (fun b j a => by omega)
      have hc : nI c < (2048 : Int32) := (nI_ltI (b := 2048) (by omega) (by omega)).2 (by omega)
      have e1 : nI c + 1 = nI (c + 1) := nI_add c 1
      rcases m_isb hm hs hp hn (c := c) (by omega) with ⟨⟨t, q1, q2⟩, q3⟩ | ⟨q1, q3⟩
      · have ti := List.idxOf_lt_length_of_mem q1
        have et := ln_idx q1
        have ek : nd.idxOf t = k := by
          by_cases a : nd.idxOf t < k
          · have := (h1 _ a).2; rw [et] at this; omega
          by_cases b : k < nd.idxOf t
          · have u1 := nd_mono wr hn b ti
            have u2 := h2 k (by omega) (by omega)
            rw [et] at u1; omega
          omega
        rw [ek] at ti et
        have zi : zinb (nI k) 73 = true := (nn_in (by omega)).2 (by omega)
        have ci : (nI k).toNatClampNeg = k := nI_clamp (by omega)
        have ek1 : nI k + 1 = nI (k + 1) := nI_add k 1
        have nxt := ih F (zwI (zwI S (M + 11) k (nI c)) M 31 (nI (k + 1))) (c + 1) (k + 1) (by omega) (by omega) (by omega) (fr_trans (fr_trans hf (fr_wI _ _ (Or.inr rfl))) (fr_wI _ _ (Or.inl ⟨rfl, rfl⟩))) (by simp [-Prod.exists, -Prod.forall, zgf, zgr, zpf, zpz, zpr, zga, zgl, zgo, zpa, zpb, zpl, zpo, mm_len, zcl, Option.bind_some, Option.bind_none, mm_hI, mm_hJ, mm_hR, mm_nI, mm_nJ, mm_nR, mm_sI, mm_sJ, mm_sR, mm_RI, mm_RJ, mm_IJ, mm_IR, mm_JI, mm_JR, mm_II, mm_JJ, mm_RR]) (fun i hi => by
          by_cases a : i = k
          · subst a; simp [-Prod.exists, -Prod.forall, zgf, zgr, zpf, zpz, zpr, zga, zgl, zgo, zpa, zpb, zpl, zpo, mm_len, zcl, Option.bind_some, Option.bind_none, mm_hI, mm_hJ, mm_hR, mm_nI, mm_nJ, mm_nR, mm_sI, mm_sJ, mm_sR, mm_RI, mm_RJ, mm_IJ, mm_IR, mm_JI, mm_JR, mm_II, mm_JJ, mm_RR, et, q2]
          · have := h1 i (by omega)
            refine ⟨?_, by omega⟩
            rw [← this.1]; simp [-Prod.exists, -Prod.forall, zgf, zgr, zpf, zpz, zpr, zga, zgl, zgo, zpa, zpb, zpl, zpo, mm_len, zcl, Option.bind_some, Option.bind_none, mm_hI, mm_hJ, mm_hR, mm_nI, mm_nJ, mm_nR, mm_sI, mm_sJ, mm_sR, mm_RI, mm_RJ, mm_IJ, mm_IR, mm_JI, mm_JR, mm_II, mm_JJ, mm_RR, a]) (fun i a b => by
          have := nd_mono wr hn (i := k) (j := i) (by omega) b
          rw [et] at this; omega)
        obtain ⟨S', r1, r2⟩ := nxt
        refine ⟨S', ?_, r2⟩
        rw [← r1, L_Mo_laysStates_7]
        simp (disch := omega) [-Prod.exists, -Prod.forall, ↓bb_gf, ↓bb_gr, ↓bb_len, ↓bb_ga, ↓bb_gl, ↓bb_go, ↓bb_pf, ↓bb_pz, ↓bb_pr, ↓bb_pa, ↓bb_pb, ↓bb_pl, ↓bb_po, ↓bb_cl, ↓bb_some, ↓bb_RI, ↓bb_RJ, mm_hI, mm_hJ, mm_hR, mm_nI, mm_nJ, mm_nR, mm_sI, mm_sJ, mm_sR, mm_RI, mm_RJ, mm_IJ, mm_IR, mm_JI, mm_JR, mm_II, mm_JJ, mm_RR, hc, hm.1, ↓bS q3, ↓bS (mo_states hm), mh_states hm, h31, zi, ci, ek1, e1]
      · obtain ⟨S', r1, r2⟩ := ih F S (c + 1) k (by omega) (by omega) hk hf h31 (fun i hi => ⟨(h1 i hi).1, by have := (h1 i hi).2; omega⟩) (fun i a b => by
          have u1 := h2 i a b
          have u2 := q1 _ (ln_mem b)
          omega)
        refine ⟨S', ?_, r2⟩
        rw [← r1, L_Mo_laysStates_7]
        simp (disch := omega) [-Prod.exists, -Prod.forall, ↓bb_gf, ↓bb_gr, ↓bb_len, ↓bb_ga, ↓bb_gl, ↓bb_go, ↓bb_pf, ↓bb_pz, ↓bb_pr, ↓bb_pa, ↓bb_pb, ↓bb_pl, ↓bb_po, ↓bb_cl, ↓bb_some, ↓bb_RI, ↓bb_RJ, mm_hI, mm_hJ, mm_hR, mm_nI, mm_nJ, mm_nR, mm_sI, mm_sJ, mm_sR, mm_RI, mm_RJ, mm_IJ, mm_IR, mm_JI, mm_JR, mm_II, mm_JJ, mm_RR, hc, hm.1, ↓bS q3, e1]
theorem m_states (hm : sMo S M) (hs : mSc S M sc asd) (hp : p < sc.2.2.length) (hn : wNd (zpa_ sc.2.2 p).2 false nd) : ∃ S', f_Mo_laysStates M (nI p) S = some S' ∧ zfr (fun b j => (b = M ∧ j = 31) ∨ b = M + 11) S S' ∧ mSt S' M nd := by
  have hf : zfr (fun b j => (b = M ∧ j = 31) ∨ b = M + 11) S (zwI S M 31 0) := fr_wI _ _ (Or.inl ⟨rfl, rfl⟩)
  obtain ⟨S', r1, r2, r3⟩ := states_l hm hs hp hn 2048 zF (zwI S M 31 0) 0 0 (by omega) (by rw [zF_eq]; omega) (by omega) hf (by simp [-Prod.exists, -Prod.forall, zgf, zgr, zpf, zpz, zpr, zga, zgl, zgo, zpa, zpb, zpl, zpo, mm_len, zcl, Option.bind_some, Option.bind_none, mm_hI, mm_hJ, mm_hR, mm_nI, mm_nJ, mm_nR, mm_sI, mm_sJ, mm_sR, mm_RI, mm_RJ, mm_IJ, mm_IR, mm_JI, mm_JR, mm_II, mm_JJ, mm_RR]; rfl) (fun i hi => by omega) (fun i _ _ => by omega)
  refine ⟨S', ?_, r2, r3⟩
  rw [← r1]
  simp [f_Mo_laysStates, -Prod.exists, -Prod.forall, ↓bb_gf, ↓bb_gr, ↓bb_len, ↓bb_ga, ↓bb_gl, ↓bb_go, ↓bb_pf, ↓bb_pz, ↓bb_pr, ↓bb_pa, ↓bb_pb, ↓bb_pl, ↓bb_po, ↓bb_cl, ↓bb_some, ↓bb_RI, ↓bb_RJ, mm_hI, mm_hJ, mm_hR, mm_nI, mm_nJ, mm_nR, mm_sI, mm_sJ, mm_sR, mm_RI, mm_RJ, mm_IJ, mm_IR, mm_JI, mm_JR, mm_II, mm_JJ, mm_RR, hm.1]
  rfl
end
