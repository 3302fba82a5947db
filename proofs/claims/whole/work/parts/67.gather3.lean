/-! the class: gather, whole -/
section
variable {S0 : zM} {G P : Nat} {ps : zPs} {mask : Nat}
theorem gather_7 (hG : G + 22 ≤ P) (hs0 : sPcs S0 G) (hp0 : pPass S0 P ps mask) : ∀ d F (S : zM) i, d + i = ps.2.length → d < F → zfq (wPcs G) (vPcs G) S0 S → aPcs S G (zad1 P mask i) → ∃ S', L_Pieces_gather_7 (F_Pieces_gather_48 (L_Pieces_gather_50 zF)) F G P (nI i) S = some S' ∧ zfq (wPcs G) (vPcs G) S0 S' ∧ aPcs S' G (zad1 P mask ps.2.length ++ zad2 G ps.2 mask 8) := by
  intro d
  induction d with
  | zero =>
    intro F S i hd hF hf ha
    cases F with
    | zero => omega
    | succ F =>
      have el : i = ps.2.length := by omega
      subst el
      have hp := pass_sm hp0 (sm_fq (lo := P) (hi := P + 56) hf (fun b j a c => ⟨by unfold wPcs; omega, by unfold vPcs; omega⟩)) (by omega) (by omega)
      have r8 := hp.2.2.2.2.2.2.2.1.1
      have hx : ¬ nI ps.2.length < nI ps.2.length := by rw [nI_ltI (by omega) (by omega)]; omega
      have hl1 := ad1_len (P := P) (mask := mask) (n := ps.2.length)
      obtain ⟨S', r1, r2, r3⟩ := gather_50 hG hs0 hp0 (as0 := zad1 P mask ps.2.length) (by omega) 8 zF S 0 (by omega) (by rw [zF_eq]; omega) hf (by simpa [zad2] using ha)
      refine ⟨S', ?_, r2, r3⟩
      rw [L_Pieces_gather_7]
      simp (disch := omega) [-Prod.exists, -Prod.forall, ↓bb_gf, ↓bb_gr, ↓bb_len, ↓bb_ga, ↓bb_gl, ↓bb_go, ↓bb_pf, ↓bb_pz, ↓bb_pr, ↓bb_pa, ↓bb_pb, ↓bb_pl, ↓bb_po, ↓bb_cl, ↓bb_some, ↓bb_RI, ↓bb_RJ, mm_hI, mm_hJ, mm_hR, mm_nI, mm_nJ, mm_nR, mm_sI, mm_sJ, mm_sR, mm_RI, mm_RJ, mm_IJ, mm_IR, mm_JI, mm_JR, mm_II, mm_JJ, mm_RR, hp.1.1, hp.2.1, hx, F_Pieces_gather_48]
      exact r1
  | succ d ih =>
    intro F S i hd hF hf ha
    cases F with
    | zero => omega
    | succ F =>
      have hs := pcs_fq hs0 hf
      have hp := pass_sm hp0 (sm_fq (lo := P) (hi := P + 56) hf (fun b j a c => ⟨by unfold wPcs; omega, by unfold vPcs; omega⟩)) (by omega) (by omega)
      have r8 := hp.2.2.2.2.2.2.2.1.1
      have hP := hp.1.1
      have hi : i < ps.2.length := by omega
      have hx : nI i < nI ps.2.length := by rw [nI_ltI (by omega) (by omega)]; omega
      have e1 : nI i + 1 = nI (i + 1) := nI_add i 1
      have ra : f_Pass_ruleAt P (nI i) S = some (some (P + 16 + 5 * i), S) := by
        rw [pass_ruleAt hp, nI_clamp (by omega), if_neg (nI_pos (by omega)), if_pos hi]
      have sv := pass_serves hp hi
      obtain ⟨r1, r2, r3, r4, r5, r6, r7⟩ := hp.2.2.2.2.1 i hi
      have hl1 := ad1_len (P := P) (mask := mask) (n := i)
      cases b1 : mask.testBit i with
      | true =>
        rw [b1] at sv
        simp only [if_true] at sv
        obtain ⟨S', q1, q2⟩ := ih F S (i + 1) (by omega) (by omega) hf (by rw [ad1_succ, b1]; simpa using ha)
        refine ⟨S', ?_, q2⟩
        rw [← q1, L_Pieces_gather_7]
        simp (disch := omega) [-Prod.exists, -Prod.forall, ↓bb_gf, ↓bb_gr, ↓bb_len, ↓bb_ga, ↓bb_gl, ↓bb_go, ↓bb_pf, ↓bb_pz, ↓bb_pr, ↓bb_pa, ↓bb_pb, ↓bb_pl, ↓bb_po, ↓bb_cl, ↓bb_some, ↓bb_RI, ↓bb_RJ, mm_hI, mm_hJ, mm_hR, mm_nI, mm_nJ, mm_nR, mm_sI, mm_sJ, mm_sR, mm_RI, mm_RJ, mm_IJ, mm_IR, mm_JI, mm_JR, mm_II, mm_JJ, mm_RR, hP, hp.2.1, hx, ↓bS ra, ↓bS sv, e1]
      | false =>
        rw [b1] at sv
        simp only [Bool.false_eq_true, if_false] at sv
        obtain ⟨S1, p1, p2, p3⟩ := put_ok (v := i) (a := P + 16 + 5 * i + 3) hs ha (by omega) r5.1
        obtain ⟨S', q1, q2⟩ := ih F S1 (i + 1) (by omega) (by omega) (fq_trans hf p2) (by rw [ad1_succ, b1]; simpa using p3)
        refine ⟨S', ?_, q2⟩
        rw [← q1, L_Pieces_gather_7]
        simp (disch := omega) [-Prod.exists, -Prod.forall, ↓bb_gf, ↓bb_gr, ↓bb_len, ↓bb_ga, ↓bb_gl, ↓bb_go, ↓bb_pf, ↓bb_pz, ↓bb_pr, ↓bb_pa, ↓bb_pb, ↓bb_pl, ↓bb_po, ↓bb_cl, ↓bb_some, ↓bb_RI, ↓bb_RJ, mm_hI, mm_hJ, mm_hR, mm_nI, mm_nJ, mm_nR, mm_sI, mm_sJ, mm_sR, mm_RI, mm_RJ, mm_IJ, mm_IR, mm_JI, mm_JR, mm_II, mm_JJ, mm_RR, hP, hp.2.1, hx, ↓bS ra, ↓bS sv, r1, r3, ↓bS r3, hs.1, ↓bS p1, e1]
end
def pcN (pcs : List (Nat × List Nat)) (k : Nat) : Nat := (pcs.getD k (0, [])).1
def pcL (pcs : List (Nat × List Nat)) (k : Nat) : List Nat := (pcs.getD k (0, [])).2
/-- the pieces that lie there -/
def cPcs (S : zM) (G : Nat) (pcs : List (Nat × List Nat)) : Prop := zI S G 5 = nI pcs.length ∧ pcs.length ≤ 16 ∧ ∀ k, k < pcs.length → zI S (G + 1) k = nI (pcN pcs k) ∧ pcN pcs k < 16 ∧ (pcL pcs k).length ≤ 4 ∧ ∃ a n, zR S (G + 2) k = some a ∧ G + 6 ≤ a ∧ pRow S a n (pcL pcs k)
theorem map_two {α β : Type} (f : Nat → α) (g : Nat → β) (L : List Nat) {k : Nat} (h : k < L.length) : ∃ i, i ∈ L ∧ (L.map f)[k]? = some (f i) ∧ (L.map g)[k]? = some (g i) := by
  refine ⟨L[k], List.getElem_mem h, ?_, ?_⟩ <;> simp [h]
theorem pcs_two {G P : Nat} {rs : List zRu} {mask k : Nat} (hk : k < (zpcs rs mask).length) : (∃ i, i < rs.length ∧ (zpcs rs mask).getD k (0, []) = (i, (zru rs i).2.1) ∧ (zad1 P mask rs.length ++ zad2 G rs mask 8).getD k (0, 0) = (i, P + 16 + 5 * i + 3)) ∨ (∃ l, l < 8 ∧ (zpcs rs mask).getD k (0, []) = (8 + l, [l]) ∧ (zad1 P mask rs.length ++ zad2 G rs mask 8).getD k (0, 0) = (8 + l, G + 6 + 2 * l)) := by
  simp only [List.getD_eq_getElem?_getD]
  have e1 : (zad1 P mask rs.length).length = (zpc1 rs mask rs.length).length := by simp [zad1, zpc1]
  have e2 : (zad2 G rs mask 8).length = (zpc2 rs mask 8).length := by simp [zad2, zpc2]
  by_cases h : k < (zpc1 rs mask rs.length).length
  · left
    unfold zpcs
    rw [List.getElem?_append_left h, List.getElem?_append_left (by omega)]
    unfold zpc1 at h ⊢
    unfold zad1
    rw [List.length_map] at h
    obtain ⟨i, i1, i2, i3⟩ := map_two (fun i => (i, (zru rs i).2.1)) (fun i => (i, P + 16 + 5 * i + 3)) _ h
    refine ⟨i, List.mem_range.1 (List.mem_filter.1 i1).1, by rw [i2]; rfl, by rw [i3]; rfl⟩
  · right
    unfold zpcs at hk ⊢
    rw [List.length_append] at hk
    rw [List.getElem?_append_right (by omega), List.getElem?_append_right (by omega), e1]
    have h2 : k - (zpc1 rs mask rs.length).length < (zpc2 rs mask 8).length := by omega
    revert h2
    generalize k - (zpc1 rs mask rs.length).length = k2
    intro h2
    unfold zpc2 at h2 ⊢
    unfold zad2
    rw [List.length_map] at h2
    obtain ⟨i, i1, i2, i3⟩ := map_two (fun l => (8 + l, [l])) (fun l => (8 + l, G + 6 + 2 * l)) _ h2
    refine ⟨i, List.mem_range.1 (List.mem_filter.1 i1).1, by rw [i2]; rfl, by rw [i3]; rfl⟩
theorem pcs_len (rs : List zRu) (mask : Nat) (h : rs.length ≤ 8) : (zpcs rs mask).length ≤ 16 := by
  have := pc1_len (rs := rs) (mask := mask) (n := rs.length)
  have := pc2_len (rs := rs) (mask := mask) (n := 8)
  unfold zpcs; rw [List.length_append]; omega
theorem gather_ok {S : zM} {G P : Nat} {ps : zPs} {mask : Nat} (hG : G + 22 ≤ P) (hs : sPcs S G) (hp : pPass S P ps mask) : ∃ S', f_Pieces_gather G P S = some S' ∧ zfq (wPcs G) (vPcs G) S S' ∧ sPcs S' G ∧ cPcs S' G (zpcs ps.2 mask) := by
  have f1 : zfq (wPcs G) (vPcs G) S (zwI S G 5 0) := fq_fr (fr_wI _ _ (Or.inl ⟨rfl, rfl⟩))
  obtain ⟨S', r1, r2, r3, r4⟩ := gather_7 hG hs hp ps.2.length zF (zwI S G 5 0) 0 (by omega) (by rw [zF_eq]; have := hp.2.2.2.2.2.2.2.1.1; omega) f1 ⟨by simp [zad1, -Prod.exists, -Prod.forall, zgf, zgr, zpf, zpz, zpr, zga, zgl, zgo, zpa, zpb, zpl, zpo, mm_len, zcl, Option.bind_some, Option.bind_none, mm_hI, mm_hJ, mm_hR, mm_nI, mm_nJ, mm_nR, mm_sI, mm_sJ, mm_sR, mm_RI, mm_RJ, mm_IJ, mm_IR, mm_JI, mm_JR, mm_II, mm_JJ, mm_RR]; rfl, fun k hk => by simp [zad1] at hk⟩
  have hs' := pcs_fq hs r2
  have hp' := pass_sm hp (sm_fq (lo := P) (hi := P + 56) r2 (fun b j a c => ⟨by unfold wPcs; omega, by unfold vPcs; omega⟩)) (by omega) (by omega)
  have wr := hp.2.2.2.2.2.2.2.1
  refine ⟨S', ?_, r2, hs', ?_⟩
  · rw [← r1]; simp [f_Pieces_gather, -Prod.exists, -Prod.forall, ↓bb_gf, ↓bb_gr, ↓bb_len, ↓bb_ga, ↓bb_gl, ↓bb_go, ↓bb_pf, ↓bb_pz, ↓bb_pr, ↓bb_pa, ↓bb_pb, ↓bb_pl, ↓bb_po, ↓bb_cl, ↓bb_some, ↓bb_RI, ↓bb_RJ, mm_hI, mm_hJ, mm_hR, mm_nI, mm_nJ, mm_nR, mm_sI, mm_sJ, mm_sR, mm_RI, mm_RJ, mm_IJ, mm_IR, mm_JI, mm_JR, mm_II, mm_JJ, mm_RR, hs.1]; rfl
  · have el : (zad1 P mask ps.2.length ++ zad2 G ps.2 mask 8).length = (zpcs ps.2 mask).length := by simp [zad1, zad2, zpcs, zpc1, zpc2]
    refine ⟨by rw [r3, el], pcs_len _ _ wr.1, fun k hk => ?_⟩
    obtain ⟨q1, q2⟩ := r4 k (by omega)
    rcases pcs_two (G := G) (P := P) hk with ⟨i, i1, i2, i3⟩ | ⟨l, i1, i2, i3⟩
    · rw [i3] at q1 q2
      unfold pcN pcL
      rw [i2]
      have hr := hp'.2.2.2.2.1 i i1
      exact ⟨q1, by have := wr.1; simp only; omega, (ru_w wr i1).2.2.1, _, _, q2, by simp only; omega, hr.2.2.2.2.1⟩
    · rw [i3] at q1 q2
      unfold pcN pcL
      rw [i2]
      exact ⟨q1, by simp only; omega, by simp, _, _, q2, by simp only; omega, (hs'.2.2.2.2.2.2.2.2.2.2.2 l i1).2⟩
