/-! the class: gather -/
def zad1 (P mask n : Nat) : List (Nat × Nat) := ((List.range n).filter (fun i => !mask.testBit i)).map (fun i => (i, P + 16 + 5 * i + 3))
def zad2 (G : Nat) (rs : List zRu) (mask n : Nat) : List (Nat × Nat) := ((List.range n).filter (fun l => !ztkB rs mask l)).map (fun l => (8 + l, G + 6 + 2 * l))
theorem ad1_succ {P mask n : Nat} : zad1 P mask (n + 1) = zad1 P mask n ++ (if mask.testBit n then [] else [(n, P + 16 + 5 * n + 3)]) := by
  simp only [zad1, List.range_succ, List.filter_append, List.map_append]
  cases e : mask.testBit n <;> simp [e]
theorem ad2_succ {G : Nat} {rs : List zRu} {mask n : Nat} : zad2 G rs mask (n + 1) = zad2 G rs mask n ++ (if ztkB rs mask n then [] else [(8 + n, G + 6 + 2 * n)]) := by
  simp only [zad2, List.range_succ, List.filter_append, List.map_append]
  cases e : ztkB rs mask n <;> simp [e]
theorem ad1_len {P mask n : Nat} : (zad1 P mask n).length ≤ n := by
  unfold zad1; rw [List.length_map]; exact Nat.le_trans (List.length_filter_le _ _) (by simp)
theorem ad2_len {G : Nat} {rs : List zRu} {mask n : Nat} : (zad2 G rs mask n).length ≤ n := by
  unfold zad2; rw [List.length_map]; exact Nat.le_trans (List.length_filter_le _ _) (by simp)
theorem pcs_fq {S S' : zM} {G : Nat} (h : sPcs S G) (hf : zfq (wPcs G) (vPcs G) S S') : sPcs S' G := by
  obtain ⟨s1, s2, s3, s4, s5, s6, s7, s8, s9, s10, s11, s12⟩ := h
  have hR : ∀ b j, b ≠ G + 2 → zR S' b j = zR S b j := fun b j q => fq_R hf (by unfold vPcs; exact q)
  refine ⟨by rw [fq_h hf]; exact s1, by rw [hR _ _ (by omega)]; exact s2, by rw [fq_h hf]; exact s3, by rw [hR _ _ (by omega)]; exact s4, by rw [fq_h hf]; exact s5, by rw [hR _ _ (by omega)]; exact s6, by rw [fq_h hf]; exact s7, by rw [hR _ _ (by omega)]; exact s8, by rw [fq_h hf]; exact s9, by rw [hR _ _ (by omega)]; exact s10, by rw [fq_h hf]; exact s11, fun l hl => ⟨by rw [hR _ _ (by omega)]; exact (s12 l hl).1, ?_⟩⟩
  exact row_sm (s12 l hl).2 (sm_fq (lo := G + 6) (hi := G + 22) hf (fun b j a c => ⟨by unfold wPcs; omega, by unfold vPcs; omega⟩)) (by omega) (by omega)
section
variable {S0 : zM} {G P : Nat} {ps : zPs} {mask : Nat}
theorem gather_50 (hG : G + 22 ≤ P) (hs0 : sPcs S0 G) (hp0 : pPass S0 P ps mask) {as0 : List (Nat × Nat)} (h8 : as0.length ≤ 8) : ∀ d F (S : zM) l, d + l = 8 → d < F → zfq (wPcs G) (vPcs G) S0 S → aPcs S G (as0 ++ zad2 G ps.2 mask l) → ∃ S', L_Pieces_gather_50 F G P (nI l) S = some S' ∧ zfq (wPcs G) (vPcs G) S0 S' ∧ aPcs S' G (as0 ++ zad2 G ps.2 mask 8) := by
  intro d
  induction d with
  | zero =>
    intro F S l hd hF hf ha
    cases F with
    | zero => omega
    | succ F =>
      have el : l = 8 := by omega
      subst el
      have hx : ¬ nI 8 < (8 : Int32) := by decide
      exact ⟨S, by simp [L_Pieces_gather_50, hx], hf, ha⟩
  | succ d ih =>
    intro F S l hd hF hf ha
    cases F with
    | zero => omega
    | succ F =>
      have hs := pcs_fq hs0 hf
      have hp := pass_sm hp0 (sm_fq (lo := P) (hi := P + 56) hf (fun b j a c => ⟨by unfold wPcs; omega, by unfold vPcs; omega⟩)) (by omega) (by omega)
      have hl : nI l < (8 : Int32) := (nI_ltI (b := 8) (by omega) (by omega)).2 (by omega)
      have e1 : nI l + 1 = nI (l + 1) := nI_add l 1
      have e8 : (8 : Int32) + nI l = nI (8 + l) := nI_add 8 l
      have zi : zinb (nI l) 8 = true := (nn_in (by omega)).2 (by omega)
      have ci : (nI l).toNatClampNeg = l := nI_clamp (by omega)
      have hP := hp.1.1
      have hlen := ad2_len (G := G) (rs := ps.2) (mask := mask) (n := l)
      have r8 := hp.2.2.2.2.2.2.2.1.1
      have tk : f_Pass_alwaysTakes P (nI l) S = some (if ztkB ps.2 mask l then 1 else 0, S) := by
        rcases takes_l hp (l := l) (by omega) ps.2.length zF 0 (by omega) (by rw [zF_eq]; omega) with ⟨⟨j, w1, w2, w3⟩, w4⟩ | ⟨w1, w2⟩
        · rw [if_pos (tk_iff.2 ⟨j, w2, w3⟩)]; exact w4
        · rw [if_neg (fun q => by obtain ⟨j, v1, v2⟩ := tk_iff.1 q; exact w1 j (by omega) v1 v2)]; exact w2
      cases b1 : ztkB ps.2 mask l with
      | true =>
        rw [b1] at tk
        simp only [if_true] at tk
        obtain ⟨S', r1, r2⟩ := ih F S (l + 1) (by omega) (by omega) hf (by rw [ad2_succ, b1]; simpa using ha)
        refine ⟨S', ?_, r2⟩
        rw [← r1, L_Pieces_gather_50]
        simp (disch := omega) [-Prod.exists, -Prod.forall, ↓bb_gf, ↓bb_gr, ↓bb_len, ↓bb_ga, ↓bb_gl, ↓bb_go, ↓bb_pf, ↓bb_pz, ↓bb_pr, ↓bb_pa, ↓bb_pb, ↓bb_pl, ↓bb_po, ↓bb_cl, ↓bb_some, ↓bb_RI, ↓bb_RJ, mm_hI, mm_hJ, mm_hR, mm_nI, mm_nJ, mm_nR, mm_sI, mm_sJ, mm_sR, mm_RI, mm_RJ, mm_IJ, mm_IR, mm_JI, mm_JR, mm_II, mm_JJ, mm_RR, hl, hP, ↓bS tk, e1]
      | false =>
        rw [b1] at tk
        simp only [Bool.false_eq_true, if_false] at tk
        have hrow := (hs.2.2.2.2.2.2.2.2.2.2.2 l (by omega)).2
        have hlr := (hs.2.2.2.2.2.2.2.2.2.2.2 l (by omega)).1
        obtain ⟨S1, p1, p2, p3⟩ := put_ok (v := 8 + l) (a := G + 6 + 2 * l) hs ha (by rw [List.length_append]; omega) hrow.1
        obtain ⟨S', r1, r2⟩ := ih F S1 (l + 1) (by omega) (by omega) (fq_trans hf p2) (by rw [ad2_succ, b1, ← List.append_assoc]; simpa using p3)
        refine ⟨S', ?_, r2⟩
        rw [← r1, L_Pieces_gather_50]
        simp (disch := omega) [-Prod.exists, -Prod.forall, ↓bb_gf, ↓bb_gr, ↓bb_len, ↓bb_ga, ↓bb_gl, ↓bb_go, ↓bb_pf, ↓bb_pz, ↓bb_pr, ↓bb_pa, ↓bb_pb, ↓bb_pl, ↓bb_po, ↓bb_cl, ↓bb_some, ↓bb_RI, ↓bb_RJ, mm_hI, mm_hJ, mm_hR, mm_nI, mm_nJ, mm_nR, mm_sI, mm_sJ, mm_sR, mm_RI, mm_RJ, mm_IJ, mm_IR, mm_JI, mm_JR, mm_II, mm_JJ, mm_RR, hl, hP, ↓bS tk, hs.1, hs.2.2.2.2.2.1, ↓bS hs.2.2.2.2.2.1, hs.2.2.2.2.2.2.1, zi, ci, hlr, ↓bS hlr, hrow.1, e8, ↓bS p1, e1]
end
