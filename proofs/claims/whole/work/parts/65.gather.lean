/-! the class: pieces gathered -/
def sPcs (S : zM) (G : Nat) : Prop := zh S G = (6, 0) ∧ zR S G 0 = some (G + 1) ∧ zh S (G + 1) = (100, 16) ∧ zR S G 1 = some (G + 2) ∧ zh S (G + 2) = (118, 16) ∧ zR S G 2 = some (G + 3) ∧ zh S (G + 3) = (118, 8) ∧ zR S G 3 = some (G + 4) ∧ zh S (G + 4) = (100, 64) ∧ zR S G 4 = some (G + 5) ∧ zh S (G + 5) = (100, 9) ∧ ∀ l, l < 8 → zR S (G + 3) l = some (G + 6 + 2 * l) ∧ pRow S (G + 6 + 2 * l) 1 [l]
/-- numbers and rows of the pieces, by address -/
def aPcs (S : zM) (G : Nat) (as : List (Nat × Nat)) : Prop := zI S G 5 = nI as.length ∧ ∀ k, k < as.length → zI S (G + 1) k = nI (as.getD k (0, 0)).1 ∧ zR S (G + 2) k = some (as.getD k (0, 0)).2
def wPcs (G : Nat) (b j : Nat) : Prop := (b = G ∧ j = 5) ∨ b = G + 1
def vPcs (G : Nat) (b j : Nat) : Prop := b = G + 2
theorem put_ok {S : zM} {G v a : Nat} {as : List (Nat × Nat)} (hs : sPcs S G) (ha : aPcs S G as) (hl : as.length < 16) (hr : zh S a = (8, 0)) : ∃ S', f_Pieces_put G (nI v) a S = some S' ∧ zfq (wPcs G) (vPcs G) S S' ∧ aPcs S' G (as ++ [(v, a)]) := by
  obtain ⟨s1, s2, s3, s4, s5, s6, s7, s8, s9, s10, s11, s12⟩ := hs
  obtain ⟨a1, a2⟩ := ha
  have h16 : nI as.length < 16 := (nI_ltI (b := 16) (by omega) (by omega)).2 hl
  have zi : zinb (nI as.length) 16 = true := (nn_in (by omega)).2 hl
  have ci : (nI as.length).toNatClampNeg = as.length := nI_clamp (by omega)
  have e1 : nI as.length + 1 = nI (as.length + 1) := nI_add _ 1
  refine ⟨zwI (zwR (zwI S (G + 1) as.length (nI v)) (G + 2) as.length (some a)) G 5 (nI (as.length + 1)), ?_, ?_, ?_⟩
  · simp (disch := omega) [f_Pieces_put, -Prod.exists, -Prod.forall, ↓bb_gf, ↓bb_gr, ↓bb_len, ↓bb_ga, ↓bb_gl, ↓bb_go, ↓bb_pf, ↓bb_pz, ↓bb_pr, ↓bb_pa, ↓bb_pb, ↓bb_pl, ↓bb_po, ↓bb_cl, ↓bb_some, ↓bb_RI, ↓bb_RJ, mm_hI, mm_hJ, mm_hR, mm_nI, mm_nJ, mm_nR, mm_sI, mm_sJ, mm_sR, mm_RI, mm_RJ, mm_IJ, mm_IR, mm_JI, mm_JR, mm_II, mm_JJ, mm_RR, s1, a1, h16, ↓bS s2, s3, ↓bS s4, s5, zi, ci, hr, e1, s2, s4]
  · exact fq_trans (fq_trans (fq_fr (fr_wI _ _ (Or.inr rfl))) (fq_wR _ _ rfl)) (fq_fr (fr_wI _ _ (Or.inl ⟨rfl, rfl⟩)))
  · refine ⟨by simp [-Prod.exists, -Prod.forall, zgf, zgr, zpf, zpz, zpr, zga, zgl, zgo, zpa, zpb, zpl, zpo, mm_len, zcl, Option.bind_some, Option.bind_none, mm_hI, mm_hJ, mm_hR, mm_nI, mm_nJ, mm_nR, mm_sI, mm_sJ, mm_sR, mm_RI, mm_RJ, mm_IJ, mm_IR, mm_JI, mm_JR, mm_II, mm_JJ, mm_RR], fun k hk => ?_⟩
    rw [List.length_append, List.length_singleton] at hk
    by_cases q : k = as.length
    · subst q; simp [-Prod.exists, -Prod.forall, zgf, zgr, zpf, zpz, zpr, zga, zgl, zgo, zpa, zpb, zpl, zpo, mm_len, zcl, Option.bind_some, Option.bind_none, mm_hI, mm_hJ, mm_hR, mm_nI, mm_nJ, mm_nR, mm_sI, mm_sJ, mm_sR, mm_RI, mm_RJ, mm_IJ, mm_IR, mm_JI, mm_JR, mm_II, mm_JJ, mm_RR]
    · have := a2 k (by omega)
      have e : (as ++ [(v, a)]).getD k (0, 0) = as.getD k (0, 0) := by
        rw [List.getD_eq_getElem?_getD, List.getD_eq_getElem?_getD, List.getElem?_append_left (by omega)]
      rw [e, ← this.1, ← this.2]
      simp [-Prod.exists, -Prod.forall, zgf, zgr, zpf, zpz, zpr, zga, zgl, zgo, zpa, zpb, zpl, zpo, mm_len, zcl, Option.bind_some, Option.bind_none, mm_hI, mm_hJ, mm_hR, mm_nI, mm_nJ, mm_nR, mm_sI, mm_sJ, mm_sR, mm_RI, mm_RJ, mm_IJ, mm_IR, mm_JI, mm_JR, mm_II, mm_JJ, mm_RR, q]
