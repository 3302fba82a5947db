/-! the class: the fewest letters read twice -/
def pUn (S : zM) (G : Nat) (X : zX3) : Prop := (∀ e, e < 64 → zI S (G + 4) e = nI (X.1 e)) ∧ zI S G 6 = nI X.2.1 ∧ zI S G 7 = X.2.2
def wUn (G : Nat) : Nat → Nat → Prop := fun b j => (b = G ∧ (j = 6 ∨ j = 7)) ∨ b = G + 4
def xB (X : zX3) : Prop := (∀ e, X.1 e ≤ zFar) ∧ X.2.1 ≤ zFar
theorem rea_B {i fr tot : Nat} {X : zX3} (h : xB X) : xB (zrea i fr tot X) := by
  unfold zrea
  split
  · rename_i q
    refine ⟨fun e => ?_, h.2⟩
    show zup X.1 (4 * i + fr) tot e ≤ zFar
    have := h.1 (4 * i + fr)
    unfold zup; split
    · omega
    · exact h.1 e
  · exact h
theorem fol_B {pcs : List (Nat × List Nat)} {i fr tot k : Nat} {X : zX3} (h : xB X) : xB (zfol pcs i fr tot k X) := by
  unfold zfol
  split
  · split
    · refine ⟨h.1, ?_⟩
      show min X.2.1 tot ≤ zFar
      have := h.2
      omega
    · split <;> exact rea_B h
  · exact h
theorem i1_B {pcs : List (Nat × List Nat)} {i : Nat} {X : zX3} (h : xB X) : ∀ n, xB (zi1 pcs i X n)
  | 0 => h
  | n + 1 => by
    rw [zi1]; split
    · exact i1_B h n
    · exact fol_B (i1_B h n)
theorem i0_B {pcs : List (Nat × List Nat)} {nr : Int32} : ∀ n, xB (zi0 pcs nr n)
  | 0 => ⟨fun _ => Nat.le_refl _, Nat.le_refl _⟩
  | n + 1 => i1_B (i0_B n) _
theorem xS_B {pcs : List (Nat × List Nat)} {X : zX3} (h : xS pcs X) : xB X := ⟨h.1, h.2.2.1⟩
section
variable {S : zM} {G : Nat} {pcs : List (Nat × List Nat)}
theorem pcs_un {S' : zM} (hs : sPcs S G) (hf : zfr (wUn G) S S') : sPcs S' G := by
  obtain ⟨s1, s2, s3, s4, s5, s6, s7, s8, s9, s10, s11, s12⟩ := hs
  have e := fr_R hf
  have e2 := fr_h hf
  unfold sPcs
  rw [e, e2]
  exact ⟨s1, s2, s3, s4, s5, s6, s7, s8, s9, s10, s11, fun l hl => ⟨(s12 l hl).1, row_fr (s12 l hl).2 hf (fun j => by unfold wUn; omega) (fun j => by unfold wUn; omega)⟩⟩
theorem cPcs_un {S' : zM} (hc : cPcs S G pcs) (hf : zfr (wUn G) S S') : cPcs S' G pcs := by
  obtain ⟨c1, c2, c3⟩ := hc
  refine ⟨by rw [fr_I hf (by unfold wUn; omega)]; exact c1, c2, fun k hk => ?_⟩
  obtain ⟨q1, q2, q3, a, n, q4, q5, q6⟩ := c3 k hk
  exact ⟨by rw [fr_I hf (by unfold wUn; omega)]; exact q1, q2, q3, a, n, by rw [fr_R hf]; exact q4, q5, row_fr q6 hf (fun j => by unfold wUn; omega) (fun j => by unfold wUn; omega)⟩
theorem rea_ok {X : zX3} {i fr tot : Nat} (hs : sPcs S G) (hX : pUn S G X) (hB : xB X) (hi : i < 16) (hfr : fr < 4) (ht : tot ≤ 2 * zFar) : ∃ S', f_Pieces_reach G (nI i) (nI fr) (nI tot) S = some S' ∧ zfr (wUn G) S S' ∧ pUn S' G (zrea i fr tot X) := by
  have zf : zFar = 1000000 := rfl
  have e4 : nI i * 4 = nI (4 * i) := by rw [show (4 : Int32) = nI 4 from rfl, pk_mul, Nat.mul_comm]
  have l1 : ¬ nI (4 * i + fr) < 0 := nI_pos (by omega)
  have l2 : nI (4 * i + fr) < nI 64 := (nI_ltI (by omega) (by omega)).2 (by omega)
  have z : zinb (nI (4 * i + fr)) 64 = true := (nn_in (by omega)).2 (by omega)
  have c : (nI (4 * i + fr)).toNatClampNeg = 4 * i + fr := nI_clamp (by omega)
  have v := hX.1 (4 * i + fr) (by omega)
  have hb := hB.1 (4 * i + fr)
  have r3 := hs.2.2.2.2.2.2.2.1
  have h3 := hs.2.2.2.2.2.2.2.2.1
  unfold zrea
  by_cases q : tot < X.1 (4 * i + fr)
  · rw [if_pos q]
    have l3 : nI tot < nI (X.1 (4 * i + fr)) := (nI_ltI (by omega) (by omega)).2 q
    refine ⟨zwI (zwI S (G + 4) (4 * i + fr) (nI tot)) G 7 1, ?_, fr_trans (fr_wI _ _ (Or.inr rfl)) (fr_wI _ _ (Or.inl ⟨rfl, Or.inr rfl⟩)), fun e he => ?_, ?_, ?_⟩
    · simp (disch := omega) [f_Pieces_reach, -Prod.exists, -Prod.forall, ↓bb_gf, ↓bb_gr, ↓bb_len, ↓bb_ga, ↓bb_gl, ↓bb_go, ↓bb_pf, ↓bb_pz, ↓bb_pr, ↓bb_pa, ↓bb_pb, ↓bb_pl, ↓bb_po, ↓bb_cl, ↓bb_some, ↓bb_RI, ↓bb_RJ, mm_hI, mm_hJ, mm_hR, mm_nI, mm_nJ, mm_nR, mm_sI, mm_sJ, mm_sR, mm_RI, mm_RJ, mm_IJ, mm_IR, mm_JI, mm_JR, mm_II, mm_JJ, mm_RR, e4, nI_add, l1, hs.1, ↓bS r3, h3, l2, z, c, v, l3]
    · show _ = nI (zup X.1 (4 * i + fr) tot e)
      unfold zup
      by_cases q2 : e = 4 * i + fr
      · subst q2; simp [-Prod.exists, -Prod.forall, zgf, zgr, zpf, zpz, zpr, zga, zgl, zgo, zpa, zpb, zpl, zpo, mm_len, zcl, Option.bind_some, Option.bind_none, mm_hI, mm_hJ, mm_hR, mm_nI, mm_nJ, mm_nR, mm_sI, mm_sJ, mm_sR, mm_RI, mm_RJ, mm_IJ, mm_IR, mm_JI, mm_JR, mm_II, mm_JJ, mm_RR]
      · rw [if_neg q2, ← hX.1 e he]; simp [-Prod.exists, -Prod.forall, zgf, zgr, zpf, zpz, zpr, zga, zgl, zgo, zpa, zpb, zpl, zpo, mm_len, zcl, Option.bind_some, Option.bind_none, mm_hI, mm_hJ, mm_hR, mm_nI, mm_nJ, mm_nR, mm_sI, mm_sJ, mm_sR, mm_RI, mm_RJ, mm_IJ, mm_IR, mm_JI, mm_JR, mm_II, mm_JJ, mm_RR, q2]
    · show _ = nI X.2.1
      rw [← hX.2.1]; simp [-Prod.exists, -Prod.forall, zgf, zgr, zpf, zpz, zpr, zga, zgl, zgo, zpa, zpb, zpl, zpo, mm_len, zcl, Option.bind_some, Option.bind_none, mm_hI, mm_hJ, mm_hR, mm_nI, mm_nJ, mm_nR, mm_sI, mm_sJ, mm_sR, mm_RI, mm_RJ, mm_IJ, mm_IR, mm_JI, mm_JR, mm_II, mm_JJ, mm_RR]
    · show _ = (1 : Int32)
      simp [-Prod.exists, -Prod.forall, zgf, zgr, zpf, zpz, zpr, zga, zgl, zgo, zpa, zpb, zpl, zpo, mm_len, zcl, Option.bind_some, Option.bind_none, mm_hI, mm_hJ, mm_hR, mm_nI, mm_nJ, mm_nR, mm_sI, mm_sJ, mm_sR, mm_RI, mm_RJ, mm_IJ, mm_IR, mm_JI, mm_JR, mm_II, mm_JJ, mm_RR]
  · rw [if_neg q]
    have l3 : ¬ nI tot < nI (X.1 (4 * i + fr)) := by rw [nI_ltI (by omega) (by omega)]; exact q
    refine ⟨S, ?_, fr_refl _ _, hX⟩
    simp (disch := omega) [f_Pieces_reach, -Prod.exists, -Prod.forall, ↓bb_gf, ↓bb_gr, ↓bb_len, ↓bb_ga, ↓bb_gl, ↓bb_go, ↓bb_pf, ↓bb_pz, ↓bb_pr, ↓bb_pa, ↓bb_pb, ↓bb_pl, ↓bb_po, ↓bb_cl, ↓bb_some, ↓bb_RI, ↓bb_RJ, mm_hI, mm_hJ, mm_hR, mm_nI, mm_nJ, mm_nR, mm_sI, mm_sJ, mm_sR, mm_RI, mm_RJ, mm_IJ, mm_IR, mm_JI, mm_JR, mm_II, mm_JJ, mm_RR, e4, nI_add, l1, hs.1, ↓bS r3, h3, l2, z, c, v, l3]
theorem fol_ok {X : zX3} {i fr tot k : Nat} (hs : sPcs S G) (hc : cPcs S G pcs) (hX : pUn S G X) (hB : xB X) (hi : i < pcs.length) (hk : k < pcs.length) (hfr : fr ≤ pl pcs i) (ht : tot ≤ zFar) : ∃ S', f_Pieces_follow G (nI i) (nI fr) (nI tot) (nI k) S = some S' ∧ zfr (wUn G) S S' ∧ pUn S' G (zfol pcs i fr tot k X) := by
  have zf : zFar = 1000000 := rfl
  obtain ⟨a, n, p1, p2, p3⟩ := pcs_let hs hc hi
  obtain ⟨b, m, q1, q2, q3⟩ := pcs_let hs hc hk
  have li : pl pcs i ≤ 4 := (hc.2.2 i hi).2.2.1
  have lk : pl pcs k ≤ 4 := (hc.2.2 k hk).2.2.1
  have h16 := hc.2.1
  have ag := row_agrees p3 q3 (f := fr) (by omega)
  have ga : zI S a 1 = nI (pl pcs i) := p3.2.2.2.2.2.1
  have gb : zI S b 1 = nI (pl pcs k) := q3.2.2.2.2.2.1
  have es : nI (pl pcs i) - nI fr = nI (pl pcs i - fr) := pk_sub hfr
  unfold zfol
  by_cases w1 : zagr (pcL pcs i) fr (pcL pcs k) = true
  · rw [if_pos w1] at ag ⊢
    by_cases w2 : pl pcs k = pl pcs i - fr
    · rw [if_pos w2]
      have hb := hB.2
      have mn : zmin (nI X.2.1) (nI tot) = nI (min X.2.1 tot) := nn_min (by omega) (by omega)
      have e6 := hX.2.1
      refine ⟨zwI S G 6 (nI (min X.2.1 tot)), ?_, fr_wI _ _ (Or.inl ⟨rfl, Or.inl rfl⟩), fun e he => ?_, ?_, ?_⟩
      · simp (disch := omega) [f_Pieces_follow, -Prod.exists, -Prod.forall, ↓bb_gf, ↓bb_gr, ↓bb_len, ↓bb_ga, ↓bb_gl, ↓bb_go, ↓bb_pf, ↓bb_pz, ↓bb_pr, ↓bb_pa, ↓bb_pb, ↓bb_pl, ↓bb_po, ↓bb_cl, ↓bb_some, ↓bb_RI, ↓bb_RJ, mm_hI, mm_hJ, mm_hR, mm_nI, mm_nJ, mm_nR, mm_sI, mm_sJ, mm_sR, mm_RI, mm_RJ, mm_IJ, mm_IR, mm_JI, mm_JR, mm_II, mm_JJ, mm_RR, hs.1, ↓bS p1, ↓bS q1, p3.1, q3.1, ↓bS ag, ga, gb, es, w2, e6, mn]
      · rw [← hX.1 e he]; simp [-Prod.exists, -Prod.forall, zgf, zgr, zpf, zpz, zpr, zga, zgl, zgo, zpa, zpb, zpl, zpo, mm_len, zcl, Option.bind_some, Option.bind_none, mm_hI, mm_hJ, mm_hR, mm_nI, mm_nJ, mm_nR, mm_sI, mm_sJ, mm_sR, mm_RI, mm_RJ, mm_IJ, mm_IR, mm_JI, mm_JR, mm_II, mm_JJ, mm_RR]
      · simp [-Prod.exists, -Prod.forall, zgf, zgr, zpf, zpz, zpr, zga, zgl, zgo, zpa, zpb, zpl, zpo, mm_len, zcl, Option.bind_some, Option.bind_none, mm_hI, mm_hJ, mm_hR, mm_nI, mm_nJ, mm_nR, mm_sI, mm_sJ, mm_sR, mm_RI, mm_RJ, mm_IJ, mm_IR, mm_JI, mm_JR, mm_II, mm_JJ, mm_RR]
      · rw [← hX.2.2]; simp [-Prod.exists, -Prod.forall, zgf, zgr, zpf, zpz, zpr, zga, zgl, zgo, zpa, zpb, zpl, zpo, mm_len, zcl, Option.bind_some, Option.bind_none, mm_hI, mm_hJ, mm_hR, mm_nI, mm_nJ, mm_nR, mm_sI, mm_sJ, mm_sR, mm_RI, mm_RJ, mm_IJ, mm_IR, mm_JI, mm_JR, mm_II, mm_JJ, mm_RR]
    · rw [if_neg w2]
      have n2 : ¬ nI (pl pcs k) = nI (pl pcs i - fr) := fun w => w2 ((nI_eq (by omega) (by omega)).1 w)
      by_cases w3 : pl pcs k < pl pcs i - fr
      · rw [if_pos w3]
        have l3 : nI (pl pcs k) < nI (pl pcs i - fr) := (nI_ltI (by omega) (by omega)).2 w3
        obtain ⟨S', r1, r2, r3⟩ := rea_ok (i := i) (fr := fr + pl pcs k) (tot := tot) hs hX hB (by omega) (by omega) (by omega)
        refine ⟨S', ?_, r2, r3⟩
        simp (disch := omega) [f_Pieces_follow, -Prod.exists, -Prod.forall, ↓bb_gf, ↓bb_gr, ↓bb_len, ↓bb_ga, ↓bb_gl, ↓bb_go, ↓bb_pf, ↓bb_pz, ↓bb_pr, ↓bb_pa, ↓bb_pb, ↓bb_pl, ↓bb_po, ↓bb_cl, ↓bb_some, ↓bb_RI, ↓bb_RJ, mm_hI, mm_hJ, mm_hR, mm_nI, mm_nJ, mm_nR, mm_sI, mm_sJ, mm_sR, mm_RI, mm_RJ, mm_IJ, mm_IR, mm_JI, mm_JR, mm_II, mm_JJ, mm_RR, hs.1, ↓bS p1, ↓bS q1, p3.1, q3.1, ↓bS ag, ga, gb, es, n2, l3, nI_add, ↓bS r1, r1]
      · rw [if_neg w3]
        have l3 : ¬ nI (pl pcs k) < nI (pl pcs i - fr) := by rw [nI_ltI (by omega) (by omega)]; exact w3
        obtain ⟨S', r1, r2, r3⟩ := rea_ok (i := k) (fr := pl pcs i - fr) (tot := tot + (pl pcs k - (pl pcs i - fr))) hs hX hB (by omega) (by omega) (by omega)
        have es2 : nI (tot + pl pcs k) - nI (pl pcs i - fr) = nI (tot + (pl pcs k - (pl pcs i - fr))) := by rw [pk_sub (by omega)]; congr 1; omega
        refine ⟨S', ?_, r2, r3⟩
        simp (disch := omega) [f_Pieces_follow, -Prod.exists, -Prod.forall, ↓bb_gf, ↓bb_gr, ↓bb_len, ↓bb_ga, ↓bb_gl, ↓bb_go, ↓bb_pf, ↓bb_pz, ↓bb_pr, ↓bb_pa, ↓bb_pb, ↓bb_pl, ↓bb_po, ↓bb_cl, ↓bb_some, ↓bb_RI, ↓bb_RJ, mm_hI, mm_hJ, mm_hR, mm_nI, mm_nJ, mm_nR, mm_sI, mm_sJ, mm_sR, mm_RI, mm_RJ, mm_IJ, mm_IR, mm_JI, mm_JR, mm_II, mm_JJ, mm_RR, hs.1, ↓bS p1, ↓bS q1, p3.1, q3.1, ↓bS ag, ga, gb, es, n2, l3, nI_add, es2, ↓bS r1, r1]
  · rw [if_neg w1] at ag ⊢
    refine ⟨S, ?_, fr_refl _ _, hX⟩
    simp (disch := omega) [f_Pieces_follow, -Prod.exists, -Prod.forall, ↓bb_gf, ↓bb_gr, ↓bb_len, ↓bb_ga, ↓bb_gl, ↓bb_go, ↓bb_pf, ↓bb_pz, ↓bb_pr, ↓bb_pa, ↓bb_pb, ↓bb_pl, ↓bb_po, ↓bb_cl, ↓bb_some, ↓bb_RI, ↓bb_RJ, mm_hI, mm_hJ, mm_hR, mm_nI, mm_nJ, mm_nR, mm_sI, mm_sJ, mm_sR, mm_RI, mm_RJ, mm_IJ, mm_IR, mm_JI, mm_JR, mm_II, mm_JJ, mm_RR, hs.1, ↓bS p1, ↓bS q1, p3.1, q3.1, ↓bS ag]
end
section
variable {S0 : zM} {G : Nat} {pcs : List (Nat × List Nat)}
theorem fa_26 (hw : wG pcs) (hs0 : sPcs S0 G) (hc0 : cPcs S0 G pcs) {X : zX3} (hS : xS pcs X) {e : Nat} (he : X.1 e < zFar) (he64 : e < 64) {K : Nat → Int32 → zM → Option zM} (Q : Option zM → Prop) (HK : ∀ S', zfr (wUn G) S0 S' → pUn S' G (zfk pcs e X pcs.length) → Q (K G (nI e) S')) : ∀ d F (S : zM) k, d + k = pcs.length → d < F → zfr (wUn G) S0 S → pUn S G (zfk pcs e X k) → Q (L_Pieces_followAll_26 K F G (nI e) (nI k) S) := by
  have zf : zFar = 1000000 := rfl
  have h16 := hw.1
  intro d
  induction d with
  | zero =>
    intro F S k hd hF hf ha
    cases F with
    | zero => omega
    | succ F =>
      have el : k = pcs.length := by omega
      subst el
      have hs := pcs_un hs0 hf
      have hc := cPcs_un hc0 hf
      have hx : ¬ nI pcs.length < nI pcs.length := by rw [nI_ltI (by omega) (by omega)]; omega
      have : L_Pieces_followAll_26 K (F + 1) G (nI e) (nI pcs.length) S = K G (nI e) S := by
        simp [L_Pieces_followAll_26, -Prod.exists, -Prod.forall, ↓bb_gf, ↓bb_gr, ↓bb_len, ↓bb_ga, ↓bb_gl, ↓bb_go, ↓bb_pf, ↓bb_pz, ↓bb_pr, ↓bb_pa, ↓bb_pb, ↓bb_pl, ↓bb_po, ↓bb_cl, ↓bb_some, ↓bb_RI, ↓bb_RJ, mm_hI, mm_hJ, mm_hR, mm_nI, mm_nJ, mm_nR, mm_sI, mm_sJ, mm_sR, mm_RI, mm_RJ, mm_IJ, mm_IR, mm_JI, mm_JR, mm_II, mm_JJ, mm_RR, hs.1, hc.1, hx]
      rw [this]
      exact HK S hf ha
  | succ d ih =>
    intro F S k hd hF hf ha
    cases F with
    | zero => omega
    | succ F =>
      have hs := pcs_un hs0 hf
      have hc := cPcs_un hc0 hf
      obtain ⟨x1, x2, x3⟩ := fk_ok hw hS he k (by omega)
      have hfar := x2.1 e
      have hv := gR_V (x1.2.1 e (by omega))
      have hv1 : e / 4 < pcs.length := hv.1
      have hv2 : e % 4 < pl pcs (e / 4) := hv.2
      have hk : k < pcs.length := by omega
      have hx : nI k < nI pcs.length := by rw [nI_ltI (by omega) (by omega)]; omega
      have e1 : nI k + 1 = nI (k + 1) := nI_add k 1
      have ed : nI e / 4 = nI (e / 4) := pk_div (d := 4) (by omega) (by omega) (by omega)
      have er : nI e - nI (e / 4) * 4 = nI (e % 4) := by rw [← ed]; exact pk_rem (d := 4) (by omega) (by omega) (by omega)
      have z : zinb (nI e) 64 = true := (nn_in (by omega)).2 (by omega)
      have c : (nI e).toNatClampNeg = e := nI_clamp (by omega)
      have v := ha.1 e he64
      obtain ⟨S', r1, r2, r3⟩ := fol_ok (i := e / 4) (fr := e % 4) (tot := (zfk pcs e X k).1 e) (k := k) hs hc ha (xS_B x1) hv1 hk (by omega) (x1.1 e)
      have st : L_Pieces_followAll_26 K (F + 1) G (nI e) (nI k) S = L_Pieces_followAll_26 K F G (nI e) (nI (k + 1)) S' := by
        rw [L_Pieces_followAll_26]
        have n4 : ¬ (4 : Int32) = 0 := by decide
        simp (disch := omega) [-Prod.exists, -Prod.forall, ↓bb_gf, ↓bb_gr, ↓bb_len, ↓bb_ga, ↓bb_gl, ↓bb_go, ↓bb_pf, ↓bb_pz, ↓bb_pr, ↓bb_pa, ↓bb_pb, ↓bb_pl, ↓bb_po, ↓bb_cl, ↓bb_some, ↓bb_RI, ↓bb_RJ, mm_hI, mm_hJ, mm_hR, mm_nI, mm_nJ, mm_nR, mm_sI, mm_sJ, mm_sR, mm_RI, mm_RJ, mm_IJ, mm_IR, mm_JI, mm_JR, mm_II, mm_JJ, mm_RR, hs.1, hc.1, hx, n4, ↓bS hs.2.2.2.2.2.2.2.1, hs.2.2.2.2.2.2.2.2.1, z, c, v, ed, er, ↓bS r1, e1]
      rw [st]
      exact ih F S' (k + 1) (by omega) (by omega) (fr_trans hf r2) r3
theorem fa_2 (hw : wG pcs) (hs0 : sPcs S0 G) (hc0 : cPcs S0 G pcs) {X : zX3} (hS : xS pcs X) : ∀ d F (S : zM) e, d + e = 64 → d < F → zfr (wUn G) S0 S → pUn S G (zfe pcs X e) → ∃ S', L_Pieces_followAll_2 F G (nI e) S = some S' ∧ zfr (wUn G) S0 S' ∧ pUn S' G (zfe pcs X 64) := by
  have zf : zFar = 1000000 := rfl
  have h16 := hw.1
  intro d
  induction d with
  | zero =>
    intro F S e hd hF hf ha
    cases F with
    | zero => omega
    | succ F =>
      have el : e = 64 := by omega
      subst el
      have hs := pcs_un hs0 hf
      have hx : ¬ nI 64 < nI 64 := by decide
      refine ⟨S, ?_, hf, ha⟩
      simp [L_Pieces_followAll_2, -Prod.exists, -Prod.forall, ↓bb_gf, ↓bb_gr, ↓bb_len, ↓bb_ga, ↓bb_gl, ↓bb_go, ↓bb_pf, ↓bb_pz, ↓bb_pr, ↓bb_pa, ↓bb_pb, ↓bb_pl, ↓bb_po, ↓bb_cl, ↓bb_some, ↓bb_RI, ↓bb_RJ, mm_hI, mm_hJ, mm_hR, mm_nI, mm_nJ, mm_nR, mm_sI, mm_sJ, mm_sR, mm_RI, mm_RJ, mm_IJ, mm_IR, mm_JI, mm_JR, mm_II, mm_JJ, mm_RR, hs.1, ↓bS hs.2.2.2.2.2.2.2.1, hs.2.2.2.2.2.2.2.2.1, hx]
  | succ d ih =>
    intro F S e hd hF hf ha
    cases F with
    | zero => omega
    | succ F =>
      have hs := pcs_un hs0 hf
      have hc := cPcs_un hc0 hf
      obtain ⟨x1, x2, x3⟩ := fe_ok hw hS e
      have b1 := x1.1 e
      have b2 := x1.2.2.1
      have hx : nI e < nI 64 := by rw [nI_ltI (by omega) (by omega)]; omega
      have e1 : nI e + 1 = nI (e + 1) := nI_add e 1
      have z : zinb (nI e) 64 = true := (nn_in (by omega)).2 (by omega)
      have c : (nI e).toNatClampNeg = e := nI_clamp (by omega)
      have v := ha.1 e (by omega)
      have v6 := ha.2.1
      by_cases q : (zfe pcs X e).1 e < (zfe pcs X e).2.1
      · have l : nI ((zfe pcs X e).1 e) < nI (zfe pcs X e).2.1 := (nI_ltI (by omega) (by omega)).2 q
        have st : L_Pieces_followAll_2 (F + 1) G (nI e) S = L_Pieces_followAll_26 (F_Pieces_followAll_57 (L_Pieces_followAll_2 F)) zF G (nI e) (nI 0) S := by
          rw [L_Pieces_followAll_2]
          simp (disch := omega) [-Prod.exists, -Prod.forall, ↓bb_gf, ↓bb_gr, ↓bb_len, ↓bb_ga, ↓bb_gl, ↓bb_go, ↓bb_pf, ↓bb_pz, ↓bb_pr, ↓bb_pa, ↓bb_pb, ↓bb_pl, ↓bb_po, ↓bb_cl, ↓bb_some, ↓bb_RI, ↓bb_RJ, mm_hI, mm_hJ, mm_hR, mm_nI, mm_nJ, mm_nR, mm_sI, mm_sJ, mm_sR, mm_RI, mm_RJ, mm_IJ, mm_IR, mm_JI, mm_JR, mm_II, mm_JJ, mm_RR, hs.1, ↓bS hs.2.2.2.2.2.2.2.1, hs.2.2.2.2.2.2.2.2.1, hx, z, c, v, v6, l]; rfl
        rw [st]
        refine fa_26 hw hs hc x1 (e := e) (by omega) (by omega) (fun o => ∃ S', o = some S' ∧ zfr (wUn G) S0 S' ∧ pUn S' G (zfe pcs X 64)) ?_ pcs.length zF S 0 (by omega) (by rw [zF_eq]; omega) (fr_refl _ _) ha
        intro S2 f2 h2
        rw [F_Pieces_followAll_57, e1]
        exact ih F S2 (e + 1) (by omega) (by omega) (fr_trans hf f2) (by rw [zfe, if_pos q]; exact h2)
      · have l : ¬ nI ((zfe pcs X e).1 e) < nI (zfe pcs X e).2.1 := by rw [nI_ltI (by omega) (by omega)]; exact q
        have st : L_Pieces_followAll_2 (F + 1) G (nI e) S = L_Pieces_followAll_2 F G (nI (e + 1)) S := by
          rw [L_Pieces_followAll_2]
          simp (disch := omega) [-Prod.exists, -Prod.forall, ↓bb_gf, ↓bb_gr, ↓bb_len, ↓bb_ga, ↓bb_gl, ↓bb_go, ↓bb_pf, ↓bb_pz, ↓bb_pr, ↓bb_pa, ↓bb_pb, ↓bb_pl, ↓bb_po, ↓bb_cl, ↓bb_some, ↓bb_RI, ↓bb_RJ, mm_hI, mm_hJ, mm_hR, mm_nI, mm_nJ, mm_nR, mm_sI, mm_sJ, mm_sR, mm_RI, mm_RJ, mm_IJ, mm_IR, mm_JI, mm_JR, mm_II, mm_JJ, mm_RR, hs.1, ↓bS hs.2.2.2.2.2.2.2.1, hs.2.2.2.2.2.2.2.2.1, hx, z, c, v, v6, l, F_Pieces_followAll_57, e1]
        rw [st]
        exact ih F S (e + 1) (by omega) (by omega) hf (by rw [zfe, if_neg q]; exact ha)
theorem frt_89 (hw : wG pcs) (hs0 : sPcs S0 G) (hc0 : cPcs S0 G pcs) : ∀ d F (S : zM) t (X : zX3), d + t = 64 → d < F → zfr (wUn G) S0 S → pUn S G X → xS pcs X → ∃ S', L_Pieces_fewestReadTwice_89 F G (nI t) S = some (zoI (if (zfR pcs d X).2.1 = zFar then none else some (zfR pcs d X).2.1) (-2), S') ∧ zfr (wUn G) S0 S' := by
  have zf : zFar = 1000000 := rfl
  have h16 := hw.1
  intro d
  induction d with
  | zero =>
    intro F S t X hd hF hf ha hS
    cases F with
    | zero => omega
    | succ F =>
      have el : t = 64 := by omega
      subst el
      have hs := pcs_un hs0 hf
      have hx : ¬ nI 64 < nI 64 := by decide
      have b2 := hS.2.2.1
      have v6 := ha.2.1
      rw [zfR]
      by_cases q : X.2.1 = zFar
      · have q' : nI X.2.1 = 1000000 := by rw [q]; rfl
        rw [if_pos q]
        refine ⟨S, ?_, hf⟩
        simp [L_Pieces_fewestReadTwice_89, -Prod.exists, -Prod.forall, ↓bb_gf, ↓bb_gr, ↓bb_len, ↓bb_ga, ↓bb_gl, ↓bb_go, ↓bb_pf, ↓bb_pz, ↓bb_pr, ↓bb_pa, ↓bb_pb, ↓bb_pl, ↓bb_po, ↓bb_cl, ↓bb_some, ↓bb_RI, ↓bb_RJ, mm_hI, mm_hJ, mm_hR, mm_nI, mm_nJ, mm_nR, mm_sI, mm_sJ, mm_sR, mm_RI, mm_RJ, mm_IJ, mm_IR, mm_JI, mm_JR, mm_II, mm_JJ, mm_RR, hs.1, ↓bS hs.2.2.2.2.2.2.2.1, hs.2.2.2.2.2.2.2.2.1, hx, v6, q', zoI]
      · have q' : ¬ nI X.2.1 = 1000000 := fun w => q (by have := (nI_eq (b := 1000000) (by omega) (by omega)).1 w; omega)
        rw [if_neg q]
        refine ⟨S, ?_, hf⟩
        simp [L_Pieces_fewestReadTwice_89, -Prod.exists, -Prod.forall, ↓bb_gf, ↓bb_gr, ↓bb_len, ↓bb_ga, ↓bb_gl, ↓bb_go, ↓bb_pf, ↓bb_pz, ↓bb_pr, ↓bb_pa, ↓bb_pb, ↓bb_pl, ↓bb_po, ↓bb_cl, ↓bb_some, ↓bb_RI, ↓bb_RJ, mm_hI, mm_hJ, mm_hR, mm_nI, mm_nJ, mm_nR, mm_sI, mm_sJ, mm_sR, mm_RI, mm_RJ, mm_IJ, mm_IR, mm_JI, mm_JR, mm_II, mm_JJ, mm_RR, hs.1, ↓bS hs.2.2.2.2.2.2.2.1, hs.2.2.2.2.2.2.2.2.1, hx, v6, q', zoI]
  | succ d ih =>
    intro F S t X hd hF hf ha hS
    cases F with
    | zero => omega
    | succ F =>
      have hs := pcs_un hs0 hf
      have hc := cPcs_un hc0 hf
      have hx : nI t < nI 64 := by rw [nI_ltI (by omega) (by omega)]; omega
      have e1 : nI t + 1 = nI (t + 1) := nI_add t 1
      have b2 := hS.2.2.1
      have v6 := ha.2.1
      have v7 := ha.2.2
      rw [zfR]
      by_cases q0 : X.2.2 = 0
      · rw [if_pos q0]
        by_cases q : X.2.1 = zFar
        · have q' : nI X.2.1 = 1000000 := by rw [q]; rfl
          rw [if_pos q]
          refine ⟨S, ?_, hf⟩
          simp [L_Pieces_fewestReadTwice_89, -Prod.exists, -Prod.forall, ↓bb_gf, ↓bb_gr, ↓bb_len, ↓bb_ga, ↓bb_gl, ↓bb_go, ↓bb_pf, ↓bb_pz, ↓bb_pr, ↓bb_pa, ↓bb_pb, ↓bb_pl, ↓bb_po, ↓bb_cl, ↓bb_some, ↓bb_RI, ↓bb_RJ, mm_hI, mm_hJ, mm_hR, mm_nI, mm_nJ, mm_nR, mm_sI, mm_sJ, mm_sR, mm_RI, mm_RJ, mm_IJ, mm_IR, mm_JI, mm_JR, mm_II, mm_JJ, mm_RR, hs.1, ↓bS hs.2.2.2.2.2.2.2.1, hs.2.2.2.2.2.2.2.2.1, hx, v6, v7, q0, q', zoI]
        · have q' : ¬ nI X.2.1 = 1000000 := fun w => q (by have := (nI_eq (b := 1000000) (by omega) (by omega)).1 w; omega)
          rw [if_neg q]
          refine ⟨S, ?_, hf⟩
          simp [L_Pieces_fewestReadTwice_89, -Prod.exists, -Prod.forall, ↓bb_gf, ↓bb_gr, ↓bb_len, ↓bb_ga, ↓bb_gl, ↓bb_go, ↓bb_pf, ↓bb_pz, ↓bb_pr, ↓bb_pa, ↓bb_pb, ↓bb_pl, ↓bb_po, ↓bb_cl, ↓bb_some, ↓bb_RI, ↓bb_RJ, mm_hI, mm_hJ, mm_hR, mm_nI, mm_nJ, mm_nR, mm_sI, mm_sJ, mm_sR, mm_RI, mm_RJ, mm_IJ, mm_IR, mm_JI, mm_JR, mm_II, mm_JJ, mm_RR, hs.1, ↓bS hs.2.2.2.2.2.2.2.1, hs.2.2.2.2.2.2.2.2.1, hx, v6, v7, q0, q', zoI]
      · rw [if_neg q0]
        have f1 : zfr (wUn G) S (zwI S G 7 0) := fr_wI _ _ (Or.inl ⟨rfl, Or.inr rfl⟩)
        have h1 : pUn (zwI S G 7 0) G (X.1, X.2.1, 0) := ⟨fun e he => by rw [← ha.1 e he]; simp [-Prod.exists, -Prod.forall, zgf, zgr, zpf, zpz, zpr, zga, zgl, zgo, zpa, zpb, zpl, zpo, mm_len, zcl, Option.bind_some, Option.bind_none, mm_hI, mm_hJ, mm_hR, mm_nI, mm_nJ, mm_nR, mm_sI, mm_sJ, mm_sR, mm_RI, mm_RJ, mm_IJ, mm_IR, mm_JI, mm_JR, mm_II, mm_JJ, mm_RR], by rw [← ha.2.1]; simp [-Prod.exists, -Prod.forall, zgf, zgr, zpf, zpz, zpr, zga, zgl, zgo, zpa, zpb, zpl, zpo, mm_len, zcl, Option.bind_some, Option.bind_none, mm_hI, mm_hJ, mm_hR, mm_nI, mm_nJ, mm_nR, mm_sI, mm_sJ, mm_sR, mm_RI, mm_RJ, mm_IJ, mm_IR, mm_JI, mm_JR, mm_II, mm_JJ, mm_RR], by simp [-Prod.exists, -Prod.forall, zgf, zgr, zpf, zpz, zpr, zga, zgl, zgo, zpa, zpb, zpl, zpo, mm_len, zcl, Option.bind_some, Option.bind_none, mm_hI, mm_hJ, mm_hR, mm_nI, mm_nJ, mm_nR, mm_sI, mm_sJ, mm_sR, mm_RI, mm_RJ, mm_IJ, mm_IR, mm_JI, mm_JR, mm_II, mm_JJ, mm_RR]⟩
        obtain ⟨S2, r1, r2, r3⟩ := fa_2 hw (pcs_un hs f1) (cPcs_un hc f1) (X := (X.1, X.2.1, 0)) (xS_nr hS) 64 zF (zwI S G 7 0) 0 (by omega) (by rw [zF_eq]; omega) (fr_refl _ _) h1
        have r1' : f_Pieces_followAll G (zwI S G 7 0) = some S2 := r1
        obtain ⟨S', q1, q2⟩ := ih F S2 (t + 1) (zfe pcs (X.1, X.2.1, 0) 64) (by omega) (by omega) (fr_trans hf (fr_trans f1 r2)) r3 (fe_ok hw (xS_nr hS) 64).1
        refine ⟨S', ?_, q2⟩
        rw [← q1, L_Pieces_fewestReadTwice_89]
        simp (disch := omega) [-Prod.exists, -Prod.forall, ↓bb_gf, ↓bb_gr, ↓bb_len, ↓bb_ga, ↓bb_gl, ↓bb_go, ↓bb_pf, ↓bb_pz, ↓bb_pr, ↓bb_pa, ↓bb_pb, ↓bb_pl, ↓bb_po, ↓bb_cl, ↓bb_some, ↓bb_RI, ↓bb_RJ, mm_hI, mm_hJ, mm_hR, mm_nI, mm_nJ, mm_nR, mm_sI, mm_sJ, mm_sR, mm_RI, mm_RJ, mm_IJ, mm_IR, mm_JI, mm_JR, mm_II, mm_JJ, mm_RR, hs.1, ↓bS hs.2.2.2.2.2.2.2.1, hs.2.2.2.2.2.2.2.2.1, hx, v7, q0, ↓bS r1', e1]
theorem frt_46 (hs0 : sPcs S0 G) (hc0 : cPcs S0 G pcs) {i a n : Nat} (hi : i < pcs.length) (ha0 : G + 6 ≤ a) (hr0 : pRow S0 a n (pcL pcs i)) {X : zX3} (hB : xB X) {K : Nat → Int32 → zM → Option (Int32 × zM)} (Q : Option (Int32 × zM) → Prop) (HK : ∀ S', zfr (wUn G) S0 S' → pUn S' G (zi1 pcs i X pcs.length) → Q (K G (nI i) S')) : ∀ d F (S : zM) k, d + k = pcs.length → d < F → zfr (wUn G) S0 S → pUn S G (zi1 pcs i X k) → Q (L_Pieces_fewestReadTwice_46 K F G (nI i) a (nI k) S) := by
  have h16 := hc0.2.1
  have li : pl pcs i ≤ 4 := (hc0.2.2 i hi).2.2.1
  intro d
  induction d with
  | zero =>
    intro F S k hd hF hf ha
    cases F with
    | zero => omega
    | succ F =>
      have el : k = pcs.length := by omega
      subst el
      have hs := pcs_un hs0 hf
      have hc := cPcs_un hc0 hf
      have hx : ¬ nI pcs.length < nI pcs.length := by rw [nI_ltI (by omega) (by omega)]; omega
      have : L_Pieces_fewestReadTwice_46 K (F + 1) G (nI i) a (nI pcs.length) S = K G (nI i) S := by
        simp [L_Pieces_fewestReadTwice_46, -Prod.exists, -Prod.forall, ↓bb_gf, ↓bb_gr, ↓bb_len, ↓bb_ga, ↓bb_gl, ↓bb_go, ↓bb_pf, ↓bb_pz, ↓bb_pr, ↓bb_pa, ↓bb_pb, ↓bb_pl, ↓bb_po, ↓bb_cl, ↓bb_some, ↓bb_RI, ↓bb_RJ, mm_hI, mm_hJ, mm_hR, mm_nI, mm_nJ, mm_nR, mm_sI, mm_sJ, mm_sR, mm_RI, mm_RJ, mm_IJ, mm_IR, mm_JI, mm_JR, mm_II, mm_JJ, mm_RR, hs.1, hc.1, hx]
      rw [this]
      exact HK S hf ha
  | succ d ih =>
    intro F S k hd hF hf ha
    cases F with
    | zero => omega
    | succ F =>
      have hs := pcs_un hs0 hf
      have hc := cPcs_un hc0 hf
      have hr := row_fr hr0 hf (fun j => by unfold wUn; omega) (fun j => by unfold wUn; omega)
      have hk : k < pcs.length := by omega
      have hx : nI k < nI pcs.length := by rw [nI_ltI (by omega) (by omega)]; omega
      have e1 : nI k + 1 = nI (k + 1) := nI_add k 1
      have ga : zI S a 1 = nI (pl pcs i) := hr.2.2.2.2.2.1
      by_cases q : k = i
      · subst q
        have st : L_Pieces_fewestReadTwice_46 K (F + 1) G (nI k) a (nI k) S = L_Pieces_fewestReadTwice_46 K F G (nI k) a (nI (k + 1)) S := by
          rw [L_Pieces_fewestReadTwice_46]
          simp (disch := omega) [-Prod.exists, -Prod.forall, ↓bb_gf, ↓bb_gr, ↓bb_len, ↓bb_ga, ↓bb_gl, ↓bb_go, ↓bb_pf, ↓bb_pz, ↓bb_pr, ↓bb_pa, ↓bb_pb, ↓bb_pl, ↓bb_po, ↓bb_cl, ↓bb_some, ↓bb_RI, ↓bb_RJ, mm_hI, mm_hJ, mm_hR, mm_nI, mm_nJ, mm_nR, mm_sI, mm_sJ, mm_sR, mm_RI, mm_RJ, mm_IJ, mm_IR, mm_JI, mm_JR, mm_II, mm_JJ, mm_RR, hs.1, hc.1, hx, e1]
        rw [st]
        exact ih F S (k + 1) (by omega) (by omega) hf (by rw [zi1, if_pos rfl]; exact ha)
      · have nq : ¬ nI k = nI i := fun w => q ((nI_eq (by omega) (by omega)).1 w)
        obtain ⟨S', r1, r2, r3⟩ := fol_ok (i := i) (fr := 0) (tot := pl pcs i) (k := k) hs hc ha (i1_B hB k) hi hk (by omega) (by unfold zFar; omega)
        have r1' : f_Pieces_follow G (nI i) 0 (nI (pl pcs i)) (nI k) S = some S' := r1
        have st : L_Pieces_fewestReadTwice_46 K (F + 1) G (nI i) a (nI k) S = L_Pieces_fewestReadTwice_46 K F G (nI i) a (nI (k + 1)) S' := by
          rw [L_Pieces_fewestReadTwice_46]
          simp (disch := omega) [-Prod.exists, -Prod.forall, ↓bb_gf, ↓bb_gr, ↓bb_len, ↓bb_ga, ↓bb_gl, ↓bb_go, ↓bb_pf, ↓bb_pz, ↓bb_pr, ↓bb_pa, ↓bb_pb, ↓bb_pl, ↓bb_po, ↓bb_cl, ↓bb_some, ↓bb_RI, ↓bb_RJ, mm_hI, mm_hJ, mm_hR, mm_nI, mm_nJ, mm_nR, mm_sI, mm_sJ, mm_sR, mm_RI, mm_RJ, mm_IJ, mm_IR, mm_JI, mm_JR, mm_II, mm_JJ, mm_RR, hs.1, hc.1, hx, nq, hr.1, ga, ↓bS r1', e1]
        rw [st]
        exact ih F S' (k + 1) (by omega) (by omega) (fr_trans hf r2) (by rw [zi1, if_neg q]; exact r3)
theorem frt_17 (hs0 : sPcs S0 G) (hc0 : cPcs S0 G pcs) {nr : Int32} {K : Nat → zM → Option (Int32 × zM)} (Q : Option (Int32 × zM) → Prop) (H0 : ∀ S', zfr (wUn G) S0 S' → (∃ k, k < pcs.length ∧ pcL pcs k = []) → Q (some (0, S'))) (HK : ∀ S', zfr (wUn G) S0 S' → (∀ k, k < pcs.length → pcL pcs k ≠ []) → pUn S' G (zi0 pcs nr pcs.length) → Q (K G S')) : ∀ d F (S : zM) i, d + i = pcs.length → d < F → zfr (wUn G) S0 S → (∀ k, k < i → pcL pcs k ≠ []) → pUn S G (zi0 pcs nr i) → Q (L_Pieces_fewestReadTwice_17 K F G (nI i) S) := by
  have h16 := hc0.2.1
  intro d
  induction d with
  | zero =>
    intro F S i hd hF hf hne ha
    cases F with
    | zero => omega
    | succ F =>
      have el : i = pcs.length := by omega
      subst el
      have hs := pcs_un hs0 hf
      have hc := cPcs_un hc0 hf
      have hx : ¬ nI pcs.length < nI pcs.length := by rw [nI_ltI (by omega) (by omega)]; omega
      have : L_Pieces_fewestReadTwice_17 K (F + 1) G (nI pcs.length) S = K G S := by
        simp [L_Pieces_fewestReadTwice_17, -Prod.exists, -Prod.forall, ↓bb_gf, ↓bb_gr, ↓bb_len, ↓bb_ga, ↓bb_gl, ↓bb_go, ↓bb_pf, ↓bb_pz, ↓bb_pr, ↓bb_pa, ↓bb_pb, ↓bb_pl, ↓bb_po, ↓bb_cl, ↓bb_some, ↓bb_RI, ↓bb_RJ, mm_hI, mm_hJ, mm_hR, mm_nI, mm_nJ, mm_nR, mm_sI, mm_sJ, mm_sR, mm_RI, mm_RJ, mm_IJ, mm_IR, mm_JI, mm_JR, mm_II, mm_JJ, mm_RR, hs.1, hc.1, hx]
      rw [this]
      exact HK S hf hne ha
  | succ d ih =>
    intro F S i hd hF hf hne ha
    cases F with
    | zero => omega
    | succ F =>
      have hs := pcs_un hs0 hf
      have hc := cPcs_un hc0 hf
      have hi : i < pcs.length := by omega
      have hx : nI i < nI pcs.length := by rw [nI_ltI (by omega) (by omega)]; omega
      have e1 : nI i + 1 = nI (i + 1) := nI_add i 1
      obtain ⟨a, n, p1, p2, p3⟩ := pcs_let hs hc hi
      have ga : zI S a 1 = nI (pl pcs i) := p3.2.2.2.2.2.1
      have li : pl pcs i ≤ 4 := (hc0.2.2 i hi).2.2.1
      by_cases q : pcL pcs i = []
      · have g0 : nI (pl pcs i) = 0 := by unfold pl; rw [q]; rfl
        have st : L_Pieces_fewestReadTwice_17 K (F + 1) G (nI i) S = some (0, S) := by
          rw [L_Pieces_fewestReadTwice_17]
          simp (disch := omega) [-Prod.exists, -Prod.forall, ↓bb_gf, ↓bb_gr, ↓bb_len, ↓bb_ga, ↓bb_gl, ↓bb_go, ↓bb_pf, ↓bb_pz, ↓bb_pr, ↓bb_pa, ↓bb_pb, ↓bb_pl, ↓bb_po, ↓bb_cl, ↓bb_some, ↓bb_RI, ↓bb_RJ, mm_hI, mm_hJ, mm_hR, mm_nI, mm_nJ, mm_nR, mm_sI, mm_sJ, mm_sR, mm_RI, mm_RJ, mm_IJ, mm_IR, mm_JI, mm_JR, mm_II, mm_JJ, mm_RR, hs.1, hc.1, hx, ↓bS p1, p3.1, ga, g0]
        rw [st]
        exact H0 S hf ⟨i, hi, q⟩
      · have hpos : 0 < pl pcs i := List.length_pos_iff.2 q
        have g0 : ¬ nI (pl pcs i) = 0 := fun w => by have := (nI_eq (b := 0) (by omega) (by omega)).1 w; omega
        have st : L_Pieces_fewestReadTwice_17 K (F + 1) G (nI i) S = L_Pieces_fewestReadTwice_46 (F_Pieces_fewestReadTwice_76 (L_Pieces_fewestReadTwice_17 K F)) zF G (nI i) a (nI 0) S := by
          rw [L_Pieces_fewestReadTwice_17]
          simp (disch := omega) [-Prod.exists, -Prod.forall, ↓bb_gf, ↓bb_gr, ↓bb_len, ↓bb_ga, ↓bb_gl, ↓bb_go, ↓bb_pf, ↓bb_pz, ↓bb_pr, ↓bb_pa, ↓bb_pb, ↓bb_pl, ↓bb_po, ↓bb_cl, ↓bb_some, ↓bb_RI, ↓bb_RJ, mm_hI, mm_hJ, mm_hR, mm_nI, mm_nJ, mm_nR, mm_sI, mm_sJ, mm_sR, mm_RI, mm_RJ, mm_IJ, mm_IR, mm_JI, mm_JR, mm_II, mm_JJ, mm_RR, hs.1, hc.1, hx, ↓bS p1, p3.1, ga, g0]; rfl
        rw [st]
        refine frt_46 hs hc hi p2 p3 (X := zi0 pcs nr i) (i0_B i) Q ?_ pcs.length zF S 0 (by omega) (by rw [zF_eq]; omega) (fr_refl _ _) ha
        intro S2 f2 h2
        rw [F_Pieces_fewestReadTwice_76, e1]
        exact ih F S2 (i + 1) (by omega) (by omega) (fr_trans hf f2) (fun k hk => by
          by_cases q3 : k = i
          · subst q3; exact q
          · exact hne k (by omega)) h2
theorem fewest_ok (hs : sPcs S0 G) (hG : G ≠ 0) (hc : cPcs S0 G pcs) : ∃ S', f_Pieces_fewestReadTwice G S0 = some (zoI (zun pcs) (-2), S') ∧ zfr (wUn G) S0 S' := by
  have zf : zFar = 1000000 := rfl
  obtain ⟨S1, r1, r2, r3⟩ := j_fill (v := 1000000) hs.2.2.2.2.2.2.2.2.1 (by omega) (by omega)
  have f1 : zfr (wUn G) S0 S1 := fr_mono r2 (fun b j h => Or.inr (by obtain ⟨h1, h2⟩ := h; omega))
  have f2 : zfr (wUn G) S0 (zwI S1 G 6 1000000) := fr_trans f1 (fr_wI _ _ (Or.inl ⟨rfl, Or.inl rfl⟩))
  have h0 : pUn (zwI S1 G 6 1000000) G (zi0 pcs (zI S1 G 7) 0) := ⟨fun e he => by rw [zi0]; simp [-Prod.exists, -Prod.forall, zgf, zgr, zpf, zpz, zpr, zga, zgl, zgo, zpa, zpb, zpl, zpo, mm_len, zcl, Option.bind_some, Option.bind_none, mm_hI, mm_hJ, mm_hR, mm_nI, mm_nJ, mm_nR, mm_sI, mm_sJ, mm_sR, mm_RI, mm_RJ, mm_IJ, mm_IR, mm_JI, mm_JR, mm_II, mm_JJ, mm_RR, r3 e he]; rfl, by rw [zi0]; simp [-Prod.exists, -Prod.forall, zgf, zgr, zpf, zpz, zpr, zga, zgl, zgo, zpa, zpb, zpl, zpo, mm_len, zcl, Option.bind_some, Option.bind_none, mm_hI, mm_hJ, mm_hR, mm_nI, mm_nJ, mm_nR, mm_sI, mm_sJ, mm_sR, mm_RI, mm_RJ, mm_IJ, mm_IR, mm_JI, mm_JR, mm_II, mm_JJ, mm_RR]; rfl, by rw [zi0]; simp [-Prod.exists, -Prod.forall, zgf, zgr, zpf, zpz, zpr, zga, zgl, zgo, zpa, zpb, zpl, zpo, mm_len, zcl, Option.bind_some, Option.bind_none, mm_hI, mm_hJ, mm_hR, mm_nI, mm_nJ, mm_nR, mm_sI, mm_sJ, mm_sR, mm_RI, mm_RJ, mm_IJ, mm_IR, mm_JI, mm_JR, mm_II, mm_JJ, mm_RR]⟩
  have st : f_Pieces_fewestReadTwice G S0 = L_Pieces_fewestReadTwice_17 (F_Pieces_fewestReadTwice_82 (L_Pieces_fewestReadTwice_89 zF)) zF G (nI 0) (zwI S1 G 6 1000000) := by
    have h1 := fr_h f1
    simp (disch := omega) [f_Pieces_fewestReadTwice, -Prod.exists, -Prod.forall, ↓bb_gf, ↓bb_gr, ↓bb_len, ↓bb_ga, ↓bb_gl, ↓bb_go, ↓bb_pf, ↓bb_pz, ↓bb_pr, ↓bb_pa, ↓bb_pb, ↓bb_pl, ↓bb_po, ↓bb_cl, ↓bb_some, ↓bb_RI, ↓bb_RJ, mm_hI, mm_hJ, mm_hR, mm_nI, mm_nJ, mm_nR, mm_sI, mm_sJ, mm_sR, mm_RI, mm_RJ, mm_IJ, mm_IR, mm_JI, mm_JR, mm_II, mm_JJ, mm_RR, hs.1, ↓bS hs.2.2.2.2.2.2.2.1, ↓bS r1, h1]; rfl
  rw [st]
  have hsz := pcs_un hs f2
  have hcz := cPcs_un hc f2
  refine frt_17 hsz hcz (nr := zI S1 G 7) (fun o => ∃ S', o = some (zoI (zun pcs) (-2), S') ∧ zfr (wUn G) S0 S') ?_ ?_ pcs.length zF _ 0 (by omega) (by rw [zF_eq]; have := hc.2.1; omega) (fr_refl _ _) (fun k hk => by omega) h0
  · intro S' f3 he
    refine ⟨S', ?_, fr_trans f2 f3⟩
    rw [← uncl_zun (Or.inl ⟨he, rfl⟩)]; rfl
  · intro S' f3 hne h3
    have hw : wG pcs := ⟨hc.2.1, fun k hk => ⟨List.length_pos_iff.2 (hne k hk), (hc.2.2 k hk).2.2.1⟩⟩
    have hs3 := pcs_un hsz f3
    have hc3 := cPcs_un hcz f3
    have f4 : zfr (wUn G) S' (zwI S' G 7 1) := fr_wI _ _ (Or.inl ⟨rfl, Or.inr rfl⟩)
    have h4 : pUn (zwI S' G 7 1) G ((zi0 pcs (zI S1 G 7) pcs.length).1, (zi0 pcs (zI S1 G 7) pcs.length).2.1, 1) := ⟨fun e he => by rw [← h3.1 e he]; simp [-Prod.exists, -Prod.forall, zgf, zgr, zpf, zpz, zpr, zga, zgl, zgo, zpa, zpb, zpl, zpo, mm_len, zcl, Option.bind_some, Option.bind_none, mm_hI, mm_hJ, mm_hR, mm_nI, mm_nJ, mm_nR, mm_sI, mm_sJ, mm_sR, mm_RI, mm_RJ, mm_IJ, mm_IR, mm_JI, mm_JR, mm_II, mm_JJ, mm_RR], by rw [← h3.2.1]; simp [-Prod.exists, -Prod.forall, zgf, zgr, zpf, zpz, zpr, zga, zgl, zgo, zpa, zpb, zpl, zpo, mm_len, zcl, Option.bind_some, Option.bind_none, mm_hI, mm_hJ, mm_hR, mm_nI, mm_nJ, mm_nR, mm_sI, mm_sJ, mm_sR, mm_RI, mm_RJ, mm_IJ, mm_IR, mm_JI, mm_JR, mm_II, mm_JJ, mm_RR], by simp [-Prod.exists, -Prod.forall, zgf, zgr, zpf, zpz, zpr, zga, zgl, zgo, zpa, zpb, zpl, zpo, mm_len, zcl, Option.bind_some, Option.bind_none, mm_hI, mm_hJ, mm_hR, mm_nI, mm_nJ, mm_nR, mm_sI, mm_sJ, mm_sR, mm_RI, mm_RJ, mm_IJ, mm_IR, mm_JI, mm_JR, mm_II, mm_JJ, mm_RR]⟩
    obtain ⟨S2, q1, q2⟩ := frt_89 hw (pcs_un hs3 f4) (cPcs_un hc3 f4) 64 zF (zwI S' G 7 1) 0 _ (by omega) (by rw [zF_eq]; omega) (fr_refl _ _) h4 (xS_nr (i0_ok hw pcs.length (Nat.le_refl _)).1)
    refine ⟨S2, ?_, fr_trans f2 (fr_trans f3 (fr_trans f4 q2))⟩
    rw [← uncl_zun (bell_ok hw (zI S1 G 7)), ← q1]
    simp (disch := omega) [F_Pieces_fewestReadTwice_82, -Prod.exists, -Prod.forall, ↓bb_gf, ↓bb_gr, ↓bb_len, ↓bb_ga, ↓bb_gl, ↓bb_go, ↓bb_pf, ↓bb_pz, ↓bb_pr, ↓bb_pa, ↓bb_pb, ↓bb_pl, ↓bb_po, ↓bb_cl, ↓bb_some, ↓bb_RI, ↓bb_RJ, mm_hI, mm_hJ, mm_hR, mm_nI, mm_nJ, mm_nR, mm_sI, mm_sJ, mm_sR, mm_RI, mm_RJ, mm_IJ, mm_IR, mm_JI, mm_JR, mm_II, mm_JJ, mm_RR, hs3.1]; rfl
end
