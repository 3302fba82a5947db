/-! the class's reader: lines of kinds and passes -/
/-- reader and script stand: nothing of them is in the text's cell -/
def dRd (rd q T : Nat) : Prop := (rd < T ∨ T + 172 ≤ rd) ∧ (q < T ∨ T + 172 ≤ q) ∧ q ≠ rd
def rAll (S : zM) (rd q : Nat) (tx : List Nat) (t : zTk) (T : Nat) (st : zRt) : Prop := pRd S rd q tx t ∧ zR S rd 3 = some T ∧ zR S rd 4 = (if st.2.2.2.length = 0 then none else some (aPs T (st.2.2.2.length - 1))) ∧ rScr S T st
/-- what a line changes -/
def wLn (rd T : Nat) : Nat → Nat → Prop := fun b j => (b = rd ∧ (j = 2 ∨ j = 5 ∨ j = 6)) ∨ (T ≤ b ∧ b < T + 172)
def vLn (rd : Nat) : Nat → Nat → Prop := fun b j => b = rd ∧ j = 4
/-- how a line ends -/
def eLn (S S' : zM) (rd q : Nat) (tx : List Nat) (T : Nat) (r : Nat × zTk × zRt) : Prop := zfq (wLn rd T) (vLn rd) S S' ∧ zR S' rd 3 = some T ∧ pRd S' rd q tx r.2.1 ∧ aScr S' T ∧ (r.1 = 0 → rAll S' rd q tx r.2.1 T r.2.2)
section
variable {S : zM} {rd q T : Nat} {tx : List Nat} {t : zTk} {st : zRt}
/-- one token on -/
theorem r_next (hd : dRd rd q T) (h : pRd S rd q tx t) : ∃ S', f_Reader_next rd S = some S' ∧ zfr (wRdr rd) S S' ∧ pRd S' rd q tx (znext tx t.2.1) ∧ zsm T (T + 172) S S' ∧ zh S' = zh S ∧ zR S' = zR S := by
  obtain ⟨S', e, f, p⟩ := rd_next h.1 h.2.1 h.2.2.2.2.2.1
  exact ⟨S', e, f, p, sm_fr f (fun b j h1 h2 => by unfold wRdr; unfold dRd at hd; omega), fr_h f, fr_R f⟩
theorem r_all {S' : zM} (h : rAll S rd q tx t T st) {t' : zTk} (hp : pRd S' rd q tx t') (hs : zsm T (T + 172) S S') (hR : zR S' = zR S) : rAll S' rd q tx t' T st :=
  ⟨hp, by rw [hR]; exact h.2.1, by rw [hR]; exact h.2.2.1, rScr_sm h.2.2.2 hs⟩
theorem e_stop {S' : zM} (h : rAll S rd q tx t T st) {f : Nat} {t' : zTk} {st' : zRt} (hp : pRd S' rd q tx t') (hs : zsm T (T + 172) S S') (hR : zR S' = zR S) (hf : zfr (wRdr rd) S S') (h0 : f ≠ 0) : eLn S S' rd q tx T (f, t', st') :=
  ⟨fq_fr (fr_mono hf (fun b j hb => Or.inl hb)), by rw [hR]; exact h.2.1, hp, aScr_sm h.2.2.2.1 hs, fun q => absurd q h0⟩
theorem digit_eq {c : Nat} (h1 : 48 ≤ c) (h2 : c ≤ 57) : nI c - 48 = nI (c - 48) := pk_sub (a := c) (b := 48) (by omega)
theorem l_script (hd : dRd rd q T) (h : rAll S rd q tx t T st) : ∃ S', f_Reader_scriptLine rd S = some (nI (zscriptLine tx t st).1, S') ∧ eLn S S' rd q tx T (zscriptLine tx t st) := by
  have hh := h.1.1.1
  obtain ⟨S1, e1, f1, p1, s1, h1, R1⟩ := r_next hd h.1
  have hh1 : zh S1 rd = (7, 0) := by rw [h1]; exact hh
  have is1 := rd_is p1 (show 4 < 13 by omega)
  cases c1 : zisw tx (znext tx t.2.1) 4 with
  | false =>
    rw [c1] at is1
    have ez : zscriptLine tx t st = (1, znext tx t.2.1, st) := by simp [zscriptLine, c1]
    rw [ez]
    refine ⟨S1, ?_, e_stop h p1 s1 R1 f1 (by omega)⟩
    simp only [Bool.false_eq_true, if_false] at is1
    simp [f_Reader_scriptLine, -Prod.exists, -Prod.forall, ↓bb_gf, ↓bb_gr, ↓bb_len, ↓bb_ga, ↓bb_gl, ↓bb_go, ↓bb_pf, ↓bb_pz, ↓bb_pr, ↓bb_pa, ↓bb_pb, ↓bb_pl, ↓bb_po, ↓bb_cl, ↓bb_some, ↓bb_RI, ↓bb_RJ, mm_hI, mm_hJ, mm_hR, mm_nI, mm_nJ, mm_nR, mm_sI, mm_sJ, mm_sR, mm_RI, mm_RJ, mm_IJ, mm_IR, mm_JI, mm_JR, mm_II, mm_JJ, mm_RR, hh, ↓bS e1, hh1, ↓bS is1]; rfl
  | true =>
    rw [c1] at is1
    simp only [if_true] at is1
    obtain ⟨S2, e2, f2, p2, s2, h2, R2⟩ := r_next hd p1
    have hh2 : zh S2 rd = (7, 0) := by rw [h2]; exact hh1
    have f12 := fr_trans f1 f2
    have s12 := sm_trans s1 s2
    have R12 : zR S2 = zR S := R2.trans R1
    obtain ⟨t2, ht2⟩ : ∃ t2, t2 = znext tx (znext tx t.2.1).2.1 := ⟨_, rfl⟩
    rw [← ht2] at p2
    have h52 := p2.2.2.2.1
    have k5 := p2.2.2.2.2.2.2.1
    by_cases c2 : t2.2.2 = 2
    · rw [c2] at h52
      obtain ⟨d1, d2, d3⟩ := p2.2.2.2.2.2.2.2.2.2 c2
      have b1 := p2.2.2.2.2.2.1
      have by2 := rd_byte p2.1 (show t2.1 < tx.length by omega)
      have h62 := p2.2.2.1
      obtain ⟨c, hc⟩ : ∃ c, c = lg tx t2.1 := ⟨_, rfl⟩
      rw [← hc] at by2 d2 d3
      have ed' : nI c - nI 48 = nI (c - 48) := digit_eq d2 d3
      by_cases c3 : c < 50 ∨ 52 < c
      · have ez : zscriptLine tx t st = (2, t2, st) := by
          simp only [zscriptLine, c1, if_true, ← ht2, c2, ← hc, if_pos c3]
        rw [ez]
        refine ⟨S2, ?_, e_stop h p2 s12 R12 f12 (by omega)⟩
        by_cases c4 : c < 50
        · simp (disch := omega) [f_Reader_scriptLine, -Prod.exists, -Prod.forall, ↓bb_gf, ↓bb_gr, ↓bb_len, ↓bb_ga, ↓bb_gl, ↓bb_go, ↓bb_pf, ↓bb_pz, ↓bb_pr, ↓bb_pa, ↓bb_pb, ↓bb_pl, ↓bb_po, ↓bb_cl, ↓bb_some, ↓bb_RI, ↓bb_RJ, mm_hI, mm_hJ, mm_hR, mm_nI, mm_nJ, mm_nR, mm_sI, mm_sJ, mm_sR, mm_RI, mm_RJ, mm_IJ, mm_IR, mm_JI, mm_JR, mm_II, mm_JJ, mm_RR, nn_lit, nI_add, pk_mul, nI_clamp, nI_ltI, nI_leI, nI_eq, nn_in, nn_eqm, nn_meq, nn_ltm, nn_mlt, nn_lem, nn_mle, nn_in_m, hh, ↓bS e1, hh1, ↓bS is1, ↓bS e2, hh2, h52, h62, ↓bS by2, ed', show c - 48 < 2 by omega]
        · simp (disch := omega) [f_Reader_scriptLine, -Prod.exists, -Prod.forall, ↓bb_gf, ↓bb_gr, ↓bb_len, ↓bb_ga, ↓bb_gl, ↓bb_go, ↓bb_pf, ↓bb_pz, ↓bb_pr, ↓bb_pa, ↓bb_pb, ↓bb_pl, ↓bb_po, ↓bb_cl, ↓bb_some, ↓bb_RI, ↓bb_RJ, mm_hI, mm_hJ, mm_hR, mm_nI, mm_nJ, mm_nR, mm_sI, mm_sJ, mm_sR, mm_RI, mm_RJ, mm_IJ, mm_IR, mm_JI, mm_JR, mm_II, mm_JJ, mm_RR, nn_lit, nI_add, pk_mul, nI_clamp, nI_ltI, nI_leI, nI_eq, nn_in, nn_eqm, nn_meq, nn_ltm, nn_mlt, nn_lem, nn_mle, nn_in_m, hh, ↓bS e1, hh1, ↓bS is1, ↓bS e2, hh2, h52, h62, ↓bS by2, ed', show ¬ c - 48 < 2 by omega, show ¬ c - 48 ≤ 4 by omega]
      · have ez : zscriptLine tx t st = (0, znext tx t2.2.1, (c - 48, st.2)) := by
          simp only [zscriptLine, c1, if_true, ← ht2, c2, ← hc, if_neg c3]
        rw [ez]
        have A2 := r_all h p2 s12 R12
        have hT := A2.2.2.2.1.1.1
        have r3 : zR S2 rd 3 = some T := A2.2.1
        have fw : zfr (fun b j => b = T ∧ j = 3) S2 (zwI S2 T 3 (nI (c - 48))) := fr_wI _ _ ⟨rfl, rfl⟩
        have dd := hd
        unfold dRd at dd
        have p3 : pRd (zwI S2 T 3 (nI (c - 48))) rd q tx t2 := pRd_fr p2 fw (fun j => by omega) (fun j => by omega)
        obtain ⟨S4, e4, f4, p4, s4, h4, R4⟩ := r_next hd p3
        have ra : rScr (zwI S2 T 3 (nI (c - 48))) T (c - 48, st.2) := by
          obtain ⟨a1, a2, a3, a4, a5, a6, a7, a8⟩ := A2.2.2.2
          have hp3 := a8.2.2.2.2.2.1
          refine ⟨⟨a1.1, fun p hp => sPassA_sm (a1.2 p hp) (sm_fr (lo := T + 1) (hi := T + 172) fw (fun b j h1 h2 => by omega)) (by unfold aPs; omega) (by unfold aPs; omega)⟩, by simp [mm_II], by simp [mm_II, a3], by simp [mm_II, a4], fun k hk => by simp [mm_II, a5 k hk], fun k hk => a6 k hk, fun p hp => qPass_sm (a7 p hp) (sm_fr (lo := T + 1) (hi := T + 172) fw (fun b j h1 h2 => by omega)) (by unfold aPs; omega) (by have hp' : p < st.2.2.2.length := hp; unfold aPs; omega), ⟨by simp only; omega, a8.2⟩⟩
        have ra4 := rScr_sm ra s4
        have fT : zfr (wLn rd T) S S4 := fr_trans (fr_mono f12 (fun b j hb => Or.inl hb)) (fr_trans (fr_mono fw (fun b j hb => Or.inr (by omega))) (fr_mono f4 (fun b j hb => Or.inl hb)))
        have R4' : zR S4 = zR S2 := R4
        have rA : rAll S4 rd q tx (znext tx t2.2.1) T (c - 48, st.2) := ⟨p4, by rw [R4']; exact r3, by rw [R4']; exact A2.2.2.1, ra4⟩
        refine ⟨S4, ?_, fq_fr fT, rA.2.1, p4, ra4.1, fun _ => rA⟩
        simp (disch := omega) [f_Reader_scriptLine, -Prod.exists, -Prod.forall, ↓bb_gf, ↓bb_gr, ↓bb_len, ↓bb_ga, ↓bb_gl, ↓bb_go, ↓bb_pf, ↓bb_pz, ↓bb_pr, ↓bb_pa, ↓bb_pb, ↓bb_pl, ↓bb_po, ↓bb_cl, ↓bb_some, ↓bb_RI, ↓bb_RJ, mm_hI, mm_hJ, mm_hR, mm_nI, mm_nJ, mm_nR, mm_sI, mm_sJ, mm_sR, mm_RI, mm_RJ, mm_IJ, mm_IR, mm_JI, mm_JR, mm_II, mm_JJ, mm_RR, nn_lit, nI_add, pk_mul, nI_clamp, nI_ltI, nI_leI, nI_eq, nn_in, nn_eqm, nn_meq, nn_ltm, nn_mlt, nn_lem, nn_mle, nn_in_m, hh, ↓bS e1, hh1, ↓bS is1, ↓bS e2, hh2, h52, h62, ↓bS by2, ed', show ¬ c - 48 < 2 by omega, show c - 48 ≤ 4 by omega, ↓bS r3, hT, ↓bS e4]
    · have ez : zscriptLine tx t st = (1, t2, st) := by
        simp only [zscriptLine, c1, if_true, ← ht2, if_neg c2]
      rw [ez]
      refine ⟨S2, ?_, e_stop h p2 s12 R12 f12 (by omega)⟩
      simp (disch := omega) [f_Reader_scriptLine, -Prod.exists, -Prod.forall, ↓bb_gf, ↓bb_gr, ↓bb_len, ↓bb_ga, ↓bb_gl, ↓bb_go, ↓bb_pf, ↓bb_pz, ↓bb_pr, ↓bb_pa, ↓bb_pb, ↓bb_pl, ↓bb_po, ↓bb_cl, ↓bb_some, ↓bb_RI, ↓bb_RJ, mm_hI, mm_hJ, mm_hR, mm_nI, mm_nJ, mm_nR, mm_sI, mm_sJ, mm_sR, mm_RI, mm_RJ, mm_IJ, mm_IR, mm_JI, mm_JR, mm_II, mm_JJ, mm_RR, nn_lit, nI_add, pk_mul, nI_clamp, nI_ltI, nI_leI, nI_eq, nn_in, nn_eqm, nn_meq, nn_ltm, nn_mlt, nn_lem, nn_mle, nn_in_m, hh, ↓bS e1, hh1, ↓bS is1, ↓bS e2, hh2, h52, c2]
end
