/-! the reference: readings -/
def wPc (pcs : List (Nat × List Nat)) : Prop := pcs.length ≤ 16 ∧ ∀ k, k < pcs.length → (pcL pcs k).length ≤ 4 ∧ pcN pcs k < 16 ∧ l8 (pcL pcs k)
theorem pcs_w {rs : List zRu} {mask : Nat} (hw : wRs rs) : wPc (zpcs rs mask) := by
  refine ⟨pcs_len _ _ hw.1, fun k hk => ?_⟩
  have := hw.1
  rcases pcs_two (G := 0) (P := 0) hk with ⟨i, i1, i2, _⟩ | ⟨l, i1, i2, _⟩
  · unfold pcN pcL; rw [i2]
    exact ⟨(ru_w hw i1).2.2.1, by simp only; omega, (ru_w hw i1).2.2.2.2.1⟩
  · unfold pcN pcL; rw [i2]
    exact ⟨by simp, by simp only; omega, l8_one i1⟩
theorem mPcs_fr {W : Nat → Nat → Prop} {S S' : zM} {M : Nat} {pcs : List (Nat × List Nat)} (h : mPcs S M pcs) (hf : zfr W S S') (h1 : ¬ W M 35) (h2 : ∀ b j, M + 12 ≤ b → b ≤ M + 14 → ¬ W b j) : mPcs S' M pcs := by
  refine ⟨by rw [fr_I hf h1]; exact h.1, fun k hk => ?_⟩
  obtain ⟨a1, a2, a3⟩ := h.2 k hk
  exact ⟨by rw [fr_I hf (h2 _ _ (by omega) (by omega))]; exact a1, by rw [fr_I hf (h2 _ _ (by omega) (by omega))]; exact a2, fun j hj => by rw [fr_I hf (h2 _ _ (by omega) (by omega))]; exact a3 j hj⟩
section
variable {S : zM} {M : Nat} {pcs : List (Nat × List Nat)} {row : List Nat}
theorem ipa_28 (hm : sMo S M) (hw : wPc pcs) (hc : mPcs S M pcs) (hn : pNow S M row) {k fr : Nat} (hk : k < pcs.length) (hl : fr + (pcL pcs k).length ≤ row.length) : ∀ d F j, d + j = (pcL pcs k).length → d < F → (∀ e, e < j → lg row (fr + e) = lg (pcL pcs k) e) → L_Mo_isPieceAt_28 F M (nI k) (nI fr) (nI j) S = some (if zheld row fr (pcL pcs k) then 1 else 0, S) := by
  obtain ⟨w1, w2⟩ := hw
  obtain ⟨wl, wn, w8⟩ := w2 k hk
  obtain ⟨a1, a2, a3⟩ := hc.2 k hk
  have h60 := hn.2.2.2
  have zk : zinb (nI k) 16 = true := (nn_in (by omega)).2 (by omega)
  have ck : (nI k).toNatClampNeg = k := nI_clamp (by omega)
  intro d
  induction d with
  | zero =>
    intro F j hd hF hj
    cases F with
    | zero => omega
    | succ F =>
      have ej : j = (pcL pcs k).length := by omega
      subst ej
      have hx : ¬ nI (pcL pcs k).length < nI (pcL pcs k).length := by rw [nI_ltI (by omega) (by omega)]; omega
      rw [if_pos (held_iff.2 ⟨hl, hj⟩), L_Mo_isPieceAt_28]
      simp (disch := omega) [-Prod.exists, -Prod.forall, ↓bb_gf, ↓bb_gr, ↓bb_len, ↓bb_ga, ↓bb_gl, ↓bb_go, ↓bb_pf, ↓bb_pz, ↓bb_pr, ↓bb_pa, ↓bb_pb, ↓bb_pl, ↓bb_po, ↓bb_cl, ↓bb_some, ↓bb_RI, ↓bb_RJ, mm_hI, mm_hJ, mm_hR, mm_nI, mm_nJ, mm_nR, mm_sI, mm_sJ, mm_sR, mm_RI, mm_RJ, mm_IJ, mm_IR, mm_JI, mm_JR, mm_II, mm_JJ, mm_RR, hm.1, ↓bS (mo_pieceLong hm), mh_pieceLong hm, zk, ck, a2, hx]
  | succ d ih =>
    intro F j hd hF hj
    cases F with
    | zero => omega
    | succ F =>
      have hx : nI j < nI (pcL pcs k).length := by rw [nI_ltI (by omega) (by omega)]; omega
      have e1 : nI j + 1 = nI (j + 1) := nI_add j 1
      have m4 : (4 : Int32) * nI k = nI (4 * k) := pk_mul 4 _
      have z1 : zinb (nI (fr + j)) 64 = true := (nn_in (by omega)).2 (by omega)
      have c1 : (nI (fr + j)).toNatClampNeg = fr + j := nI_clamp (by omega)
      have z2 : zinb (nI (4 * k + j)) 64 = true := (nn_in (by omega)).2 (by omega)
      have c2 : (nI (4 * k + j)).toNatClampNeg = 4 * k + j := nI_clamp (by omega)
      have v1 := hn.2.1 (fr + j) (by omega)
      have v2 := a3 j (by omega)
      have b1 := hn.2.2.1 (fr + j)
      have b2 := w8 j
      by_cases q : lg row (fr + j) = lg (pcL pcs k) j
      · rw [← ih F (j + 1) (by omega) (by omega) (fun e he => by
          by_cases q2 : e = j
          · subst q2; exact q
          · exact hj e (by omega)), L_Mo_isPieceAt_28]
        simp (disch := omega) [-Prod.exists, -Prod.forall, ↓bb_gf, ↓bb_gr, ↓bb_len, ↓bb_ga, ↓bb_gl, ↓bb_go, ↓bb_pf, ↓bb_pz, ↓bb_pr, ↓bb_pa, ↓bb_pb, ↓bb_pl, ↓bb_po, ↓bb_cl, ↓bb_some, ↓bb_RI, ↓bb_RJ, mm_hI, mm_hJ, mm_hR, mm_nI, mm_nJ, mm_nR, mm_sI, mm_sJ, mm_sR, mm_RI, mm_RJ, mm_IJ, mm_IR, mm_JI, mm_JR, mm_II, mm_JJ, mm_RR, hm.1, ↓bS (mo_pieceLong hm), mh_pieceLong hm, zk, ck, a2, hx, ↓bS (mo_now hm), mh_now hm, ↓bS (mo_pieceAt hm), mh_pieceAt hm, nI_add, m4, z1, c1, z2, c2, v1, v2, q, e1]
      · have q' : ¬ nI (lg row (fr + j)) = nI (lg (pcL pcs k) j) := fun w => q ((nI_eq (by omega) (by omega)).1 w)
        rw [if_neg (fun w => q ((held_iff.1 w).2 j (by omega))), L_Mo_isPieceAt_28]
        simp (disch := omega) [-Prod.exists, -Prod.forall, ↓bb_gf, ↓bb_gr, ↓bb_len, ↓bb_ga, ↓bb_gl, ↓bb_go, ↓bb_pf, ↓bb_pz, ↓bb_pr, ↓bb_pa, ↓bb_pb, ↓bb_pl, ↓bb_po, ↓bb_cl, ↓bb_some, ↓bb_RI, ↓bb_RJ, mm_hI, mm_hJ, mm_hR, mm_nI, mm_nJ, mm_nR, mm_sI, mm_sJ, mm_sR, mm_RI, mm_RJ, mm_IJ, mm_IR, mm_JI, mm_JR, mm_II, mm_JJ, mm_RR, hm.1, ↓bS (mo_pieceLong hm), mh_pieceLong hm, zk, ck, a2, hx, ↓bS (mo_now hm), mh_now hm, ↓bS (mo_pieceAt hm), mh_pieceAt hm, nI_add, m4, z1, c1, z2, c2, v1, v2, q']
theorem m_ipa (hm : sMo S M) (hw : wPc pcs) (hc : mPcs S M pcs) (hn : pNow S M row) {k fr : Nat} (hk : k < pcs.length) (hfr : fr ≤ row.length) : f_Mo_isPieceAt M (nI k) (nI fr) S = some (if pcL pcs k ≠ [] ∧ zheld row fr (pcL pcs k) = true then 1 else 0, S) := by
  have w := hw.2 k hk
  have w16 := hw.1
  obtain ⟨a1, a2, a3⟩ := hc.2 k hk
  have h60 := hn.2.2.2
  have h41 := hn.1
  have zk : zinb (nI k) 16 = true := (nn_in (by omega)).2 (by omega)
  have ck : (nI k).toNatClampNeg = k := nI_clamp (by omega)
  by_cases q1 : pcL pcs k = []
  · have g0 : nI (pcL pcs k).length = 0 := by rw [q1]; rfl
    rw [if_neg (fun w => w.1 q1)]
    simp (disch := omega) [f_Mo_isPieceAt, -Prod.exists, -Prod.forall, ↓bb_gf, ↓bb_gr, ↓bb_len, ↓bb_ga, ↓bb_gl, ↓bb_go, ↓bb_pf, ↓bb_pz, ↓bb_pr, ↓bb_pa, ↓bb_pb, ↓bb_pl, ↓bb_po, ↓bb_cl, ↓bb_some, ↓bb_RI, ↓bb_RJ, mm_hI, mm_hJ, mm_hR, mm_nI, mm_nJ, mm_nR, mm_sI, mm_sJ, mm_sR, mm_RI, mm_RJ, mm_IJ, mm_IR, mm_JI, mm_JR, mm_II, mm_JJ, mm_RR, hm.1, ↓bS (mo_pieceLong hm), mh_pieceLong hm, zk, ck, a2, g0]
  · have hpos := List.length_pos_iff.2 q1
    have g0 : ¬ nI (pcL pcs k).length = 0 := fun w => by have := (nI_eq (b := 0) (by omega) (by omega)).1 w; omega
    by_cases q2 : fr + (pcL pcs k).length ≤ row.length
    · have l : nI (fr + (pcL pcs k).length) ≤ nI row.length := (nI_leI (by omega) (by omega)).2 q2
      have := ipa_28 hm hw hc hn hk q2 (pcL pcs k).length zF 0 (by omega) (by rw [zF_eq]; omega) (fun e he => by omega)
      have e : (if pcL pcs k ≠ [] ∧ zheld row fr (pcL pcs k) = true then (1 : Int32) else 0) = (if zheld row fr (pcL pcs k) then 1 else 0) := by simp [q1]
      rw [e, ← this]
      simp (disch := omega) [f_Mo_isPieceAt, -Prod.exists, -Prod.forall, ↓bb_gf, ↓bb_gr, ↓bb_len, ↓bb_ga, ↓bb_gl, ↓bb_go, ↓bb_pf, ↓bb_pz, ↓bb_pr, ↓bb_pa, ↓bb_pb, ↓bb_pl, ↓bb_po, ↓bb_cl, ↓bb_some, ↓bb_RI, ↓bb_RJ, mm_hI, mm_hJ, mm_hR, mm_nI, mm_nJ, mm_nR, mm_sI, mm_sJ, mm_sR, mm_RI, mm_RJ, mm_IJ, mm_IR, mm_JI, mm_JR, mm_II, mm_JJ, mm_RR, hm.1, ↓bS (mo_pieceLong hm), mh_pieceLong hm, zk, ck, a2, g0, h41, nI_add, l]; rfl
    · have l : ¬ nI (fr + (pcL pcs k).length) ≤ nI row.length := by rw [nI_leI (by omega) (by omega)]; exact q2
      rw [if_neg (fun w => q2 (held_iff.1 w.2).1)]
      simp (disch := omega) [f_Mo_isPieceAt, -Prod.exists, -Prod.forall, ↓bb_gf, ↓bb_gr, ↓bb_len, ↓bb_ga, ↓bb_gl, ↓bb_go, ↓bb_pf, ↓bb_pz, ↓bb_pr, ↓bb_pa, ↓bb_pb, ↓bb_pl, ↓bb_po, ↓bb_cl, ↓bb_some, ↓bb_RI, ↓bb_RJ, mm_hI, mm_hJ, mm_hR, mm_nI, mm_nJ, mm_nR, mm_sI, mm_sJ, mm_sR, mm_RI, mm_RJ, mm_IJ, mm_IR, mm_JI, mm_JR, mm_II, mm_JJ, mm_RR, hm.1, ↓bS (mo_pieceLong hm), mh_pieceLong hm, zk, ck, a2, g0, h41, nI_add, l]
end
section
variable {S0 : zM} {M : Nat} {pcs : List (Nat × List Nat)} {row : List Nat}
theorem mr_35 (hm0 : sMo S0 M) (hw : wPc pcs) (hc0 : mPcs S0 M pcs) (hn0 : pNow S0 M row) (h8 : row.length ≤ 8) {T : Nat → Nat} {fr : Nat} (hfr : fr < row.length) (hT0 : ∀ j, fr < j → j ≤ row.length → zI S0 (M + 17) j = nI (T j)) {K : Nat → Int32 → zM → Option zM} (Q : Option zM → Prop) (HK : ∀ S', zfr (fun b j => b = M + 17 ∧ j = fr) S0 S' → zI S' (M + 17) fr = nI (zwS row T fr pcs) → Q (K M (nI fr) S')) : ∀ d F (S : zM) k, d + k = pcs.length → d < F → zfr (fun b j => b = M + 17 ∧ j = fr) S0 S → zI S (M + 17) fr = nI (zwS row T fr (pcs.take k)) → Q (L_Mo_laysReadings_35 K F M (nI fr) (nI k) S) := by
  have w16 := hw.1
  intro d
  induction d with
  | zero =>
    intro F S k hd hF hf ha
    cases F with
    | zero => omega
    | succ F =>
      have el : k = pcs.length := by omega
      subst el
      have hm := mo_fr hm0 hf
      have hc := mPcs_fr hc0 hf (by omega) (fun b j a c => by omega)
      have hx : ¬ nI pcs.length < nI pcs.length := by rw [nI_ltI (by omega) (by omega)]; omega
      rw [List.take_length] at ha
      have : L_Mo_laysReadings_35 K (F + 1) M (nI fr) (nI pcs.length) S = K M (nI fr) S := by
        simp [L_Mo_laysReadings_35, -Prod.exists, -Prod.forall, ↓bb_gf, ↓bb_gr, ↓bb_len, ↓bb_ga, ↓bb_gl, ↓bb_go, ↓bb_pf, ↓bb_pz, ↓bb_pr, ↓bb_pa, ↓bb_pb, ↓bb_pl, ↓bb_po, ↓bb_cl, ↓bb_some, ↓bb_RI, ↓bb_RJ, mm_hI, mm_hJ, mm_hR, mm_nI, mm_nJ, mm_nR, mm_sI, mm_sJ, mm_sR, mm_RI, mm_RJ, mm_IJ, mm_IR, mm_JI, mm_JR, mm_II, mm_JJ, mm_RR, hm.1, hc.1, hx]
      rw [this]
      exact HK S hf ha
  | succ d ih =>
    intro F S k hd hF hf ha
    cases F with
    | zero => omega
    | succ F =>
      have hm := mo_fr hm0 hf
      have hc := mPcs_fr hc0 hf (by omega) (fun b j a c => by omega)
      have hn := now_fr hn0 hf (by omega) (fun j => by omega)
      have hk : k < pcs.length := by omega
      have hx : nI k < nI pcs.length := by rw [nI_ltI (by omega) (by omega)]; omega
      have e1 : nI k + 1 = nI (k + 1) := nI_add k 1
      have ip := m_ipa hm hw hc hn hk (fr := fr) (by omega)
      have z : zinb (nI fr) 9 = true := (nn_in (by omega)).2 (by omega)
      have c : (nI fr).toNatClampNeg = fr := nI_clamp (by omega)
      have zk : zinb (nI k) 16 = true := (nn_in (by omega)).2 (by omega)
      have ck : (nI k).toNatClampNeg = k := nI_clamp (by omega)
      obtain ⟨a1, a2, a3⟩ := hc.2 k hk
      have wl := (hw.2 k hk).1
      have st : L_Mo_laysReadings_35 K (F + 1) M (nI fr) (nI k) S = L_Mo_laysReadings_35 K F M (nI fr) (nI (k + 1)) (zwI S (M + 17) fr (nI (zwS row T fr (pcs.take (k + 1))))) := by
        have e : zwS row T fr (pcs.take (k + 1)) = zwS row T fr (pcs.take k) + zw1 row T fr (pcL pcs k) := take_sum _ hk
        rw [e, L_Mo_laysReadings_35]
        by_cases q : pcL pcs k ≠ [] ∧ zheld row fr (pcL pcs k) = true
        · have hl := (held_iff.1 q.2).1
          have hpos := List.length_pos_iff.2 q.1
          have e2 : zw1 row T fr (pcL pcs k) = T (fr + (pcL pcs k).length) := by unfold zw1; rw [if_pos q]
          have vT : zI S (M + 17) (fr + (pcL pcs k).length) = nI (T (fr + (pcL pcs k).length)) := by rw [fr_I hf (by omega)]; exact hT0 _ (by omega) hl
          have z2 : zinb (nI (fr + (pcL pcs k).length)) 9 = true := (nn_in (by omega)).2 (by omega)
          have c2 : (nI (fr + (pcL pcs k).length)).toNatClampNeg = fr + (pcL pcs k).length := nI_clamp (by omega)
          rw [if_pos q] at ip
          rw [e2]
          simp (disch := omega) [-Prod.exists, -Prod.forall, ↓bb_gf, ↓bb_gr, ↓bb_len, ↓bb_ga, ↓bb_gl, ↓bb_go, ↓bb_pf, ↓bb_pz, ↓bb_pr, ↓bb_pa, ↓bb_pb, ↓bb_pl, ↓bb_po, ↓bb_cl, ↓bb_some, ↓bb_RI, ↓bb_RJ, mm_hI, mm_hJ, mm_hR, mm_nI, mm_nJ, mm_nR, mm_sI, mm_sJ, mm_sR, mm_RI, mm_RJ, mm_IJ, mm_IR, mm_JI, mm_JR, mm_II, mm_JJ, mm_RR, hm.1, hc.1, hx, ↓bS (mo_readingsFrom hm), mh_readingsFrom hm, z, c, ↓bS ip, ha, ↓bS (mo_pieceLong hm), mh_pieceLong hm, zk, ck, a2, nI_add, z2, c2, vT, e1]
        · have e2 : zw1 row T fr (pcL pcs k) = 0 := by unfold zw1; rw [if_neg q]
          rw [if_neg q] at ip
          rw [e2, Nat.add_zero]
          have e3 : ∀ x : Int32, x + 0 = x := fun x => by simp
          simp (disch := omega) [-Prod.exists, -Prod.forall, ↓bb_gf, ↓bb_gr, ↓bb_len, ↓bb_ga, ↓bb_gl, ↓bb_go, ↓bb_pf, ↓bb_pz, ↓bb_pr, ↓bb_pa, ↓bb_pb, ↓bb_pl, ↓bb_po, ↓bb_cl, ↓bb_some, ↓bb_RI, ↓bb_RJ, mm_hI, mm_hJ, mm_hR, mm_nI, mm_nJ, mm_nR, mm_sI, mm_sJ, mm_sR, mm_RI, mm_RJ, mm_IJ, mm_IR, mm_JI, mm_JR, mm_II, mm_JJ, mm_RR, hm.1, hc.1, hx, ↓bS (mo_readingsFrom hm), mh_readingsFrom hm, z, c, ↓bS ip, ha, e3, e1]
      rw [st]
      exact ih F _ (k + 1) (by omega) (by omega) (fr_trans hf (fr_wI _ _ ⟨rfl, rfl⟩)) (by simp [-Prod.exists, -Prod.forall, zgf, zgr, zpf, zpz, zpr, zga, zgl, zgo, zpa, zpb, zpl, zpo, mm_len, zcl, Option.bind_some, Option.bind_none, mm_hI, mm_hJ, mm_hR, mm_nI, mm_nJ, mm_nR, mm_sI, mm_sJ, mm_sR, mm_RI, mm_RJ, mm_IJ, mm_IR, mm_JI, mm_JR, mm_II, mm_JJ, mm_RR])
theorem mr_22 (hm0 : sMo S0 M) (hw : wPc pcs) (hc0 : mPcs S0 M pcs) (hn0 : pNow S0 M row) (h8 : row.length ≤ 8) : ∀ e F (S : zM) d, d + e = row.length → e < F → zfr (fun b j => b = M + 17) S0 S → (∀ j, e ≤ j → j ≤ row.length → zI S (M + 17) j = nI (zwt pcs row d j)) → ∃ S', L_Mo_laysReadings_22 F M (nI e - 1) S = some S' ∧ zfr (fun b j => b = M + 17) S0 S' ∧ ∀ j, j ≤ row.length → zI S' (M + 17) j = nI (zwy pcs row j) := by
  have w16 := hw.1
  intro e
  induction e with
  | zero =>
    intro F S d hd hF hf ha
    cases F with
    | zero => omega
    | succ F =>
      have ed : d = row.length := by omega
      subst ed
      have l : nI 0 - 1 < 0 := by decide
      exact ⟨S, by simp [L_Mo_laysReadings_22, l], hf, fun j hj => ha j (by omega) hj⟩
  | succ e ih =>
    intro F S d hd hF hf ha
    cases F with
    | zero => omega
    | succ F =>
      have hm := mo_fr hm0 hf
      have hc := mPcs_fr hc0 hf (by omega) (fun b j a c => by omega)
      have hn := now_fr hn0 hf (by omega) (fun j => by omega)
      have ee : nI (e + 1) - 1 = nI e := by
        have := pk_sub (a := e + 1) (b := 1) (by omega)
        rw [Nat.add_sub_cancel] at this
        exact this
      rw [ee]
      have l : ¬ nI e < 0 := nI_pos (by omega)
      have z : zinb (nI e) 9 = true := (nn_in (by omega)).2 (by omega)
      have c : (nI e).toNatClampNeg = e := nI_clamp (by omega)
      have st : L_Mo_laysReadings_22 (F + 1) M (nI e) S = L_Mo_laysReadings_35 (F_Mo_laysReadings_84 (L_Mo_laysReadings_22 F)) zF M (nI e) (nI 0) (zwI S (M + 17) e 0) := by
        rw [L_Mo_laysReadings_22]
        simp (disch := omega) [-Prod.exists, -Prod.forall, ↓bb_gf, ↓bb_gr, ↓bb_len, ↓bb_ga, ↓bb_gl, ↓bb_go, ↓bb_pf, ↓bb_pz, ↓bb_pr, ↓bb_pa, ↓bb_pb, ↓bb_pl, ↓bb_po, ↓bb_cl, ↓bb_some, ↓bb_RI, ↓bb_RJ, mm_hI, mm_hJ, mm_hR, mm_nI, mm_nJ, mm_nR, mm_sI, mm_sJ, mm_sR, mm_RI, mm_RJ, mm_IJ, mm_IR, mm_JI, mm_JR, mm_II, mm_JJ, mm_RR, hm.1, l, ↓bS (mo_readingsFrom hm), mh_readingsFrom hm, z, c]; rfl
      rw [st]
      have hf1 : zfr (fun b j => b = M + 17) S (zwI S (M + 17) e 0) := fr_wI _ _ rfl
      refine mr_35 (S0 := zwI S (M + 17) e 0) (T := zwt pcs row d) (mo_fr hm hf1) hw (mPcs_fr hc hf1 (by omega) (fun b j a c => by omega)) (now_fr hn hf1 (by omega) (fun j => by omega)) h8 (fr := e) (by omega) (fun j a b => ?_) (fun o => ∃ S', o = some S' ∧ zfr (fun b j => b = M + 17) S0 S' ∧ ∀ j, j ≤ row.length → zI S' (M + 17) j = nI (zwy pcs row j)) ?_ pcs.length zF _ 0 (by omega) (by rw [zF_eq]; omega) (fr_refl _ _) (by simp [zwS, -Prod.exists, -Prod.forall, zgf, zgr, zpf, zpz, zpr, zga, zgl, zgo, zpa, zpb, zpl, zpo, mm_len, zcl, Option.bind_some, Option.bind_none, mm_hI, mm_hJ, mm_hR, mm_nI, mm_nJ, mm_nR, mm_sI, mm_sJ, mm_sR, mm_RI, mm_RJ, mm_IJ, mm_IR, mm_JI, mm_JR, mm_II, mm_JJ, mm_RR]; rfl)
      · have : ¬ j = e := by omega
        rw [← ha j (by omega) b]; simp [-Prod.exists, -Prod.forall, zgf, zgr, zpf, zpz, zpr, zga, zgl, zgo, zpa, zpb, zpl, zpo, mm_len, zcl, Option.bind_some, Option.bind_none, mm_hI, mm_hJ, mm_hR, mm_nI, mm_nJ, mm_nR, mm_sI, mm_sJ, mm_sR, mm_RI, mm_RJ, mm_IJ, mm_IR, mm_JI, mm_JR, mm_II, mm_JJ, mm_RR, this]
      · intro S2 f2 v2
        obtain ⟨S', r1, r2⟩ := ih F S2 (d + 1) (by omega) (by omega) (fr_trans hf (fr_trans hf1 (fr_mono f2 (fun b j h => h.1)))) (fun j a b => by
          rw [zwt, zup, show row.length - 1 - d = e by omega]
          by_cases q : j = e
          · subst q; rw [v2, if_pos rfl]
          · rw [if_neg q, fr_I f2 (by omega), ← ha j (by omega) b]; simp [-Prod.exists, -Prod.forall, zgf, zgr, zpf, zpz, zpr, zga, zgl, zgo, zpa, zpb, zpl, zpo, mm_len, zcl, Option.bind_some, Option.bind_none, mm_hI, mm_hJ, mm_hR, mm_nI, mm_nJ, mm_nR, mm_sI, mm_sJ, mm_sR, mm_RI, mm_RJ, mm_IJ, mm_IR, mm_JI, mm_JR, mm_II, mm_JJ, mm_RR, q])
        refine ⟨S', ?_, r2⟩
        rw [← r1, F_Mo_laysReadings_84]
        have : nI e + (-1) = nI e - 1 := by rw [Int32.sub_eq_add_neg]
        rw [this]
theorem m_readings {sc : zSc} {asd : Nat → Nat} {p : Nat} (hm : sMo S0 M) (hsc : mSc S0 M sc asd) (hp : p < sc.2.2.length) (hn : pNow S0 M row) (h8 : row.length ≤ 8) : ∃ S', f_Mo_laysReadings M (nI p) S0 = some S' ∧ zfr (fun b j => wMPc M b j ∨ b = M + 17) S0 S' ∧ mPcs S' M (zpcs (zpa_ sc.2.2 p).2 (asd p)) ∧ ∀ j, j ≤ row.length → zI S' (M + 17) j = nI (zwy (zpcs (zpa_ sc.2.2 p).2 (asd p)) row j) := by
  obtain ⟨S1, p1, p2, p3⟩ := m_pieces hm hsc hp
  have wr := ps_w hsc.2.2.2.2.2.2.2.2.2.2.2.2 hp
  have hm1 := mo_fr hm p2
  have hn1 := now_fr hn p2 (by unfold wMPc; omega) (fun j => by unfold wMPc; omega)
  have hf1 : zfr (fun b j => b = M + 17) S1 (zwI S1 (M + 17) row.length 1) := fr_wI _ _ rfl
  obtain ⟨S', r1, r2, r3⟩ := mr_22 hm1 (pcs_w wr) p3 hn1 h8 row.length zF (zwI S1 (M + 17) row.length 1) 0 (by omega) (by rw [zF_eq]; omega) hf1 (fun j a b => by
    have : j = row.length := by omega
    subst this; simp [-Prod.exists, -Prod.forall, zgf, zgr, zpf, zpz, zpr, zga, zgl, zgo, zpa, zpb, zpl, zpo, mm_len, zcl, Option.bind_some, Option.bind_none, mm_hI, mm_hJ, mm_hR, mm_nI, mm_nJ, mm_nR, mm_sI, mm_sJ, mm_sR, mm_RI, mm_RJ, mm_IJ, mm_IR, mm_JI, mm_JR, mm_II, mm_JJ, mm_RR, zwt]; rfl)
  refine ⟨S', ?_, fr_trans (fr_mono p2 (fun b j h => Or.inl h)) (fr_mono r2 (fun b j h => Or.inr h)), mPcs_fr p3 r2 (by omega) (fun b j a c => by omega), r3⟩
  rw [← r1]
  have z : zinb (nI row.length) 9 = true := (nn_in (by omega)).2 (by omega)
  have c : (nI row.length).toNatClampNeg = row.length := nI_clamp (by omega)
  simp (disch := omega) [f_Mo_laysReadings, -Prod.exists, -Prod.forall, ↓bb_gf, ↓bb_gr, ↓bb_len, ↓bb_ga, ↓bb_gl, ↓bb_go, ↓bb_pf, ↓bb_pz, ↓bb_pr, ↓bb_pa, ↓bb_pb, ↓bb_pl, ↓bb_po, ↓bb_cl, ↓bb_some, ↓bb_RI, ↓bb_RJ, mm_hI, mm_hJ, mm_hR, mm_nI, mm_nJ, mm_nR, mm_sI, mm_sJ, mm_sR, mm_RI, mm_RJ, mm_IJ, mm_IR, mm_JI, mm_JR, mm_II, mm_JJ, mm_RR, hm.1, ↓bS p1, hm1.1, ↓bS (mo_readingsFrom hm1), mh_readingsFrom hm1, hn1.1, z, c]
end
section
variable {S : zM} {M : Nat} {rs : List zRu} {mask : Nat} {row : List Nat}
theorem mfp_2 (hm : sMo S M) (hw : wRs rs) (hc : mPcs S M (zpcs rs mask)) (hn : pNow S M row) (h8 : row.length ≤ 8) (hT : ∀ j, j ≤ row.length → zI S (M + 17) j = nI (zwy (zpcs rs mask) row j)) {fr k0 : Nat} (hfr : fr < row.length) (hk0 : k0 < (zpcs rs mask).length) (h1 : zw1 row (zwy (zpcs rs mask) row) fr (pcL (zpcs rs mask) k0) ≠ 0) (h2 : ∀ j, j < k0 → zw1 row (zwy (zpcs rs mask) row) fr (pcL (zpcs rs mask) j) = 0) : ∀ d F k, d + k = k0 → d < F → L_Mo_firstPiece_2 F M (nI fr) (nI k) S = some (nI k0, S) := by
  have wp := pcs_w (mask := mask) hw
  have w16 := wp.1
  intro d
  induction d with
  | zero =>
    intro F k hd hF
    cases F with
    | zero => omega
    | succ F =>
      have ek : k = k0 := by omega
      subst ek
      obtain ⟨v1, v2, v3, v4⟩ := w1_ne h1
      have ip := m_ipa hm wp hc hn hk0 (fr := fr) (by omega)
      rw [if_pos ⟨List.length_pos_iff.1 v1, v3⟩] at ip
      have zk : zinb (nI k) 16 = true := (nn_in (by omega)).2 (by omega)
      have ck : (nI k).toNatClampNeg = k := nI_clamp (by omega)
      obtain ⟨a1, a2, a3⟩ := hc.2 k hk0
      have z2 : zinb (nI (fr + (pcL (zpcs rs mask) k).length)) 9 = true := (nn_in (by omega)).2 (by omega)
      have c2 : (nI (fr + (pcL (zpcs rs mask) k).length)).toNatClampNeg = fr + (pcL (zpcs rs mask) k).length := nI_clamp (by omega)
      have vT := hT _ v2
      have l := wy_lt (row := row) (mask := mask) (j := fr + (pcL (zpcs rs mask) k).length) hw.1 h8 v2
      have n0 : ¬ nI (zwy (zpcs rs mask) row (fr + (pcL (zpcs rs mask) k).length)) = 0 := fun w => v4 ((nI_eq (b := 0) (by omega) (by omega)).1 w)
      rw [L_Mo_firstPiece_2]
      simp (disch := omega) [-Prod.exists, -Prod.forall, ↓bb_gf, ↓bb_gr, ↓bb_len, ↓bb_ga, ↓bb_gl, ↓bb_go, ↓bb_pf, ↓bb_pz, ↓bb_pr, ↓bb_pa, ↓bb_pb, ↓bb_pl, ↓bb_po, ↓bb_cl, ↓bb_some, ↓bb_RI, ↓bb_RJ, mm_hI, mm_hJ, mm_hR, mm_nI, mm_nJ, mm_nR, mm_sI, mm_sJ, mm_sR, mm_RI, mm_RJ, mm_IJ, mm_IR, mm_JI, mm_JR, mm_II, mm_JJ, mm_RR, hm.1, ↓bS ip, ↓bS (mo_readingsFrom hm), mh_readingsFrom hm, ↓bS (mo_pieceLong hm), mh_pieceLong hm, zk, ck, a2, nI_add, z2, c2, vT, n0]
  | succ d ih =>
    intro F k hd hF
    cases F with
    | zero => omega
    | succ F =>
      have hk : k < (zpcs rs mask).length := by omega
      have ip := m_ipa hm wp hc hn hk (fr := fr) (by omega)
      have e0 := h2 k (by omega)
      have e1 : nI k + 1 = nI (k + 1) := nI_add k 1
      rw [← ih F (k + 1) (by omega) (by omega), L_Mo_firstPiece_2]
      by_cases q : pcL (zpcs rs mask) k ≠ [] ∧ zheld row fr (pcL (zpcs rs mask) k) = true
      · rw [if_pos q] at ip
        have hl := (held_iff.1 q.2).1
        unfold zw1 at e0
        rw [if_pos q] at e0
        have zk : zinb (nI k) 16 = true := (nn_in (by omega)).2 (by omega)
        have ck : (nI k).toNatClampNeg = k := nI_clamp (by omega)
        obtain ⟨a1, a2, a3⟩ := hc.2 k hk
        have z2 : zinb (nI (fr + (pcL (zpcs rs mask) k).length)) 9 = true := (nn_in (by omega)).2 (by omega)
        have c2 : (nI (fr + (pcL (zpcs rs mask) k).length)).toNatClampNeg = fr + (pcL (zpcs rs mask) k).length := nI_clamp (by omega)
        have vT := hT _ hl
        rw [e0] at vT
        have n0 : nI 0 = (0 : Int32) := rfl
        simp (disch := omega) [-Prod.exists, -Prod.forall, ↓bb_gf, ↓bb_gr, ↓bb_len, ↓bb_ga, ↓bb_gl, ↓bb_go, ↓bb_pf, ↓bb_pz, ↓bb_pr, ↓bb_pa, ↓bb_pb, ↓bb_pl, ↓bb_po, ↓bb_cl, ↓bb_some, ↓bb_RI, ↓bb_RJ, mm_hI, mm_hJ, mm_hR, mm_nI, mm_nJ, mm_nR, mm_sI, mm_sJ, mm_sR, mm_RI, mm_RJ, mm_IJ, mm_IR, mm_JI, mm_JR, mm_II, mm_JJ, mm_RR, hm.1, ↓bS ip, ↓bS (mo_readingsFrom hm), mh_readingsFrom hm, ↓bS (mo_pieceLong hm), mh_pieceLong hm, zk, ck, a2, nI_add, z2, c2, vT, n0, e1]
      · rw [if_neg q] at ip
        simp (disch := omega) [-Prod.exists, -Prod.forall, ↓bb_gf, ↓bb_gr, ↓bb_len, ↓bb_ga, ↓bb_gl, ↓bb_go, ↓bb_pf, ↓bb_pz, ↓bb_pr, ↓bb_pa, ↓bb_pb, ↓bb_pl, ↓bb_po, ↓bb_cl, ↓bb_some, ↓bb_RI, ↓bb_RJ, mm_hI, mm_hJ, mm_hR, mm_nI, mm_nJ, mm_nR, mm_sI, mm_sJ, mm_sR, mm_RI, mm_RJ, mm_IJ, mm_IR, mm_JI, mm_JR, mm_II, mm_JJ, mm_RR, hm.1, ↓bS ip, e1]
/-- the loop: the answer, or where it ends -/
theorem mrd_58 (hm : sMo S M) (hw : wRs rs) (hc : mPcs S M (zpcs rs mask)) (hn : pNow S M row) (h8 : row.length ≤ 8) (hT : ∀ j, j ≤ row.length → zI S (M + 17) j = nI (zwy (zpcs rs mask) row j)) (its : Int32) : ∀ f F fr m i, row.length < f + fr → f < F → m ≤ 10 → fr ≤ row.length → f + m ≤ 10 → zwy (zpcs rs mask) row fr ≠ 0 → ((its = nI (i + m) ∧ i + m < 2 ^ 31) ∨ (its < 0 ∧ row.length ≤ i + fr)) → L_Mo_reading_58 F M its (nI m) (nI fr) S = (match zrdN (zpcs rs mask) row f fr i with
    | some v => some (nI v, S)
    | none => Option.bind (zcl S 12 M (f_Mo_no M (1 : Int32) S)) (fun p7 => some (p7.1, p7.2))) := by
  have wp := pcs_w (mask := mask) hw
  have w16 := wp.1
  intro f
  induction f with
  | zero => intro F fr m i h1 h2 h3 h4 h5 h6 h7; omega
  | succ f ih =>
    intro F fr m i h1 h2 h3 h4 h5 h6 h7
    cases F with
    | zero => omega
    | succ F =>
      have h41 := hn.1
      by_cases q : fr < row.length
      · obtain ⟨k, k1, k2, k3, k4⟩ := fp_some q h6
        have l2 : nI fr < nI row.length := (nI_ltI (by omega) (by omega)).2 q
        have fp : f_Mo_firstPiece M (nI fr) S = some (nI k, S) := mfp_2 hm hw hc hn h8 hT q k2 k3 k4 k zF 0 (by omega) (by rw [zF_eq]; omega)
        obtain ⟨w1, w2, w3, w4⟩ := w1_ne k3
        have e1 : nI m + 1 = nI (m + 1) := nI_add m 1
        have zk : zinb (nI k) 16 = true := (nn_in (by omega)).2 (by omega)
        have ck : (nI k).toNatClampNeg = k := nI_clamp (by omega)
        obtain ⟨a1, a2, a3⟩ := hc.2 k k2
        have eq : nI m = its ↔ (i = 0 ∧ ¬ its < 0) := by
          rcases h7 with ⟨g1, g2⟩ | ⟨g1, g2⟩
          · rw [g1]
            have : ¬ nI (i + m) < 0 := nI_pos g2
            rw [nI_eq (by omega) (by omega)]
            constructor
            · intro w; exact ⟨by omega, this⟩
            · intro w; omega
          · constructor
            · intro w; rw [← w] at g1; exact absurd g1 (nI_pos (by omega))
            · intro w; exact absurd g1 w.2
        rw [zrdN, if_pos q, k1]
        by_cases q2 : i = 0 ∧ ¬ its < 0
        · simp only [q2.1, if_true]
          rw [L_Mo_reading_58]
          have e := eq.2 q2
          simp (disch := omega) [-Prod.exists, -Prod.forall, ↓bb_gf, ↓bb_gr, ↓bb_len, ↓bb_ga, ↓bb_gl, ↓bb_go, ↓bb_pf, ↓bb_pz, ↓bb_pr, ↓bb_pa, ↓bb_pb, ↓bb_pl, ↓bb_po, ↓bb_cl, ↓bb_some, ↓bb_RI, ↓bb_RJ, mm_hI, mm_hJ, mm_hR, mm_nI, mm_nJ, mm_nR, mm_sI, mm_sJ, mm_sR, mm_RI, mm_RJ, mm_IJ, mm_IR, mm_JI, mm_JR, mm_II, mm_JJ, mm_RR, hm.1, h41, l2, ↓bS fp, e, ↓bS (mo_pieceOf hm), mh_pieceOf hm, zk, ck, a1]
        · have e : ¬ nI m = its := fun w => q2 (eq.1 w)
          have hi0 : i ≠ 0 := by
            intro w
            rcases h7 with ⟨g1, g2⟩ | ⟨g1, g2⟩
            · exact q2 ⟨w, by rw [g1]; exact nI_pos g2⟩
            · omega
          simp only [hi0, if_false]
          rw [← ih F (fr + (pcL (zpcs rs mask) k).length) (m + 1) (i - 1) (by omega) (by omega) (by omega) (by omega) (by omega) w4 (by
            rcases h7 with ⟨g1, g2⟩ | ⟨g1, g2⟩
            · left; exact ⟨by rw [g1]; congr 1; omega, by omega⟩
            · right; exact ⟨g1, by omega⟩), L_Mo_reading_58]
          simp (disch := omega) [-Prod.exists, -Prod.forall, ↓bb_gf, ↓bb_gr, ↓bb_len, ↓bb_ga, ↓bb_gl, ↓bb_go, ↓bb_pf, ↓bb_pz, ↓bb_pr, ↓bb_pa, ↓bb_pb, ↓bb_pl, ↓bb_po, ↓bb_cl, ↓bb_some, ↓bb_RI, ↓bb_RJ, mm_hI, mm_hJ, mm_hR, mm_nI, mm_nJ, mm_nR, mm_sI, mm_sJ, mm_sR, mm_RI, mm_RJ, mm_IJ, mm_IR, mm_JI, mm_JR, mm_II, mm_JJ, mm_RR, hm.1, h41, l2, ↓bS fp, e, ↓bS (mo_pieceLong hm), mh_pieceLong hm, zk, ck, a2, nI_add, e1]
      · have l2 : ¬ nI fr < nI row.length := by rw [nI_ltI (by omega) (by omega)]; exact q
        rw [zrdN, if_neg q, L_Mo_reading_58]
        simp (disch := omega) [-Prod.exists, -Prod.forall, ↓bb_gf, ↓bb_gr, ↓bb_len, ↓bb_ga, ↓bb_gl, ↓bb_go, ↓bb_pf, ↓bb_pz, ↓bb_pr, ↓bb_pa, ↓bb_pb, ↓bb_pl, ↓bb_po, ↓bb_cl, ↓bb_some, ↓bb_RI, ↓bb_RJ, mm_hI, mm_hJ, mm_hR, mm_nI, mm_nJ, mm_nR, mm_sI, mm_sJ, mm_sR, mm_RI, mm_RJ, mm_IJ, mm_IR, mm_JI, mm_JR, mm_II, mm_JJ, mm_RR, hm.1, h41, l2]
end
