/-! the class: readings -/
theorem held_agr {row t : List Nat} {fr : Nat} : (fr + t.length ≤ row.length ∧ zagr row fr t = true) ↔ zheld row fr t = true := by
  rw [held_iff, agr_iff]
  constructor
  · rintro ⟨h1, h2⟩
    exact ⟨h1, fun k hk => h2 k hk (by omega)⟩
  · rintro ⟨h1, h2⟩
    exact ⟨h1, fun k hk _ => h2 k hk⟩
section
variable {S : zM} {G : Nat} {pcs : List (Nat × List Nat)}
theorem pcs_let (hs : sPcs S G) (hc : cPcs S G pcs) {k : Nat} (hk : k < pcs.length) : ∃ a n, f_Pieces_lettersOf G (nI k) S = some (some a, S) ∧ G + 6 ≤ a ∧ pRow S a n (pcL pcs k) := by
  obtain ⟨c1, c2, c3⟩ := hc
  obtain ⟨_, _, _, a, n, q1, q2, q3⟩ := c3 k hk
  refine ⟨a, n, ?_, q2, q3⟩
  have z : zinb (nI k) 16 = true := (nn_in (by omega)).2 (by omega)
  have c : (nI k).toNatClampNeg = k := nI_clamp (by omega)
  have l1 : ¬ nI k < 0 := nI_pos (by omega)
  have l2 : nI k < nI pcs.length := (nI_ltI (by omega) (by omega)).2 hk
  have l3 : nI k < 16 := (nI_ltI (b := 16) (by omega) (by omega)).2 (by omega)
  simp (disch := omega) [f_Pieces_lettersOf, -Prod.exists, -Prod.forall, ↓bb_gf, ↓bb_gr, ↓bb_len, ↓bb_ga, ↓bb_gl, ↓bb_go, ↓bb_pf, ↓bb_pz, ↓bb_pr, ↓bb_pa, ↓bb_pb, ↓bb_pl, ↓bb_po, ↓bb_cl, ↓bb_some, ↓bb_RI, ↓bb_RJ, mm_hI, mm_hJ, mm_hR, mm_nI, mm_nJ, mm_nR, mm_sI, mm_sJ, mm_sR, mm_RI, mm_RJ, mm_IJ, mm_IR, mm_JI, mm_JR, mm_II, mm_JJ, mm_RR, l1, hs.1, c1, l2, l3, ↓bS hs.2.2.2.1, hs.2.2.2.2.1, z, c, q1]
theorem pcs_what (hs : sPcs S G) (hc : cPcs S G pcs) {k : Nat} (hk : k < pcs.length) : f_Pieces_whatOf G (nI k) S = some (nI (pcN pcs k), S) := by
  obtain ⟨c1, c2, c3⟩ := hc
  obtain ⟨q0, _⟩ := c3 k hk
  have z : zinb (nI k) 16 = true := (nn_in (by omega)).2 (by omega)
  have c : (nI k).toNatClampNeg = k := nI_clamp (by omega)
  have l1 : ¬ nI k < 0 := nI_pos (by omega)
  have l2 : nI k < nI pcs.length := (nI_ltI (by omega) (by omega)).2 hk
  have l3 : nI k < 16 := (nI_ltI (b := 16) (by omega) (by omega)).2 (by omega)
  simp (disch := omega) [f_Pieces_whatOf, -Prod.exists, -Prod.forall, ↓bb_gf, ↓bb_gr, ↓bb_len, ↓bb_ga, ↓bb_gl, ↓bb_go, ↓bb_pf, ↓bb_pz, ↓bb_pr, ↓bb_pa, ↓bb_pb, ↓bb_pl, ↓bb_po, ↓bb_cl, ↓bb_some, ↓bb_RI, ↓bb_RJ, mm_hI, mm_hJ, mm_hR, mm_nI, mm_nJ, mm_nR, mm_sI, mm_sJ, mm_sR, mm_RI, mm_RJ, mm_IJ, mm_IR, mm_JI, mm_JR, mm_II, mm_JJ, mm_RR, l1, hs.1, c1, l2, l3, ↓bS hs.2.1, hs.2.2.1, z, c, q0]
theorem ways_ok (hs : sPcs S G) (hc : cPcs S G pcs) {r n : Nat} {row : List Nat} (hr : pRow S r n row) (h8 : row.length ≤ 8) {T : Nat → Nat} {fr k : Nat} (hfr : fr < row.length) (hk : k < pcs.length) (hT : ∀ j, fr < j → j ≤ row.length → zI S (G + 5) j = nI (T j)) : f_Pieces_waysBehind G r (nI fr) (nI k) S = some (nI (zw1 row T fr (pcL pcs k)), S) := by
  obtain ⟨a, m, p1, p2, p3⟩ := pcs_let hs hc hk
  have h4 := (hc.2.2 k hk).2.2.1
  have ho := row_holds hr p3 (f := fr) (by omega)
  have g6 : zI S a 1 = nI (pcL pcs k).length := p3.2.2.2.2.2.1
  by_cases q1 : pcL pcs k = []
  · have e : zw1 row T fr (pcL pcs k) = 0 := by unfold zw1; rw [if_neg]; exact fun w => w.1 q1
    have g0 : nI (pcL pcs k).length = 0 := by rw [q1]; rfl
    rw [e]
    simp (disch := omega) [f_Pieces_waysBehind, -Prod.exists, -Prod.forall, ↓bb_gf, ↓bb_gr, ↓bb_len, ↓bb_ga, ↓bb_gl, ↓bb_go, ↓bb_pf, ↓bb_pz, ↓bb_pr, ↓bb_pa, ↓bb_pb, ↓bb_pl, ↓bb_po, ↓bb_cl, ↓bb_some, ↓bb_RI, ↓bb_RJ, mm_hI, mm_hJ, mm_hR, mm_nI, mm_nJ, mm_nR, mm_sI, mm_sJ, mm_sR, mm_RI, mm_RJ, mm_IJ, mm_IR, mm_JI, mm_JR, mm_II, mm_JJ, mm_RR, hs.1, ↓bS p1, p3.1, g6, g0]; rfl
  · have hpos := List.length_pos_iff.2 q1
    have g0 : ¬ nI (pcL pcs k).length = 0 := fun w => by have := (nI_eq (b := 0) (by omega) (by omega)).1 w; omega
    by_cases q2 : zheld row fr (pcL pcs k) = true
    · rw [if_pos (held_agr.2 q2)] at ho
      have hl := (held_iff.1 q2).1
      have e : zw1 row T fr (pcL pcs k) = T (fr + (pcL pcs k).length) := by unfold zw1; rw [if_pos ⟨q1, q2⟩]
      rw [e, ← hT _ (by omega) hl]
      have l1 : ¬ nI (fr + (pcL pcs k).length) < 0 := nI_pos (by omega)
      have l2 : nI (fr + (pcL pcs k).length) < nI 9 := (nI_ltI (by omega) (by omega)).2 (by omega)
      have z : zinb (nI (fr + (pcL pcs k).length)) 9 = true := (nn_in (by omega)).2 (by omega)
      have c : (nI (fr + (pcL pcs k).length)).toNatClampNeg = fr + (pcL pcs k).length := nI_clamp (by omega)
      simp (disch := omega) [f_Pieces_waysBehind, -Prod.exists, -Prod.forall, ↓bb_gf, ↓bb_gr, ↓bb_len, ↓bb_ga, ↓bb_gl, ↓bb_go, ↓bb_pf, ↓bb_pz, ↓bb_pr, ↓bb_pa, ↓bb_pb, ↓bb_pl, ↓bb_po, ↓bb_cl, ↓bb_some, ↓bb_RI, ↓bb_RJ, mm_hI, mm_hJ, mm_hR, mm_nI, mm_nJ, mm_nR, mm_sI, mm_sJ, mm_sR, mm_RI, mm_RJ, mm_IJ, mm_IR, mm_JI, mm_JR, mm_II, mm_JJ, mm_RR, hs.1, ↓bS p1, p3.1, g6, g0, hr.1, ↓bS ho, nI_add, l1, ↓bS hs.2.2.2.2.2.2.2.2.2.1, hs.2.2.2.2.2.2.2.2.2.2.1, l2, z, c]
    · rw [if_neg (fun w => q2 (held_agr.1 w))] at ho
      have e : zw1 row T fr (pcL pcs k) = 0 := by unfold zw1; rw [if_neg]; exact fun w => q2 w.2
      rw [e]
      simp (disch := omega) [f_Pieces_waysBehind, -Prod.exists, -Prod.forall, ↓bb_gf, ↓bb_gr, ↓bb_len, ↓bb_ga, ↓bb_gl, ↓bb_go, ↓bb_pf, ↓bb_pz, ↓bb_pr, ↓bb_pa, ↓bb_pb, ↓bb_pl, ↓bb_po, ↓bb_cl, ↓bb_some, ↓bb_RI, ↓bb_RJ, mm_hI, mm_hJ, mm_hR, mm_nI, mm_nJ, mm_nR, mm_sI, mm_sJ, mm_sR, mm_RI, mm_RJ, mm_IJ, mm_IR, mm_JI, mm_JR, mm_II, mm_JJ, mm_RR, hs.1, ↓bS p1, p3.1, g6, g0, hr.1, ↓bS ho]; rfl
def wWy (G : Nat) : Nat → Nat → Prop := fun b _ => b = G + 5
theorem pcs_wy {S' : zM} (hs : sPcs S G) (hf : zfr (wWy G) S S') : sPcs S' G := by
  obtain ⟨s1, s2, s3, s4, s5, s6, s7, s8, s9, s10, s11, s12⟩ := hs
  have e := fr_R hf
  have e2 := fr_h hf
  unfold sPcs
  rw [e, e2]
  exact ⟨s1, s2, s3, s4, s5, s6, s7, s8, s9, s10, s11, fun l hl => ⟨(s12 l hl).1, row_fr (s12 l hl).2 hf (fun j => by unfold wWy; omega) (fun j => by unfold wWy; omega)⟩⟩
theorem cPcs_wy {S' : zM} (hc : cPcs S G pcs) (hf : zfr (wWy G) S S') : cPcs S' G pcs := by
  obtain ⟨c1, c2, c3⟩ := hc
  refine ⟨by rw [fr_I hf (by unfold wWy; omega)]; exact c1, c2, fun k hk => ?_⟩
  obtain ⟨q1, q2, q3, a, n, q4, q5, q6⟩ := c3 k hk
  exact ⟨by rw [fr_I hf (by unfold wWy; omega)]; exact q1, q2, q3, a, n, by rw [fr_R hf]; exact q4, q5, row_fr q6 hf (fun j => by unfold wWy; omega) (fun j => by unfold wWy; omega)⟩
end
theorem take_sum (f : Nat × List Nat → Nat) {pcs : List (Nat × List Nat)} {k : Nat} (h : k < pcs.length) : ((pcs.take (k + 1)).map f).sum = ((pcs.take k).map f).sum + f (pcN pcs k, pcL pcs k) := by
  have : (pcN pcs k, pcL pcs k) = pcs[k] := by simp [pcN, pcL, h]
  rw [this, List.take_succ_eq_append_getElem h, List.map_append, List.sum_append]; simp
section
variable {S0 : zM} {G r n : Nat} {pcs : List (Nat × List Nat)} {row : List Nat}
theorem cr_44 (hs0 : sPcs S0 G) (hc0 : cPcs S0 G pcs) (hr0 : pRow S0 r n row) (hrG : r + 2 ≤ G ∨ G + 6 ≤ r) (h8 : row.length ≤ 8) {T : Nat → Nat} {fr : Nat} (hfr : fr < row.length) (hT0 : ∀ j, fr < j → j ≤ row.length → zI S0 (G + 5) j = nI (T j)) {K : Nat → Nat → Int32 → zM → Option (Int32 × zM)} (Q : Option (Int32 × zM) → Prop) (HK : ∀ S', zfr (fun b j => b = G + 5 ∧ j = fr) S0 S' → zI S' (G + 5) fr = nI (zwS row T fr pcs) → Q (K G r (nI fr) S')) : ∀ d F (S : zM) k, d + k = pcs.length → d < F → zfr (fun b j => b = G + 5 ∧ j = fr) S0 S → zI S (G + 5) fr = nI (zwS row T fr (pcs.take k)) → Q (L_Pieces_countReadings_44 K F G r (nI fr) (nI k) S) := by
  intro d
  induction d with
  | zero =>
    intro F S k hd hF hf ha
    cases F with
    | zero => omega
    | succ F =>
      have el : k = pcs.length := by omega
      subst el
      have fw : zfr (wWy G) S0 S := fr_mono hf (fun b j h => h.1)
      have hs := pcs_wy hs0 fw
      have hc := cPcs_wy hc0 fw
      have hx : ¬ nI pcs.length < nI pcs.length := by have := hc.2.1; rw [nI_ltI (by omega) (by omega)]; omega
      rw [List.take_length] at ha
      have : L_Pieces_countReadings_44 K (F + 1) G r (nI fr) (nI pcs.length) S = K G r (nI fr) S := by
        simp [L_Pieces_countReadings_44, -Prod.exists, -Prod.forall, ↓bb_gf, ↓bb_gr, ↓bb_len, ↓bb_ga, ↓bb_gl, ↓bb_go, ↓bb_pf, ↓bb_pz, ↓bb_pr, ↓bb_pa, ↓bb_pb, ↓bb_pl, ↓bb_po, ↓bb_cl, ↓bb_some, ↓bb_RI, ↓bb_RJ, mm_hI, mm_hJ, mm_hR, mm_nI, mm_nJ, mm_nR, mm_sI, mm_sJ, mm_sR, mm_RI, mm_RJ, mm_IJ, mm_IR, mm_JI, mm_JR, mm_II, mm_JJ, mm_RR, hs.1, hc.1, hx]
      rw [this]
      exact HK S hf ha
  | succ d ih =>
    intro F S k hd hF hf ha
    cases F with
    | zero => omega
    | succ F =>
      have fw : zfr (wWy G) S0 S := fr_mono hf (fun b j h => h.1)
      have hs := pcs_wy hs0 fw
      have hc := cPcs_wy hc0 fw
      have hc16 := hc.2.1
      have hr := row_fr hr0 fw (fun j => by unfold wWy; omega) (fun j => by unfold wWy; omega)
      have hk : k < pcs.length := by omega
      have hx : nI k < nI pcs.length := by rw [nI_ltI (by omega) (by omega)]; omega
      have e1 : nI k + 1 = nI (k + 1) := nI_add k 1
      have hT : ∀ j, fr < j → j ≤ row.length → zI S (G + 5) j = nI (T j) := fun j a b => by rw [fr_I hf (by omega)]; exact hT0 j a b
      have wy := ways_ok hs hc hr h8 hfr hk hT
      have z : zinb (nI fr) 9 = true := (nn_in (by omega)).2 (by omega)
      have c : (nI fr).toNatClampNeg = fr := nI_clamp (by omega)
      have st : L_Pieces_countReadings_44 K (F + 1) G r (nI fr) (nI k) S = L_Pieces_countReadings_44 K F G r (nI fr) (nI (k + 1)) (zwI S (G + 5) fr (nI (zwS row T fr (pcs.take (k + 1))))) := by
        have e : zwS row T fr (pcs.take (k + 1)) = zwS row T fr (pcs.take k) + zw1 row T fr (pcL pcs k) := take_sum _ hk
        rw [e, L_Pieces_countReadings_44]
        simp (disch := omega) [-Prod.exists, -Prod.forall, ↓bb_gf, ↓bb_gr, ↓bb_len, ↓bb_ga, ↓bb_gl, ↓bb_go, ↓bb_pf, ↓bb_pz, ↓bb_pr, ↓bb_pa, ↓bb_pb, ↓bb_pl, ↓bb_po, ↓bb_cl, ↓bb_some, ↓bb_RI, ↓bb_RJ, mm_hI, mm_hJ, mm_hR, mm_nI, mm_nJ, mm_nR, mm_sI, mm_sJ, mm_sR, mm_RI, mm_RJ, mm_IJ, mm_IR, mm_JI, mm_JR, mm_II, mm_JJ, mm_RR, hs.1, hc.1, hx, ↓bS hs.2.2.2.2.2.2.2.2.2.1, hs.2.2.2.2.2.2.2.2.2.2.1, z, c, ↓bS wy, ha, nI_add, e1]
      rw [st]
      exact ih F _ (k + 1) (by omega) (by omega) (fr_trans hf (fr_wI _ _ ⟨rfl, rfl⟩)) (by simp [-Prod.exists, -Prod.forall, zgf, zgr, zpf, zpz, zpr, zga, zgl, zgo, zpa, zpb, zpl, zpo, mm_len, zcl, Option.bind_some, Option.bind_none, mm_hI, mm_hJ, mm_hR, mm_nI, mm_nJ, mm_nR, mm_sI, mm_sJ, mm_sR, mm_RI, mm_RJ, mm_IJ, mm_IR, mm_JI, mm_JR, mm_II, mm_JJ, mm_RR])
theorem cr_31 (hs0 : sPcs S0 G) (hc0 : cPcs S0 G pcs) (hr0 : pRow S0 r n row) (hrG : r + 2 ≤ G ∨ G + 6 ≤ r) (h8 : row.length ≤ 8) : ∀ e F (S : zM) d, d + e = row.length → e < F → zfr (wWy G) S0 S → (∀ j, e ≤ j → j ≤ row.length → zI S (G + 5) j = nI (zwt pcs row d j)) → ∃ S', L_Pieces_countReadings_31 F G r (nI e - 1) S = some (nI (zwy pcs row 0), S') ∧ zfr (wWy G) S0 S' ∧ ∀ j, j ≤ row.length → zI S' (G + 5) j = nI (zwy pcs row j) := by
  intro e
  induction e with
  | zero =>
    intro F S d hd hF hf ha
    cases F with
    | zero => omega
    | succ F =>
      have ed : d = row.length := by omega
      subst ed
      have hs := pcs_wy hs0 hf
      refine ⟨S, ?_, hf, fun j hj => ha j (by omega) hj⟩
      have l : nI 0 - 1 < 0 := by decide
      have z : zinb (0 : Int32) 9 = true := by decide
      have c : (0 : Int32).toNatClampNeg = 0 := by decide
      have v := ha 0 (by omega) (by omega)
      unfold zwy
      rw [← v, L_Pieces_countReadings_31]
      simp (disch := omega) [-Prod.exists, -Prod.forall, ↓bb_gf, ↓bb_gr, ↓bb_len, ↓bb_ga, ↓bb_gl, ↓bb_go, ↓bb_pf, ↓bb_pz, ↓bb_pr, ↓bb_pa, ↓bb_pb, ↓bb_pl, ↓bb_po, ↓bb_cl, ↓bb_some, ↓bb_RI, ↓bb_RJ, mm_hI, mm_hJ, mm_hR, mm_nI, mm_nJ, mm_nR, mm_sI, mm_sJ, mm_sR, mm_RI, mm_RJ, mm_IJ, mm_IR, mm_JI, mm_JR, mm_II, mm_JJ, mm_RR, hs.1, l, ↓bS hs.2.2.2.2.2.2.2.2.2.1, hs.2.2.2.2.2.2.2.2.2.2.1, z, c]
  | succ e ih =>
    intro F S d hd hF hf ha
    cases F with
    | zero => omega
    | succ F =>
      have hs := pcs_wy hs0 hf
      have hc := cPcs_wy hc0 hf
      have hr := row_fr hr0 hf (fun j => by unfold wWy; omega) (fun j => by unfold wWy; omega)
      have ee : nI (e + 1) - 1 = nI e := by
        have := pk_sub (a := e + 1) (b := 1) (by omega)
        rw [Nat.add_sub_cancel] at this
        exact this
      rw [ee]
      have l : ¬ nI e < 0 := nI_pos (by omega)
      have z : zinb (nI e) 9 = true := (nn_in (by omega)).2 (by omega)
      have c : (nI e).toNatClampNeg = e := nI_clamp (by omega)
      have st : L_Pieces_countReadings_31 (F + 1) G r (nI e) S = L_Pieces_countReadings_44 (F_Pieces_countReadings_74 (L_Pieces_countReadings_31 F)) zF G r (nI e) (nI 0) (zwI S (G + 5) e 0) := by
        rw [L_Pieces_countReadings_31]
        simp (disch := omega) [-Prod.exists, -Prod.forall, ↓bb_gf, ↓bb_gr, ↓bb_len, ↓bb_ga, ↓bb_gl, ↓bb_go, ↓bb_pf, ↓bb_pz, ↓bb_pr, ↓bb_pa, ↓bb_pb, ↓bb_pl, ↓bb_po, ↓bb_cl, ↓bb_some, ↓bb_RI, ↓bb_RJ, mm_hI, mm_hJ, mm_hR, mm_nI, mm_nJ, mm_nR, mm_sI, mm_sJ, mm_sR, mm_RI, mm_RJ, mm_IJ, mm_IR, mm_JI, mm_JR, mm_II, mm_JJ, mm_RR, hs.1, l, ↓bS hs.2.2.2.2.2.2.2.2.2.1, hs.2.2.2.2.2.2.2.2.2.2.1, z, c]; rfl
      rw [st]
      have hf1 : zfr (wWy G) S (zwI S (G + 5) e 0) := fr_wI _ _ rfl
      refine cr_44 (S0 := zwI S (G + 5) e 0) (T := zwt pcs row d) (pcs_wy hs hf1) (cPcs_wy hc hf1) (row_fr hr hf1 (fun j => by unfold wWy; omega) (fun j => by unfold wWy; omega)) hrG h8 (fr := e) (by omega) (fun j a b => ?_) (fun o => ∃ S', o = some (nI (zwy pcs row 0), S') ∧ zfr (wWy G) S0 S' ∧ ∀ j, j ≤ row.length → zI S' (G + 5) j = nI (zwy pcs row j)) ?_ pcs.length zF _ 0 (by omega) (by rw [zF_eq]; have := hc.2.1; omega) (fr_refl _ _) (by simp [zwS, -Prod.exists, -Prod.forall, zgf, zgr, zpf, zpz, zpr, zga, zgl, zgo, zpa, zpb, zpl, zpo, mm_len, zcl, Option.bind_some, Option.bind_none, mm_hI, mm_hJ, mm_hR, mm_nI, mm_nJ, mm_nR, mm_sI, mm_sJ, mm_sR, mm_RI, mm_RJ, mm_IJ, mm_IR, mm_JI, mm_JR, mm_II, mm_JJ, mm_RR]; rfl)
      · have : ¬ j = e := by omega
        rw [← ha j (by omega) b]; simp [-Prod.exists, -Prod.forall, zgf, zgr, zpf, zpz, zpr, zga, zgl, zgo, zpa, zpb, zpl, zpo, mm_len, zcl, Option.bind_some, Option.bind_none, mm_hI, mm_hJ, mm_hR, mm_nI, mm_nJ, mm_nR, mm_sI, mm_sJ, mm_sR, mm_RI, mm_RJ, mm_IJ, mm_IR, mm_JI, mm_JR, mm_II, mm_JJ, mm_RR, this]
      · intro S2 f2 v2
        obtain ⟨S', r1, r2⟩ := ih F S2 (d + 1) (by omega) (by omega) (fr_trans hf (fr_trans hf1 (fr_mono f2 (fun b j h => h.1)))) (fun j a b => by
          rw [zwt, zup, show row.length - 1 - d = e by omega]
          by_cases q : j = e
          · subst q; rw [v2, if_pos rfl]
          · rw [if_neg q, fr_I f2 (by omega), ← ha j (by omega) b]; simp [-Prod.exists, -Prod.forall, zgf, zgr, zpf, zpz, zpr, zga, zgl, zgo, zpa, zpb, zpl, zpo, mm_len, zcl, Option.bind_some, Option.bind_none, mm_hI, mm_hJ, mm_hR, mm_nI, mm_nJ, mm_nR, mm_sI, mm_sJ, mm_sR, mm_RI, mm_RJ, mm_IJ, mm_IR, mm_JI, mm_JR, mm_II, mm_JJ, mm_RR, q])
        refine ⟨S', ?_, r2⟩
        rw [← r1, F_Pieces_countReadings_74]
        have : nI e + (-1) = nI e - 1 := by rw [Int32.sub_eq_add_neg]
        rw [this]
theorem count_ok (hs : sPcs S0 G) (hc : cPcs S0 G pcs) (hr : pRow S0 r n row) (hrG : r + 2 ≤ G ∨ G + 6 ≤ r) (h8 : row.length ≤ 8) : ∃ S', f_Pieces_countReadings G r S0 = some (nI (zwy pcs row 0), S') ∧ zfr (wWy G) S0 S' ∧ ∀ j, j ≤ row.length → zI S' (G + 5) j = nI (zwy pcs row j) := by
  have hf1 : zfr (wWy G) S0 (zwI S0 (G + 5) row.length 1) := fr_wI _ _ rfl
  obtain ⟨S', r1, r2⟩ := cr_31 hs hc hr hrG h8 row.length zF (zwI S0 (G + 5) row.length 1) 0 (by omega) (by rw [zF_eq]; omega) hf1 (fun j a b => by
    have : j = row.length := by omega
    subst this; simp [-Prod.exists, -Prod.forall, zgf, zgr, zpf, zpz, zpr, zga, zgl, zgo, zpa, zpb, zpl, zpo, mm_len, zcl, Option.bind_some, Option.bind_none, mm_hI, mm_hJ, mm_hR, mm_nI, mm_nJ, mm_nR, mm_sI, mm_sJ, mm_sR, mm_RI, mm_RJ, mm_IJ, mm_IR, mm_JI, mm_JR, mm_II, mm_JJ, mm_RR, zwt]; rfl)
  refine ⟨S', ?_, r2⟩
  rw [← r1]
  have g : zI S0 r 1 = nI row.length := hr.2.2.2.2.2.1
  have l : nI row.length < nI 9 := (nI_ltI (by omega) (by omega)).2 (by omega)
  have z : zinb (nI row.length) 9 = true := (nn_in (by omega)).2 (by omega)
  have c : (nI row.length).toNatClampNeg = row.length := nI_clamp (by omega)
  have q : ¬ r = G + 5 := by omega
  simp (disch := omega) [f_Pieces_countReadings, -Prod.exists, -Prod.forall, ↓bb_gf, ↓bb_gr, ↓bb_len, ↓bb_ga, ↓bb_gl, ↓bb_go, ↓bb_pf, ↓bb_pz, ↓bb_pr, ↓bb_pa, ↓bb_pb, ↓bb_pl, ↓bb_po, ↓bb_cl, ↓bb_some, ↓bb_RI, ↓bb_RJ, mm_hI, mm_hJ, mm_hR, mm_nI, mm_nJ, mm_nR, mm_sI, mm_sJ, mm_sR, mm_RI, mm_RJ, mm_IJ, mm_IR, mm_JI, mm_JR, mm_II, mm_JJ, mm_RR, hr.1, g, ↓bS hs.2.2.2.2.2.2.2.2.2.1, hs.2.2.2.2.2.2.2.2.2.2.1, l, z, c, q, hs.1]
end
