/-! the class: a reading -/
def zoI (o : Option Nat) (d : Int32) : Int32 := match o with
  | none => d
  | some i => nI i
section
variable {S : zM} {G r n : Nat} {row : List Nat} {rs : List zRu} {mask : Nat}
theorem fpa_2 (hs : sPcs S G) (hc : cPcs S G (zpcs rs mask)) (h8r : rs.length ≤ 8) (hr : pRow S r n row) (h8 : row.length ≤ 8) {fr k0 : Nat} (hfr : fr < row.length) (hT : ∀ j, j ≤ row.length → zI S (G + 5) j = nI (zwy (zpcs rs mask) row j)) (hk0 : k0 < (zpcs rs mask).length) (h1 : zw1 row (zwy (zpcs rs mask) row) fr (pcL (zpcs rs mask) k0) ≠ 0) (h2 : ∀ j, j < k0 → zw1 row (zwy (zpcs rs mask) row) fr (pcL (zpcs rs mask) j) = 0) : ∀ d F k, d + k = k0 → d < F → L_Pieces_firstPieceAt_2 F G r (nI fr) (nI k) S = some (nI k0, S) := by
  have hc16 := hc.2.1
  have hwl : ∀ t, zw1 row (zwy (zpcs rs mask) row) fr t < 2 ^ 31 := by
    intro t
    have := w1_le (row := row) (T := zwy (zpcs rs mask) row) (fr := fr) (B := 2 ^ 31 - 1) (t := t) (fun j a b => by have := wy_lt (row := row) (mask := mask) h8r h8 b; omega)
    omega
  intro d
  induction d with
  | zero =>
    intro F k hd hF
    cases F with
    | zero => omega
    | succ F =>
      have ek : k = k0 := by omega
      subst ek
      have wy := ways_ok hs hc hr h8 hfr hk0 (fun j a b => hT j b)
      have hx : nI k < nI (zpcs rs mask).length := by rw [nI_ltI (by omega) (by omega)]; omega
      have l : ¬ nI (zw1 row (zwy (zpcs rs mask) row) fr (pcL (zpcs rs mask) k)) ≤ 0 := by
        have := hwl (pcL (zpcs rs mask) k)
        intro w
        have := (nI_leI (b := 0) (by omega) (by omega)).1 w
        omega
      rw [L_Pieces_firstPieceAt_2]
      simp (disch := omega) [-Prod.exists, -Prod.forall, ↓bb_gf, ↓bb_gr, ↓bb_len, ↓bb_ga, ↓bb_gl, ↓bb_go, ↓bb_pf, ↓bb_pz, ↓bb_pr, ↓bb_pa, ↓bb_pb, ↓bb_pl, ↓bb_po, ↓bb_cl, ↓bb_some, ↓bb_RI, ↓bb_RJ, mm_hI, mm_hJ, mm_hR, mm_nI, mm_nJ, mm_nR, mm_sI, mm_sJ, mm_sR, mm_RI, mm_RJ, mm_IJ, mm_IR, mm_JI, mm_JR, mm_II, mm_JJ, mm_RR, hs.1, hc.1, hx, ↓bS wy, l]
  | succ d ih =>
    intro F k hd hF
    cases F with
    | zero => omega
    | succ F =>
      have wy := ways_ok hs hc hr h8 hfr (k := k) (by omega) (fun j a b => hT j b)
      rw [h2 k (by omega)] at wy
      have hx : nI k < nI (zpcs rs mask).length := by rw [nI_ltI (by omega) (by omega)]; omega
      have l : nI 0 ≤ (0 : Int32) := by decide
      have e1 : nI k + 1 = nI (k + 1) := nI_add k 1
      rw [← ih F (k + 1) (by omega) (by omega), L_Pieces_firstPieceAt_2]
      simp (disch := omega) [-Prod.exists, -Prod.forall, ↓bb_gf, ↓bb_gr, ↓bb_len, ↓bb_ga, ↓bb_gl, ↓bb_go, ↓bb_pf, ↓bb_pz, ↓bb_pr, ↓bb_pa, ↓bb_pb, ↓bb_pl, ↓bb_po, ↓bb_cl, ↓bb_some, ↓bb_RI, ↓bb_RJ, mm_hI, mm_hJ, mm_hR, mm_nI, mm_nJ, mm_nR, mm_sI, mm_sJ, mm_sR, mm_RI, mm_RJ, mm_IJ, mm_IR, mm_JI, mm_JR, mm_II, mm_JJ, mm_RR, hs.1, hc.1, hx, ↓bS wy, l, e1]
theorem fra_19 (hs : sPcs S G) (hc : cPcs S G (zpcs rs mask)) (h8r : rs.length ≤ 8) (hr : pRow S r n row) (h8 : row.length ≤ 8) (hT : ∀ j, j ≤ row.length → zI S (G + 5) j = nI (zwy (zpcs rs mask) row j)) : ∀ f F fr m i, row.length < f + fr → f < F → i + m < 2 ^ 31 → m ≤ 10 → fr ≤ row.length → f + m ≤ 10 → zwy (zpcs rs mask) row fr ≠ 0 → L_Pieces_firstReadingAt_19 F G r (nI (i + m)) (nI fr) (nI m) S = some (zoI (zrdN (zpcs rs mask) row f fr i) (-1), S) := by
  have g : zI S r 1 = nI row.length := hr.2.2.2.2.2.1
  intro f
  induction f with
  | zero => intro F fr m i h1 h2 h3 h4 h5 h6 h7; omega
  | succ f ih =>
    intro F fr m i h1 h2 h3 h4 h5 h6 h7
    cases F with
    | zero => omega
    | succ F =>
      have l1 : nI m ≤ nI (i + m) := (nI_leI (by omega) (by omega)).2 (by omega)
      by_cases q : fr < row.length
      · obtain ⟨k, k1, k2, k3, k4⟩ := fp_some q h7
        have l2 : nI fr < nI row.length := (nI_ltI (by omega) (by omega)).2 q
        have fp : f_Pieces_firstPieceAt G r (nI fr) S = some (nI k, S) := fpa_2 hs hc h8r hr h8 q hT k2 k3 k4 k zF 0 (by omega) (by rw [zF_eq]; have := hc.2.1; omega)
        obtain ⟨a, m2, p1, p2, p3⟩ := pcs_let hs hc k2
        have pw := pcs_what hs hc k2
        have g6 : zI S a 1 = nI (pcL (zpcs rs mask) k).length := p3.2.2.2.2.2.1
        obtain ⟨w1, w2, w3, w4⟩ := w1_ne k3
        have e1 : nI m + 1 = nI (m + 1) := nI_add m 1
        rw [zrdN, if_pos q, k1]
        by_cases q2 : i = 0
        · subst q2
          have e : nI m = nI (0 + m) := by rw [Nat.zero_add]
          rw [Nat.zero_add] at l1 ⊢
          simp only [if_true, zoI]
          rw [L_Pieces_firstReadingAt_19]
          simp (disch := omega) [-Prod.exists, -Prod.forall, ↓bb_gf, ↓bb_gr, ↓bb_len, ↓bb_ga, ↓bb_gl, ↓bb_go, ↓bb_pf, ↓bb_pz, ↓bb_pr, ↓bb_pa, ↓bb_pb, ↓bb_pl, ↓bb_po, ↓bb_cl, ↓bb_some, ↓bb_RI, ↓bb_RJ, mm_hI, mm_hJ, mm_hR, mm_nI, mm_nJ, mm_nR, mm_sI, mm_sJ, mm_sR, mm_RI, mm_RJ, mm_IJ, mm_IR, mm_JI, mm_JR, mm_II, mm_JJ, mm_RR, l1, hr.1, g, l2, hs.1, ↓bS fp, ↓bS p1, ↓bS pw]
        · have e : ¬ nI m = nI (i + m) := fun w => by have := (nI_eq (by omega) (by omega)).1 w; omega
          simp only [q2, if_false]
          rw [← ih F (fr + (pcL (zpcs rs mask) k).length) (m + 1) (i - 1) (by omega) (by omega) (by omega) (by omega) (by omega) (by omega) w4, L_Pieces_firstReadingAt_19]
          have e3 : i - 1 + (m + 1) = i + m := by omega
          rw [e3]
          simp (disch := omega) [-Prod.exists, -Prod.forall, ↓bb_gf, ↓bb_gr, ↓bb_len, ↓bb_ga, ↓bb_gl, ↓bb_go, ↓bb_pf, ↓bb_pz, ↓bb_pr, ↓bb_pa, ↓bb_pb, ↓bb_pl, ↓bb_po, ↓bb_cl, ↓bb_some, ↓bb_RI, ↓bb_RJ, mm_hI, mm_hJ, mm_hR, mm_nI, mm_nJ, mm_nR, mm_sI, mm_sJ, mm_sR, mm_RI, mm_RJ, mm_IJ, mm_IR, mm_JI, mm_JR, mm_II, mm_JJ, mm_RR, l1, hr.1, g, l2, hs.1, ↓bS fp, ↓bS p1, e, p3.1, g6, nI_add, e1]
      · have l2 : ¬ nI fr < nI row.length := by rw [nI_ltI (by omega) (by omega)]; exact q
        rw [zrdN, if_neg q, L_Pieces_firstReadingAt_19]
        simp (disch := omega) [-Prod.exists, -Prod.forall, ↓bb_gf, ↓bb_gr, ↓bb_len, ↓bb_ga, ↓bb_gl, ↓bb_go, ↓bb_pf, ↓bb_pz, ↓bb_pr, ↓bb_pa, ↓bb_pb, ↓bb_pl, ↓bb_po, ↓bb_cl, ↓bb_some, ↓bb_RI, ↓bb_RJ, mm_hI, mm_hJ, mm_hR, mm_nI, mm_nJ, mm_nR, mm_sI, mm_sJ, mm_sR, mm_RI, mm_RJ, mm_IJ, mm_IR, mm_JI, mm_JR, mm_II, mm_JJ, mm_RR, l1, hr.1, g, l2, zoI]
/-- what the i-th piece of the first reading is of -/
def zrdg (pcs : List (Nat × List Nat)) (row : List Nat) (i : Int32) : Option Nat := if i < 0 ∨ zwy pcs row 0 = 0 then none else zrdN pcs row (row.length + 1) 0 i.toNatClampNeg
theorem rdN_m {pcs : List (Nat × List Nat)} : ∀ f g fr i, row.length < f + fr → f ≤ g → fr ≤ row.length → zwy pcs row fr ≠ 0 → zrdN pcs row g fr i = zrdN pcs row f fr i := by
  intro f
  induction f with
  | zero => intro g fr i h1 h2 h3 h4; omega
  | succ f ih =>
    intro g fr i h1 h2 h3 h4
    cases g with
    | zero => omega
    | succ g =>
      rw [zrdN, zrdN]
      by_cases q : fr < row.length
      · obtain ⟨k, k1, k2, k3, k4⟩ := fp_some q h4
        obtain ⟨w1, w2, w3, w4⟩ := w1_ne k3
        rw [if_pos q, if_pos q, k1]
        simp only
        rw [ih g (fr + (pcL pcs k).length) (i - 1) (by omega) (by omega) w2 w4]
      · rw [if_neg q, if_neg q]
theorem rdN_big {pcs : List (Nat × List Nat)} : ∀ f fr i, row.length ≤ i + fr → zrdN pcs row f fr i = none := by
  intro f
  induction f with
  | zero => intro fr i h1; rfl
  | succ f ih =>
    intro fr i h1
    rw [zrdN]
    by_cases q : fr < row.length
    · rw [if_pos q]
      cases e : zfp pcs row fr with
      | none => rfl
      | some k =>
        simp only
        have h2 := List.find?_some e
        have h3 : zw1 row (zwy pcs row) fr (pcL pcs k) ≠ 0 := by simpa using h2
        obtain ⟨w1, w2, w3, w4⟩ := w1_ne h3
        rw [if_neg (by omega)]
        exact ih _ _ (by omega)
    · rw [if_neg q]
theorem c_reading (hs : sPcs S G) (hc : cPcs S G (zpcs rs mask)) (h8r : rs.length ≤ 8) (hr : pRow S r n row) (hrG : r + 2 ≤ G ∨ G + 6 ≤ r) (h8 : row.length ≤ 8) (i : Int32) : ∃ S', f_Pieces_firstReadingAt G r i S = some (zoI (zrdg (zpcs rs mask) row i) (-1), S') ∧ zfr (wWy G) S S' := by
  by_cases q : i < 0
  · refine ⟨S, ?_, fr_refl _ _⟩
    unfold zrdg
    rw [if_pos (Or.inl q)]
    simp [f_Pieces_firstReadingAt, q, zoI]
  · obtain ⟨S', r1, r2, r3⟩ := count_ok hs hc hr hrG h8
    have hs' := pcs_wy hs r2
    have hc' := cPcs_wy hc r2
    have hr' := row_fr hr r2 (fun j => by unfold wWy; omega) (fun j => by unfold wWy; omega)
    have wl := wy_lt (row := row) (mask := mask) (j := 0) h8r h8 (by omega)
    refine ⟨S', ?_, r2⟩
    by_cases q2 : zwy (zpcs rs mask) row 0 = 0
    · unfold zrdg
      rw [if_pos (Or.inr q2)]
      rw [q2] at r1
      have : nI 0 = (0 : Int32) := rfl
      simp [f_Pieces_firstReadingAt, -Prod.exists, -Prod.forall, ↓bb_gf, ↓bb_gr, ↓bb_len, ↓bb_ga, ↓bb_gl, ↓bb_go, ↓bb_pf, ↓bb_pz, ↓bb_pr, ↓bb_pa, ↓bb_pb, ↓bb_pl, ↓bb_po, ↓bb_cl, ↓bb_some, ↓bb_RI, ↓bb_RJ, mm_hI, mm_hJ, mm_hR, mm_nI, mm_nJ, mm_nR, mm_sI, mm_sJ, mm_sR, mm_RI, mm_RJ, mm_IJ, mm_IR, mm_JI, mm_JR, mm_II, mm_JJ, mm_RR, q, hs.1, ↓bS r1, this, zoI]
    · unfold zrdg
      rw [if_neg (by simp [q, q2])]
      obtain ⟨j, hj, rfl⟩ := nI_of q
      rw [nI_clamp hj]
      have e0 : ¬ nI (zwy (zpcs rs mask) row 0) = 0 := fun w => q2 ((nI_eq (b := 0) (by omega) (by omega)).1 w)
      have := fra_19 hs' hc' h8r hr' h8 r3 (row.length + 1) zF 0 0 j (by omega) (by rw [zF_eq]; omega) (by omega) (by omega) (by omega) (by omega) q2
      rw [← this]
      simp [f_Pieces_firstReadingAt, -Prod.exists, -Prod.forall, ↓bb_gf, ↓bb_gr, ↓bb_len, ↓bb_ga, ↓bb_gl, ↓bb_go, ↓bb_pf, ↓bb_pz, ↓bb_pr, ↓bb_pa, ↓bb_pb, ↓bb_pl, ↓bb_po, ↓bb_cl, ↓bb_some, ↓bb_RI, ↓bb_RJ, mm_hI, mm_hJ, mm_hR, mm_nI, mm_nJ, mm_nR, mm_sI, mm_sJ, mm_sR, mm_RI, mm_RJ, mm_IJ, mm_IR, mm_JI, mm_JR, mm_II, mm_JJ, mm_RR, q, hs.1, ↓bS r1, e0]; rfl
end
