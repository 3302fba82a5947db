/-! how the words come out -/
def zoc (L : Nat) (ps : List zPs) (asd : Nat → Nat) (i : Nat) : Nat × List Nat := ((zcar ps asd false (zword L i)).1, (zcar ps asd false (zword L i)).2.1)
def zalk (oc : Nat → Nat × List Nat) (i j : Nat) : Bool := decide ((oc i).1 = 0) && decide ((oc j).1 = 0) && decide ((oc i).2 = (oc j).2)
theorem alk_iff {oc : Nat → Nat × List Nat} {i j : Nat} : zalk oc i j = true ↔ (oc i).1 = 0 ∧ (oc j).1 = 0 ∧ (oc i).2 = (oc j).2 := by
  simp [zalk, and_assoc]
/-- the first earlier word that is alike -/
def ztwin (oc : Nat → Nat × List Nat) (i : Nat) : Option Nat := (List.range i).find? (fun j => zalk oc i j)
def wOc (oc : Nat → Nat × List Nat) (N : Nat) : Prop := ∀ i, i < N → ((oc i).1 = 0 ∨ (oc i).1 = 6 ∨ (oc i).1 = 7) ∧ l8 (oc i).2 ∧ (oc i).2.length ≤ 60
theorem car_w {ps : List zPs} (hw : wPs ps) {asd : Nat → Nat} {tn : Bool} {row : List Nat} (h1 : l8 row) (h2 : row.length ≤ 60) : l8 (zcar ps asd tn row).2.1 ∧ (zcar ps asd tn row).2.1.length ≤ 60 := al_w hw h1 h2 _ (Nat.le_refl _)
theorem oc_w {L : Nat} {ps : List zPs} {asd : Nat → Nat} (hL : 2 ≤ L ∧ L ≤ 4) (hw : wPs ps) : wOc (zoc L ps asd) (zcnt L 5) := by
  intro i hi
  obtain ⟨w1, w2, w3, w4, w5, w6⟩ := word_ok hL hi
  have := car_w hw (asd := asd) (tn := false) w6 (by omega)
  exact ⟨car_code _ _ _ _, this.1, this.2⟩
theorem twin_some {oc : Nat → Nat × List Nat} {i j : Nat} (h : ztwin oc i = some j) : j < i ∧ zalk oc i j = true ∧ ∀ k, k < j → zalk oc i k = false := by
  have h3 := (List.find?_range_eq_some).1 h
  refine ⟨List.mem_range.1 (List.mem_of_find?_eq_some h), by simpa using List.find?_some h, fun k hk => ?_⟩
  have := h3.2.2 k hk
  simpa using this
theorem twin_none {oc : Nat → Nat × List Nat} {i : Nat} (h : ztwin oc i = none) : ∀ j, j < i → zalk oc i j = false := by
  intro j hj
  have := (List.find?_eq_none.1 h) j (List.mem_range.2 hj)
  simpa using this
theorem twin_is {oc : Nat → Nat × List Nat} {i j : Nat} (h1 : j < i) (h2 : zalk oc i j = true) (h3 : ∀ k, k < j → zalk oc i k = false) : ztwin oc i = some j := by
  cases e : ztwin oc i with
  | none => have := twin_none e j h1; rw [h2] at this; cases this
  | some k =>
    obtain ⟨a, b, c⟩ := twin_some e
    rcases Nat.lt_trichotomy j k with q | q | q
    · have := c j q; rw [h2] at this; cases this
    · rw [q]
    · have := h3 k q; rw [b] at this; cases this
theorem twin_no {oc : Nat → Nat × List Nat} {i : Nat} (h : ∀ j, j < i → zalk oc i j = false) : ztwin oc i = none := by
  cases e : ztwin oc i with
  | none => rfl
  | some k =>
    obtain ⟨a, b, c⟩ := twin_some e
    have := h k a; rw [b] at this; cases this
def zdbl (oc : Nat → Nat × List Nat) (N : Nat) : Nat := fb_ct (fun i => (ztwin oc i).isSome) N
/-! the reference: all words laid out -/
def mWo (S : zM) (M N : Nat) (oc : Nat → Nat × List Nat) : Prop := ∀ i, i < N → zI S (M + 32) i = nI (oc i).1 ∧ ((oc i).1 = 0 → zI S (M + 33) i = nI (oc i).2.length ∧ ∀ p, p < 4 → zJ S (M + 34) (4 * i + p) = lN (zkey (oc i).2 p))
def wLW (M : Nat) : Nat → Nat → Prop := fun b j => (b = M ∧ (j = 41 ∨ j = 43 ∨ j = 61)) ∨ (M + 19 ≤ b ∧ b ≤ M + 24) ∨ (M + 32 ≤ b ∧ b ≤ M + 34)
theorem mWo_fr {W : Nat → Nat → Prop} {S S' : zM} {M N : Nat} {oc : Nat → Nat × List Nat} (h : mWo S M N oc) (hf : zfr W S S') (h2 : ∀ b j, M + 32 ≤ b → b ≤ M + 34 → ¬ W b j) : mWo S' M N oc := by
  intro i hi
  obtain ⟨a, b⟩ := h i hi
  exact ⟨by rw [fr_I hf (h2 _ _ (by omega) (by omega))]; exact a, fun q => ⟨by rw [fr_I hf (h2 _ _ (by omega) (by omega))]; exact (b q).1, fun p hp => by rw [fr_J hf (h2 _ _ (by omega) (by omega))]; exact (b q).2 p hp⟩⟩
section
variable {S S0 : zM} {M L : Nat} {sc : zSc} {asd : Nat → Nat}
theorem lw_47 {xs : List Nat} (hm0 : sMo S0 M) (hn0 : pNow S0 M xs) {i : Nat} (hi : i < 1365) {K : Nat → Int32 → zM → Option zM} (Q : Option zM → Prop) (HK : ∀ S', zfr (fun b j => b = M + 34 ∧ 4 * i ≤ j ∧ j < 4 * i + 4) S0 S' → (∀ p, p < 4 → zJ S' (M + 34) (4 * i + p) = lN (zkey xs p)) → Q (K M (nI i) S')) : ∀ d F (S : zM) p, d + p = 4 → d < F → zfr (fun b j => b = M + 34 ∧ 4 * i ≤ j ∧ j < 4 * i + 4) S0 S → (∀ q, q < p → zJ S (M + 34) (4 * i + q) = lN (zkey xs q)) → Q (L_Mo_laysWords_47 K F M (nI i) (nI p) S) := by
  intro d
  induction d with
  | zero =>
    intro F S p hd hF hf ha
    cases F with
    | zero => omega
    | succ F =>
      have ep : p = 4 := by omega
      subst ep
      have hx : ¬ nI 4 < (4 : Int32) := by decide
      have : L_Mo_laysWords_47 K (F + 1) M (nI i) (nI 4) S = K M (nI i) S := by simp [L_Mo_laysWords_47, hx]
      rw [this]
      exact HK S hf ha
  | succ d ih =>
    intro F S p hd hF hf ha
    cases F with
    | zero => omega
    | succ F =>
      have hm := mo_fr hm0 hf
      have hn := now_fr hn0 hf (by omega) (fun j => by omega)
      have hx : nI p < (4 : Int32) := (nI_ltI (b := 4) (by omega) (by omega)).2 (by omega)
      have e1 : nI p + 1 = nI (p + 1) := nI_add p 1
      have ko := m_keyOf hm hn (p := p) (by omega)
      have m4 : (4 : Int32) * nI i = nI (4 * i) := pk_mul 4 _
      have z : zinb (nI (4 * i + p)) 5460 = true := (nn_in (by omega)).2 (by omega)
      have c : (nI (4 * i + p)).toNatClampNeg = 4 * i + p := nI_clamp (by omega)
      have st : L_Mo_laysWords_47 K (F + 1) M (nI i) (nI p) S = L_Mo_laysWords_47 K F M (nI i) (nI (p + 1)) (zwJ S (M + 34) (4 * i + p) (lN (zkey xs p))) := by
        rw [L_Mo_laysWords_47]
        simp (disch := omega) [-Prod.exists, -Prod.forall, ↓bb_gf, ↓bb_gr, ↓bb_len, ↓bb_ga, ↓bb_gl, ↓bb_go, ↓bb_pf, ↓bb_pz, ↓bb_pr, ↓bb_pa, ↓bb_pb, ↓bb_pl, ↓bb_po, ↓bb_cl, ↓bb_some, ↓bb_RI, ↓bb_RJ, mm_hI, mm_hJ, mm_hR, mm_nI, mm_nJ, mm_nR, mm_sI, mm_sJ, mm_sR, mm_RI, mm_RJ, mm_IJ, mm_IR, mm_JI, mm_JR, mm_II, mm_JJ, mm_RR, hx, hm.1, ↓bS (mo_keys hm), mh_keys hm, ↓bS ko, m4, nI_add, z, c, e1]
      rw [st]
      refine ih F _ (p + 1) (by omega) (by omega) (fr_trans hf (fr_wJ _ _ ⟨rfl, by omega, by omega⟩)) (fun q hq => ?_)
      by_cases q2 : q = p
      · subst q2; simp [-Prod.exists, -Prod.forall, zgf, zgr, zpf, zpz, zpr, zga, zgl, zgo, zpa, zpb, zpl, zpo, mm_len, zcl, Option.bind_some, Option.bind_none, mm_hI, mm_hJ, mm_hR, mm_nI, mm_nJ, mm_nR, mm_sI, mm_sJ, mm_sR, mm_RI, mm_RJ, mm_IJ, mm_IR, mm_JI, mm_JR, mm_II, mm_JJ, mm_RR]
      · rw [← ha q (by omega)]; simp [-Prod.exists, -Prod.forall, zgf, zgr, zpf, zpz, zpr, zga, zgl, zgo, zpa, zpb, zpl, zpo, mm_len, zcl, Option.bind_some, Option.bind_none, mm_hI, mm_hJ, mm_hR, mm_nI, mm_nJ, mm_nR, mm_sI, mm_sJ, mm_sR, mm_RI, mm_RJ, mm_IJ, mm_IR, mm_JI, mm_JR, mm_II, mm_JJ, mm_RR, q2]
theorem lw_11 (hm0 : sMo S0 M) (hs0 : mSc S0 M sc asd) (hL : 2 ≤ sc.1 ∧ sc.1 ≤ 4) {N : Nat} (hN : N ≤ zcnt sc.1 5) (h61 : zI S0 M 61 = nI N) : ∀ d F (S : zM) i, d + i = N → d < F → zfr (wLW M) S0 S → zI S M 61 = nI N → mWo S M i (zoc sc.1 sc.2.2 asd) → ∃ S', L_Mo_laysWords_11 F M (nI i) S = some S' ∧ zfr (wLW M) S0 S' ∧ zI S' M 61 = nI N ∧ mWo S' M N (zoc sc.1 sc.2.2 asd) := by
  have c5 := (cnt_le hL (Nat.le_refl 5)).2
  intro d
  induction d with
  | zero =>
    intro F S i hd hF hf h61' ha
    cases F with
    | zero => omega
    | succ F =>
      have ei : i = N := by omega
      subst ei
      have hm := mo_fr hm0 hf
      have hx : ¬ nI i < nI i := by rw [nI_ltI (by omega) (by omega)]; omega
      refine ⟨S, ?_, hf, h61', ha⟩
      simp [L_Mo_laysWords_11, -Prod.exists, -Prod.forall, ↓bb_gf, ↓bb_gr, ↓bb_len, ↓bb_ga, ↓bb_gl, ↓bb_go, ↓bb_pf, ↓bb_pz, ↓bb_pr, ↓bb_pa, ↓bb_pb, ↓bb_pl, ↓bb_po, ↓bb_cl, ↓bb_some, ↓bb_RI, ↓bb_RJ, mm_hI, mm_hJ, mm_hR, mm_nI, mm_nJ, mm_nR, mm_sI, mm_sJ, mm_sR, mm_RI, mm_RJ, mm_IJ, mm_IR, mm_JI, mm_JR, mm_II, mm_JJ, mm_RR, hm.1, h61', hx]
  | succ d ih =>
    intro F S i hd hF hf h61' ha
    cases F with
    | zero => omega
    | succ F =>
      have hm := mo_fr hm0 hf
      have hs := mSc_fr hs0 hf (fun j a b => by unfold wLW; omega) (fun b j a => by unfold wLW; omega)
      have hx : nI i < nI N := by rw [nI_ltI (by omega) (by omega)]; omega
      have e1 : nI i + 1 = nI (i + 1) := nI_add i 1
      obtain ⟨S1, a1, a2, a3⟩ := m_index hm hs.1 hL (i := i) (by omega)
      have hm1 := mo_fr hm a2
      have hs1 := mSc_fr hs a2 (fun j a b => by omega) (fun b j a => by omega)
      obtain ⟨S2, row', b1, b2, b3, b4⟩ := m_all_ false hm1 hs1 a3
      have hm2 := mo_fr hm1 b2
      simp only [Bool.false_eq_true, if_false] at b1
      have z : zinb (nI i) 1365 = true := (nn_in (by omega)).2 (by omega)
      have c : (nI i).toNatClampNeg = i := nI_clamp (by omega)
      have h41 := b3.1
      have g61 : zI S2 M 61 = nI N := by rw [fr_I b2 (by unfold wGA; omega), fr_I a2 (by omega)]; exact h61'
      have st : L_Mo_laysWords_11 (F + 1) M (nI i) S = L_Mo_laysWords_47 (F_Mo_laysWords_73 (L_Mo_laysWords_11 F)) zF M (nI i) (nI 0) (zwI (zwI S2 (M + 32) i (nI (zcar sc.2.2 asd false (zword sc.1 i)).1)) (M + 33) i (nI row'.length)) := by
        rw [L_Mo_laysWords_11]
        simp (disch := omega) [-Prod.exists, -Prod.forall, ↓bb_gf, ↓bb_gr, ↓bb_len, ↓bb_ga, ↓bb_gl, ↓bb_go, ↓bb_pf, ↓bb_pz, ↓bb_pr, ↓bb_pa, ↓bb_pb, ↓bb_pl, ↓bb_po, ↓bb_cl, ↓bb_some, ↓bb_RI, ↓bb_RJ, mm_hI, mm_hJ, mm_hR, mm_nI, mm_nJ, mm_nR, mm_sI, mm_sJ, mm_sR, mm_RI, mm_RJ, mm_IJ, mm_IR, mm_JI, mm_JR, mm_II, mm_JJ, mm_RR, hm.1, h61', hx, ↓bS a1, hm1.1, ↓bS (mo_how hm1), ↓bS b1, mh_how hm2, mh_cameLong hm2, hm2.1, mo_cameLong hm2, h41, z, c]; rfl
      rw [st]
      have f2 : zfr (wLW M) S (zwI (zwI S2 (M + 32) i (nI (zcar sc.2.2 asd false (zword sc.1 i)).1)) (M + 33) i (nI row'.length)) := by
        refine fr_trans (fr_mono a2 (fun b j h => ?_)) (fr_trans (fr_mono b2 (fun b j h => ?_)) (fr_trans (fr_wI _ _ ?_) (fr_wI _ _ ?_)))
        · unfold wLW; omega
        · unfold wGA at h; unfold wLW; omega
        · unfold wLW; omega
        · unfold wLW; omega
      have hn3 : pNow (zwI (zwI S2 (M + 32) i (nI (zcar sc.2.2 asd false (zword sc.1 i)).1)) (M + 33) i (nI row'.length)) M row' := ⟨by rw [← b3.1]; simp [-Prod.exists, -Prod.forall, zgf, zgr, zpf, zpz, zpr, zga, zgl, zgo, zpa, zpb, zpl, zpo, mm_len, zcl, Option.bind_some, Option.bind_none, mm_hI, mm_hJ, mm_hR, mm_nI, mm_nJ, mm_nR, mm_sI, mm_sJ, mm_sR, mm_RI, mm_RJ, mm_IJ, mm_IR, mm_JI, mm_JR, mm_II, mm_JJ, mm_RR], fun k hk => by rw [← b3.2.1 k hk]; simp [-Prod.exists, -Prod.forall, zgf, zgr, zpf, zpz, zpr, zga, zgl, zgo, zpa, zpb, zpl, zpo, mm_len, zcl, Option.bind_some, Option.bind_none, mm_hI, mm_hJ, mm_hR, mm_nI, mm_nJ, mm_nR, mm_sI, mm_sJ, mm_sR, mm_RI, mm_RJ, mm_IJ, mm_IR, mm_JI, mm_JR, mm_II, mm_JJ, mm_RR], b3.2.2.1, b3.2.2.2⟩
      refine lw_47 (mo_fr hm f2) hn3 (i := i) (by omega) (fun o => ∃ S', o = some S' ∧ zfr (wLW M) S0 S' ∧ zI S' M 61 = nI N ∧ mWo S' M N (zoc sc.1 sc.2.2 asd)) ?_ 4 zF _ 0 (by omega) (by rw [zF_eq]; omega) (fr_refl _ _) (fun q hq => by omega)
      intro S3 f3 k3
      rw [F_Mo_laysWords_73, e1]
      refine ih F S3 (i + 1) (by omega) (by omega) (fr_trans hf (fr_trans f2 (fr_mono f3 (fun b j h => by unfold wLW; omega)))) (by rw [fr_I f3 (by omega)]; rw [← g61]; simp [-Prod.exists, -Prod.forall, zgf, zgr, zpf, zpz, zpr, zga, zgl, zgo, zpa, zpb, zpl, zpo, mm_len, zcl, Option.bind_some, Option.bind_none, mm_hI, mm_hJ, mm_hR, mm_nI, mm_nJ, mm_nR, mm_sI, mm_sJ, mm_sR, mm_RI, mm_RJ, mm_IJ, mm_IR, mm_JI, mm_JR, mm_II, mm_JJ, mm_RR]) ?_
      intro j hj
      by_cases q : j = i
      · subst q
        refine ⟨by rw [fr_I f3 (by omega)]; simp [-Prod.exists, -Prod.forall, zgf, zgr, zpf, zpz, zpr, zga, zgl, zgo, zpa, zpb, zpl, zpo, mm_len, zcl, Option.bind_some, Option.bind_none, mm_hI, mm_hJ, mm_hR, mm_nI, mm_nJ, mm_nR, mm_sI, mm_sJ, mm_sR, mm_RI, mm_RJ, mm_IJ, mm_IR, mm_JI, mm_JR, mm_II, mm_JJ, mm_RR, zoc], fun hz => ?_⟩
        have er : row' = (zoc sc.1 sc.2.2 asd j).2 := (b4 hz).1
        exact ⟨by rw [fr_I f3 (by omega), ← er]; simp [-Prod.exists, -Prod.forall, zgf, zgr, zpf, zpz, zpr, zga, zgl, zgo, zpa, zpb, zpl, zpo, mm_len, zcl, Option.bind_some, Option.bind_none, mm_hI, mm_hJ, mm_hR, mm_nI, mm_nJ, mm_nR, mm_sI, mm_sJ, mm_sR, mm_RI, mm_RJ, mm_IJ, mm_IR, mm_JI, mm_JR, mm_II, mm_JJ, mm_RR], fun p hp => by rw [k3 p hp, er]⟩
      · obtain ⟨x, y⟩ := ha j (by omega)
        have g32 : zI S2 (M + 32) j = zI S (M + 32) j := by rw [fr_I b2 (by unfold wGA; omega), fr_I a2 (by omega)]
        have g33 : zI S2 (M + 33) j = zI S (M + 33) j := by rw [fr_I b2 (by unfold wGA; omega), fr_I a2 (by omega)]
        refine ⟨?_, fun hz => ⟨?_, fun p hp => ?_⟩⟩
        · rw [fr_I f3 (by omega), ← x, ← g32]; simp [-Prod.exists, -Prod.forall, zgf, zgr, zpf, zpz, zpr, zga, zgl, zgo, zpa, zpb, zpl, zpo, mm_len, zcl, Option.bind_some, Option.bind_none, mm_hI, mm_hJ, mm_hR, mm_nI, mm_nJ, mm_nR, mm_sI, mm_sJ, mm_sR, mm_RI, mm_RJ, mm_IJ, mm_IR, mm_JI, mm_JR, mm_II, mm_JJ, mm_RR, q]
        · rw [fr_I f3 (by omega), ← (y hz).1, ← g33]; simp [-Prod.exists, -Prod.forall, zgf, zgr, zpf, zpz, zpr, zga, zgl, zgo, zpa, zpb, zpl, zpo, mm_len, zcl, Option.bind_some, Option.bind_none, mm_hI, mm_hJ, mm_hR, mm_nI, mm_nJ, mm_nR, mm_sI, mm_sJ, mm_sR, mm_RI, mm_RJ, mm_IJ, mm_IR, mm_JI, mm_JR, mm_II, mm_JJ, mm_RR, q]
        · have g34 : zJ S2 (M + 34) (4 * j + p) = zJ S (M + 34) (4 * j + p) := by rw [fr_J b2 (by unfold wGA; omega), fr_J a2 (by omega)]
          rw [fr_J f3 (by omega), ← (y hz).2 p hp, ← g34]; simp [-Prod.exists, -Prod.forall, zgf, zgr, zpf, zpz, zpr, zga, zgl, zgo, zpa, zpb, zpl, zpo, mm_len, zcl, Option.bind_some, Option.bind_none, mm_hI, mm_hJ, mm_hR, mm_nI, mm_nJ, mm_nR, mm_sI, mm_sJ, mm_sR, mm_RI, mm_RJ, mm_IJ, mm_IR, mm_JI, mm_JR, mm_II, mm_JJ, mm_RR]
theorem m_laysWords (hm : sMo S M) (hs : mSc S M sc asd) (hL : 2 ≤ sc.1 ∧ sc.1 ≤ 4) {n : Nat} (hn : n ≤ 5) : ∃ S', f_Mo_laysWords M (nI n) S = some S' ∧ zfr (wLW M) S S' ∧ zI S' M 61 = nI (zcnt sc.1 n) ∧ mWo S' M (zcnt sc.1 n) (zoc sc.1 sc.2.2 asd) := by
  have c5 := cnt_le (n := n) hL hn
  have mu := m_manyUpTo hL.2 hn hm hs.1
  have f1 : zfr (wLW M) S (zwI S M 61 (nI (zcnt sc.1 n))) := fr_wI _ _ (Or.inl ⟨rfl, Or.inr (Or.inr rfl)⟩)
  have hs1 := mSc_fr hs f1 (fun j a b => by unfold wLW; omega) (fun b j a => by unfold wLW; omega)
  obtain ⟨S', r1, r2, r3, r4⟩ := lw_11 (S0 := zwI S M 61 (nI (zcnt sc.1 n))) (mo_fr hm f1) hs1 hL c5.1 (by simp [-Prod.exists, -Prod.forall, zgf, zgr, zpf, zpz, zpr, zga, zgl, zgo, zpa, zpb, zpl, zpo, mm_len, zcl, Option.bind_some, Option.bind_none, mm_hI, mm_hJ, mm_hR, mm_nI, mm_nJ, mm_nR, mm_sI, mm_sJ, mm_sR, mm_RI, mm_RJ, mm_IJ, mm_IR, mm_JI, mm_JR, mm_II, mm_JJ, mm_RR]) (zcnt sc.1 n) zF _ 0 (by omega) (by rw [zF_eq]; omega) (fr_refl _ _) (by simp [-Prod.exists, -Prod.forall, zgf, zgr, zpf, zpz, zpr, zga, zgl, zgo, zpa, zpb, zpl, zpo, mm_len, zcl, Option.bind_some, Option.bind_none, mm_hI, mm_hJ, mm_hR, mm_nI, mm_nJ, mm_nR, mm_sI, mm_sJ, mm_sR, mm_RI, mm_RJ, mm_IJ, mm_IR, mm_JI, mm_JR, mm_II, mm_JJ, mm_RR]) (fun i hi => by omega)
  refine ⟨S', ?_, fr_trans f1 r2, r3, r4⟩
  rw [← r1]
  simp (disch := omega) [f_Mo_laysWords, -Prod.exists, -Prod.forall, ↓bb_gf, ↓bb_gr, ↓bb_len, ↓bb_ga, ↓bb_gl, ↓bb_go, ↓bb_pf, ↓bb_pz, ↓bb_pr, ↓bb_pa, ↓bb_pb, ↓bb_pl, ↓bb_po, ↓bb_cl, ↓bb_some, ↓bb_RI, ↓bb_RJ, mm_hI, mm_hJ, mm_hR, mm_nI, mm_nJ, mm_nR, mm_sI, mm_sJ, mm_sR, mm_RI, mm_RJ, mm_IJ, mm_IR, mm_JI, mm_JR, mm_II, mm_JJ, mm_RR, hm.1, ↓bS mu]; rfl
end
theorem lg_cmp0 {a b : Nat} (ha : a < 2 ^ 63) (hb : b < 2 ^ 63) : (lg_cmp (lN a) (lN b) = 0) ↔ a = b := by
  rw [lg_cmp_eq, fb_lN_inj ha hb]
