/-! the class: the census -/
def vCen (E : Nat) : Nat → Nat → Prop := fun b j => (b = E ∧ j = 9) ∨ (b = E + 9 ∧ (j = 3 ∨ j = 4))
def kCen (S : zM) (E : Nat) : Prop := zh S E = (2, 0) ∧ zR S E 0 = some (E + 1) ∧ sOut S (E + 1) ∧ zR S E 1 = some (E + 5) ∧ sOut S (E + 5) ∧ zR S E 2 = some (E + 9) ∧ zR S E 3 = some (E + 23) ∧ zR S E 4 = some (E + 25) ∧ zR S E 5 = some (E + 27) ∧ zh S (E + 27) = (100, 1364) ∧ zR S E 6 = some (E + 28) ∧ zh S (E + 28) = (100, 1364) ∧ zR S E 7 = some (E + 29) ∧ zh S (E + 29) = (102, 1364) ∧ zR S E 8 = some (E + 30) ∧ zh S (E + 30) = (100, 6)
def rCen (S : zM) (E : Nat) : Prop := (∃ x y, aCar S (E + 9) x y) ∧ (∃ ws, pRow S (E + 23) 8 ws) ∧ ∃ ws, pRow S (E + 25) 60 ws
theorem sOut_fq {W V : Nat → Nat → Prop} {S S' : zM} {O : Nat} (h : sOut S O) (hf : zfq W V S S') (hv : ∀ j, ¬ V O j) : sOut S' O := by
  obtain ⟨s1, s2, s3, s4, s5, s6, s7⟩ := h
  unfold sOut
  rw [fq_h hf, fq_R hf (hv _), fq_R hf (hv _), fq_R hf (hv _)]
  exact ⟨s1, s2, s3, s4, s5, s6, s7⟩
theorem kCen_fq {W V : Nat → Nat → Prop} {S S' : zM} {E : Nat} (h : kCen S E) (hf : zfq W V S S') (hv : ∀ j, j < 9 → ¬ V E j) (hv1 : ∀ j, ¬ V (E + 1) j) (hv2 : ∀ j, ¬ V (E + 5) j) : kCen S' E := by
  obtain ⟨k1, k2, k3, k4, k5, k6, k7, k8, k9, k10, k11, k12, k13, k14, k15, k16⟩ := h
  unfold kCen
  rw [fq_h hf, fq_R hf (hv 0 (by omega)), fq_R hf (hv 1 (by omega)), fq_R hf (hv 2 (by omega)), fq_R hf (hv 3 (by omega)), fq_R hf (hv 4 (by omega)), fq_R hf (hv 5 (by omega)), fq_R hf (hv 6 (by omega)), fq_R hf (hv 7 (by omega)), fq_R hf (hv 8 (by omega))]
  exact ⟨k1, k2, sOut_fq k3 hf hv1, k4, sOut_fq k5 hf hv2, k6, k7, k8, k9, k10, k11, k12, k13, k14, k15, k16⟩
theorem kCen_v {W : Nat → Nat → Prop} {S S' : zM} {E : Nat} (h : kCen S E) (hf : zfq W (vCen E) S S') : kCen S' E :=
  kCen_fq h hf (fun j hj => by unfold vCen; omega) (fun j => by unfold vCen; omega) (fun j => by unfold vCen; omega)
theorem kCen_fr {W : Nat → Nat → Prop} {S S' : zM} {E : Nat} (h : kCen S E) (hf : zfr W S S') : kCen S' E := kCen_v h (fq_fr hf)
theorem rCen_sm {S S' : zM} {E : Nat} (h : rCen S E) (q1 : zsm (E + 9) (E + 27) S S') : rCen S' E := by
  obtain ⟨⟨x, y, a⟩, ⟨w, b⟩, ⟨v, c⟩⟩ := h
  exact ⟨⟨x, y, aCar_sm a q1 (by omega) (by omega)⟩, ⟨w, row_sm b q1 (by omega) (by omega)⟩, ⟨v, row_sm c q1 (by omega) (by omega)⟩⟩
section
variable {S : zM} {E T : Nat} {sc : zSc} {asd : Nat → Nat}
/-- a word by its place, taken and carried -/
theorem cen_carry (hk : kCen S E) (hr : rCen S E) (hS : pScr S T sc asd) (hT : T + 172 ≤ E) (hL : 2 ≤ sc.1 ∧ sc.1 ≤ 4) {i : Nat} (hi : i < zcnt sc.1 5) : ∃ S1 S2 x y xs, f_Row_takeWord (E + 23) (lN (zval (zword sc.1 i))) S = some (1, S1) ∧ f_Carrier_bring (E + 9) T (E + 23) 0 S1 = some (nI (zoc sc.1 sc.2.2 asd i).1, S2) ∧ zfr (rg (E + 23) (E + 25)) S S1 ∧ zfq (rg (E + 9) (E + 23)) (vPd (E + 9)) S1 S2 ∧ aCar S2 (E + 9) x y ∧ zR S2 (E + 9) 3 = some x ∧ E + 13 ≤ x ∧ x ≤ E + 15 ∧ pRow S2 x 60 xs ∧ ((zoc sc.1 sc.2.2 asd i).1 = 0 → xs = (zoc sc.1 sc.2.2 asd i).2) ∧ zI S2 (E + 9) 5 = nI (zbits 24 (fun k => (zsvl sc.1 sc.2.2 asd i).contains k)) ∧ zh S2 (E + 9) = (1, 0) := by
  obtain ⟨w1, w2, w3, w4, w5, w6⟩ := word_ok hL hi
  obtain ⟨⟨x0, y0, hc⟩, ⟨ws, hw⟩, hcr⟩ := hr
  obtain ⟨S1, zs, a1, a2, a3, a4⟩ := row_take hw (by omega) (lN (zval (zword sc.1 i)))
  have ev := wl_val w6 w1 (by omega)
  rw [ev] at a1
  simp only [Option.isSome_some, if_true] at a1
  have ezs := a4 _ ev
  subst ezs
  have hS1 := scr_sm hS (sm_fr (lo := T) (hi := T + 172) a2 (fun b j h1 h2 => by unfold rg; omega)) (by omega) (by omega)
  have hc1 := aCar_sm hc (sm_fr (lo := E + 9) (hi := E + 23) a2 (fun b j h1 h2 => by unfold rg; omega)) (by omega) (by omega)
  obtain ⟨S2, x, y, b1, b2, b3, b4, b5⟩ := bring false hS1 (by omega) hc1 a3 (by omega) (by omega)
  simp only [Bool.false_eq_true, if_false] at b1
  have hx3 : zR S2 (E + 9) 3 = some x := b3.1.2.2.2.2.2.2.2.2.1
  have hxr : (x = E + 9 + 4 ∧ y = E + 9 + 6) ∨ (x = E + 9 + 6 ∧ y = E + 9 + 4) := b3.1.2.2.2.2.2.2.2.2.2.2
  by_cases q : (zcar sc.2.2 asd false (zword sc.1 i)).1 = 0
  · exact ⟨S1, S2, x, y, _, a1, b1, a2, b2, b3, hx3, by omega, by omega, (b5 q).1, fun _ => rfl, b4.2, b3.1.1⟩
  · obtain ⟨xs, hxs⟩ := b3.2.1
    exact ⟨S1, S2, x, y, xs, a1, b1, a2, b2, b3, hx3, by omega, by omega, hxs, fun w => absurd w q, b4.2, b3.1.1⟩
theorem cen_count (hk : kCen S E) (hS : pScr S T sc asd) (h9 : zR S E 9 = some T) (hL : 2 ≤ sc.1 ∧ sc.1 ≤ 4) {n : Nat} (hn : n ≤ 5) : f_Census_count E (nI n) S = some (nI (zcnt sc.1 n), S) := by
  have cu := c_countUpTo (S := S) hL.2 hn
  have c5 := cnt_le (n := n) hL hn
  have mn : zmin 1364 (nI (zcnt sc.1 n)) = nI (zcnt sc.1 n) := by
    have := nn_min (a := 1364) (b := zcnt sc.1 n) (by omega) (by omega)
    rw [Nat.min_eq_right (by omega)] at this
    exact this
  simp [f_Census_count, -Prod.exists, -Prod.forall, ↓bb_gf, ↓bb_gr, ↓bb_len, ↓bb_ga, ↓bb_gl, ↓bb_go, ↓bb_pf, ↓bb_pz, ↓bb_pr, ↓bb_pa, ↓bb_pb, ↓bb_pl, ↓bb_po, ↓bb_cl, ↓bb_some, ↓bb_RI, ↓bb_RJ, mm_hI, mm_hJ, mm_hR, mm_nI, mm_nJ, mm_nR, mm_sI, mm_sJ, mm_sR, mm_RI, mm_RJ, mm_IJ, mm_IR, mm_JI, mm_JR, mm_II, mm_JJ, mm_RR, hk.1, h9, ↓bS h9, hS.1.1, hS.2.1, ↓bS cu, mn]
/-- what is known of the first K words -/
def dCen (S : zM) (E L : Nat) (ps : List zPs) (asd : Nat → Nat) (K : Nat) : Prop := cOut S (E + 1) K (zoc L ps asd) ∧ pSt S (E + 1) K (zoc L ps asd) ∧ ∀ i, i < K → zI S (E + 27) i = nI (zbits 24 (fun k => (zsvl L ps asd i).contains k)) ∧ zI S (E + 28) i = zsI (ztwin (zoc L ps asd) i)
theorem cOut_sm {S S' : zM} {O N : Nat} {oc : Nat → Nat × List Nat} (h : cOut S O N oc) (q : zsm (O + 1) (O + 4) S S') : cOut S' O N oc :=
  fun i hi => c1Out_eq (h i hi) (q.2 _ _ (by omega) (by omega)).2.1 (fun b _ => (q.2 _ _ (by omega) (by omega)).2.2)
theorem pSt_sm {S S' : zM} {O N : Nat} {oc : Nat → Nat × List Nat} (h : pSt S O N oc) (q : zsm (O + 1) (O + 4) S S') : pSt S' O N oc := by
  obtain ⟨Tb, a, b⟩ := h
  exact ⟨Tb, fun s hs => by rw [(q.2 _ _ (by omega) (by omega)).2.1]; exact a s hs, b⟩
theorem dCen_sm {S S' : zM} {L K : Nat} {ps : List zPs} (h : dCen S E L ps asd K) (q : zsm (E + 2) (E + 5) S S') (q2 : zsm (E + 27) (E + 29) S S') : dCen S' E L ps asd K :=
  ⟨cOut_sm h.1 q, pSt_sm h.2.1 q, fun i hi => ⟨by rw [(q2.2 _ _ (by omega) (by omega)).2.1]; exact (h.2.2 i hi).1, by rw [(q2.2 _ _ (by omega) (by omega)).2.1]; exact (h.2.2 i hi).2⟩⟩
def wLn1 (E : Nat) : Nat → Nat → Prop := fun b j => (E + 2 ≤ b ∧ b < E + 5) ∨ (E + 9 ≤ b ∧ b < E + 25) ∨ (E + 27 ≤ b ∧ b < E + 29) ∨ (b = E ∧ j = 10)
def vLn1 (E : Nat) : Nat → Nat → Prop := fun b j => b = E + 9 ∧ (j = 3 ∨ j = 4)
theorem cen_learn17 {S0 : zM} (hE : E ≠ 0) (hk0 : kCen S0 E) (hr0 : rCen S0 E) (hS0 : pScr S0 T sc asd) (hT : T + 172 ≤ E) (h9 : zR S0 E 9 = some T) (hL : 2 ≤ sc.1 ∧ sc.1 ≤ 4) {n K : Nat} (hn : n ≤ 5) (hK5 : K ≤ zcnt sc.1 5) (h10 : zI S0 E 10 = nI K) (hd0 : dCen S0 E sc.1 sc.2.2 asd K) : ∃ S', L_Census_learn_17 zF E T (nI (zcnt sc.1 n)) (nI K) S0 = some S' ∧ zfq (wLn1 E) (vLn1 E) S0 S' ∧ rCen S' E ∧ zI S' E 10 = nI (max K (zcnt sc.1 n)) ∧ dCen S' E sc.1 sc.2.2 asd (max K (zcnt sc.1 n)) := by
  have c5 := cnt_le (n := n) hL hn
  have hw := oc_w (asd := asd) hL hS0.2.2.2.2.2.2.2.2.2
  have fin : ∀ F (S : zM), zfq (wLn1 E) (vLn1 E) S0 S → rCen S E → zI S E 10 = nI K → dCen S E sc.1 sc.2.2 asd (max K (zcnt sc.1 n)) → ∀ i, zcnt sc.1 n ≤ i → i < 5000 → ∃ S', L_Census_learn_17 (F + 1) E T (nI (zcnt sc.1 n)) (nI i) S = some S' ∧ zfq (wLn1 E) (vLn1 E) S0 S' ∧ rCen S' E ∧ zI S' E 10 = nI (max K (zcnt sc.1 n)) ∧ dCen S' E sc.1 sc.2.2 asd (max K (zcnt sc.1 n)) := by
    intro F S hf hr h10 hd i hi hi2
    have hk := kCen_fq hk0 hf (fun j hj => by unfold vLn1; omega) (fun j => by unfold vLn1; omega) (fun j => by unfold vLn1; omega)
    have hx : ¬ nI i < nI (zcnt sc.1 n) := by rw [nI_ltI (by omega) (by omega)]; omega
    have mx : zmax (nI K) (nI (zcnt sc.1 n)) = nI (max K (zcnt sc.1 n)) := nn_max (by omega) (by omega)
    have f1 : zfr (fun b j => b = E ∧ j = 10) S (zwI S E 10 (nI (max K (zcnt sc.1 n)))) := fr_wI _ _ ⟨rfl, rfl⟩
    refine ⟨zwI S E 10 (nI (max K (zcnt sc.1 n))), ?_, fq_trans hf (fq_fr (fr_mono f1 (fun b j h => by unfold wLn1; omega))), rCen_sm hr (sm_fr f1 (fun b j h1 h2 => by omega)), by simp [-Prod.exists, -Prod.forall, zgf, zgr, zpf, zpz, zpr, zga, zgl, zgo, zpa, zpb, zpl, zpo, mm_len, zcl, Option.bind_some, Option.bind_none, mm_hI, mm_hJ, mm_hR, mm_nI, mm_nJ, mm_nR, mm_sI, mm_sJ, mm_sR, mm_RI, mm_RJ, mm_IJ, mm_IR, mm_JI, mm_JR, mm_II, mm_JJ, mm_RR], dCen_sm hd (sm_fr f1 (fun b j h1 h2 => by omega)) (sm_fr f1 (fun b j h1 h2 => by omega))⟩
    rw [L_Census_learn_17]
    simp [-Prod.exists, -Prod.forall, ↓bb_gf, ↓bb_gr, ↓bb_len, ↓bb_ga, ↓bb_gl, ↓bb_go, ↓bb_pf, ↓bb_pz, ↓bb_pr, ↓bb_pa, ↓bb_pb, ↓bb_pl, ↓bb_po, ↓bb_cl, ↓bb_some, ↓bb_RI, ↓bb_RJ, mm_hI, mm_hJ, mm_hR, mm_nI, mm_nJ, mm_nR, mm_sI, mm_sJ, mm_sR, mm_RI, mm_RJ, mm_IJ, mm_IR, mm_JI, mm_JR, mm_II, mm_JJ, mm_RR, hx, hk.1, h10, mx]
  by_cases hKn : K ≤ zcnt sc.1 n
  · refine loop_g (α := Unit) (N := zcnt sc.1 n) (by omega) (fun F _ i S => L_Census_learn_17 F E T (nI (zcnt sc.1 n)) (nI i) S) (fun _ i S => zfq (wLn1 E) (vLn1 E) S0 S ∧ rCen S E ∧ zI S E 10 = nI K ∧ dCen S E sc.1 sc.2.2 asd i) (fun o => ∃ S', o = some S' ∧ zfq (wLn1 E) (vLn1 E) S0 S' ∧ rCen S' E ∧ zI S' E 10 = nI (max K (zcnt sc.1 n)) ∧ dCen S' E sc.1 sc.2.2 asd (max K (zcnt sc.1 n))) (fun F _ S h => ?_) (fun F _ i S hi h k => ?_) () K S0 hKn ⟨fq_refl _ _ _, hr0, h10, hd0⟩
    · obtain ⟨hf, hr, h10', hd⟩ := h
      exact fin F S hf hr h10' (by rw [Nat.max_eq_right hKn]; exact hd) _ (Nat.le_refl _) (by omega)
    · obtain ⟨hf, hr, h10', hd⟩ := h
      have hk := kCen_fq hk0 hf (fun j hj => by unfold vLn1; omega) (fun j => by unfold vLn1; omega) (fun j => by unfold vLn1; omega)
      have h9' : zR S E 9 = some T := by rw [fq_R hf (by unfold vLn1; omega)]; exact h9
      have hS := scr_sm hS0 (sm_fq (lo := T) (hi := T + 172) hf (fun b j h1 h2 => ⟨by unfold wLn1; omega, by unfold vLn1; omega⟩)) (by omega) (by omega)
      have hi5 : i < zcnt sc.1 5 := by omega
      obtain ⟨S1, S2, x, y, xs, t1, t2, t3, t4, t5, t6, t7, t8, t9, t10, t11, t12⟩ := cen_carry hk hr hS hT hL hi5
      have sp := c_spelled hk.1 h9' hS.1.1 hS.2.1 hL (i := i) (by omega)
      have hk1 := kCen_fr hk t3
      have hk2 := kCen_fq hk1 t4 (fun j hj => by unfold vPd; omega) (fun j => by unfold vPd; omega) (fun j => by unfold vPd; omega)
      have hO2 := hk2.2.2.1
      have hc2 : cOut S2 (E + 1) i (zoc sc.1 sc.2.2 asd) := cOut_sm (cOut_sm hd.1 (sm_fr t3 (fun b j h1 h2 => by unfold rg; omega))) (sm_fq t4 (fun b j h1 h2 => ⟨by unfold rg; omega, by unfold vPd; omega⟩))
      have hp2 : pSt S2 (E + 1) i (zoc sc.1 sc.2.2 asd) := pSt_sm (pSt_sm hd.2.1 (sm_fr t3 (fun b j h1 h2 => by unfold rg; omega))) (sm_fq t4 (fun b j h1 h2 => ⟨by unfold rg; omega, by unfold vPd; omega⟩))
      obtain ⟨S3, p1, p2, p3, p4⟩ := o_put hO2 (by omega) hw (by omega) hi5 t9 t10 (by omega) hc2 hp2
      have hk3 := kCen_fr hk2 p2
      have z : zinb (nI i) 1364 = true := (nn_in (by omega)).2 (by omega)
      have c : (nI i).toNatClampNeg = i := nI_clamp (by omega)
      have e1 : nI i + 1 = nI (i + 1) := nI_add i 1
      have hx : nI i < nI (zcnt sc.1 n) := by rw [nI_ltI (by omega) (by omega)]; omega
      have n28 : ¬ E + 28 = 0 := by omega
      have n27 : ¬ E + 27 = 0 := by omega
      have sb : zI S3 (E + 9) 5 = nI (zbits 24 (fun k => (zsvl sc.1 sc.2.2 asd i).contains k)) := by rw [fr_I p2 (by unfold wOut; omega)]; exact t11
      have hh3 : zh S3 (E + 9) = (1, 0) := by rw [fr_h p2]; exact t12
      have st : L_Census_learn_17 (F + 1) E T (nI (zcnt sc.1 n)) (nI i) S = L_Census_learn_17 F E T (nI (zcnt sc.1 n)) (nI (i + 1)) (zwI (zwI S3 (E + 28) i (zsI (ztwin (zoc sc.1 sc.2.2 asd) i))) (E + 27) i (nI (zbits 24 (fun k => (zsvl sc.1 sc.2.2 asd i).contains k)))) := by
        obtain ⟨ws, hws⟩ := hr.2.1
        have hw23 : zh S (E + 23) = (8, 0) := hws.1
        have hc9 : zh S1 (E + 9) = (1, 0) := by rw [← t12, fq_h t4]
        rw [L_Census_learn_17]
        simp (disch := omega) only [-Prod.exists, -Prod.forall, ↓bb_gf, ↓bb_gr, ↓bb_len, ↓bb_ga, ↓bb_gl, ↓bb_go, ↓bb_pf, ↓bb_pz, ↓bb_pr, ↓bb_pa, ↓bb_pb, ↓bb_pl, ↓bb_po, ↓bb_cl, ↓bb_some, ↓bb_RI, ↓bb_RJ, mm_hI, mm_hJ, mm_hR, mm_nI, mm_nJ, mm_nR, mm_sI, mm_sJ, mm_sR, mm_RI, mm_RJ, mm_IJ, mm_IR, mm_JI, mm_JR, mm_II, mm_JJ, mm_RR, hx, if_true, hk.1, ↓bS hk.2.2.2.2.2.2.1, ↓bS sp, hw23, ↓bS t1, hk1.1, ↓bS hk1.2.2.2.2.2.1, ↓bS hk1.2.2.2.2.2.2.1, hc9, ↓bS t2, hk2.1, ↓bS hk2.2.2.2.2.2.2.2.2.2.2.1, ↓bS hk2.2.1, ↓bS hk2.2.2.2.2.2.1, t12, ↓bS t6, hO2.1, ↓bS p1, hk3.2.2.2.2.2.2.2.2.2.2.2.1, n28, not_false_eq_true, z, c, true_and, and_true, hk3.1, ↓bS hk3.2.2.2.2.2.2.2.2.1, hk3.2.2.2.2.2.2.2.2.1, hk3.2.2.2.2.2.1, ↓bS hk3.2.2.2.2.2.1, hh3, sb, hk3.2.2.2.2.2.2.2.2.2.1, n27, e1]
        simp [-Prod.exists, -Prod.forall, ↓bb_gf, ↓bb_gr, ↓bb_len, ↓bb_ga, ↓bb_gl, ↓bb_go, ↓bb_pf, ↓bb_pz, ↓bb_pr, ↓bb_pa, ↓bb_pb, ↓bb_pl, ↓bb_po, ↓bb_cl, ↓bb_some, ↓bb_RI, ↓bb_RJ, mm_hI, mm_hJ, mm_hR, mm_nI, mm_nJ, mm_nR, mm_sI, mm_sJ, mm_sR, mm_RI, mm_RJ, mm_IJ, mm_IR, mm_JI, mm_JR, mm_II, mm_JJ, mm_RR, sb, hk3.2.2.2.2.2.2.2.2.2.1, z, c, e1]
      have f4 : zfr (fun b j => (b = E + 27 ∨ b = E + 28) ∧ j = i) S3 (zwI (zwI S3 (E + 28) i (zsI (ztwin (zoc sc.1 sc.2.2 asd) i))) (E + 27) i (nI (zbits 24 (fun k => (zsvl sc.1 sc.2.2 asd i).contains k)))) := fr_trans (fr_wI _ _ ⟨Or.inr rfl, rfl⟩) (fr_wI _ _ ⟨Or.inl rfl, rfl⟩)
      have g : zfq (wLn1 E) (vLn1 E) S (zwI (zwI S3 (E + 28) i (zsI (ztwin (zoc sc.1 sc.2.2 asd) i))) (E + 27) i (nI (zbits 24 (fun k => (zsvl sc.1 sc.2.2 asd i).contains k)))) :=
        fq_trans (fq_fr (fr_mono t3 (fun b j h => by unfold rg at h; unfold wLn1; omega))) (fq_trans (fq_mono t4 (fun b j h => by unfold rg at h; unfold wLn1; omega) (fun b j h => h)) (fq_trans (fq_fr (fr_mono p2 (fun b j h => by unfold wOut at h; unfold wLn1; omega))) (fq_fr (fr_mono f4 (fun b j h => by unfold wLn1; omega)))))
      rw [st]
      refine k () _ ⟨fq_trans hf g, ?_, ?_, ?_⟩
      · obtain ⟨_, hw23, v, hv⟩ := hr
        refine ⟨⟨x, y, aCar_sm (aCar_sm t5 (sm_fr (lo := E + 9) (hi := E + 23) p2 (fun b j h1 h2 => by unfold wOut; omega)) (by omega) (by omega)) (sm_fr (lo := E + 9) (hi := E + 23) f4 (fun b j h1 h2 => by omega)) (by omega) (by omega)⟩, ?_, v, ?_⟩
        · obtain ⟨ws, hws⟩ := hw23
          obtain ⟨w1, w2, w3, w4, w5, w6⟩ := word_ok hL hi5
          obtain ⟨S1', zs, a1, a2, a3, a4⟩ := row_take hws (by omega) (lN (zval (zword sc.1 i)))
          have : S1' = S1 := by
            rw [t1] at a1
            have := Option.some.inj a1
            exact (congrArg Prod.snd this).symm
          subst this
          exact ⟨zs, row_sm (row_sm (row_sm a3 (sm_fq (lo := E + 23) (hi := E + 25) t4 (fun b j h1 h2 => ⟨by unfold rg; omega, by unfold vPd; omega⟩)) (by omega) (by omega)) (sm_fr (lo := E + 23) (hi := E + 25) p2 (fun b j h1 h2 => by unfold wOut; omega)) (by omega) (by omega)) (sm_fr (lo := E + 23) (hi := E + 25) f4 (fun b j h1 h2 => by omega)) (by omega) (by omega)⟩
        · exact row_sm hv (sm_fq (lo := E + 25) (hi := E + 27) g (fun b j h1 h2 => ⟨by unfold wLn1; omega, by unfold vLn1; omega⟩)) (by omega) (by omega)
      · have a1 : zI S3 E 10 = zI S E 10 := by rw [fr_I p2 (by unfold wOut; omega), fq_I t4 (by unfold rg; omega), fr_I t3 (by unfold rg; omega)]
        rw [fr_I f4 (by omega), a1]; exact h10'
      · refine ⟨cOut_sm p3 (sm_fr f4 (fun b j h1 h2 => by omega)), pSt_sm p4 (sm_fr f4 (fun b j h1 h2 => by omega)), fun j hj => ?_⟩
        by_cases q : j = i
        · subst q; exact ⟨by simp [-Prod.exists, -Prod.forall, zgf, zgr, zpf, zpz, zpr, zga, zgl, zgo, zpa, zpb, zpl, zpo, mm_len, zcl, Option.bind_some, Option.bind_none, mm_hI, mm_hJ, mm_hR, mm_nI, mm_nJ, mm_nR, mm_sI, mm_sJ, mm_sR, mm_RI, mm_RJ, mm_IJ, mm_IR, mm_JI, mm_JR, mm_II, mm_JJ, mm_RR], by simp [-Prod.exists, -Prod.forall, zgf, zgr, zpf, zpz, zpr, zga, zgl, zgo, zpa, zpb, zpl, zpo, mm_len, zcl, Option.bind_some, Option.bind_none, mm_hI, mm_hJ, mm_hR, mm_nI, mm_nJ, mm_nR, mm_sI, mm_sJ, mm_sR, mm_RI, mm_RJ, mm_IJ, mm_IR, mm_JI, mm_JR, mm_II, mm_JJ, mm_RR]⟩
        · obtain ⟨d1, d2⟩ := hd.2.2 j (by omega)
          have a27 : zI S3 (E + 27) j = zI S (E + 27) j := by rw [fr_I p2 (by unfold wOut; omega), fq_I t4 (by unfold rg; omega), fr_I t3 (by unfold rg; omega)]
          have a28 : zI S3 (E + 28) j = zI S (E + 28) j := by rw [fr_I p2 (by unfold wOut; omega), fq_I t4 (by unfold rg; omega), fr_I t3 (by unfold rg; omega)]
          exact ⟨by rw [fr_I f4 (by omega), a27]; exact d1, by rw [fr_I f4 (by omega), a28]; exact d2⟩
  · rw [zF_eq]
    exact fin 999999999 S0 (fq_refl _ _ _) hr0 h10 (by rw [Nat.max_eq_left (by omega)]; exact hd0) K (by omega) (by omega)
end
