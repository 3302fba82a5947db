/-! the class: rules turned aside; the worst rule -/
section
variable {S : zM} {T : Nat} {sc : zSc} {asd : Nat → Nat}
theorem scr_ruleAt (hS : pScr S T sc asd) (p i : Int32) : f_Script_ruleAt T p i S = some (if p < 0 then none else if p.toNatClampNeg < sc.2.2.length then (if i < 0 then none else if i.toNatClampNeg < (zpa_ sc.2.2 p.toNatClampNeg).2.length then some (aPs T p.toNatClampNeg + 16 + 5 * i.toNatClampNeg) else none) else none, S) := by
  have pa := scr_passAt hS p
  by_cases q1 : p < 0
  · rw [if_pos q1] at pa ⊢
    simp [f_Script_ruleAt, -Prod.exists, -Prod.forall, ↓bb_gf, ↓bb_gr, ↓bb_len, ↓bb_ga, ↓bb_gl, ↓bb_go, ↓bb_pf, ↓bb_pz, ↓bb_pr, ↓bb_pa, ↓bb_pb, ↓bb_pl, ↓bb_po, ↓bb_cl, ↓bb_some, ↓bb_RI, ↓bb_RJ, mm_hI, mm_hJ, mm_hR, mm_nI, mm_nJ, mm_nR, mm_sI, mm_sJ, mm_sR, mm_RI, mm_RJ, mm_IJ, mm_IR, mm_JI, mm_JR, mm_II, mm_JJ, mm_RR, hS.1.1, ↓bS pa]
  · rw [if_neg q1] at pa ⊢
    by_cases q2 : p.toNatClampNeg < sc.2.2.length
    · rw [if_pos q2] at pa ⊢
      have hP := hS.2.2.2.2.2.1 _ q2
      have ra := pass_ruleAt hP i
      by_cases q3 : i < 0
      · rw [if_pos q3] at ra ⊢
        simp [f_Script_ruleAt, -Prod.exists, -Prod.forall, ↓bb_gf, ↓bb_gr, ↓bb_len, ↓bb_ga, ↓bb_gl, ↓bb_go, ↓bb_pf, ↓bb_pz, ↓bb_pr, ↓bb_pa, ↓bb_pb, ↓bb_pl, ↓bb_po, ↓bb_cl, ↓bb_some, ↓bb_RI, ↓bb_RJ, mm_hI, mm_hJ, mm_hR, mm_nI, mm_nJ, mm_nR, mm_sI, mm_sJ, mm_sR, mm_RI, mm_RJ, mm_IJ, mm_IR, mm_JI, mm_JR, mm_II, mm_JJ, mm_RR, hS.1.1, ↓bS pa, hP.1.1, ↓bS ra]
      · rw [if_neg q3] at ra ⊢
        by_cases q4 : i.toNatClampNeg < (zpa_ sc.2.2 p.toNatClampNeg).2.length
        · rw [if_pos q4] at ra ⊢
          simp [f_Script_ruleAt, -Prod.exists, -Prod.forall, ↓bb_gf, ↓bb_gr, ↓bb_len, ↓bb_ga, ↓bb_gl, ↓bb_go, ↓bb_pf, ↓bb_pz, ↓bb_pr, ↓bb_pa, ↓bb_pb, ↓bb_pl, ↓bb_po, ↓bb_cl, ↓bb_some, ↓bb_RI, ↓bb_RJ, mm_hI, mm_hJ, mm_hR, mm_nI, mm_nJ, mm_nR, mm_sI, mm_sJ, mm_sR, mm_RI, mm_RJ, mm_IJ, mm_IR, mm_JI, mm_JR, mm_II, mm_JJ, mm_RR, hS.1.1, ↓bS pa, hP.1.1, ↓bS ra]
        · rw [if_neg q4] at ra ⊢
          simp [f_Script_ruleAt, -Prod.exists, -Prod.forall, ↓bb_gf, ↓bb_gr, ↓bb_len, ↓bb_ga, ↓bb_gl, ↓bb_go, ↓bb_pf, ↓bb_pz, ↓bb_pr, ↓bb_pa, ↓bb_pb, ↓bb_pl, ↓bb_po, ↓bb_cl, ↓bb_some, ↓bb_RI, ↓bb_RJ, mm_hI, mm_hJ, mm_hR, mm_nI, mm_nJ, mm_nR, mm_sI, mm_sJ, mm_sR, mm_RI, mm_RJ, mm_IJ, mm_IR, mm_JI, mm_JR, mm_II, mm_JJ, mm_RR, hS.1.1, ↓bS pa, hP.1.1, ↓bS ra]
    · rw [if_neg q2] at pa ⊢
      simp [f_Script_ruleAt, -Prod.exists, -Prod.forall, ↓bb_gf, ↓bb_gr, ↓bb_len, ↓bb_ga, ↓bb_gl, ↓bb_go, ↓bb_pf, ↓bb_pz, ↓bb_pr, ↓bb_pa, ↓bb_pb, ↓bb_pl, ↓bb_po, ↓bb_cl, ↓bb_some, ↓bb_RI, ↓bb_RJ, mm_hI, mm_hJ, mm_hR, mm_nI, mm_nJ, mm_nR, mm_sI, mm_sJ, mm_sR, mm_RI, mm_RJ, mm_IJ, mm_IR, mm_JI, mm_JR, mm_II, mm_JJ, mm_RR, hS.1.1, ↓bS pa]
theorem scr_isAside (hS : pScr S T sc asd) {p i : Nat} (hp : p < sc.2.2.length) (hi : i < (zpa_ sc.2.2 p).2.length) : f_Script_isAside T (nI p) (nI i) S = some (if (asd p).testBit i then 1 else 0, S) := by
  have h3 := hS.2.2.2.2.2.2.2.2.2.1
  have hP := hS.2.2.2.2.2.1 p hp
  have r8 := hP.2.2.2.2.2.2.2.1.1
  have pa := scr_passAt hS (nI p)
  rw [if_neg (nI_pos (by omega)), nI_clamp (by omega), if_pos hp] at pa
  have ra := pass_ruleAt hP (nI i)
  rw [if_neg (nI_pos (by omega)), nI_clamp (by omega), if_pos hi] at ra
  have sv := pass_serves hP hi
  cases b : (asd p).testBit i with
  | true =>
    rw [b] at sv
    simp only [if_true] at sv
    simp [f_Script_isAside, -Prod.exists, -Prod.forall, ↓bb_gf, ↓bb_gr, ↓bb_len, ↓bb_ga, ↓bb_gl, ↓bb_go, ↓bb_pf, ↓bb_pz, ↓bb_pr, ↓bb_pa, ↓bb_pb, ↓bb_pl, ↓bb_po, ↓bb_cl, ↓bb_some, ↓bb_RI, ↓bb_RJ, mm_hI, mm_hJ, mm_hR, mm_nI, mm_nJ, mm_nR, mm_sI, mm_sJ, mm_sR, mm_RI, mm_RJ, mm_IJ, mm_IR, mm_JI, mm_JR, mm_II, mm_JJ, mm_RR, hS.1.1, ↓bS pa, hP.1.1, ↓bS ra, ↓bS sv]
  | false =>
    rw [b] at sv
    simp only [Bool.false_eq_true, if_false] at sv
    simp [f_Script_isAside, -Prod.exists, -Prod.forall, ↓bb_gf, ↓bb_gr, ↓bb_len, ↓bb_ga, ↓bb_gl, ↓bb_go, ↓bb_pf, ↓bb_pz, ↓bb_pr, ↓bb_pa, ↓bb_pb, ↓bb_pl, ↓bb_po, ↓bb_cl, ↓bb_some, ↓bb_RI, ↓bb_RJ, mm_hI, mm_hJ, mm_hR, mm_nI, mm_nJ, mm_nR, mm_sI, mm_sJ, mm_sR, mm_RI, mm_RJ, mm_IJ, mm_IR, mm_JI, mm_JR, mm_II, mm_JJ, mm_RR, hS.1.1, ↓bS pa, hP.1.1, ↓bS ra, ↓bS sv]
theorem scr_turn (hS : pScr S T sc asd) {p i : Nat} (hp : p < sc.2.2.length) (hi : i < (zpa_ sc.2.2 p).2.length) : f_Script_turnAside T (nI p) (nI i) S = some (zwI S (aPs T p) 5 (nI (asd p ^^^ 2 ^ i))) ∧ pScr (zwI S (aPs T p) 5 (nI (asd p ^^^ 2 ^ i))) T sc (zasd asd p i) := by
  have h3 := hS.2.2.2.2.2.2.2.2.2.1
  have hP := hS.2.2.2.2.2.1 p hp
  have r8 := hP.2.2.2.2.2.2.2.1.1
  have m8 := hP.2.2.2.2.2.2.2.2
  have pa := scr_passAt hS (nI p)
  rw [if_neg (nI_pos (by omega)), nI_clamp (by omega), if_pos hp] at pa
  have ra := pass_ruleAt hP (nI i)
  rw [if_neg (nI_pos (by omega)), nI_clamp (by omega), if_pos hi] at ra
  have v5 := hP.2.2.2.1
  have ex : nI (asd p) ^^^ ((1 : Int32) <<< (nI i &&& 31)) = nI (asd p ^^^ 2 ^ i) := by
    have : (1 : Int32) <<< (nI i &&& 31) = nI (2 ^ i) := nn_pow2 (k := i) (by omega)
    rw [this, fb_xorI]
  have f1 : zfr (fun b j => b = aPs T p ∧ j = 5) S (zwI S (aPs T p) 5 (nI (asd p ^^^ 2 ^ i))) := fr_wI _ _ ⟨rfl, rfl⟩
  have hlt : asd p ^^^ 2 ^ i < 256 := Nat.xor_lt_two_pow (n := 8) m8 (Nat.pow_lt_pow_right (by omega) (by omega))
  refine ⟨?_, ?_⟩
  · simp [f_Script_turnAside, -Prod.exists, -Prod.forall, ↓bb_gf, ↓bb_gr, ↓bb_len, ↓bb_ga, ↓bb_gl, ↓bb_go, ↓bb_pf, ↓bb_pz, ↓bb_pr, ↓bb_pa, ↓bb_pb, ↓bb_pl, ↓bb_po, ↓bb_cl, ↓bb_some, ↓bb_RI, ↓bb_RJ, mm_hI, mm_hJ, mm_hR, mm_nI, mm_nJ, mm_nR, mm_sI, mm_sJ, mm_sR, mm_RI, mm_RJ, mm_IJ, mm_IR, mm_JI, mm_JR, mm_II, mm_JJ, mm_RR, hS.1.1, ↓bS pa, hP.1.1, ↓bS ra, v5, ex]
  · obtain ⟨a1, a2, a3, a4, a5, a6, a7, a8, a9, a10⟩ := hS
    have nT : ∀ b, b < aPs T p → ∀ j, zI (zwI S (aPs T p) 5 (nI (asd p ^^^ 2 ^ i))) b j = zI S b j := fun b hb j => fr_I f1 (by omega)
    have aT : T + 4 ≤ aPs T p := by unfold aPs; omega
    refine ⟨a1, by rw [nT _ (by omega)]; exact a2, by rw [nT _ (by omega)]; exact a3, by rw [nT _ (by omega)]; exact a4, fun k hk => by rw [nT _ (by omega)]; exact a5 k hk, fun q hq => ?_, a7, a8, a9, a10⟩
    by_cases q1 : q = p
    · subst q1
      obtain ⟨b1, b2, b3, b4, b5, b6, b7, b8, b9⟩ := a6 q hq
      have sm : zsm (aPs T q + 1) (aPs T q + 56) S (zwI S (aPs T q) 5 (nI (asd q ^^^ 2 ^ i))) := sm_fr f1 (fun b j h1 h2 => by omega)
      have ez : zasd asd q i q = asd q ^^^ 2 ^ i := by unfold zasd zup; rw [if_pos rfl]
      rw [ez]
      refine ⟨b1, by rw [fr_I f1 (by omega)]; exact b2, by rw [fr_I f1 (by omega)]; exact b3, by simp [-Prod.exists, -Prod.forall, zgf, zgr, zpf, zpz, zpr, zga, zgl, zgo, zpa, zpb, zpl, zpo, mm_len, zcl, Option.bind_some, Option.bind_none, mm_hI, mm_hJ, mm_hR, mm_nI, mm_nJ, mm_nR, mm_sI, mm_sJ, mm_sR, mm_RI, mm_RJ, mm_IJ, mm_IR, mm_JI, mm_JR, mm_II, mm_JJ, mm_RR], fun j hj => rule_sm (b5 j hj) sm (by omega) (by have := b8.1; omega), mach_sm b6 sm (by omega) (by omega), mach_sm b7 sm (by omega) (by omega), b8, hlt⟩
    · have ez : zasd asd p i q = asd q := by unfold zasd zup; rw [if_neg q1]
      rw [ez]
      exact pass_sm (a6 q hq) (sm_fr (lo := aPs T q) (hi := aPs T q + 56) f1 (fun b j h1 h2 => by unfold aPs at *; omega)) (by omega) (by omega)
end
def wDw (E : Nat) : Nat → Nat → Prop := fun b _ => E + 6 ≤ b ∧ b < E + 25
section
variable {S0 : zM} {E T K : Nat} {sc : zSc} {asd : Nat → Nat}
theorem ct_le_dbl {oc : Nat → Nat × List Nat} {k N : Nat} (h : k ≤ N) : fb_ct (fun i => (ztwin oc i).isSome) k ≤ zdbl oc N := fb_ct_mono _ h
theorem c_without (hE : E ≠ 0) (hk0 : kCen S0 E) (hr0 : rCen S0 E) (hT : T + 172 ≤ E) (hL : 2 ≤ sc.1 ∧ sc.1 ≤ 4) (h9 : zR S0 E 9 = some T) (hK5 : K ≤ zcnt sc.1 5) (hd0 : dCen S0 E sc.1 sc.2.2 asd K) {p i n en : Nat} (hp : p < sc.2.2.length) (hi : i < (zpa_ sc.2.2 p).2.length) (hb : (asd p).testBit i = false) (hS0 : pScr S0 T sc (zasd asd p i)) (hn : n ≤ 5) (hnK : zcnt sc.1 n ≤ K) (hen : 0 < en) (hen2 : en < 5000) : ∃ S', f_Census_doubledWithout E (nI (8 * p + i)) (nI (zcnt sc.1 n)) (nI en) S0 = some (nI (min (zdbl (zoc sc.1 sc.2.2 (zasd asd p i)) (zcnt sc.1 n)) en), S') ∧ zfq (wDw E) (vLn1 E) S0 S' ∧ rCen S' E := by
  have c5 := cnt_le (n := n) hL hn
  have wp := hS0.2.2.2.2.2.2.2.2.2
  have h3 := wp.1
  have r8 := (ps_w wp hp).1
  have hw := oc_w (asd := zasd asd p i) hL wp
  obtain ⟨S1, a1, a2, a3⟩ := o_forget (oc := zoc sc.1 sc.2.2 (zasd asd p i)) hk0.2.2.2.2.1 (by omega)
  have st : f_Census_doubledWithout E (nI (8 * p + i)) (nI (zcnt sc.1 n)) (nI en) S0 = L_Census_doubledWithout_13 zF E (nI (8 * p + i)) (nI (zcnt sc.1 n)) (nI en) (nI 0) (nI 0) S1 := by
    simp [f_Census_doubledWithout, -Prod.exists, -Prod.forall, ↓bb_gf, ↓bb_gr, ↓bb_len, ↓bb_ga, ↓bb_gl, ↓bb_go, ↓bb_pf, ↓bb_pz, ↓bb_pr, ↓bb_pa, ↓bb_pb, ↓bb_pl, ↓bb_po, ↓bb_cl, ↓bb_some, ↓bb_RI, ↓bb_RJ, mm_hI, mm_hJ, mm_hR, mm_nI, mm_nJ, mm_nR, mm_sI, mm_sJ, mm_sR, mm_RI, mm_RJ, mm_IJ, mm_IR, mm_JI, mm_JR, mm_II, mm_JJ, mm_RR, hk0.1, ↓bS hk0.2.2.2.1, hk0.2.2.2.2.1.1, ↓bS a1]; rfl
  rw [st]
  have f1 : zfq (wDw E) (vLn1 E) S0 S1 := fq_fr (fr_mono a2 (fun b j h => by unfold wDw; omega))
  refine loop_g (α := Nat) (N := zcnt sc.1 n) (by omega) (fun F m k S => L_Census_doubledWithout_13 F E (nI (8 * p + i)) (nI (zcnt sc.1 n)) (nI en) (nI m) (nI k) S) (fun m k S => zfq (wDw E) (vLn1 E) S0 S ∧ rCen S E ∧ m = fb_ct (fun j => (ztwin (zoc sc.1 sc.2.2 (zasd asd p i)) j).isSome) k ∧ m ≤ en ∧ cOut S (E + 5) k (zoc sc.1 sc.2.2 (zasd asd p i)) ∧ pSt S (E + 5) k (zoc sc.1 sc.2.2 (zasd asd p i))) (fun o => ∃ S', o = some (nI (min (zdbl (zoc sc.1 sc.2.2 (zasd asd p i)) (zcnt sc.1 n)) en), S') ∧ zfq (wDw E) (vLn1 E) S0 S' ∧ rCen S' E) (fun F m S h => ?_) (fun F m k S hk h kk => ?_) 0 0 S1 (by omega) ⟨f1, rCen_sm hr0 (sm_fr a2 (fun b j h1 h2 => by omega)), rfl, by omega, fun j hj => by omega, a3⟩
  · obtain ⟨hf, hr, hm, hme, _⟩ := h
    have hx : ¬ nI (zcnt sc.1 n) < nI (zcnt sc.1 n) := by rw [nI_ltI (by omega) (by omega)]; omega
    refine ⟨S, ?_, hf, hr⟩
    have e : min (zdbl (zoc sc.1 sc.2.2 (zasd asd p i)) (zcnt sc.1 n)) en = m := by
      have : zdbl (zoc sc.1 sc.2.2 (zasd asd p i)) (zcnt sc.1 n) = m := hm.symm
      omega
    rw [e]
    simp [L_Census_doubledWithout_13, hx]
  · obtain ⟨hf, hr, hm, hme, hc, hp5⟩ := h
    have hx : nI k < nI (zcnt sc.1 n) := by rw [nI_ltI (by omega) (by omega)]; omega
    by_cases qm : m < en
    · have lm : nI m < nI en := (nI_ltI (by omega) (by omega)).2 qm
      have hkc := kCen_fq hk0 hf (fun j hj => by unfold vLn1; omega) (fun j => by unfold vLn1; omega) (fun j => by unfold vLn1; omega)
      have h9' : zR S E 9 = some T := by rw [fq_R hf (by unfold vLn1; omega)]; exact h9
      have hS := scr_sm hS0 (sm_fq (lo := T) (hi := T + 172) hf (fun b j h1 h2 => ⟨by unfold wDw; omega, by unfold vLn1; omega⟩)) (by omega) (by omega)
      have hd := dCen_sm hd0 (sm_fq hf (fun b j h1 h2 => ⟨by unfold wDw; omega, by unfold vLn1; omega⟩)) (sm_fq hf (fun b j h1 h2 => ⟨by unfold wDw; omega, by unfold vLn1; omega⟩))
      have z : zinb (nI k) 1364 = true := (nn_in (by omega)).2 (by omega)
      have c : (nI k).toNatClampNeg = k := nI_clamp (by omega)
      have e1 : nI k + 1 = nI (k + 1) := nI_add k 1
      have v := (hd.2.2 k (by omega)).1
      have bl := bits_lt (fun x => (zsvl sc.1 sc.2.2 asd k).contains x) 24
      have bt : (nI (zbits 24 (fun x => (zsvl sc.1 sc.2.2 asd k).contains x)) >>> (nI (8 * p + i) &&& 31)) &&& 1 = if (zsvl sc.1 sc.2.2 asd k).contains (8 * p + i) then 1 else 0 := by
        have := nn_bit (n := zbits 24 (fun x => (zsvl sc.1 sc.2.2 asd k).contains x)) (k := 8 * p + i) (by omega) (by omega)
        rw [bits_tb] at this
        have e24 : decide (8 * p + i < 24) = true := by simp; omega
        rw [e24, Bool.true_and] at this
        exact this
      have am1 : nI m + 1 = nI (m + 1) := nI_add m 1
      have am0 : nI m + 0 = nI m := nI_add m 0
      have ctS : fb_ct (fun j => (ztwin (zoc sc.1 sc.2.2 (zasd asd p i)) j).isSome) (k + 1) = m + (if (ztwin (zoc sc.1 sc.2.2 (zasd asd p i)) k).isSome then 1 else 0) := by rw [fb_ct_succ, ← hm]
      have goOn : ∀ S', zfq (wDw E) (vLn1 E) S S' → rCen S' E → cOut S' (E + 5) (k + 1) (zoc sc.1 sc.2.2 (zasd asd p i)) → pSt S' (E + 5) (k + 1) (zoc sc.1 sc.2.2 (zasd asd p i)) → (∃ S'', (if zsI (ztwin (zoc sc.1 sc.2.2 (zasd asd p i)) k) = -1 then L_Census_doubledWithout_13 F E (nI (8 * p + i)) (nI (zcnt sc.1 n)) (nI en) (nI m) (nI (k + 1)) S' else L_Census_doubledWithout_13 F E (nI (8 * p + i)) (nI (zcnt sc.1 n)) (nI en) (nI (m + 1)) (nI (k + 1)) S') = some (nI (min (zdbl (zoc sc.1 sc.2.2 (zasd asd p i)) (zcnt sc.1 n)) en), S'') ∧ zfq (wDw E) (vLn1 E) S0 S'' ∧ rCen S'' E) := by
        intro S' g1 g2 g3 g4
        cases et : ztwin (zoc sc.1 sc.2.2 (zasd asd p i)) k with
        | none =>
          rw [et] at ctS
          rw [if_pos (show zsI none = -1 from rfl)]
          exact kk m S' ⟨fq_trans hf g1, g2, by rw [ctS]; rfl, hme, g3, g4⟩
        | some j =>
          rw [et] at ctS
          have hj := (twin_some et).1
          have nj : ¬ zsI (some j) = -1 := (nn_eqm (i := j) (m := 1) (by omega) (by omega) (by omega)).1
          rw [if_neg nj]
          exact kk (m + 1) S' ⟨fq_trans hf g1, g2, by rw [ctS]; rfl, by omega, g3, g4⟩
      by_cases qs : (zsvl sc.1 sc.2.2 asd k).contains (8 * p + i) = true
      · rw [if_pos qs] at bt
        obtain ⟨T1, T2, x, y, xs, t1, t2, t3, t4, t5, t6, t7, t8, t9, t10, t11, t12⟩ := cen_carry hkc hr hS hT hL (i := k) (by omega)
        have sp := c_spelled hkc.1 h9' hS.1.1 hS.2.1 hL (i := k) (by omega)
        have hk1 := kCen_fr hkc t3
        have hk2 := kCen_fq hk1 t4 (fun j hj => by unfold vPd; omega) (fun j => by unfold vPd; omega) (fun j => by unfold vPd; omega)
        have hc2 : cOut T2 (E + 5) k (zoc sc.1 sc.2.2 (zasd asd p i)) := cOut_sm (cOut_sm hc (sm_fr t3 (fun b j h1 h2 => by unfold rg; omega))) (sm_fq t4 (fun b j h1 h2 => ⟨by unfold rg; omega, by unfold vPd; omega⟩))
        have hp2 : pSt T2 (E + 5) k (zoc sc.1 sc.2.2 (zasd asd p i)) := pSt_sm (pSt_sm hp5 (sm_fr t3 (fun b j h1 h2 => by unfold rg; omega))) (sm_fq t4 (fun b j h1 h2 => ⟨by unfold rg; omega, by unfold vPd; omega⟩))
        obtain ⟨T3, p1, p2, p3, p4⟩ := o_put hk2.2.2.2.2.1 (by omega) hw c5.2 (i := k) (by omega) t9 t10 (by omega) hc2 hp2
        obtain ⟨hcar, ⟨ws, hws⟩, ⟨vs, hvs⟩⟩ := hr
        have hw23 : zh S (E + 23) = (8, 0) := hws.1
        have hc9 : zh T1 (E + 9) = (1, 0) := by rw [← t12, fq_h t4]
        have h91 : zR T1 E 9 = some T := by rw [fr_R t3]; exact h9'
        have st2 : L_Census_doubledWithout_13 (F + 1) E (nI (8 * p + i)) (nI (zcnt sc.1 n)) (nI en) (nI m) (nI k) S = (if zsI (ztwin (zoc sc.1 sc.2.2 (zasd asd p i)) k) = -1 then L_Census_doubledWithout_13 F E (nI (8 * p + i)) (nI (zcnt sc.1 n)) (nI en) (nI m) (nI (k + 1)) T3 else L_Census_doubledWithout_13 F E (nI (8 * p + i)) (nI (zcnt sc.1 n)) (nI en) (nI (m + 1)) (nI (k + 1)) T3) := by
          have n10 : ¬ (1 : Int32) = 0 := by decide
          rw [L_Census_doubledWithout_13]
          simp only [-Prod.exists, -Prod.forall, ↓bb_gf, ↓bb_gr, ↓bb_len, ↓bb_ga, ↓bb_gl, ↓bb_go, ↓bb_pf, ↓bb_pz, ↓bb_pr, ↓bb_pa, ↓bb_pb, ↓bb_pl, ↓bb_po, ↓bb_cl, ↓bb_some, ↓bb_RI, ↓bb_RJ, mm_hI, mm_hJ, mm_hR, mm_nI, mm_nJ, mm_nR, mm_sI, mm_sJ, mm_sR, mm_RI, mm_RJ, mm_IJ, mm_IR, mm_JI, mm_JR, mm_II, mm_JJ, mm_RR, hx, lm, if_true, hkc.1, ↓bS hkc.2.2.2.2.2.2.2.2.1, hkc.2.2.2.2.2.2.2.2.2.1, z, and_self, c, v, bt, n10, if_false, ↓bS hkc.2.2.2.2.2.2.1, ↓bS sp, hw23, ↓bS t1, hk1.1, ↓bS hk1.2.2.2.1, ↓bS hk1.2.2.2.2.2.1, ↓bS h91, ↓bS hk1.2.2.2.2.2.2.1, hc9, ↓bS t2, hk2.1, ↓bS hk2.2.2.2.2.2.1, t12, ↓bS t6, hk2.2.2.2.2.1.1, ↓bS p1, am0, am1, e1]
        rw [st2]
        refine goOn T3 (fq_trans (fq_fr (fr_mono t3 (fun b j h => by unfold rg at h; unfold wDw; omega))) (fq_trans (fq_mono t4 (fun b j h => by unfold rg at h; unfold wDw; omega) (fun b j h => h)) (fq_fr (fr_mono p2 (fun b j h => by unfold wOut at h; unfold wDw; omega))))) ?_ p3 p4
        refine ⟨⟨x, y, aCar_sm t5 (sm_fr (lo := E + 9) (hi := E + 23) p2 (fun b j h1 h2 => by unfold wOut; omega)) (by omega) (by omega)⟩, ?_, vs, ?_⟩
        · obtain ⟨S1', zs, b1, b2, b3, b4⟩ := row_take hws (by omega) (lN (zval (zword sc.1 k)))
          have : S1' = T1 := by
            rw [t1] at b1
            exact (congrArg Prod.snd (Option.some.inj b1)).symm
          subst this
          exact ⟨zs, row_sm (row_sm b3 (sm_fq (lo := E + 23) (hi := E + 25) t4 (fun b j h1 h2 => ⟨by unfold rg; omega, by unfold vPd; omega⟩)) (by omega) (by omega)) (sm_fr (lo := E + 23) (hi := E + 25) p2 (fun b j h1 h2 => by unfold wOut; omega)) (by omega) (by omega)⟩
        · exact row_sm (row_sm (row_sm hvs (sm_fr (lo := E + 25) (hi := E + 27) t3 (fun b j h1 h2 => by unfold rg; omega)) (by omega) (by omega)) (sm_fq (lo := E + 25) (hi := E + 27) t4 (fun b j h1 h2 => ⟨by unfold rg; omega, by unfold vPd; omega⟩)) (by omega) (by omega)) (sm_fr (lo := E + 25) (hi := E + 27) p2 (fun b j h1 h2 => by unfold wOut; omega)) (by omega) (by omega)
      · rw [if_neg qs] at bt
        rw [Bool.not_eq_true] at qs
        have eo := oc_flip (L := sc.1) wp hb (by omega) qs
        obtain ⟨T3, p1, p2, p3, p4⟩ := o_putSame hkc.2.2.2.2.1 hkc.2.2.1 (by omega) (by omega) hw c5.2 (i := k) (by omega) (by rw [eo]; exact hd.1 k (by omega)) hc hp5
        have st2 : L_Census_doubledWithout_13 (F + 1) E (nI (8 * p + i)) (nI (zcnt sc.1 n)) (nI en) (nI m) (nI k) S = (if zsI (ztwin (zoc sc.1 sc.2.2 (zasd asd p i)) k) = -1 then L_Census_doubledWithout_13 F E (nI (8 * p + i)) (nI (zcnt sc.1 n)) (nI en) (nI m) (nI (k + 1)) T3 else L_Census_doubledWithout_13 F E (nI (8 * p + i)) (nI (zcnt sc.1 n)) (nI en) (nI (m + 1)) (nI (k + 1)) T3) := by
          rw [L_Census_doubledWithout_13]
          simp only [-Prod.exists, -Prod.forall, ↓bb_gf, ↓bb_gr, ↓bb_len, ↓bb_ga, ↓bb_gl, ↓bb_go, ↓bb_pf, ↓bb_pz, ↓bb_pr, ↓bb_pa, ↓bb_pb, ↓bb_pl, ↓bb_po, ↓bb_cl, ↓bb_some, ↓bb_RI, ↓bb_RJ, mm_hI, mm_hJ, mm_hR, mm_nI, mm_nJ, mm_nR, mm_sI, mm_sJ, mm_sR, mm_RI, mm_RJ, mm_IJ, mm_IR, mm_JI, mm_JR, mm_II, mm_JJ, mm_RR, hx, lm, if_true, hkc.1, ↓bS hkc.2.2.2.2.2.2.2.2.1, hkc.2.2.2.2.2.2.2.2.2.1, z, and_self, c, v, bt, ↓bS hkc.2.2.2.1, ↓bS hkc.2.1, hkc.2.2.2.2.1.1, ↓bS p1, am0, am1, e1]
        rw [st2]
        exact goOn T3 (fq_fr (fr_mono p2 (fun b j h => by unfold wOut at h; unfold wDw; omega))) (rCen_sm hr (sm_fr p2 (fun b j h1 h2 => by unfold wOut; omega))) p3 p4
    · have lm : ¬ nI m < nI en := by rw [nI_ltI (by omega) (by omega)]; exact qm
      have hmono := ct_le_dbl (oc := zoc sc.1 sc.2.2 (zasd asd p i)) (k := k) (N := zcnt sc.1 n) (by omega)
      rw [← hm] at hmono
      refine ⟨S, ?_, hf, hr⟩
      rw [Nat.min_eq_right (by omega), show en = m by omega, L_Census_doubledWithout_13]
      have lm2 : ¬ nI m < nI m := by rw [nI_ltI (by omega) (by omega)]; omega
      simp only [hx, if_true, lm2, if_false]
end
