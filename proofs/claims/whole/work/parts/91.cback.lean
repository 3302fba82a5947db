/-! the class: rules that served, words that come back, rules turned aside -/
def zsA (L : Nat) (ps : List zPs) (asd : Nat → Nat) : Nat → Nat → Bool
  | 0, _ => false
  | i + 1, k => zsA L ps asd i k || (decide ((zoc L ps asd i).1 = 0) && (zsvl L ps asd i).contains k)
theorem sA_su {L : Nat} {ps : List zPs} {asd : Nat → Nat} {p k : Nat} : ∀ i, zsA L ps asd i (8 * p + k) = zsu L ps asd p i k
  | 0 => rfl
  | i + 1 => by rw [zsA, zsu, sA_su i]
theorem bits_lor {n : Nat} {f g : Nat → Bool} : zbits n f ||| zbits n g = zbits n (fun k => f k || g k) := by
  refine bits_ext (fun i => ?_)
  rw [Nat.testBit_or, bits_tb, bits_tb, bits_tb]
  cases decide (i < n) <;> rfl
theorem bits_part {f : Nat → Bool} {p : Nat} (hp : p < 3) : zbits 24 f / 2 ^ (8 * p) % 2 ^ 8 = zbits 8 (fun k => f (8 * p + k)) := by
  refine bits_ext (fun i => ?_)
  rw [Nat.testBit_mod_two_pow, Nat.testBit_div_two_pow, bits_tb, bits_tb]
  by_cases q : i < 8
  · have : i + 8 * p < 24 := by omega
    simp [q, this, Nat.add_comm]
  · simp [q]
section
variable {S : zM} {E T K : Nat} {sc : zSc} {asd : Nat → Nat}
theorem c_servingIn (hq : qCen S E T sc asd K) {n p : Nat} (hn : n ≤ 5) (hnK : zcnt sc.1 n ≤ K) (hp : p < 3) : f_Census_servingIn E (nI p) (nI n) S = some (nI (zbits 8 (fun k => zsu sc.1 sc.2.2 asd p (zcnt sc.1 n) k)), S) := by
  have hq0 := hq
  obtain ⟨hk, hS, h9, hL, hK5, hd⟩ := hq
  have c5 := cnt_le (n := n) hL hn
  have ct := cen_count hk hS h9 hL hn
  have st : f_Census_servingIn E (nI p) (nI n) S = L_Census_servingIn_12 zF E (nI p) (nI (zcnt sc.1 n)) 0 (nI 0) S := by
    simp [f_Census_servingIn, -Prod.exists, -Prod.forall, ↓bb_gf, ↓bb_gr, ↓bb_len, ↓bb_ga, ↓bb_gl, ↓bb_go, ↓bb_pf, ↓bb_pz, ↓bb_pr, ↓bb_pa, ↓bb_pb, ↓bb_pl, ↓bb_po, ↓bb_cl, ↓bb_some, ↓bb_RI, ↓bb_RJ, mm_hI, mm_hJ, mm_hR, mm_nI, mm_nJ, mm_nR, mm_sI, mm_sJ, mm_sR, mm_RI, mm_RJ, mm_IJ, mm_IR, mm_JI, mm_JR, mm_II, mm_JJ, mm_RR, hk.1, ↓bS ct]; rfl
  rw [st]
  refine loop_g (α := Int32) (N := zcnt sc.1 n) (by omega) (fun F a i _ => L_Census_servingIn_12 F E (nI p) (nI (zcnt sc.1 n)) a (nI i) S) (fun a i _ => a = nI (zbits 24 (zsA sc.1 sc.2.2 asd i))) (fun o => o = some (nI (zbits 8 (fun k => zsu sc.1 sc.2.2 asd p (zcnt sc.1 n) k)), S)) (fun F a _ h => ?_) (fun F a i X hi h k => ?_) 0 0 S (by omega) (by
    have : zbits 24 (zsA sc.1 sc.2.2 asd 0) = 0 := bits_ext (fun i => by rw [bits_tb]; simp [zsA])
    rw [this]; rfl)
  · have hx : ¬ nI (zcnt sc.1 n) < nI (zcnt sc.1 n) := by rw [nI_ltI (by omega) (by omega)]; omega
    have bb : f_Cl_bitsBelow 8 S = some (nI 255, S) := rfl
    have hl := bits_lt (zsA sc.1 sc.2.2 asd (zcnt sc.1 n)) 24
    have m8 : nI p * 8 = nI (8 * p) := by rw [show (8 : Int32) = nI 8 from rfl, pk_mul, Nat.mul_comm]
    have sh : nI (zbits 24 (zsA sc.1 sc.2.2 asd (zcnt sc.1 n))) >>> (nI (8 * p) &&& 31) = nI (zbits 24 (zsA sc.1 sc.2.2 asd (zcnt sc.1 n)) / 2 ^ (8 * p)) := nn_shr (by omega) (by omega)
    have mk : nI (zbits 24 (zsA sc.1 sc.2.2 asd (zcnt sc.1 n)) / 2 ^ (8 * p)) &&& nI 255 = nI (zbits 24 (zsA sc.1 sc.2.2 asd (zcnt sc.1 n)) / 2 ^ (8 * p) % 2 ^ 8) := fa_mask _ 8
    have e : zbits 8 (fun k => zsA sc.1 sc.2.2 asd (zcnt sc.1 n) (8 * p + k)) = zbits 8 (fun k => zsu sc.1 sc.2.2 asd p (zcnt sc.1 n) k) := bits_cong (fun k _ => sA_su _)
    rw [← e, ← bits_part hp, h, L_Census_servingIn_12]
    simp only [hx, if_false, ↓bS bb, m8, sh, mk]
  · have hx : nI i < nI (zcnt sc.1 n) := by rw [nI_ltI (by omega) (by omega)]; omega
    have e1 : nI i + 1 = nI (i + 1) := nI_add i 1
    have cl := cen_len hk (i := i) (by omega)
    by_cases gi : (zoc sc.1 sc.2.2 asd i).1 = 0
    · have ln := (len_good hq0 (i := i) (by omega) gi).2
      have z : zinb (nI i) 1364 = true := (nn_in (by omega)).2 (by omega)
      have c : (nI i).toNatClampNeg = i := nI_clamp (by omega)
      have v := (hd.2.2 i (by omega)).1
      have := k (a ||| nI (zbits 24 (fun k => (zsvl sc.1 sc.2.2 asd i).contains k))) X (by
        rw [h, fa_or, bits_lor]
        congr 1
        exact bits_cong (fun k _ => by simp [zsA, gi]))
      rw [L_Census_servingIn_12]
      simpa [-Prod.exists, -Prod.forall, ↓bb_gf, ↓bb_gr, ↓bb_len, ↓bb_ga, ↓bb_gl, ↓bb_go, ↓bb_pf, ↓bb_pz, ↓bb_pr, ↓bb_pa, ↓bb_pb, ↓bb_pl, ↓bb_po, ↓bb_cl, ↓bb_some, ↓bb_RI, ↓bb_RJ, mm_hI, mm_hJ, mm_hR, mm_nI, mm_nJ, mm_nR, mm_sI, mm_sJ, mm_sR, mm_RI, mm_RJ, mm_IJ, mm_IR, mm_JI, mm_JR, mm_II, mm_JJ, mm_RR, hx, hk.1, ↓bS cl, ln, ↓bS hk.2.2.2.2.2.2.2.2.1, hk.2.2.2.2.2.2.2.2.2.1, z, c, v, e1] using this
    · have ln := (len_bad hq0 (i := i) (by omega) gi).2
      have := k a X (by
        rw [h]
        congr 1
        exact bits_cong (fun k _ => by simp [zsA, gi]))
      rw [L_Census_servingIn_12]
      simpa [-Prod.exists, -Prod.forall, ↓bb_gf, ↓bb_gr, ↓bb_len, ↓bb_ga, ↓bb_gl, ↓bb_go, ↓bb_pf, ↓bb_pz, ↓bb_pr, ↓bb_pa, ↓bb_pb, ↓bb_pl, ↓bb_po, ↓bb_cl, ↓bb_some, ↓bb_RI, ↓bb_RJ, mm_hI, mm_hJ, mm_hR, mm_nI, mm_nJ, mm_nR, mm_sI, mm_sJ, mm_sR, mm_RI, mm_RJ, mm_IJ, mm_IR, mm_JI, mm_JR, mm_II, mm_JJ, mm_RR, hx, hk.1, ↓bS cl, ln, e1] using this
def wBk1 (E : Nat) : Nat → Nat → Prop := fun b _ => E + 9 ≤ b ∧ b < E + 27
theorem c_comesBack (hq : qCen S E T sc asd K) (hr : rCen S E) (hT : T + 172 ≤ E) {i : Nat} (hi : i < K) (gi : (zoc sc.1 sc.2.2 asd i).1 = 0) : ∃ S', f_Census_comesBack E (nI i) S = some (if zbk sc.1 sc.2.2 asd i = 1 then 1 else 0, S') ∧ zfq (wBk1 E) (vLn1 E) S S' ∧ rCen S' E := by
  have hq0 := hq
  obtain ⟨hk, hS, h9, hL, hK5, hd⟩ := hq
  have h5 := (cnt_le hL (Nat.le_refl 5)).2
  have hw := oc_w (asd := asd) hL hS.2.2.2.2.2.2.2.2.2
  have hi5 : i < zcnt sc.1 5 := by omega
  obtain ⟨w1, w2, w3, w4, w5, w6⟩ := word_ok hL hi5
  obtain ⟨⟨x0, y0, hc⟩, ⟨ws, hws⟩, ⟨vs, hvs⟩⟩ := hr
  obtain ⟨_, o8, o60⟩ := hw i hi5
  obtain ⟨S1, a1, a2, a3⟩ := o_into hk.2.2.1 hw h5 hi5 gi (hd.1 i hi) hvs (by omega)
  have hk1 := kCen_fr hk a2
  have h91 : zR S1 E 9 = some T := by rw [fr_R a2]; exact h9
  have hS1 := scr_sm hS (sm_fr (lo := T) (hi := T + 172) a2 (fun b j h1 h2 => by unfold rg; omega)) (by omega) (by omega)
  have hc1 := aCar_sm hc (sm_fr (lo := E + 9) (hi := E + 23) a2 (fun b j h1 h2 => by unfold rg; omega)) (by omega) (by omega)
  have hw1 := row_sm hws (sm_fr (lo := E + 23) (hi := E + 25) a2 (fun b j h1 h2 => by unfold rg; omega)) (by omega) (by omega)
  have sp := c_spelled hk1.1 h91 hS1.1.1 hS1.2.1 hL (i := i) (by omega)
  obtain ⟨S2, zs, b1, b2, b3, b4⟩ := row_take hw1 (by omega) (lN (zval (zword sc.1 i)))
  have ev := wl_val w6 w1 (by omega)
  rw [ev] at b1
  simp only [Option.isSome_some, if_true] at b1
  have ezs := b4 _ ev
  subst ezs
  have hk2 := kCen_fr hk1 b2
  have h92 : zR S2 E 9 = some T := by rw [fr_R b2]; exact h91
  have hS2 := scr_sm hS1 (sm_fr (lo := T) (hi := T + 172) b2 (fun b j h1 h2 => by unfold rg; omega)) (by omega) (by omega)
  have hc2 := aCar_sm hc1 (sm_fr (lo := E + 9) (hi := E + 23) b2 (fun b j h1 h2 => by unfold rg; omega)) (by omega) (by omega)
  have ha2 := row_sm a3 (sm_fr (lo := E + 25) (hi := E + 27) b2 (fun b j h1 h2 => by unfold rg; omega)) (by omega) (by omega)
  obtain ⟨S3, x, y, t1, t2, t3, t4, t5⟩ := bring true hS2 (by omega) hc2 ha2 (by omega) o60
  simp only [if_true] at t1
  have t1' : f_Carrier_bring (E + 9) T (E + 25) 1 S2 = some (nI (zcar sc.2.2 asd true (zcar sc.2.2 asd false (zword sc.1 i)).2.1).1, S3) := t1
  have hk3 := kCen_fq hk2 t2 (fun j hj => by unfold vPd; omega) (fun j => by unfold vPd; omega) (fun j => by unfold vPd; omega)
  have hx3 : zR S3 (E + 9) 3 = some x := t3.1.2.2.2.2.2.2.2.2.1
  have hh3 : zh S3 (E + 9) = (1, 0) := t3.1.1
  have hh2 : zh S2 (E + 9) = (1, 0) := hc2.1.1
  have hw3 := row_sm b3 (sm_fq (lo := E + 23) (hi := E + 25) t2 (fun b j h1 h2 => ⟨by unfold rg; omega, by unfold vPd; omega⟩)) (by omega) (by omega)
  have ha3 := row_sm ha2 (sm_fq (lo := E + 25) (hi := E + 27) t2 (fun b j h1 h2 => ⟨by unfold rg; omega, by unfold vPd; omega⟩)) (by omega) (by omega)
  have hcd := car_code sc.2.2 asd true (zcar sc.2.2 asd false (zword sc.1 i)).2.1
  refine ⟨S3, ?_, fq_trans (fq_fr (fr_trans (fr_mono a2 (fun b j h => by unfold rg at h; unfold wBk1; omega)) (fr_mono b2 (fun b j h => by unfold rg at h; unfold wBk1; omega)))) (fq_mono t2 (fun b j h => by unfold rg at h; unfold wBk1; omega) (fun b j h => h)), ⟨x, y, t3⟩, ⟨_, hw3⟩, ⟨_, ha3⟩⟩
  have gi' : (zcar sc.2.2 asd false (zword sc.1 i)).1 = 0 := gi
  have ez : zbk sc.1 sc.2.2 asd i = if (zcar sc.2.2 asd true (zcar sc.2.2 asd false (zword sc.1 i)).2.1).1 = 0 ∧ (zcar sc.2.2 asd true (zcar sc.2.2 asd false (zword sc.1 i)).2.1).2.1 = zword sc.1 i then 1 else 2 := by unfold zbk; rw [if_pos gi']
  by_cases q : (zcar sc.2.2 asd true (zcar sc.2.2 asd false (zword sc.1 i)).2.1).1 = 0
  · have g : nI (zcar sc.2.2 asd true (zcar sc.2.2 asd false (zword sc.1 i)).2.1).1 = 0 := by rw [q]; rfl
    have hx := (t5 q).1
    have sm : f_Row_same x (E + 23) S3 = some (if (zcar sc.2.2 asd true (zcar sc.2.2 asd false (zword sc.1 i)).2.1).2.1 = zword sc.1 i then 1 else 0, S3) := row_same hx hw3
    by_cases q2 : (zcar sc.2.2 asd true (zcar sc.2.2 asd false (zword sc.1 i)).2.1).2.1 = zword sc.1 i
    · rw [if_pos q2] at sm
      rw [if_pos (by rw [ez, if_pos ⟨q, q2⟩])]
      simp [f_Census_comesBack, -Prod.exists, -Prod.forall, ↓bb_gf, ↓bb_gr, ↓bb_len, ↓bb_ga, ↓bb_gl, ↓bb_go, ↓bb_pf, ↓bb_pz, ↓bb_pr, ↓bb_pa, ↓bb_pb, ↓bb_pl, ↓bb_po, ↓bb_cl, ↓bb_some, ↓bb_RI, ↓bb_RJ, mm_hI, mm_hJ, mm_hR, mm_nI, mm_nJ, mm_nR, mm_sI, mm_sJ, mm_sR, mm_RI, mm_RJ, mm_IJ, mm_IR, mm_JI, mm_JR, mm_II, mm_JJ, mm_RR, hk.1, h9, ↓bS hk.2.1, ↓bS hk.2.2.2.2.2.2.2.1, hk.2.2.1.1, ↓bS a1, hk1.1, ↓bS hk1.2.2.2.2.2.2.1, ↓bS sp, hw1.1, ↓bS b1, hk2.1, ↓bS hk2.2.2.2.2.2.1, ↓bS h92, ↓bS hk2.2.2.2.2.2.2.2.1, hh2, ↓bS t1', g, hk3.1, ↓bS hk3.2.2.2.2.2.1, hh3, ↓bS hx3, ↓bS hk3.2.2.2.2.2.2.1, hx.1, ↓bS sm]
    · rw [if_neg q2] at sm
      rw [if_neg (by rw [ez, if_neg (fun w => q2 w.2)]; omega)]
      simp [f_Census_comesBack, -Prod.exists, -Prod.forall, ↓bb_gf, ↓bb_gr, ↓bb_len, ↓bb_ga, ↓bb_gl, ↓bb_go, ↓bb_pf, ↓bb_pz, ↓bb_pr, ↓bb_pa, ↓bb_pb, ↓bb_pl, ↓bb_po, ↓bb_cl, ↓bb_some, ↓bb_RI, ↓bb_RJ, mm_hI, mm_hJ, mm_hR, mm_nI, mm_nJ, mm_nR, mm_sI, mm_sJ, mm_sR, mm_RI, mm_RJ, mm_IJ, mm_IR, mm_JI, mm_JR, mm_II, mm_JJ, mm_RR, hk.1, h9, ↓bS hk.2.1, ↓bS hk.2.2.2.2.2.2.2.1, hk.2.2.1.1, ↓bS a1, hk1.1, ↓bS hk1.2.2.2.2.2.2.1, ↓bS sp, hw1.1, ↓bS b1, hk2.1, ↓bS hk2.2.2.2.2.2.1, ↓bS h92, ↓bS hk2.2.2.2.2.2.2.2.1, hh2, ↓bS t1', g, hk3.1, ↓bS hk3.2.2.2.2.2.1, hh3, ↓bS hx3, ↓bS hk3.2.2.2.2.2.2.1, hx.1, ↓bS sm]
  · have g : ¬ nI (zcar sc.2.2 asd true (zcar sc.2.2 asd false (zword sc.1 i)).2.1).1 = 0 := fun w => q ((nI_eq (b := 0) (by omega) (by omega)).1 w)
    rw [if_neg (by rw [ez, if_neg (fun w => q w.1)]; omega)]
    simp [f_Census_comesBack, -Prod.exists, -Prod.forall, ↓bb_gf, ↓bb_gr, ↓bb_len, ↓bb_ga, ↓bb_gl, ↓bb_go, ↓bb_pf, ↓bb_pz, ↓bb_pr, ↓bb_pa, ↓bb_pb, ↓bb_pl, ↓bb_po, ↓bb_cl, ↓bb_some, ↓bb_RI, ↓bb_RJ, mm_hI, mm_hJ, mm_hR, mm_nI, mm_nJ, mm_nR, mm_sI, mm_sJ, mm_sR, mm_RI, mm_RJ, mm_IJ, mm_IR, mm_JI, mm_JR, mm_II, mm_JJ, mm_RR, hk.1, h9, ↓bS hk.2.1, ↓bS hk.2.2.2.2.2.2.2.1, hk.2.2.1.1, ↓bS a1, hk1.1, ↓bS hk1.2.2.2.2.2.2.1, ↓bS sp, hw1.1, ↓bS b1, hk2.1, ↓bS hk2.2.2.2.2.2.1, ↓bS h92, ↓bS hk2.2.2.2.2.2.2.2.1, hh2, ↓bS t1', g]
/-- the first B words: whether they come back -/
def bCen (S : zM) (E L : Nat) (ps : List zPs) (asd : Nat → Nat) (B : Nat) : Prop := ∀ i, i < B → zI S (E + 29) i = (if zbk L ps asd i = 1 then 1 else 0)
def wBk2 (E : Nat) : Nat → Nat → Prop := fun b j => (E + 9 ≤ b ∧ b < E + 27) ∨ b = E + 29 ∨ (b = E ∧ j = 11)
theorem qCen_fq {W V : Nat → Nat → Prop} {S' : zM} (hq : qCen S E T sc asd K) (hf : zfq W V S S') (hT : T + 172 ≤ E) (hW : ∀ b j, W b j → E ≤ b ∧ ¬ (E + 2 ≤ b ∧ b < E + 5) ∧ ¬ (E + 27 ≤ b ∧ b < E + 29)) (hV : ∀ b j, V b j → b = E + 9) : qCen S' E T sc asd K := by
  obtain ⟨hk, hS, h9, hL, hK5, hd⟩ := hq
  refine ⟨kCen_fq hk hf (fun j hj w => by have := hV _ _ w; omega) (fun j w => by have := hV _ _ w; omega) (fun j w => by have := hV _ _ w; omega), scr_sm hS (sm_fq (lo := T) (hi := T + 172) hf (fun b j h1 h2 => ⟨fun w => by have := hW _ _ w; omega, fun w => by have := hV _ _ w; omega⟩)) (by omega) (by omega), by rw [fq_R hf (fun w => by have := hV _ _ w; omega)]; exact h9, hL, hK5, dCen_sm hd (sm_fq hf (fun b j h1 h2 => ⟨fun w => by have := hW _ _ w; omega, fun w => by have := hV _ _ w; omega⟩)) (sm_fq hf (fun b j h1 h2 => ⟨fun w => by have := hW _ _ w; omega, fun w => by have := hV _ _ w; omega⟩))⟩
theorem c_learnBack {S0 : zM} (hq0 : qCen S0 E T sc asd K) (hr0 : rCen S0 E) (hT : T + 172 ≤ E) (hE : E ≠ 0) {n B : Nat} (hn : n ≤ 5) (hnK : zcnt sc.1 n ≤ K) (hB : B ≤ K) (h11 : zI S0 E 11 = nI B) (hb0 : bCen S0 E sc.1 sc.2.2 asd B) : ∃ S', f_Census_learnBack E (nI n) S0 = some S' ∧ zfq (wBk2 E) (vLn1 E) S0 S' ∧ rCen S' E ∧ zI S' E 11 = nI (max B (zcnt sc.1 n)) ∧ bCen S' E sc.1 sc.2.2 asd (max B (zcnt sc.1 n)) := by
  have hL := hq0.2.2.2.1
  have hK5 := hq0.2.2.2.2.1
  have c5 := cnt_le (n := n) hL hn
  have ct := cen_count hq0.1 hq0.2.1 hq0.2.2.1 hL hn
  have st : f_Census_learnBack E (nI n) S0 = L_Census_learnBack_11 zF E (nI (zcnt sc.1 n)) (nI B) S0 := by
    simp [f_Census_learnBack, -Prod.exists, -Prod.forall, ↓bb_gf, ↓bb_gr, ↓bb_len, ↓bb_ga, ↓bb_gl, ↓bb_go, ↓bb_pf, ↓bb_pz, ↓bb_pr, ↓bb_pa, ↓bb_pb, ↓bb_pl, ↓bb_po, ↓bb_cl, ↓bb_some, ↓bb_RI, ↓bb_RJ, mm_hI, mm_hJ, mm_hR, mm_nI, mm_nJ, mm_nR, mm_sI, mm_sJ, mm_sR, mm_RI, mm_RJ, mm_IJ, mm_IR, mm_JI, mm_JR, mm_II, mm_JJ, mm_RR, hq0.1.1, ↓bS ct, h11]
  rw [st]
  have fin : ∀ F (S : zM), zfq (wBk2 E) (vLn1 E) S0 S → rCen S E → zI S E 11 = nI B → bCen S E sc.1 sc.2.2 asd (max B (zcnt sc.1 n)) → ∀ i, zcnt sc.1 n ≤ i → i < 5000 → ∃ S', L_Census_learnBack_11 (F + 1) E (nI (zcnt sc.1 n)) (nI i) S = some S' ∧ zfq (wBk2 E) (vLn1 E) S0 S' ∧ rCen S' E ∧ zI S' E 11 = nI (max B (zcnt sc.1 n)) ∧ bCen S' E sc.1 sc.2.2 asd (max B (zcnt sc.1 n)) := by
    intro F S hf hr h11 hb i hi hi2
    have hk := kCen_fq hq0.1 hf (fun j hj => by unfold vLn1; omega) (fun j => by unfold vLn1; omega) (fun j => by unfold vLn1; omega)
    have hx : ¬ nI i < nI (zcnt sc.1 n) := by rw [nI_ltI (by omega) (by omega)]; omega
    have mx : zmax (nI B) (nI (zcnt sc.1 n)) = nI (max B (zcnt sc.1 n)) := nn_max (by omega) (by omega)
    have f1 : zfr (fun b j => b = E ∧ j = 11) S (zwI S E 11 (nI (max B (zcnt sc.1 n)))) := fr_wI _ _ ⟨rfl, rfl⟩
    refine ⟨zwI S E 11 (nI (max B (zcnt sc.1 n))), ?_, fq_trans hf (fq_fr (fr_mono f1 (fun b j h => by unfold wBk2; omega))), rCen_sm hr (sm_fr f1 (fun b j h1 h2 => by omega)), by simp [-Prod.exists, -Prod.forall, zgf, zgr, zpf, zpz, zpr, zga, zgl, zgo, zpa, zpb, zpl, zpo, mm_len, zcl, Option.bind_some, Option.bind_none, mm_hI, mm_hJ, mm_hR, mm_nI, mm_nJ, mm_nR, mm_sI, mm_sJ, mm_sR, mm_RI, mm_RJ, mm_IJ, mm_IR, mm_JI, mm_JR, mm_II, mm_JJ, mm_RR], fun j hj => by rw [fr_I f1 (by omega)]; exact hb j hj⟩
    rw [L_Census_learnBack_11]
    simp [-Prod.exists, -Prod.forall, ↓bb_gf, ↓bb_gr, ↓bb_len, ↓bb_ga, ↓bb_gl, ↓bb_go, ↓bb_pf, ↓bb_pz, ↓bb_pr, ↓bb_pa, ↓bb_pb, ↓bb_pl, ↓bb_po, ↓bb_cl, ↓bb_some, ↓bb_RI, ↓bb_RJ, mm_hI, mm_hJ, mm_hR, mm_nI, mm_nJ, mm_nR, mm_sI, mm_sJ, mm_sR, mm_RI, mm_RJ, mm_IJ, mm_IR, mm_JI, mm_JR, mm_II, mm_JJ, mm_RR, hx, hk.1, h11, mx]
  by_cases hBn : B ≤ zcnt sc.1 n
  · refine loop_g (α := Unit) (N := zcnt sc.1 n) (by omega) (fun F _ i S => L_Census_learnBack_11 F E (nI (zcnt sc.1 n)) (nI i) S) (fun _ i S => zfq (wBk2 E) (vLn1 E) S0 S ∧ rCen S E ∧ zI S E 11 = nI B ∧ bCen S E sc.1 sc.2.2 asd i) (fun o => ∃ S', o = some S' ∧ zfq (wBk2 E) (vLn1 E) S0 S' ∧ rCen S' E ∧ zI S' E 11 = nI (max B (zcnt sc.1 n)) ∧ bCen S' E sc.1 sc.2.2 asd (max B (zcnt sc.1 n))) (fun F _ S h => ?_) (fun F _ i S hi h k => ?_) () B S0 hBn ⟨fq_refl _ _ _, hr0, h11, hb0⟩
    · obtain ⟨hf, hr, h11', hb⟩ := h
      exact fin F S hf hr h11' (by rw [Nat.max_eq_right hBn]; exact hb) _ (Nat.le_refl _) (by omega)
    · obtain ⟨hf, hr, h11', hb⟩ := h
      have hq := qCen_fq hq0 hf hT (fun b j h => by unfold wBk2 at h; omega) (fun b j h => by unfold vLn1 at h; omega)
      have hk := hq.1
      have hx : nI i < nI (zcnt sc.1 n) := by rw [nI_ltI (by omega) (by omega)]; omega
      have e1 : nI i + 1 = nI (i + 1) := nI_add i 1
      have z : zinb (nI i) 1364 = true := (nn_in (by omega)).2 (by omega)
      have c : (nI i).toNatClampNeg = i := nI_clamp (by omega)
      have cl := cen_len hk (i := i) (by omega)
      have step : ∀ (S1 : zM) (v : Int32), zfq (wBk1 E) (vLn1 E) S S1 → rCen S1 E → v = (if zbk sc.1 sc.2.2 asd i = 1 then 1 else 0) → zfq (wBk2 E) (vLn1 E) S0 (zwI S1 (E + 29) i v) ∧ rCen (zwI S1 (E + 29) i v) E ∧ zI (zwI S1 (E + 29) i v) E 11 = nI B ∧ bCen (zwI S1 (E + 29) i v) E sc.1 sc.2.2 asd (i + 1) := by
        intro S1 v g1 g2 g3
        have f1 : zfr (fun b j => b = E + 29 ∧ j = i) S1 (zwI S1 (E + 29) i v) := fr_wI _ _ ⟨rfl, rfl⟩
        refine ⟨fq_trans hf (fq_trans (fq_mono g1 (fun b j h => by unfold wBk1 at h; unfold wBk2; omega) (fun b j h => h)) (fq_fr (fr_mono f1 (fun b j h => by unfold wBk2; omega)))), rCen_sm g2 (sm_fr f1 (fun b j h1 h2 => by omega)), by rw [fr_I f1 (by omega), fq_I g1 (by unfold wBk1; omega)]; exact h11', fun j hj => ?_⟩
        by_cases q : j = i
        · subst q; simp [-Prod.exists, -Prod.forall, zgf, zgr, zpf, zpz, zpr, zga, zgl, zgo, zpa, zpb, zpl, zpo, mm_len, zcl, Option.bind_some, Option.bind_none, mm_hI, mm_hJ, mm_hR, mm_nI, mm_nJ, mm_nR, mm_sI, mm_sJ, mm_sR, mm_RI, mm_RJ, mm_IJ, mm_IR, mm_JI, mm_JR, mm_II, mm_JJ, mm_RR, g3]
        · rw [fr_I f1 (by omega), fq_I g1 (by unfold wBk1; omega)]; exact hb j (by omega)
      by_cases gi : (zoc sc.1 sc.2.2 asd i).1 = 0
      · have ln := (len_good hq (i := i) (by omega) gi).2
        obtain ⟨S1, r1, r2, r3⟩ := c_comesBack hq hr hT (i := i) (by omega) gi
        have hh29 : zh S1 (E + 29) = (102, 1364) := by rw [fq_h r2]; exact hk.2.2.2.2.2.2.2.2.2.2.2.2.2.1
        by_cases qb : zbk sc.1 sc.2.2 asd i = 1
        · rw [if_pos qb] at r1
          have := k () _ (step S1 1 r2 r3 (by rw [if_pos qb]))
          have st2 : L_Census_learnBack_11 (F + 1) E (nI (zcnt sc.1 n)) (nI i) S = L_Census_learnBack_11 F E (nI (zcnt sc.1 n)) (nI (i + 1)) (zwI S1 (E + 29) i 1) := by
            rw [L_Census_learnBack_11]
            simp [-Prod.exists, -Prod.forall, ↓bb_gf, ↓bb_gr, ↓bb_len, ↓bb_ga, ↓bb_gl, ↓bb_go, ↓bb_pf, ↓bb_pz, ↓bb_pr, ↓bb_pa, ↓bb_pb, ↓bb_pl, ↓bb_po, ↓bb_cl, ↓bb_some, ↓bb_RI, ↓bb_RJ, mm_hI, mm_hJ, mm_hR, mm_nI, mm_nJ, mm_nR, mm_sI, mm_sJ, mm_sR, mm_RI, mm_RJ, mm_IJ, mm_IR, mm_JI, mm_JR, mm_II, mm_JJ, mm_RR, hx, hk.1, ↓bS hk.2.2.2.2.2.2.2.2.2.2.2.2.1, ↓bS cl, ln, ↓bS r1, hh29, z, c, e1]
          rw [st2]; exact this
        · rw [if_neg qb] at r1
          have := k () _ (step S1 0 r2 r3 (by rw [if_neg qb]))
          have st2 : L_Census_learnBack_11 (F + 1) E (nI (zcnt sc.1 n)) (nI i) S = L_Census_learnBack_11 F E (nI (zcnt sc.1 n)) (nI (i + 1)) (zwI S1 (E + 29) i 0) := by
            rw [L_Census_learnBack_11]
            simp [-Prod.exists, -Prod.forall, ↓bb_gf, ↓bb_gr, ↓bb_len, ↓bb_ga, ↓bb_gl, ↓bb_go, ↓bb_pf, ↓bb_pz, ↓bb_pr, ↓bb_pa, ↓bb_pb, ↓bb_pl, ↓bb_po, ↓bb_cl, ↓bb_some, ↓bb_RI, ↓bb_RJ, mm_hI, mm_hJ, mm_hR, mm_nI, mm_nJ, mm_nR, mm_sI, mm_sJ, mm_sR, mm_RI, mm_RJ, mm_IJ, mm_IR, mm_JI, mm_JR, mm_II, mm_JJ, mm_RR, hx, hk.1, ↓bS hk.2.2.2.2.2.2.2.2.2.2.2.2.1, ↓bS cl, ln, ↓bS r1, hh29, z, c, e1]
          rw [st2]; exact this
      · have ln := (len_bad hq (i := i) (by omega) gi).2
        have hh29 : zh S (E + 29) = (102, 1364) := hk.2.2.2.2.2.2.2.2.2.2.2.2.2.1
        have qb : ¬ zbk sc.1 sc.2.2 asd i = 1 := by
          have gi' : ¬ (zcar sc.2.2 asd false (zword sc.1 i)).1 = 0 := gi
          unfold zbk; rw [if_neg gi']; omega
        have := k () _ (step S 0 (fq_refl _ _ _) hr (by rw [if_neg qb]))
        have st2 : L_Census_learnBack_11 (F + 1) E (nI (zcnt sc.1 n)) (nI i) S = L_Census_learnBack_11 F E (nI (zcnt sc.1 n)) (nI (i + 1)) (zwI S (E + 29) i 0) := by
          rw [L_Census_learnBack_11]
          simp [-Prod.exists, -Prod.forall, ↓bb_gf, ↓bb_gr, ↓bb_len, ↓bb_ga, ↓bb_gl, ↓bb_go, ↓bb_pf, ↓bb_pz, ↓bb_pr, ↓bb_pa, ↓bb_pb, ↓bb_pl, ↓bb_po, ↓bb_cl, ↓bb_some, ↓bb_RI, ↓bb_RJ, mm_hI, mm_hJ, mm_hR, mm_nI, mm_nJ, mm_nR, mm_sI, mm_sJ, mm_sR, mm_RI, mm_RJ, mm_IJ, mm_IR, mm_JI, mm_JR, mm_II, mm_JJ, mm_RR, hx, hk.1, ↓bS hk.2.2.2.2.2.2.2.2.2.2.2.2.1, ↓bS cl, ln, hh29, z, c, e1]
        rw [st2]; exact this
  · rw [zF_eq]
    exact fin 999999999 S0 (fq_refl _ _ _) hr0 h11 (by rw [Nat.max_eq_left (by omega)]; exact hb0) B (by omega) (by omega)
theorem c_countBack (hq : qCen S E T sc asd K) {n B : Nat} (hn : n ≤ 5) (hnK : zcnt sc.1 n ≤ K) (hb : bCen S E sc.1 sc.2.2 asd B) (hnB : zcnt sc.1 n ≤ B) : f_Census_countBack E (nI n) S = some (nI (fb_ct (fun i => decide (zbk sc.1 sc.2.2 asd i = 1)) (zcnt sc.1 n)), S) := by
  obtain ⟨hk, hS, h9, hL, hK5, hd⟩ := hq
  have c5 := cnt_le (n := n) hL hn
  have ct := cen_count hk hS h9 hL hn
  have st : f_Census_countBack E (nI n) S = L_Census_countBack_11 zF E (nI (zcnt sc.1 n)) 0 (nI 0) S := by
    simp [f_Census_countBack, -Prod.exists, -Prod.forall, ↓bb_gf, ↓bb_gr, ↓bb_len, ↓bb_ga, ↓bb_gl, ↓bb_go, ↓bb_pf, ↓bb_pz, ↓bb_pr, ↓bb_pa, ↓bb_pb, ↓bb_pl, ↓bb_po, ↓bb_cl, ↓bb_some, ↓bb_RI, ↓bb_RJ, mm_hI, mm_hJ, mm_hR, mm_nI, mm_nJ, mm_nR, mm_sI, mm_sJ, mm_sR, mm_RI, mm_RJ, mm_IJ, mm_IR, mm_JI, mm_JR, mm_II, mm_JJ, mm_RR, hk.1, ↓bS ct]; rfl
  rw [st]
  refine loop_ct (N := zcnt sc.1 n) (by omega) (fun F a i => L_Census_countBack_11 F E (nI (zcnt sc.1 n)) a (nI i) S) (fun F a => ?_) (fun F a i hi e => ?_) (fun F a i hi e => ?_)
  · have hx : ¬ nI (zcnt sc.1 n) < nI (zcnt sc.1 n) := by rw [nI_ltI (by omega) (by omega)]; omega
    simp [L_Census_countBack_11, hx]
  · have hx : nI i < nI (zcnt sc.1 n) := by rw [nI_ltI (by omega) (by omega)]; omega
    have e1 : nI i + 1 = nI (i + 1) := nI_add i 1
    have z : zinb (nI i) 1364 = true := (nn_in (by omega)).2 (by omega)
    have c : (nI i).toNatClampNeg = i := nI_clamp (by omega)
    have v := hb i (by omega)
    rw [if_pos (of_decide_eq_true e)] at v
    rw [L_Census_countBack_11]
    simp [-Prod.exists, -Prod.forall, ↓bb_gf, ↓bb_gr, ↓bb_len, ↓bb_ga, ↓bb_gl, ↓bb_go, ↓bb_pf, ↓bb_pz, ↓bb_pr, ↓bb_pa, ↓bb_pb, ↓bb_pl, ↓bb_po, ↓bb_cl, ↓bb_some, ↓bb_RI, ↓bb_RJ, mm_hI, mm_hJ, mm_hR, mm_nI, mm_nJ, mm_nR, mm_sI, mm_sJ, mm_sR, mm_RI, mm_RJ, mm_IJ, mm_IR, mm_JI, mm_JR, mm_II, mm_JJ, mm_RR, hx, hk.1, ↓bS hk.2.2.2.2.2.2.2.2.2.2.2.2.1, hk.2.2.2.2.2.2.2.2.2.2.2.2.2.1, z, c, v, e1]
  · have hx : nI i < nI (zcnt sc.1 n) := by rw [nI_ltI (by omega) (by omega)]; omega
    have e1 : nI i + 1 = nI (i + 1) := nI_add i 1
    have z : zinb (nI i) 1364 = true := (nn_in (by omega)).2 (by omega)
    have c : (nI i).toNatClampNeg = i := nI_clamp (by omega)
    have v := hb i (by omega)
    rw [if_neg (decide_eq_false_iff_not.1 e)] at v
    rw [L_Census_countBack_11]
    simp [-Prod.exists, -Prod.forall, ↓bb_gf, ↓bb_gr, ↓bb_len, ↓bb_ga, ↓bb_gl, ↓bb_go, ↓bb_pf, ↓bb_pz, ↓bb_pr, ↓bb_pa, ↓bb_pb, ↓bb_pl, ↓bb_po, ↓bb_cl, ↓bb_some, ↓bb_RI, ↓bb_RJ, mm_hI, mm_hJ, mm_hR, mm_nI, mm_nJ, mm_nR, mm_sI, mm_sJ, mm_sR, mm_RI, mm_RJ, mm_IJ, mm_IR, mm_JI, mm_JR, mm_II, mm_JJ, mm_RR, hx, hk.1, ↓bS hk.2.2.2.2.2.2.2.2.2.2.2.2.1, hk.2.2.2.2.2.2.2.2.2.2.2.2.2.1, z, c, v, e1]
theorem bk_cases (L : Nat) (ps : List zPs) (asd : Nat → Nat) (i : Nat) : ((zoc L ps asd i).1 = 0 ↔ zbk L ps asd i ≠ 0) := by
  unfold zbk zoc
  by_cases q : (zcar ps asd false (zword L i)).1 = 0
  · rw [if_pos q]
    simp only [q, true_iff]
    split <;> omega
  · rw [if_neg q]
    simp [q]
theorem c_firstLost (hq : qCen S E T sc asd K) {n B : Nat} (hn : n ≤ 5) (hnK : zcnt sc.1 n ≤ K) (hb : bCen S E sc.1 sc.2.2 asd B) (hnB : zcnt sc.1 n ≤ B) : f_Census_firstLost E (nI n) S = some (zsI (zfi (fun i => decide (zbk sc.1 sc.2.2 asd i = 2)) (zcnt sc.1 n)), S) := by
  have hq0 := hq
  obtain ⟨hk, hS, h9, hL, hK5, hd⟩ := hq
  have c5 := cnt_le (n := n) hL hn
  have ct := cen_count hk hS h9 hL hn
  have st : f_Census_firstLost E (nI n) S = L_Census_firstLost_8 zF E (nI (zcnt sc.1 n)) (nI 0) S := by
    simp [f_Census_firstLost, -Prod.exists, -Prod.forall, ↓bb_gf, ↓bb_gr, ↓bb_len, ↓bb_ga, ↓bb_gl, ↓bb_go, ↓bb_pf, ↓bb_pz, ↓bb_pr, ↓bb_pa, ↓bb_pb, ↓bb_pl, ↓bb_po, ↓bb_cl, ↓bb_some, ↓bb_RI, ↓bb_RJ, mm_hI, mm_hJ, mm_hR, mm_nI, mm_nJ, mm_nR, mm_sI, mm_sJ, mm_sR, mm_RI, mm_RJ, mm_IJ, mm_IR, mm_JI, mm_JR, mm_II, mm_JJ, mm_RR, hk.1, ↓bS ct]; rfl
  rw [st]
  refine loop_fi (N := zcnt sc.1 n) (by omega) (fun F i => L_Census_firstLost_8 F E (nI (zcnt sc.1 n)) (nI i) S) (fun o => some (zsI o, S)) (fun F => ?_) (fun F i hi e => ?_) (fun F i hi e => ?_)
  · have hx : ¬ nI (zcnt sc.1 n) < nI (zcnt sc.1 n) := by rw [nI_ltI (by omega) (by omega)]; omega
    simp [L_Census_firstLost_8, hx, zsI]
  · have hx : nI i < nI (zcnt sc.1 n) := by rw [nI_ltI (by omega) (by omega)]; omega
    have z : zinb (nI i) 1364 = true := (nn_in (by omega)).2 (by omega)
    have c : (nI i).toNatClampNeg = i := nI_clamp (by omega)
    have cl := cen_len hk (i := i) (by omega)
    have e2 := of_decide_eq_true e
    have ln := (len_good hq0 (i := i) (by omega) ((bk_cases _ _ _ _).2 (by omega))).2
    have v := hb i (by omega)
    rw [if_neg (by omega)] at v
    rw [L_Census_firstLost_8]
    simp [-Prod.exists, -Prod.forall, ↓bb_gf, ↓bb_gr, ↓bb_len, ↓bb_ga, ↓bb_gl, ↓bb_go, ↓bb_pf, ↓bb_pz, ↓bb_pr, ↓bb_pa, ↓bb_pb, ↓bb_pl, ↓bb_po, ↓bb_cl, ↓bb_some, ↓bb_RI, ↓bb_RJ, mm_hI, mm_hJ, mm_hR, mm_nI, mm_nJ, mm_nR, mm_sI, mm_sJ, mm_sR, mm_RI, mm_RJ, mm_IJ, mm_IR, mm_JI, mm_JR, mm_II, mm_JJ, mm_RR, hx, hk.1, ↓bS cl, ln, ↓bS hk.2.2.2.2.2.2.2.2.2.2.2.2.1, hk.2.2.2.2.2.2.2.2.2.2.2.2.2.1, z, c, v, zsI]
  · have hx : nI i < nI (zcnt sc.1 n) := by rw [nI_ltI (by omega) (by omega)]; omega
    have e1 : nI i + 1 = nI (i + 1) := nI_add i 1
    have z : zinb (nI i) 1364 = true := (nn_in (by omega)).2 (by omega)
    have c : (nI i).toNatClampNeg = i := nI_clamp (by omega)
    have cl := cen_len hk (i := i) (by omega)
    have e2 := decide_eq_false_iff_not.1 e
    have bl := bk_lt sc.1 sc.2.2 asd i
    have v := hb i (by omega)
    by_cases gi : (zoc sc.1 sc.2.2 asd i).1 = 0
    · have ln := (len_good hq0 (i := i) (by omega) gi).2
      have := (bk_cases _ _ _ _).1 gi
      rw [if_pos (by omega)] at v
      rw [L_Census_firstLost_8]
      simp [-Prod.exists, -Prod.forall, ↓bb_gf, ↓bb_gr, ↓bb_len, ↓bb_ga, ↓bb_gl, ↓bb_go, ↓bb_pf, ↓bb_pz, ↓bb_pr, ↓bb_pa, ↓bb_pb, ↓bb_pl, ↓bb_po, ↓bb_cl, ↓bb_some, ↓bb_RI, ↓bb_RJ, mm_hI, mm_hJ, mm_hR, mm_nI, mm_nJ, mm_nR, mm_sI, mm_sJ, mm_sR, mm_RI, mm_RJ, mm_IJ, mm_IR, mm_JI, mm_JR, mm_II, mm_JJ, mm_RR, hx, hk.1, ↓bS cl, ln, ↓bS hk.2.2.2.2.2.2.2.2.2.2.2.2.1, hk.2.2.2.2.2.2.2.2.2.2.2.2.2.1, z, c, v, e1]
    · have ln := (len_bad hq0 (i := i) (by omega) gi).2
      rw [L_Census_firstLost_8]
      simp [-Prod.exists, -Prod.forall, ↓bb_gf, ↓bb_gr, ↓bb_len, ↓bb_ga, ↓bb_gl, ↓bb_go, ↓bb_pf, ↓bb_pz, ↓bb_pr, ↓bb_pa, ↓bb_pb, ↓bb_pl, ↓bb_po, ↓bb_cl, ↓bb_some, ↓bb_RI, ↓bb_RJ, mm_hI, mm_hJ, mm_hR, mm_nI, mm_nJ, mm_nR, mm_sI, mm_sJ, mm_sR, mm_RI, mm_RJ, mm_IJ, mm_IR, mm_JI, mm_JR, mm_II, mm_JJ, mm_RR, hx, hk.1, ↓bS cl, ln, e1]
end
