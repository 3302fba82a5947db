/-! the reference: rules that never serve; the worst rule -/
theorem bits_clear {n : Nat} {f : Nat → Bool} {j : Nat} (hn : n ≤ 8) (hj : j < n) : nI (zbits n f) &&& ((1 : Int32) <<< (nI j &&& 31) ^^^ (-1)) = nI (zbits n (fun k => f k && !decide (k = j))) := by
  have hl := bits_lt f n
  have hp : (2 : Nat) ^ n ≤ 2 ^ 8 := Nat.pow_le_pow_right (by omega) hn
  have hj2 : (2 : Nat) ^ j < 2 ^ 8 := Nat.pow_lt_pow_right (by omega) (by omega)
  have h255 : ∀ m, m < 256 → ∀ i, i < 8 → (255 - m).testBit i = !m.testBit i := by decide +kernel
  have e1 : (1 : Int32) <<< (nI j &&& 31) = nI (2 ^ j) := nn_pow2 (k := j) (by omega)
  rw [e1]
  have e2 : nI (zbits n f) &&& (nI (2 ^ j) ^^^ (-1)) = nI (zbits n f &&& (255 - 2 ^ j)) := nn_not (m := 2 ^ j) (by omega) (by omega)
  rw [e2]
  congr 1
  refine bits_ext (fun i => ?_)
  rw [Nat.testBit_and, bits_tb, bits_tb]
  by_cases q : i < n
  · rw [h255 (2 ^ j) (by omega) i (by omega), Nat.testBit_two_pow]
    have : decide (j = i) = decide (i = j) := by
      by_cases q2 : i = j
      · subst q2; simp
      · have : ¬ j = i := fun w => q2 w.symm
        simp [q2, this]
    rw [this, Bool.and_assoc]
  · simp [q]
theorem bits_511 {n : Nat} {f : Nat → Bool} (hn : n ≤ 8) : nI (zbits n f) &&& 511 = nI (zbits n f) := by
  have hl := bits_lt f n
  have hp : (2 : Nat) ^ n ≤ 2 ^ 8 := Nat.pow_le_pow_right (by omega) hn
  have := fa_mask (zbits n f) 9
  rw [Nat.mod_eq_of_lt (by omega)] at this
  exact this
theorem bits_all : ∀ n, zbits n (fun _ => true) = 2 ^ n - 1
  | 0 => rfl
  | n + 1 => by
    rw [zbits, bits_all n, Nat.pow_succ]
    have : 0 < 2 ^ n := Nat.two_pow_pos n
    simp only [if_true]; omega
def zsvl (L : Nat) (ps : List zPs) (asd : Nat → Nat) (i : Nat) : List Nat := (zcar ps asd false (zword L i)).2.2.2.2
/-- served for some of the first words that doesn't fail -/
def zsu (L : Nat) (ps : List zPs) (asd : Nat → Nat) (p : Nat) : Nat → Nat → Bool
  | 0, _ => false
  | i + 1, k => zsu L ps asd p i k || (decide ((zoc L ps asd i).1 = 0) && (zsvl L ps asd i).contains (8 * p + k))
def zidl (L : Nat) (ps : List zPs) (asd : Nat → Nat) (p N : Nat) : Nat := zbits (zpa_ ps p).2.length (fun k => !zsu L ps asd p N k)
def wId (M : Nat) : Nat → Nat → Prop := fun b j => (b = M ∧ (j = 41 ∨ j = 43)) ∨ (M + 19 ≤ b ∧ b ≤ M + 24)
section
variable {S S0 : zM} {M : Nat} {sc : zSc} {asd : Nat → Nat}
theorem id_63 (hm : sMo S M) (hs : mSc S M sc asd) {p : Nat} (hp : p < sc.2.2.length) {sv : List Nat} (hsv : mSv S M sv) (hb : ∀ k, sv.count k < 2 ^ 31) {g : Nat → Bool} {a2 a4 : Int32} {K : Nat → Int32 → Int32 → Int32 → Int32 → zM → Option (Int32 × zM)} : L_Mo_idle_63 K zF M (nI p) a2 (nI (zbits (zpa_ sc.2.2 p).2.length g)) a4 0 S = K M (nI p) a2 (nI (zbits (zpa_ sc.2.2 p).2.length (fun k => g k && !sv.contains (8 * p + k)))) a4 S := by
  have x13 := hs.2.2.2.2.2.2.2.2.2.2.2.2
  have hp3 : p < 3 := by have := x13.1; omega
  have r8 := (ps_w x13 hp).1
  have zp : zinb (nI p) 3 = true := (nn_in (by omega)).2 (by omega)
  have cp : (nI p).toNatClampNeg = p := nI_clamp (by omega)
  have y6 := hs.2.2.2.2.2.1 p hp3
  refine loop_g (α := Int32) (N := (zpa_ sc.2.2 p).2.length) (by omega) (fun F a j _ => L_Mo_idle_63 K F M (nI p) a2 a a4 (nI j) S) (fun a j _ => a = nI (zbits (zpa_ sc.2.2 p).2.length (fun k => g k && !(decide (k < j) && sv.contains (8 * p + k))))) (fun o => o = K M (nI p) a2 (nI (zbits (zpa_ sc.2.2 p).2.length (fun k => g k && !sv.contains (8 * p + k)))) a4 S) (fun F a _ h => ?_) (fun F a j T hj h k => ?_) _ 0 S (by omega) (by congr 1; exact bits_cong (fun k hk => by simp))
  · have hx : ¬ nI (zpa_ sc.2.2 p).2.length < nI (zpa_ sc.2.2 p).2.length := by rw [nI_ltI (by omega) (by omega)]; omega
    have e : zbits (zpa_ sc.2.2 p).2.length (fun k => g k && !(decide (k < (zpa_ sc.2.2 p).2.length) && sv.contains (8 * p + k))) = zbits (zpa_ sc.2.2 p).2.length (fun k => g k && !sv.contains (8 * p + k)) := bits_cong (fun k hk => by simp [hk])
    rw [h, e, L_Mo_idle_63]
    simp [-Prod.exists, -Prod.forall, ↓bb_gf, ↓bb_gr, ↓bb_len, ↓bb_ga, ↓bb_gl, ↓bb_go, ↓bb_pf, ↓bb_pz, ↓bb_pr, ↓bb_pa, ↓bb_pb, ↓bb_pl, ↓bb_po, ↓bb_cl, ↓bb_some, ↓bb_RI, ↓bb_RJ, mm_hI, mm_hJ, mm_hR, mm_nI, mm_nJ, mm_nR, mm_sI, mm_sJ, mm_sR, mm_RI, mm_RJ, mm_IJ, mm_IR, mm_JI, mm_JR, mm_II, mm_JJ, mm_RR, hm.1, ↓bS (mo_ruleMany hm), mh_ruleMany hm, zp, cp, y6, hx]
  · have hx : nI j < nI (zpa_ sc.2.2 p).2.length := by rw [nI_ltI (by omega) (by omega)]; omega
    have e1 : nI j + 1 = nI (j + 1) := nI_add j 1
    have m8 : (8 : Int32) * nI p = nI (8 * p) := pk_mul 8 _
    have z : zinb (nI (8 * p + j)) 24 = true := (nn_in (by omega)).2 (by omega)
    have c : (nI (8 * p + j)).toNatClampNeg = 8 * p + j := nI_clamp (by omega)
    have v := hsv (8 * p + j) (by omega)
    have bc := hb (8 * p + j)
    by_cases q : sv.contains (8 * p + j) = true
    · have hpos : 0 < sv.count (8 * p + j) := List.count_pos_iff.2 (List.contains_iff_mem.1 q)
      have l : ¬ nI (sv.count (8 * p + j)) ≤ 0 := nI_nle hpos bc
      have := k _ T (by
        show nI (zbits (zpa_ sc.2.2 p).2.length (fun k => g k && !(decide (k < j) && sv.contains (8 * p + k)))) &&& ((1 : Int32) <<< (nI j &&& 31) ^^^ (-1)) = _
        rw [bits_clear r8 hj]
        congr 1
        refine bits_cong (fun x hk => ?_)
        by_cases q2 : x = j
        · subst q2; rw [q]; simp
        · have : decide (x < j + 1) = decide (x < j) := by simp; omega
          simp [q2, this])
      rw [h, L_Mo_idle_63]
      simpa [-Prod.exists, -Prod.forall, ↓bb_gf, ↓bb_gr, ↓bb_len, ↓bb_ga, ↓bb_gl, ↓bb_go, ↓bb_pf, ↓bb_pz, ↓bb_pr, ↓bb_pa, ↓bb_pb, ↓bb_pl, ↓bb_po, ↓bb_cl, ↓bb_some, ↓bb_RI, ↓bb_RJ, mm_hI, mm_hJ, mm_hR, mm_nI, mm_nJ, mm_nR, mm_sI, mm_sJ, mm_sR, mm_RI, mm_RJ, mm_IJ, mm_IR, mm_JI, mm_JR, mm_II, mm_JJ, mm_RR, hm.1, ↓bS (mo_ruleMany hm), mh_ruleMany hm, zp, cp, y6, hx, ↓bS (mo_servedBy hm), mh_servedBy hm, m8, nI_add, z, c, v, l, e1] using this
    · have hz : sv.count (8 * p + j) = 0 := List.count_eq_zero.2 (fun w => q (List.contains_iff_mem.2 w))
      have l : nI (sv.count (8 * p + j)) ≤ 0 := by rw [hz]; decide
      have := k _ T (by
        show nI (zbits (zpa_ sc.2.2 p).2.length (fun k => g k && !(decide (k < j) && sv.contains (8 * p + k)))) &&& 511 = _
        rw [bits_511 r8]
        congr 1
        refine bits_cong (fun x hk => ?_)
        by_cases q2 : x = j
        · subst q2
          rw [Bool.not_eq_true] at q
          rw [q]; simp
        · have : decide (x < j + 1) = decide (x < j) := by simp; omega
          simp [this])
      rw [h, L_Mo_idle_63]
      simpa [-Prod.exists, -Prod.forall, ↓bb_gf, ↓bb_gr, ↓bb_len, ↓bb_ga, ↓bb_gl, ↓bb_go, ↓bb_pf, ↓bb_pz, ↓bb_pr, ↓bb_pa, ↓bb_pb, ↓bb_pl, ↓bb_po, ↓bb_cl, ↓bb_some, ↓bb_RI, ↓bb_RJ, mm_hI, mm_hJ, mm_hR, mm_nI, mm_nJ, mm_nR, mm_sI, mm_sJ, mm_sR, mm_RI, mm_RJ, mm_IJ, mm_IR, mm_JI, mm_JR, mm_II, mm_JJ, mm_RR, hm.1, ↓bS (mo_ruleMany hm), mh_ruleMany hm, zp, cp, y6, hx, ↓bS (mo_servedBy hm), mh_servedBy hm, m8, nI_add, z, c, v, l, e1] using this
theorem m_idle_l (hm0 : sMo S0 M) (hs0 : mSc S0 M sc asd) (hL : 2 ≤ sc.1 ∧ sc.1 ≤ 4) {n p : Nat} (hn : n ≤ 5) (hp : p < sc.2.2.length) : ∃ S', L_Mo_idle_33 zF M (nI p) (nI n) (nI (2 ^ (zpa_ sc.2.2 p).2.length - 1)) 0 S0 = some (nI (zidl sc.1 sc.2.2 asd p (zcnt sc.1 n)), S') ∧ zfr (wId M) S0 S' := by
  have c5 := cnt_le (n := n) hL hn
  have x13 := hs0.2.2.2.2.2.2.2.2.2.2.2.2
  refine loop_g (α := Int32) (N := zcnt sc.1 n) (by omega) (fun F a i S => L_Mo_idle_33 F M (nI p) (nI n) a (nI i) S) (fun a i S => zfr (wId M) S0 S ∧ a = nI (zidl sc.1 sc.2.2 asd p i)) (fun o => ∃ S', o = some (nI (zidl sc.1 sc.2.2 asd p (zcnt sc.1 n)), S') ∧ zfr (wId M) S0 S') (fun F a S h => ?_) (fun F a i S hi h k => ?_) _ 0 S0 (by omega) ⟨fr_refl _ _, by rw [← bits_all]; rfl⟩
  · have hm := mo_fr hm0 h.1
    have hs := mSc_fr hs0 h.1 (fun j a b => by unfold wId; omega) (fun b j a => by unfold wId; omega)
    have mu := m_manyUpTo hL.2 hn hm hs.1
    have hx : ¬ nI (zcnt sc.1 n) < nI (zcnt sc.1 n) := by rw [nI_ltI (by omega) (by omega)]; omega
    refine ⟨S, ?_, h.1⟩
    simp [L_Mo_idle_33, -Prod.exists, -Prod.forall, ↓bb_gf, ↓bb_gr, ↓bb_len, ↓bb_ga, ↓bb_gl, ↓bb_go, ↓bb_pf, ↓bb_pz, ↓bb_pr, ↓bb_pa, ↓bb_pb, ↓bb_pl, ↓bb_po, ↓bb_cl, ↓bb_some, ↓bb_RI, ↓bb_RJ, mm_hI, mm_hJ, mm_hR, mm_nI, mm_nJ, mm_nR, mm_sI, mm_sJ, mm_sR, mm_RI, mm_RJ, mm_IJ, mm_IR, mm_JI, mm_JR, mm_II, mm_JJ, mm_RR, hm.1, ↓bS mu, hx, h.2]
  · have hm := mo_fr hm0 h.1
    have hs := mSc_fr hs0 h.1 (fun j a b => by unfold wId; omega) (fun b j a => by unfold wId; omega)
    have mu := m_manyUpTo hL.2 hn hm hs.1
    have hx : nI i < nI (zcnt sc.1 n) := by rw [nI_ltI (by omega) (by omega)]; omega
    have e1 : nI i + 1 = nI (i + 1) := nI_add i 1
    have hi5 : i < zcnt sc.1 5 := by omega
    obtain ⟨w1, w2, w3, w4, w5, w6⟩ := word_ok hL hi5
    obtain ⟨S1, a1, a2, a3⟩ := m_index hm hs.1 hL hi5
    have hm1 := mo_fr hm a2
    have hs1 := mSc_fr hs a2 (fun j a b => by omega) (fun b j a => by omega)
    obtain ⟨S2, row', b1, b2, b3, b4⟩ := m_all_ false hm1 hs1 a3
    simp only [Bool.false_eq_true, if_false] at b1
    have hm2 := mo_fr hm1 b2
    have hs2 := mSc_fr hs1 b2 (fun j a b => by unfold wGA; omega) (fun b j a => by unfold wGA; omega)
    have f2 : zfr (wId M) S0 S2 := fr_trans h.1 (fr_trans (fr_mono a2 (fun b j h => by unfold wId; omega)) (fr_mono b2 (fun b j h => by unfold wGA at h; unfold wId; omega)))
    have hc := car_code sc.2.2 asd false (zword sc.1 i)
    by_cases q : (zcar sc.2.2 asd false (zword sc.1 i)).1 = 0
    · have g : nI (zcar sc.2.2 asd false (zword sc.1 i)).1 = 0 := by rw [q]; rfl
      have i63 := id_63 (a2 := nI n) (a4 := nI i) hm2 hs2 hp (b4 q).2.1 (fun k => car_sv x13 w6 (by omega) k) (g := fun k => !zsu sc.1 sc.2.2 asd p i k) (K := F_Mo_idle_110 (L_Mo_idle_33 F))
      have := k (nI (zidl sc.1 sc.2.2 asd p (i + 1))) S2 ⟨f2, rfl⟩
      have st : L_Mo_idle_33 (F + 1) M (nI p) (nI n) a (nI i) S = L_Mo_idle_33 F M (nI p) (nI n) (nI (zidl sc.1 sc.2.2 asd p (i + 1))) (nI (i + 1)) S2 := by
        rw [h.2, L_Mo_idle_33]
        simp [-Prod.exists, -Prod.forall, ↓bb_gf, ↓bb_gr, ↓bb_len, ↓bb_ga, ↓bb_gl, ↓bb_go, ↓bb_pf, ↓bb_pz, ↓bb_pr, ↓bb_pa, ↓bb_pb, ↓bb_pl, ↓bb_po, ↓bb_cl, ↓bb_some, ↓bb_RI, ↓bb_RJ, mm_hI, mm_hJ, mm_hR, mm_nI, mm_nJ, mm_nR, mm_sI, mm_sJ, mm_sR, mm_RI, mm_RJ, mm_IJ, mm_IR, mm_JI, mm_JR, mm_II, mm_JJ, mm_RR, hm.1, ↓bS mu, hx, ↓bS a1, hm1.1, ↓bS b1, g]
        rw [show zidl sc.1 sc.2.2 asd p i = zbits (zpa_ sc.2.2 p).2.length (fun k => !zsu sc.1 sc.2.2 asd p i k) from rfl, i63, F_Mo_idle_110, e1]
        congr 2
        refine bits_cong (fun k hk => ?_)
        simp [zsu, zoc, q, zsvl]
      rw [st]; exact this
    · have g : ¬ nI (zcar sc.2.2 asd false (zword sc.1 i)).1 = 0 := fun w => q ((nI_eq (b := 0) (by omega) (by omega)).1 w)
      have ez : zidl sc.1 sc.2.2 asd p (i + 1) = zidl sc.1 sc.2.2 asd p i := bits_cong (fun k hk => by simp [zsu, zoc, q])
      have := k (nI (zidl sc.1 sc.2.2 asd p i)) S2 ⟨f2, by rw [ez]⟩
      rw [h.2, L_Mo_idle_33]
      simpa [-Prod.exists, -Prod.forall, ↓bb_gf, ↓bb_gr, ↓bb_len, ↓bb_ga, ↓bb_gl, ↓bb_go, ↓bb_pf, ↓bb_pz, ↓bb_pr, ↓bb_pa, ↓bb_pb, ↓bb_pl, ↓bb_po, ↓bb_cl, ↓bb_some, ↓bb_RI, ↓bb_RJ, mm_hI, mm_hJ, mm_hR, mm_nI, mm_nJ, mm_nR, mm_sI, mm_sJ, mm_sR, mm_RI, mm_RJ, mm_IJ, mm_IR, mm_JI, mm_JR, mm_II, mm_JJ, mm_RR, hm.1, ↓bS mu, hx, ↓bS a1, hm1.1, ↓bS b1, g, F_Mo_idle_110, e1] using this
/-! the worst rule -/
def zasd (asd : Nat → Nat) (p i : Nat) : Nat → Nat := zup asd p (asd p ^^^ 2 ^ i)
def zws1 (L : Nat) (ps : List zPs) (asd : Nat → Nat) (N at_ : Nat) (X : Nat × Int32) : Nat × Int32 :=
  if at_ / 8 < ps.length ∧ at_ % 8 < (zpa_ ps (at_ / 8)).2.length ∧ (asd (at_ / 8)).testBit (at_ % 8) = false then
    (if zdbl (zoc L ps (zasd asd (at_ / 8) (at_ % 8))) N < X.1 then (zdbl (zoc L ps (zasd asd (at_ / 8) (at_ % 8))) N, nI (10 * (at_ / 8) + at_ % 8)) else X)
  else X
def zwsF (L : Nat) (ps : List zPs) (asd : Nat → Nat) (N : Nat) : Nat → Nat × Int32
  | 0 => (zdbl (zoc L ps asd) N, -2)
  | k + 1 => zws1 L ps asd N k (zwsF L ps asd N k)
theorem dbl_le (oc : Nat → Nat × List Nat) (N : Nat) : zdbl oc N ≤ N := fb_ct_le _ _
theorem wsF_le (L : Nat) (ps : List zPs) (asd : Nat → Nat) (N : Nat) : ∀ k, (zwsF L ps asd N k).1 ≤ N
  | 0 => dbl_le _ _
  | k + 1 => by
    have := wsF_le L ps asd N k
    rw [zwsF, zws1]
    split
    · split
      · exact dbl_le _ _
      · exact this
    · exact this
theorem wsF_skip {L : Nat} {ps : List zPs} {asd : Nat → Nat} {N : Nat} : ∀ d k, (∀ j, k ≤ j → j < k + d → ¬ (j / 8 < ps.length ∧ j % 8 < (zpa_ ps (j / 8)).2.length)) → zwsF L ps asd N (k + d) = zwsF L ps asd N k := by
  intro d
  induction d with
  | zero => intro k _; rfl
  | succ d ih =>
    intro k h
    rw [← Nat.add_assoc, zwsF, zws1, if_neg (fun w => h (k + d) (by omega) (by omega) ⟨w.1, w.2.1⟩)]
    exact ih k (fun j a b => h j a (by omega))
theorem asd_mSc (hs : mSc S M sc asd) {p i : Nat} (hp : p < 3) (hi : i < 8) {v : Int32} (hv : v = if (asd p).testBit i then 0 else 1) : mSc (zwI S (M + 18) (8 * p + i) v) M sc (zasd asd p i) := by
  obtain ⟨x1, x2, x3, x4, x5, x6, x7, x8, x9, x10, x11, x12, x13⟩ := hs
  have e : ∀ b j, b ≠ M + 18 → zI (zwI S (M + 18) (8 * p + i) v) b j = zI S b j := fun b j h => by simp [-Prod.exists, -Prod.forall, zgf, zgr, zpf, zpz, zpr, zga, zgl, zgo, zpa, zpb, zpl, zpo, mm_len, zcl, Option.bind_some, Option.bind_none, mm_hI, mm_hJ, mm_hR, mm_nI, mm_nJ, mm_nR, mm_sI, mm_sJ, mm_sR, mm_RI, mm_RJ, mm_IJ, mm_IR, mm_JI, mm_JR, mm_II, mm_JJ, mm_RR, h]
  refine ⟨by rw [e _ _ (by omega)]; exact x1, by rw [e _ _ (by omega)]; exact x2, by rw [e _ _ (by omega)]; exact x3, by rw [e _ _ (by omega)]; exact x4, fun k hk => by rw [e _ _ (by omega)]; exact x5 k hk, fun q hq => by rw [e _ _ (by omega)]; exact x6 q hq, fun q hq => by rw [e _ _ (by omega)]; exact x7 q hq, fun q j hq hj => ?_, fun q j hq hj => ?_, x10, x11, x12, x13⟩
  · have hru := ru_w (ps_w x13 hq) hj
    exact mRu_eq (x8 q j hq hj) ⟨hru.2.1, hru.2.2.1⟩ (fun k _ _ => e _ _ (by omega))
  · unfold zasd zup
    by_cases q1 : q = p
    · subst q1
      rw [if_pos rfl, fb_bit_flip]
      by_cases q2 : j = i
      · subst q2
        cases h : (asd q).testBit j <;> simp [-Prod.exists, -Prod.forall, zgf, zgr, zpf, zpz, zpr, zga, zgl, zgo, zpa, zpb, zpl, zpo, mm_len, zcl, Option.bind_some, Option.bind_none, mm_hI, mm_hJ, mm_hR, mm_nI, mm_nJ, mm_nR, mm_sI, mm_sJ, mm_sR, mm_RI, mm_RJ, mm_IJ, mm_IR, mm_JI, mm_JR, mm_II, mm_JJ, mm_RR, hv, h]
      · have : ¬ 8 * q + j = 8 * q + i := by omega
        have h9 := x9 q j hq hj
        simp [-Prod.exists, -Prod.forall, zgf, zgr, zpf, zpz, zpr, zga, zgl, zgo, zpa, zpb, zpl, zpo, mm_len, zcl, Option.bind_some, Option.bind_none, mm_hI, mm_hJ, mm_hR, mm_nI, mm_nJ, mm_nR, mm_sI, mm_sJ, mm_sR, mm_RI, mm_RJ, mm_IJ, mm_IR, mm_JI, mm_JR, mm_II, mm_JJ, mm_RR, q2, h9]
    · rw [if_neg q1]
      have : ¬ 8 * q + j = 8 * p + i := by omega
      have h9 := x9 q j hq hj
      simp [-Prod.exists, -Prod.forall, zgf, zgr, zpf, zpz, zpr, zga, zgl, zgo, zpa, zpb, zpl, zpo, mm_len, zcl, Option.bind_some, Option.bind_none, mm_hI, mm_hJ, mm_hR, mm_nI, mm_nJ, mm_nR, mm_sI, mm_sJ, mm_sR, mm_RI, mm_RJ, mm_IJ, mm_IR, mm_JI, mm_JR, mm_II, mm_JJ, mm_RR, this, h9]
theorem asd_back {p i : Nat} : zasd (zasd asd p i) p i = asd := by
  funext q
  unfold zasd zup
  by_cases h : q = p
  · subst h; simp [Nat.xor_assoc]
  · simp [h]
def wWs (M : Nat) : Nat → Nat → Prop := fun b j => wLW M b j ∨ b = M + 18
theorem w_39 (hm0 : sMo S0 M) (hs0 : mSc S0 M sc asd) (hL : 2 ≤ sc.1 ∧ sc.1 ≤ 4) {n p : Nat} (hn : n ≤ 5) (hp : p < sc.2.2.length) {K : Nat → Int32 → Int32 → Int32 → Int32 → zM → Option (Int32 × zM)} (Q : Option (Int32 × zM) → Prop) (HK : ∀ S', zfr (wWs M) S0 S' → mSc S' M sc asd → Q (K M (nI n) (nI (zwsF sc.1 sc.2.2 asd (zcnt sc.1 n) (8 * p + (zpa_ sc.2.2 p).2.length)).1) (zwsF sc.1 sc.2.2 asd (zcnt sc.1 n) (8 * p + (zpa_ sc.2.2 p).2.length)).2 (nI p) S')) : Q (L_Mo_worst_39 K zF M (nI n) (nI (zwsF sc.1 sc.2.2 asd (zcnt sc.1 n) (8 * p)).1) (zwsF sc.1 sc.2.2 asd (zcnt sc.1 n) (8 * p)).2 (nI p) 0 S0) := by
  have c5 := cnt_le (n := n) hL hn
  have x13 := hs0.2.2.2.2.2.2.2.2.2.2.2.2
  have hp3 : p < 3 := by have := x13.1; omega
  have r8 := (ps_w x13 hp).1
  have zp : zinb (nI p) 3 = true := (nn_in (by omega)).2 (by omega)
  have cp : (nI p).toNatClampNeg = p := nI_clamp (by omega)
  refine loop_g (α := Nat × Int32) (N := (zpa_ sc.2.2 p).2.length) (by omega) (fun F a j S => L_Mo_worst_39 K F M (nI n) (nI a.1) a.2 (nI p) (nI j) S) (fun a j S => zfr (wWs M) S0 S ∧ mSc S M sc asd ∧ a = zwsF sc.1 sc.2.2 asd (zcnt sc.1 n) (8 * p + j)) Q (fun F a S h => ?_) (fun F a j S hj h k => ?_) (zwsF sc.1 sc.2.2 asd (zcnt sc.1 n) (8 * p)) 0 S0 (by omega) ⟨fr_refl _ _, hs0, rfl⟩
  · have hm := mo_fr hm0 h.1
    have y6 := h.2.1.2.2.2.2.2.1 p hp3
    have hx : ¬ nI (zpa_ sc.2.2 p).2.length < nI (zpa_ sc.2.2 p).2.length := by rw [nI_ltI (by omega) (by omega)]; omega
    have := HK S h.1 h.2.1
    rw [h.2.2]
    have st : L_Mo_worst_39 K (F + 1) M (nI n) (nI (zwsF sc.1 sc.2.2 asd (zcnt sc.1 n) (8 * p + (zpa_ sc.2.2 p).2.length)).1) (zwsF sc.1 sc.2.2 asd (zcnt sc.1 n) (8 * p + (zpa_ sc.2.2 p).2.length)).2 (nI p) (nI (zpa_ sc.2.2 p).2.length) S = K M (nI n) (nI (zwsF sc.1 sc.2.2 asd (zcnt sc.1 n) (8 * p + (zpa_ sc.2.2 p).2.length)).1) (zwsF sc.1 sc.2.2 asd (zcnt sc.1 n) (8 * p + (zpa_ sc.2.2 p).2.length)).2 (nI p) S := by
      rw [L_Mo_worst_39]
      simp [-Prod.exists, -Prod.forall, ↓bb_gf, ↓bb_gr, ↓bb_len, ↓bb_ga, ↓bb_gl, ↓bb_go, ↓bb_pf, ↓bb_pz, ↓bb_pr, ↓bb_pa, ↓bb_pb, ↓bb_pl, ↓bb_po, ↓bb_cl, ↓bb_some, ↓bb_RI, ↓bb_RJ, mm_hI, mm_hJ, mm_hR, mm_nI, mm_nJ, mm_nR, mm_sI, mm_sJ, mm_sR, mm_RI, mm_RJ, mm_IJ, mm_IR, mm_JI, mm_JR, mm_II, mm_JJ, mm_RR, hm.1, ↓bS (mo_ruleMany hm), mh_ruleMany hm, zp, cp, y6, hx]
    rw [st]; exact this
  · obtain ⟨hf, hs, ha⟩ := h
    have hm := mo_fr hm0 hf
    have y6 := hs.2.2.2.2.2.1 p hp3
    have y9 := hs.2.2.2.2.2.2.2.2.1 p j hp3 (by omega)
    have hx : nI j < nI (zpa_ sc.2.2 p).2.length := by rw [nI_ltI (by omega) (by omega)]; omega
    have e1 : nI j + 1 = nI (j + 1) := nI_add j 1
    have m8 : (8 : Int32) * nI p = nI (8 * p) := pk_mul 8 _
    have m10 : (10 : Int32) * nI p = nI (10 * p) := pk_mul 10 _
    have z : zinb (nI (8 * p + j)) 24 = true := (nn_in (by omega)).2 (by omega)
    have c : (nI (8 * p + j)).toNatClampNeg = 8 * p + j := nI_clamp (by omega)
    have d1 : (8 * p + j) / 8 = p := by omega
    have d2 : (8 * p + j) % 8 = j := by omega
    have sF : zwsF sc.1 sc.2.2 asd (zcnt sc.1 n) (8 * p + (j + 1)) = zws1 sc.1 sc.2.2 asd (zcnt sc.1 n) (8 * p + j) (zwsF sc.1 sc.2.2 asd (zcnt sc.1 n) (8 * p + j)) := rfl
    cases b1 : (asd p).testBit j with
    | true =>
      rw [b1] at y9
      simp only [if_true] at y9
      have := k a S ⟨hf, hs, by rw [sF, zws1, if_neg (by rw [d1, d2, b1]; simp), ha]⟩
      have st : L_Mo_worst_39 K (F + 1) M (nI n) (nI a.1) a.2 (nI p) (nI j) S = L_Mo_worst_39 K F M (nI n) (nI a.1) a.2 (nI p) (nI (j + 1)) S := by
        rw [L_Mo_worst_39]
        simp [-Prod.exists, -Prod.forall, ↓bb_gf, ↓bb_gr, ↓bb_len, ↓bb_ga, ↓bb_gl, ↓bb_go, ↓bb_pf, ↓bb_pz, ↓bb_pr, ↓bb_pa, ↓bb_pb, ↓bb_pl, ↓bb_po, ↓bb_cl, ↓bb_some, ↓bb_RI, ↓bb_RJ, mm_hI, mm_hJ, mm_hR, mm_nI, mm_nJ, mm_nR, mm_sI, mm_sJ, mm_sR, mm_RI, mm_RJ, mm_IJ, mm_IR, mm_JI, mm_JR, mm_II, mm_JJ, mm_RR, hm.1, ↓bS (mo_ruleMany hm), mh_ruleMany hm, zp, cp, y6, hx, ↓bS (mo_isAside hm), mh_isAside hm, m8, nI_add, z, c, y9, e1]
      rw [st]; exact this
    | false =>
      rw [b1] at y9
      simp only [Bool.false_eq_true, if_false] at y9
      have hs1 := asd_mSc hs hp3 (i := j) (by omega) (v := 1) (by rw [b1]; rfl)
      have f1 : zfr (wWs M) S (zwI S (M + 18) (8 * p + j) 1) := fr_wI _ _ (Or.inr rfl)
      have hm1 := mo_fr hm f1
      obtain ⟨S2, r1, r2⟩ := m_doubled hm1 hs1 hL hn
      have hm2 := mo_fr hm1 r2
      have hs2 := mSc_fr hs1 r2 (fun j a b => by unfold wLW; omega) (fun b j a => by unfold wLW; omega)
      have hs3 := asd_mSc hs2 hp3 (i := j) (by omega) (v := 0) (by unfold zasd zup; rw [if_pos rfl, fb_bit_flip, b1]; simp)
      rw [asd_back] at hs3
      have f3 : zfr (wWs M) S0 (zwI S2 (M + 18) (8 * p + j) 0) := fr_trans hf (fr_trans f1 (fr_trans (fr_mono r2 (fun b j h => Or.inl h)) (fr_wI _ _ (Or.inr rfl))))
      have l1 := dbl_le (zoc sc.1 sc.2.2 (zasd asd p j)) (zcnt sc.1 n)
      have l2 := wsF_le sc.1 sc.2.2 asd (zcnt sc.1 n) (8 * p + j)
      rw [← ha] at l2
      by_cases q : zdbl (zoc sc.1 sc.2.2 (zasd asd p j)) (zcnt sc.1 n) < a.1
      · have l : nI (zdbl (zoc sc.1 sc.2.2 (zasd asd p j)) (zcnt sc.1 n)) < nI a.1 := (nI_ltI (by omega) (by omega)).2 q
        have := k (zdbl (zoc sc.1 sc.2.2 (zasd asd p j)) (zcnt sc.1 n), nI (10 * p + j)) _ ⟨f3, hs3, by rw [sF, zws1, if_pos (by rw [d1, d2]; exact ⟨hp, hj, b1⟩), d1, d2, ← ha, if_pos q]⟩
        have st : L_Mo_worst_39 K (F + 1) M (nI n) (nI a.1) a.2 (nI p) (nI j) S = L_Mo_worst_39 K F M (nI n) (nI (zdbl (zoc sc.1 sc.2.2 (zasd asd p j)) (zcnt sc.1 n))) (nI (10 * p + j)) (nI p) (nI (j + 1)) (zwI S2 (M + 18) (8 * p + j) 0) := by
          rw [L_Mo_worst_39]
          simp [-Prod.exists, -Prod.forall, ↓bb_gf, ↓bb_gr, ↓bb_len, ↓bb_ga, ↓bb_gl, ↓bb_go, ↓bb_pf, ↓bb_pz, ↓bb_pr, ↓bb_pa, ↓bb_pb, ↓bb_pl, ↓bb_po, ↓bb_cl, ↓bb_some, ↓bb_RI, ↓bb_RJ, mm_hI, mm_hJ, mm_hR, mm_nI, mm_nJ, mm_nR, mm_sI, mm_sJ, mm_sR, mm_RI, mm_RJ, mm_IJ, mm_IR, mm_JI, mm_JR, mm_II, mm_JJ, mm_RR, hm.1, ↓bS (mo_ruleMany hm), mh_ruleMany hm, zp, cp, y6, hx, ↓bS (mo_isAside hm), mh_isAside hm, m8, m10, nI_add, z, c, y9, ↓bS r1, hm2.1, ↓bS (mo_isAside hm2), mh_isAside hm2, l, e1]
        rw [st]; exact this
      · have l : ¬ nI (zdbl (zoc sc.1 sc.2.2 (zasd asd p j)) (zcnt sc.1 n)) < nI a.1 := by rw [nI_ltI (by omega) (by omega)]; exact q
        have := k a _ ⟨f3, hs3, by rw [sF, zws1, if_pos (by rw [d1, d2]; exact ⟨hp, hj, b1⟩), d1, d2, ← ha, if_neg q]⟩
        have st : L_Mo_worst_39 K (F + 1) M (nI n) (nI a.1) a.2 (nI p) (nI j) S = L_Mo_worst_39 K F M (nI n) (nI a.1) a.2 (nI p) (nI (j + 1)) (zwI S2 (M + 18) (8 * p + j) 0) := by
          rw [L_Mo_worst_39]
          simp [-Prod.exists, -Prod.forall, ↓bb_gf, ↓bb_gr, ↓bb_len, ↓bb_ga, ↓bb_gl, ↓bb_go, ↓bb_pf, ↓bb_pz, ↓bb_pr, ↓bb_pa, ↓bb_pb, ↓bb_pl, ↓bb_po, ↓bb_cl, ↓bb_some, ↓bb_RI, ↓bb_RJ, mm_hI, mm_hJ, mm_hR, mm_nI, mm_nJ, mm_nR, mm_sI, mm_sJ, mm_sR, mm_RI, mm_RJ, mm_IJ, mm_IR, mm_JI, mm_JR, mm_II, mm_JJ, mm_RR, hm.1, ↓bS (mo_ruleMany hm), mh_ruleMany hm, zp, cp, y6, hx, ↓bS (mo_isAside hm), mh_isAside hm, m8, m10, nI_add, z, c, y9, ↓bS r1, hm2.1, ↓bS (mo_isAside hm2), mh_isAside hm2, l, e1]
        rw [st]; exact this
theorem m_worst_l (hm0 : sMo S0 M) (hs0 : mSc S0 M sc asd) (hL : 2 ≤ sc.1 ∧ sc.1 ≤ 4) {n : Nat} (hn : n ≤ 5) : ∃ S', L_Mo_worst_27 zF M (nI n) (nI (zdbl (zoc sc.1 sc.2.2 asd) (zcnt sc.1 n))) (-2) 0 S0 = some ((zwsF sc.1 sc.2.2 asd (zcnt sc.1 n) 24).2, S') ∧ zfr (wWs M) S0 S' ∧ mSc S' M sc asd := by
  have x13 := hs0.2.2.2.2.2.2.2.2.2.2.2.2
  have h3 := x13.1
  refine loop_g (α := Nat × Int32) (N := sc.2.2.length) (by omega) (fun F a p S => L_Mo_worst_27 F M (nI n) (nI a.1) a.2 (nI p) S) (fun a p S => zfr (wWs M) S0 S ∧ mSc S M sc asd ∧ a = zwsF sc.1 sc.2.2 asd (zcnt sc.1 n) (8 * p)) (fun o => ∃ S', o = some ((zwsF sc.1 sc.2.2 asd (zcnt sc.1 n) 24).2, S') ∧ zfr (wWs M) S0 S' ∧ mSc S' M sc asd) (fun F a S h => ?_) (fun F a p S hp h k => ?_) (zdbl (zoc sc.1 sc.2.2 asd) (zcnt sc.1 n), -2) 0 S0 (by omega) ⟨fr_refl _ _, hs0, rfl⟩
  · obtain ⟨hf, hs, ha⟩ := h
    have hm := mo_fr hm0 hf
    have hx : ¬ nI sc.2.2.length < nI sc.2.2.length := by rw [nI_ltI (by omega) (by omega)]; omega
    have h8 := hs.2.2.1
    have e : zwsF sc.1 sc.2.2 asd (zcnt sc.1 n) 24 = a := by
      have := wsF_skip (L := sc.1) (ps := sc.2.2) (asd := asd) (N := zcnt sc.1 n) (24 - 8 * sc.2.2.length) (8 * sc.2.2.length) (fun j a b w => by have := w.1; omega)
      rw [show 8 * sc.2.2.length + (24 - 8 * sc.2.2.length) = 24 by omega] at this
      rw [this, ha]
    rw [e]
    refine ⟨S, ?_, hf, hs⟩
    simp [L_Mo_worst_27, -Prod.exists, -Prod.forall, ↓bb_gf, ↓bb_gr, ↓bb_len, ↓bb_ga, ↓bb_gl, ↓bb_go, ↓bb_pf, ↓bb_pz, ↓bb_pr, ↓bb_pa, ↓bb_pb, ↓bb_pl, ↓bb_po, ↓bb_cl, ↓bb_some, ↓bb_RI, ↓bb_RJ, mm_hI, mm_hJ, mm_hR, mm_nI, mm_nJ, mm_nR, mm_sI, mm_sJ, mm_sR, mm_RI, mm_RJ, mm_IJ, mm_IR, mm_JI, mm_JR, mm_II, mm_JJ, mm_RR, hm.1, h8, hx]
  · obtain ⟨hf, hs, ha⟩ := h
    have hm := mo_fr hm0 hf
    have hx : nI p < nI sc.2.2.length := by rw [nI_ltI (by omega) (by omega)]; omega
    have h8 := hs.2.2.1
    have e1 : nI p + 1 = nI (p + 1) := nI_add p 1
    have r8 := (ps_w x13 hp).1
    have st : L_Mo_worst_27 (F + 1) M (nI n) (nI a.1) a.2 (nI p) S = L_Mo_worst_39 (F_Mo_worst_129 (L_Mo_worst_27 F)) zF M (nI n) (nI a.1) a.2 (nI p) 0 S := by
      rw [L_Mo_worst_27]
      simp [-Prod.exists, -Prod.forall, ↓bb_gf, ↓bb_gr, ↓bb_len, ↓bb_ga, ↓bb_gl, ↓bb_go, ↓bb_pf, ↓bb_pz, ↓bb_pr, ↓bb_pa, ↓bb_pb, ↓bb_pl, ↓bb_po, ↓bb_cl, ↓bb_some, ↓bb_RI, ↓bb_RJ, mm_hI, mm_hJ, mm_hR, mm_nI, mm_nJ, mm_nR, mm_sI, mm_sJ, mm_sR, mm_RI, mm_RJ, mm_IJ, mm_IR, mm_JI, mm_JR, mm_II, mm_JJ, mm_RR, hm.1, h8, hx]
    rw [st, ha]
    refine w_39 hm hs hL hn hp (fun o => ∃ S', o = some ((zwsF sc.1 sc.2.2 asd (zcnt sc.1 n) 24).2, S') ∧ zfr (wWs M) S0 S' ∧ mSc S' M sc asd) ?_
    intro S' f1 hs1
    have e : zwsF sc.1 sc.2.2 asd (zcnt sc.1 n) (8 * (p + 1)) = zwsF sc.1 sc.2.2 asd (zcnt sc.1 n) (8 * p + (zpa_ sc.2.2 p).2.length) := by
      have := wsF_skip (L := sc.1) (ps := sc.2.2) (asd := asd) (N := zcnt sc.1 n) (8 - (zpa_ sc.2.2 p).2.length) (8 * p + (zpa_ sc.2.2 p).2.length) (fun j a b w => by
        have e8 : j / 8 = p := by omega
        rw [e8] at w
        omega)
      rw [show 8 * p + (zpa_ sc.2.2 p).2.length + (8 - (zpa_ sc.2.2 p).2.length) = 8 * (p + 1) by omega] at this
      exact this
    have := k (zwsF sc.1 sc.2.2 asd (zcnt sc.1 n) (8 * (p + 1))) S' ⟨fr_trans hf f1, hs1, rfl⟩
    rw [e] at this
    rw [F_Mo_worst_129, e1]
    exact this
end
