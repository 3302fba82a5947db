/-! pictures of rules, passes, scripts; frames with references -/
def zfq (W V : Nat → Nat → Prop) (S S' : zM) : Prop := S'.2.2.2 = S.2.2.2 ∧ (∀ b j, ¬ V b j → zR S' b j = zR S b j) ∧ ∀ b j, ¬ W b j → zI S' b j = zI S b j ∧ zJ S' b j = zJ S b j
theorem fq_fr {W V : Nat → Nat → Prop} {S S' : zM} (h : zfr W S S') : zfq W V S S' := ⟨congrArg (fun q => q.2) h.1, fun b j _ => by rw [fr_R h], h.2⟩
theorem fq_refl (W V : Nat → Nat → Prop) (S : zM) : zfq W V S S := ⟨rfl, fun _ _ _ => rfl, fun _ _ _ => ⟨rfl, rfl⟩⟩
theorem fq_trans {W V : Nat → Nat → Prop} {S S' S'' : zM} (h : zfq W V S S') (h2 : zfq W V S' S'') : zfq W V S S'' :=
  ⟨h2.1.trans h.1, fun b j hv => (h2.2.1 b j hv).trans (h.2.1 b j hv), fun b j hw => ⟨(h2.2.2 b j hw).1.trans (h.2.2 b j hw).1, (h2.2.2 b j hw).2.trans (h.2.2 b j hw).2⟩⟩
theorem fq_mono {W V W' V' : Nat → Nat → Prop} {S S' : zM} (h : zfq W V S S') (hw : ∀ b j, W b j → W' b j) (hv : ∀ b j, V b j → V' b j) : zfq W' V' S S' :=
  ⟨h.1, fun b j q => h.2.1 b j (fun r => q (hv b j r)), fun b j q => h.2.2 b j (fun r => q (hw b j r))⟩
theorem fq_h {W V : Nat → Nat → Prop} {S S' : zM} (h : zfq W V S S') : zh S' = zh S := congrArg (fun q => q.1) h.1
theorem fq_n {W V : Nat → Nat → Prop} {S S' : zM} (h : zfq W V S S') : zn S' = zn S := congrArg (fun q => q.2.1) h.1
theorem fq_s {W V : Nat → Nat → Prop} {S S' : zM} (h : zfq W V S S') : zs S' = zs S := congrArg (fun q => q.2.2) h.1
theorem fq_R {W V : Nat → Nat → Prop} {S S' : zM} (h : zfq W V S S') {b j : Nat} (hv : ¬ V b j) : zR S' b j = zR S b j := h.2.1 b j hv
theorem fq_I {W V : Nat → Nat → Prop} {S S' : zM} (h : zfq W V S S') {b j : Nat} (hw : ¬ W b j) : zI S' b j = zI S b j := (h.2.2 b j hw).1
theorem fq_J {W V : Nat → Nat → Prop} {S S' : zM} (h : zfq W V S S') {b j : Nat} (hw : ¬ W b j) : zJ S' b j = zJ S b j := (h.2.2 b j hw).2
theorem fq_wR {W V : Nat → Nat → Prop} (S : zM) {a k : Nat} (v : Option Nat) (h : V a k) : zfq W V S (zwR S a k v) := by
  refine ⟨rfl, fun b j hw => ?_, fun _ _ _ => ⟨rfl, rfl⟩⟩
  rw [mm_RR, if_neg]
  rintro ⟨rfl, rfl⟩; exact hw h
/-- the cells from lo on, below hi, are as they were -/
def zsm (lo hi : Nat) (S S' : zM) : Prop := zh S' = zh S ∧ ∀ b j, lo ≤ b → b < hi → zR S' b j = zR S b j ∧ zI S' b j = zI S b j ∧ zJ S' b j = zJ S b j
theorem sm_fq {W V : Nat → Nat → Prop} {S S' : zM} {lo hi : Nat} (h : zfq W V S S') (hd : ∀ b j, lo ≤ b → b < hi → ¬ W b j ∧ ¬ V b j) : zsm lo hi S S' :=
  ⟨fq_h h, fun b j h1 h2 => ⟨fq_R h (hd b j h1 h2).2, fq_I h (hd b j h1 h2).1, fq_J h (hd b j h1 h2).1⟩⟩
theorem sm_fr {W : Nat → Nat → Prop} {S S' : zM} {lo hi : Nat} (h : zfr W S S') (hd : ∀ b j, lo ≤ b → b < hi → ¬ W b j) : zsm lo hi S S' :=
  ⟨fr_h h, fun b j h1 h2 => ⟨by rw [fr_R h], fr_I h (hd b j h1 h2), fr_J h (hd b j h1 h2)⟩⟩
theorem sm_sub {lo hi l h : Nat} {S S' : zM} (q : zsm lo hi S S') (h1 : lo ≤ l) (h2 : h ≤ hi) : zsm l h S S' := ⟨q.1, fun b j a c => q.2 b j (by omega) (by omega)⟩
theorem sm_trans {lo hi : Nat} {S S' S'' : zM} (h : zsm lo hi S S') (h2 : zsm lo hi S' S'') : zsm lo hi S S'' := ⟨h2.1.trans h.1, fun b j a c => ⟨(h2.2 b j a c).1.trans (h.2 b j a c).1, (h2.2 b j a c).2.1.trans (h.2 b j a c).2.1, (h2.2 b j a c).2.2.trans (h.2 b j a c).2.2⟩⟩
theorem row_sm {S S' : zM} {a n lo hi : Nat} {xs : List Nat} (h : pRow S a n xs) (q : zsm lo hi S S') (h1 : lo ≤ a) (h2 : a + 2 ≤ hi) : pRow S' a n xs := by
  obtain ⟨r1, r2, r3, r4, r5, r6, r7, r8⟩ := h
  refine ⟨by rw [q.1]; exact r1, by rw [(q.2 _ _ (by omega) (by omega)).1]; exact r2, by rw [q.1]; exact r3, r4, r5, by rw [(q.2 _ _ (by omega) (by omega)).2.1]; exact r6, fun k hk => by rw [(q.2 _ _ (by omega) (by omega)).2.1]; exact r7 k hk, r8⟩
theorem mach_sm {S S' : zM} {m lo hi : Nat} {rs : List zRu} {tn : Bool} (h : pMach S m rs tn) (q : zsm lo hi S S') (h1 : lo ≤ m) (h2 : m + 7 ≤ hi) : pMach S' m rs tn :=
  mach_fr (W := fun _ _ => False) h (fun j => (q.2 _ _ (by omega) (by omega)).1) q.1 (fun b j a c => (q.2 _ _ (by omega) (by omega)).2.1)
theorem sMach_sm {S S' : zM} {m lo hi : Nat} (h : sMach S m) (q : zsm lo hi S S') (h1 : lo ≤ m) (h2 : m + 7 ≤ hi) : sMach S' m := by
  have e : ∀ j, zR S' m j = zR S m j := fun j => (q.2 _ _ (by omega) (by omega)).1
  unfold sMach; simp only [q.1, e]; exact h
def pRule (S : zM) (r : Nat) (ru : zRu) : Prop := zh S r = (9, 0) ∧ zR S r 0 = some (r + 1) ∧ zR S r 1 = some (r + 3) ∧ pRow S (r + 1) 3 ru.1 ∧ pRow S (r + 3) 4 ru.2.1 ∧ zI S r 2 = nI ru.2.2.1 ∧ zI S r 3 = nI ru.2.2.2
theorem rule_sm {S S' : zM} {r lo hi : Nat} {ru : zRu} (h : pRule S r ru) (q : zsm lo hi S S') (h1 : lo ≤ r) (h2 : r + 5 ≤ hi) : pRule S' r ru := by
  obtain ⟨a1, a2, a3, a4, a5, a6, a7⟩ := h
  refine ⟨by rw [q.1]; exact a1, by rw [(q.2 _ _ (by omega) (by omega)).1]; exact a2, by rw [(q.2 _ _ (by omega) (by omega)).1]; exact a3, row_sm a4 q (by omega) (by omega), row_sm a5 q (by omega) (by omega), by rw [(q.2 _ _ (by omega) (by omega)).2.1]; exact a6, by rw [(q.2 _ _ (by omega) (by omega)).2.1]; exact a7⟩
/-- the parts of a pass, whatever it holds -/
def sPass (S : zM) (P : Nat) : Prop := zh S P = (5, 0) ∧ zR S P 0 = some (P + 1) ∧ zh S (P + 1) = (119, 8) ∧ (∀ i, i < 8 → zR S (P + 1) i = some (P + 16 + 5 * i)) ∧ zR S P 1 = some (P + 2) ∧ zR S P 2 = some (P + 9)
def sPassA (S : zM) (P : Nat) : Prop := sPass S P ∧ sMach S (P + 2) ∧ sMach S (P + 9) ∧ ∀ i, i < 8 → ∃ ru, pRule S (P + 16 + 5 * i) ru
def pPass (S : zM) (P : Nat) (ps : zPs) (mask : Nat) : Prop := sPass S P ∧ zI S P 3 = nI ps.2.length ∧ zI S P 4 = (if ps.1 then 1 else 0) ∧ zI S P 5 = nI mask ∧ (∀ i, i < ps.2.length → pRule S (P + 16 + 5 * i) (zru ps.2 i)) ∧ pMach S (P + 2) ps.2 false ∧ pMach S (P + 9) ps.2 true ∧ wRs ps.2 ∧ mask < 256
theorem sPass_sm {S S' : zM} {P lo hi : Nat} (h : sPass S P) (q : zsm lo hi S S') (h1 : lo ≤ P) (h2 : P + 2 ≤ hi) : sPass S' P := by
  obtain ⟨a1, a2, a3, a4, a5, a6⟩ := h
  have e : ∀ j, zR S' P j = zR S P j := fun j => (q.2 _ _ (by omega) (by omega)).1
  have e2 : ∀ j, zR S' (P + 1) j = zR S (P + 1) j := fun j => (q.2 _ _ (by omega) (by omega)).1
  refine ⟨by rw [q.1]; exact a1, by rw [e]; exact a2, by rw [q.1]; exact a3, fun i hi => by rw [e2]; exact a4 i hi, by rw [e]; exact a5, by rw [e]; exact a6⟩
theorem sPassA_sm {S S' : zM} {P lo hi : Nat} (h : sPassA S P) (q : zsm lo hi S S') (h1 : lo ≤ P) (h2 : P + 56 ≤ hi) : sPassA S' P :=
  ⟨sPass_sm h.1 q h1 (by omega), sMach_sm h.2.1 q (by omega) (by omega), sMach_sm h.2.2.1 q (by omega) (by omega), fun i hi => by
    obtain ⟨ru, hr⟩ := h.2.2.2 i hi
    exact ⟨ru, rule_sm hr q (by omega) (by omega)⟩⟩
theorem pass_sm {S S' : zM} {P lo hi : Nat} {ps : zPs} {mask : Nat} (h : pPass S P ps mask) (q : zsm lo hi S S') (h1 : lo ≤ P) (h2 : P + 56 ≤ hi) : pPass S' P ps mask := by
  obtain ⟨a1, a2, a3, a4, a5, a6, a7, a8, a9⟩ := h
  have e : ∀ j, zI S' P j = zI S P j := fun j => (q.2 _ _ (by omega) (by omega)).2.1
  refine ⟨sPass_sm a1 q h1 (by omega), by rw [e]; exact a2, by rw [e]; exact a3, by rw [e]; exact a4, fun i hi => rule_sm (a5 i hi) q (by omega) (by have := a8.1; omega), mach_sm a6 q (by omega) (by omega), mach_sm a7 q (by omega) (by omega), a8, a9⟩
/-- where pass p of the script at T lies -/
def aPs (T p : Nat) : Nat := T + 4 + 56 * p
def sScr (S : zM) (T : Nat) : Prop := zh S T = (10, 0) ∧ zR S T 0 = some (T + 1) ∧ zh S (T + 1) = (101, 4) ∧ zR S T 1 = some (T + 2) ∧ zh S (T + 2) = (100, 4) ∧ zR S T 2 = some (T + 3) ∧ zh S (T + 3) = (115, 3) ∧ ∀ p, p < 3 → zR S (T + 3) p = some (aPs T p)
/-- a script: letters, kinds, passes -/
abbrev zSc : Type := Nat × List Nat × List zPs
def pScr (S : zM) (T : Nat) (sc : zSc) (asd : Nat → Nat) : Prop := sScr S T ∧ zI S T 3 = nI sc.1 ∧ zI S T 4 = nI sc.2.1.length ∧ zI S T 5 = nI sc.2.2.length ∧ (∀ k, k < sc.2.1.length → zI S (T + 2) k = nI (lg sc.2.1 k)) ∧ (∀ p, p < sc.2.2.length → pPass S (aPs T p) (zpa_ sc.2.2 p) (asd p)) ∧ sc.1 ≤ 4 ∧ sc.2.1.length ≤ 4 ∧ (∀ k, lg sc.2.1 k < 256) ∧ wPs sc.2.2
theorem sScr_sm {S S' : zM} {T lo hi : Nat} (h : sScr S T) (q : zsm lo hi S S') (h1 : lo ≤ T) (h2 : T + 4 ≤ hi) : sScr S' T := by
  obtain ⟨a1, a2, a3, a4, a5, a6, a7, a8⟩ := h
  have e : ∀ j, zR S' T j = zR S T j := fun j => (q.2 _ _ (by omega) (by omega)).1
  have e2 : ∀ j, zR S' (T + 3) j = zR S (T + 3) j := fun j => (q.2 _ _ (by omega) (by omega)).1
  refine ⟨by rw [q.1]; exact a1, by rw [e]; exact a2, by rw [q.1]; exact a3, by rw [e]; exact a4, by rw [q.1]; exact a5, by rw [e]; exact a6, by rw [q.1]; exact a7, fun p hp => by rw [e2]; exact a8 p hp⟩
theorem scr_sm {S S' : zM} {T lo hi : Nat} {sc : zSc} {asd : Nat → Nat} (h : pScr S T sc asd) (q : zsm lo hi S S') (h1 : lo ≤ T) (h2 : T + 172 ≤ hi) : pScr S' T sc asd := by
  obtain ⟨a1, a2, a3, a4, a5, a6, a7, a8, a9, a10⟩ := h
  have e : ∀ j, zI S' T j = zI S T j := fun j => (q.2 _ _ (by omega) (by omega)).2.1
  have e2 : ∀ j, zI S' (T + 2) j = zI S (T + 2) j := fun j => (q.2 _ _ (by omega) (by omega)).2.1
  have hp3 := a10.1
  refine ⟨sScr_sm a1 q h1 (by omega), by rw [e]; exact a2, by rw [e]; exact a3, by rw [e]; exact a4, fun k hk => by rw [e2]; exact a5 k hk, fun p hp => pass_sm (a6 p hp) q (by unfold aPs; omega) (by unfold aPs; omega), a7, a8, a9, a10⟩
/-! numbers: shifts -/
theorem nn_shl {n k : Nat} (hk : k < 32) (h : n * 2 ^ k < 2 ^ 32) : nI n <<< (nI k &&& nI 31) = nI (n * 2 ^ k) := pk_shlN _ k (s_l k hk) h
theorem nn_shr {n k : Nat} (hk : k < 32) (h : n < 2 ^ 31) : nI n >>> (nI k &&& nI 31) = nI (n / 2 ^ k) := pk_shrN h _ k (s_l k hk)
theorem nn_pow2 {k : Nat} (hk : k < 31) : nI 1 <<< (nI k &&& nI 31) = nI (2 ^ k) := by
  have : 2 ^ k < 2 ^ 31 := Nat.pow_lt_pow_right (by omega) hk
  rw [nn_shl (by omega) (by omega), Nat.one_mul]
theorem nn_bitsBelow {k : Nat} (hk : k < 31) : nI 1 <<< (nI k &&& nI 31) - nI 1 = nI (2 ^ k - 1) := by
  rw [nn_pow2 hk]
  exact pk_sub (Nat.one_le_two_pow)
theorem nn_not {m : Nat} (hm : m < 256) {n : Nat} (hn : n < 256) : nI n &&& (nI m ^^^ (-nI 1)) = nI (n &&& (255 - m)) := by
  have h : ∀ m, m < 256 → (nI m ^^^ (-nI 1)) &&& nI 255 = nI (255 - m) := by decide +kernel
  have h2 : nI n = nI n &&& nI 255 := by rw [fa_and, Nat.and_two_pow_sub_one_eq_mod n 8, Nat.mod_eq_of_lt hn]
  rw [h2, Int32.and_assoc, Int32.and_comm (nI 255), h m hm, fa_and]
theorem serving_eq {rs : List zRu} {mask : Nat} (hm : mask < 256) (hl : rs.length ≤ 8) : (2 ^ rs.length - 1) &&& (255 - mask) = zserving rs mask := by
  refine bits_ext (fun i => ?_)
  have h255 : ∀ m, m < 256 → ∀ i, i < 8 → (255 - m).testBit i = !m.testBit i := by decide +kernel
  rw [Nat.testBit_and, Nat.testBit_two_pow_sub_one, zserving, bits_tb]
  by_cases hi : i < rs.length
  · rw [h255 mask hm i (by omega)]
  · simp [hi]
theorem pass_serving {S : zM} {P : Nat} {ps : zPs} {mask : Nat} (h : pPass S P ps mask) : f_Pass_serving P S = some (nI (zserving ps.2 mask), S) := by
  obtain ⟨a1, a2, a3, a4, a5, a6, a7, a8, a9⟩ := h
  have h8 := a8.1
  have hp : (2 : Nat) ^ ps.2.length ≤ 2 ^ 8 := Nat.pow_le_pow_right (by omega) h8
  have hp1 : 0 < (2 : Nat) ^ ps.2.length := Nat.two_pow_pos _
  have := serving_eq (rs := ps.2) a9 h8
  simp (disch := omega) [f_Pass_serving, f_Cl_bitsBelow, -Prod.exists, -Prod.forall, zgf, zgr, zpf, zpz, zpr, zga, zgl, zgo, zpa, zpb, zpl, zpo, mm_len, zcl, Option.bind_some, Option.bind_none, mm_hI, mm_hJ, mm_hR, mm_nI, mm_nJ, mm_nR, mm_sI, mm_sJ, mm_sR, mm_RI, mm_RJ, mm_IJ, mm_IR, mm_JI, mm_JR, mm_II, mm_JJ, mm_RR, nn_lit, a1.1, a2, a4, nn_bitsBelow, nn_not, this]
theorem tb_shr (n k : Nat) : (n / 2 ^ k) % 2 = if n.testBit k then 1 else 0 := by
  have := Nat.testBit_eq_decide_div_mod_eq (x := n) (i := k)
  rw [this]
  by_cases h : n / 2 ^ k % 2 = 1
  · simp [h]
  · simp [h]; omega
theorem nn_bit {n k : Nat} (hk : k < 32) (h : n < 2 ^ 31) : (nI n >>> (nI k &&& nI 31)) &&& nI 1 = if n.testBit k then nI 1 else nI 0 := by
  rw [nn_shr hk h]
  have : nI (n / 2 ^ k) &&& nI (2 ^ 1 - 1) = nI (n / 2 ^ k % 2 ^ 1) := fa_mask _ 1
  rw [show nI 1 = nI (2 ^ 1 - 1) from rfl, this, Nat.pow_one, tb_shr]
  split <;> rfl
theorem pass_serves {S : zM} {P : Nat} {ps : zPs} {mask i : Nat} (h : pPass S P ps mask) (hi : i < ps.2.length) : f_Pass_serves P (nI i) S = some (if mask.testBit i then 0 else 1, S) := by
  have h8 := h.2.2.2.2.2.2.2.1.1
  have hl : zserving ps.2 mask < 256 := by
    have := bits_lt (fun i => !mask.testBit i) ps.2.length
    have hp : (2 : Nat) ^ ps.2.length ≤ 2 ^ 8 := Nat.pow_le_pow_right (by omega) h8
    unfold zserving; omega
  have hb : (zserving ps.2 mask).testBit i = !mask.testBit i := by rw [zserving, bits_tb]; simp [hi]
  have := nn_bit (n := zserving ps.2 mask) (k := i) (by omega) (by omega)
  rw [hb] at this
  cases e : mask.testBit i
  · rw [e] at this
    simp [f_Pass_serves, -Prod.exists, -Prod.forall, zgf, zgr, zpf, zpz, zpr, zga, zgl, zgo, zpa, zpb, zpl, zpo, mm_len, zcl, Option.bind_some, Option.bind_none, mm_hI, mm_hJ, mm_hR, mm_nI, mm_nJ, mm_nR, mm_sI, mm_sJ, mm_sR, mm_RI, mm_RJ, mm_IJ, mm_IR, mm_JI, mm_JR, mm_II, mm_JJ, mm_RR, nn_lit, h.1.1, pass_serving h, this]
  · rw [e] at this
    have q : ¬ nI 0 = nI 1 := by decide
    simp [f_Pass_serves, -Prod.exists, -Prod.forall, zgf, zgr, zpf, zpz, zpr, zga, zgl, zgo, zpa, zpb, zpl, zpo, mm_len, zcl, Option.bind_some, Option.bind_none, mm_hI, mm_hJ, mm_hR, mm_nI, mm_nJ, mm_nR, mm_sI, mm_sJ, mm_sR, mm_RI, mm_RJ, mm_IJ, mm_IR, mm_JI, mm_JR, mm_II, mm_JJ, mm_RR, nn_lit, h.1.1, pass_serving h, this, q]
theorem pass_ruleAt {S : zM} {P : Nat} {ps : zPs} {mask : Nat} (h : pPass S P ps mask) (k : Int32) : f_Pass_ruleAt P k S = some (if k < 0 then none else if k.toNatClampNeg < ps.2.length then some (P + 16 + 5 * k.toNatClampNeg) else none, S) := by
  obtain ⟨⟨b1, b2, b3, b4, b5, b6⟩, a2, a3, a4, a5, a6, a7, a8, a9⟩ := h
  have h8 := a8.1
  unfold f_Pass_ruleAt
  by_cases hk : k < 0
  · rw [if_pos hk, if_pos hk]
  · obtain ⟨j, hj, rfl⟩ := nI_of hk
    rw [if_neg hk, if_neg hk, nI_clamp hj]
    by_cases hl : j < ps.2.length
    · have q8 : j < 8 := by omega
      simp (disch := omega) [-Prod.exists, -Prod.forall, zgf, zgr, zpf, zpz, zpr, zga, zgl, zgo, zpa, zpb, zpl, zpo, mm_len, zcl, Option.bind_some, Option.bind_none, mm_hI, mm_hJ, mm_hR, mm_nI, mm_nJ, mm_nR, mm_sI, mm_sJ, mm_sR, mm_RI, mm_RJ, mm_IJ, mm_IR, mm_JI, mm_JR, mm_II, mm_JJ, mm_RR, nn_lit, nI_add, pk_mul, nI_clamp, nI_ltI, nI_leI, nI_eq, nn_in, nn_eqm, nn_meq, nn_ltm, nn_mlt, nn_lem, nn_mle, nn_in_m, b1, b2, b3, a2, hl, q8, b4 j q8]
    · simp (disch := omega) [-Prod.exists, -Prod.forall, zgf, zgr, zpf, zpz, zpr, zga, zgl, zgo, zpa, zpb, zpl, zpo, mm_len, zcl, Option.bind_some, Option.bind_none, mm_hI, mm_hJ, mm_hR, mm_nI, mm_nJ, mm_nR, mm_sI, mm_sJ, mm_sR, mm_RI, mm_RJ, mm_IJ, mm_IR, mm_JI, mm_JR, mm_II, mm_JJ, mm_RR, nn_lit, nI_add, pk_mul, nI_clamp, nI_ltI, nI_leI, nI_eq, nn_in, nn_eqm, nn_meq, nn_ltm, nn_mlt, nn_lem, nn_mle, nn_in_m, b1, b2, b3, a2, hl]
theorem scr_passAt {S : zM} {T : Nat} {sc : zSc} {asd : Nat → Nat} (h : pScr S T sc asd) (k : Int32) : f_Script_passAt T k S = some (if k < 0 then none else if k.toNatClampNeg < sc.2.2.length then some (aPs T k.toNatClampNeg) else none, S) := by
  obtain ⟨⟨b1, b2, b3, b4, b5, b6, b7, b8⟩, a2, a3, a4, a5, a6, a7, a8, a9, a10⟩ := h
  have h8 := a10.1
  unfold f_Script_passAt
  by_cases hk : k < 0
  · rw [if_pos hk, if_pos hk]
  · obtain ⟨j, hj, rfl⟩ := nI_of hk
    rw [if_neg hk, if_neg hk, nI_clamp hj]
    by_cases hl : j < sc.2.2.length
    · have q8 : j < 3 := by omega
      simp (disch := omega) [-Prod.exists, -Prod.forall, zgf, zgr, zpf, zpz, zpr, zga, zgl, zgo, zpa, zpb, zpl, zpo, mm_len, zcl, Option.bind_some, Option.bind_none, mm_hI, mm_hJ, mm_hR, mm_nI, mm_nJ, mm_nR, mm_sI, mm_sJ, mm_sR, mm_RI, mm_RJ, mm_IJ, mm_IR, mm_JI, mm_JR, mm_II, mm_JJ, mm_RR, nn_lit, nI_add, pk_mul, nI_clamp, nI_ltI, nI_leI, nI_eq, nn_in, nn_eqm, nn_meq, nn_ltm, nn_mlt, nn_lem, nn_mle, nn_in_m, b1, b6, b7, a4, hl, q8, b8 j q8]
    · simp (disch := omega) [-Prod.exists, -Prod.forall, zgf, zgr, zpf, zpz, zpr, zga, zgl, zgo, zpa, zpb, zpl, zpo, mm_len, zcl, Option.bind_some, Option.bind_none, mm_hI, mm_hJ, mm_hR, mm_nI, mm_nJ, mm_nR, mm_sI, mm_sJ, mm_sR, mm_RI, mm_RJ, mm_IJ, mm_IR, mm_JI, mm_JR, mm_II, mm_JJ, mm_RR, nn_lit, nI_add, pk_mul, nI_clamp, nI_ltI, nI_leI, nI_eq, nn_in, nn_eqm, nn_meq, nn_ltm, nn_mlt, nn_lem, nn_mle, nn_in_m, b1, b6, b7, a4, hl]
theorem rule_taken {S : zM} {r : Nat} {ru : zRu} (h : pRule S r ru) (tn : Bool) : f_Rule_taken r (if tn then 1 else 0) S = some (if tn then r + 3 else r + 1, S) := by
  obtain ⟨a1, a2, a3, _⟩ := h
  cases tn
  · simp [f_Rule_taken, -Prod.exists, -Prod.forall, zgf, zgr, zpf, zpz, zpr, zga, zgl, zgo, zpa, zpb, zpl, zpo, mm_len, zcl, Option.bind_some, Option.bind_none, mm_hI, mm_hJ, mm_hR, mm_nI, mm_nJ, mm_nR, mm_sI, mm_sJ, mm_sR, mm_RI, mm_RJ, mm_IJ, mm_IR, mm_JI, mm_JR, mm_II, mm_JJ, mm_RR, a1, a2]
  · simp [f_Rule_taken, -Prod.exists, -Prod.forall, zgf, zgr, zpf, zpz, zpr, zga, zgl, zgo, zpa, zpb, zpl, zpo, mm_len, zcl, Option.bind_some, Option.bind_none, mm_hI, mm_hJ, mm_hR, mm_nI, mm_nJ, mm_nR, mm_sI, mm_sJ, mm_sR, mm_RI, mm_RJ, mm_IJ, mm_IR, mm_JI, mm_JR, mm_II, mm_JJ, mm_RR, a1, a3]
theorem rule_given {S : zM} {r : Nat} {ru : zRu} (h : pRule S r ru) (tn : Bool) : f_Rule_given r (if tn then 1 else 0) S = some (if tn then r + 1 else r + 3, S) := by
  obtain ⟨a1, a2, a3, _⟩ := h
  cases tn
  · simp [f_Rule_given, -Prod.exists, -Prod.forall, zgf, zgr, zpf, zpz, zpr, zga, zgl, zgo, zpa, zpb, zpl, zpo, mm_len, zcl, Option.bind_some, Option.bind_none, mm_hI, mm_hJ, mm_hR, mm_nI, mm_nJ, mm_nR, mm_sI, mm_sJ, mm_sR, mm_RI, mm_RJ, mm_IJ, mm_IR, mm_JI, mm_JR, mm_II, mm_JJ, mm_RR, a1, a3]
  · simp [f_Rule_given, -Prod.exists, -Prod.forall, zgf, zgr, zpf, zpz, zpr, zga, zgl, zgo, zpa, zpb, zpl, zpo, mm_len, zcl, Option.bind_some, Option.bind_none, mm_hI, mm_hJ, mm_hR, mm_nI, mm_nJ, mm_nR, mm_sI, mm_sJ, mm_sR, mm_RI, mm_RJ, mm_IJ, mm_IR, mm_JI, mm_JR, mm_II, mm_JJ, mm_RR, a1, a2]
theorem rule_rowT {S : zM} {r : Nat} {ru : zRu} (h : pRule S r ru) (tn : Bool) : ∃ n, pRow S (if tn then r + 3 else r + 1) n (ruT tn ru) := by
  cases tn
  · exact ⟨3, h.2.2.2.1⟩
  · exact ⟨4, h.2.2.2.2.1⟩
theorem rule_rowG {S : zM} {r : Nat} {ru : zRu} (h : pRule S r ru) (tn : Bool) : ∃ n, pRow S (if tn then r + 1 else r + 3) n (ruG tn ru) := by
  cases tn
  · exact ⟨4, h.2.2.2.2.1⟩
  · exact ⟨3, h.2.2.2.1⟩
