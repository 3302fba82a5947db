/-! the census forgets -/
def jCe (S : zM) : Prop := (zR S 1 12 = none ∧ zfz S) ∨ ∃ E, zR S 1 12 = some E ∧ 447 ≤ E ∧ E + 31 ≤ zn S + 1 ∧ kCen S E ∧ rCen S E
theorem cCe_j {S : zM} {w : zWs} (h : cCe S w) : jCe S := by
  rcases h with q | ⟨E, K, B, q, e⟩
  · exact Or.inl q
  · exact Or.inr ⟨E, q, e.1, e.2.1, e.2.2.1, e.2.2.2.1⟩
theorem jCe_fr {W : Nat → Nat → Prop} {S S' : zM} (h : jCe S) (hf : zfr W S S') (hw : ∀ b j, W b j → b < 447) (h4 : 446 ≤ zn S) : jCe S' := by
  have fq : zfq W (fun _ _ => False) S S' := fq_fr hf
  rcases h with ⟨q, z⟩ | ⟨E, q, e1, e2, e3, e4⟩
  · exact Or.inl ⟨by rw [fr_R hf]; exact q, fz_fq z fq (fun b j r => by
      rcases r with r | r
      · exact hw b j r
      · exact absurd r (fun x => x)) h4⟩
  · exact Or.inr ⟨E, by rw [fr_R hf]; exact q, e1, by rw [fq_n fq]; exact e2, kCen_fq e3 fq (fun j _ x => x) (fun j x => x) (fun j x => x), rCen_sm e4 (sm_fr hf (fun b j h1 h2 q => by have := hw b j q; omega))⟩
theorem cl_forget {S : zM} (hj : jCe S) (h1 : zh S 1 = (11, 0)) (w : zWs) : ∃ S', f_Cl_forgetWords 1 S = some S' ∧ zfr (fun b _ => 447 ≤ b) S S' ∧ cCe S' w := by
  rcases hj with ⟨q, z⟩ | ⟨E, q, e1, e2, e3, e4⟩
  · exact ⟨S, by simp [f_Cl_forgetWords, h1, q], fr_refl _ _, Or.inl ⟨q, z⟩⟩
  · obtain ⟨S1, o1, o2, o3⟩ := o_forget (oc := zoc (wSc w).1 (wSc w).2.2 (wAs w)) e3.2.2.1 (by omega)
    have k1 := kCen_fq e3 (fq_fr (V := fun _ _ => False) o2) (fun j _ x => x) (fun j x => x) (fun j x => x)
    obtain ⟨S2, p1, p2, p3⟩ := fill_5 k1.2.2.2.2.2.2.2.2.2.2.2.2.2.2.2 (by omega) (by omega) (-3)
    have f3 : zfr (fun b j => b = E ∧ (j = 10 ∨ j = 11)) S2 (zwI (zwI S2 E 10 0) E 11 0) := fr_trans (fr_wI _ _ ⟨rfl, Or.inl rfl⟩) (fr_wI _ _ ⟨rfl, Or.inr rfl⟩)
    have fa : zfr (fun b _ => 447 ≤ b) S (zwI (zwI S2 E 10 0) E 11 0) := fr_trans (fr_trans (fr_mono o2 (fun b j x => by omega)) (fr_mono p2 (fun b j x => by omega))) (fr_mono f3 (fun b j x => by omega))
    have fb : zfr (fun b j => b = E + 1 + 3 ∨ b = E + 30 ∨ (b = E ∧ (j = 10 ∨ j = 11))) S (zwI (zwI S2 E 10 0) E 11 0) := fr_trans (fr_trans (fr_mono o2 (fun b j x => Or.inl x)) (fr_mono p2 (fun b j x => Or.inr (Or.inl x)))) (fr_mono f3 (fun b j x => Or.inr (Or.inr x)))
    have k2 := kCen_fq k1 (fq_fr (V := fun _ _ => False) p2) (fun j _ x => x) (fun j x => x) (fun j x => x)
    have st : pSt (zwI (zwI S2 E 10 0) E 11 0) (E + 1) 0 (zoc (wSc w).1 (wSc w).2.2 (wAs w)) := pSt_sm (pSt_sm o3 (sm_fr p2 (fun b j h1 h2 => by omega))) (sm_fr f3 (fun b j h1 h2 => by omega))
    refine ⟨zwI (zwI S2 E 10 0) E 11 0, ?_, fa, Or.inr ⟨E, 0, 0, by rw [fr_R fa]; exact q, e1, by rw [fq_n (fq_fr (V := fun _ _ => False) fa)]; exact e2, kCen_fq e3 (fq_fr (V := fun _ _ => False) fa) (fun j _ x => x) (fun j x => x) (fun j x => x), rCen_sm e4 (sm_fr fb (fun b j h1 h2 => by omega)), by simp [-Prod.exists, -Prod.forall, zgf, zgr, zpf, zpz, zpr, zga, zgl, zgo, zpa, zpb, zpl, zpo, mm_len, zcl, Option.bind_some, Option.bind_none, mm_hI, mm_hJ, mm_hR, mm_nI, mm_nJ, mm_nR, mm_sI, mm_sJ, mm_sR, mm_RI, mm_RJ, mm_IJ, mm_IR, mm_JI, mm_JR, mm_II, mm_JJ, mm_RR]; rfl, by simp [-Prod.exists, -Prod.forall, zgf, zgr, zpf, zpz, zpr, zga, zgl, zgo, zpa, zpb, zpl, zpo, mm_len, zcl, Option.bind_some, Option.bind_none, mm_hI, mm_hJ, mm_hR, mm_nI, mm_nJ, mm_nR, mm_sI, mm_sJ, mm_sR, mm_RI, mm_RJ, mm_IJ, mm_IR, mm_JI, mm_JR, mm_II, mm_JJ, mm_RR]; rfl, by omega, Or.inl rfl, ⟨fun i hi => by omega, st, fun i hi => by omega⟩, fun i hi => by omega, fun n hn => Or.inl ?_⟩⟩
    · have cf : f_Census_forget E S = some (zwI (zwI S2 E 10 0) E 11 0) := by
        simp [f_Census_forget, -Prod.exists, -Prod.forall, ↓bb_gf, ↓bb_gr, ↓bb_len, ↓bb_ga, ↓bb_gl, ↓bb_go, ↓bb_pf, ↓bb_pz, ↓bb_pr, ↓bb_pa, ↓bb_pb, ↓bb_pl, ↓bb_po, ↓bb_cl, ↓bb_some, ↓bb_RI, ↓bb_RJ, mm_hI, mm_hJ, mm_hR, mm_nI, mm_nJ, mm_nR, mm_sI, mm_sJ, mm_sR, mm_RI, mm_RJ, mm_IJ, mm_IR, mm_JI, mm_JR, mm_II, mm_JJ, mm_RR, e3.1, ↓bS e3.2.1, e3.2.2.1.1, ↓bS o1, k1.1, ↓bS k1.2.2.2.2.2.2.2.2.2.2.2.2.2.2.1, ↓bS p1, k2.1]
      simp [f_Cl_forgetWords, -Prod.exists, -Prod.forall, ↓bb_gf, ↓bb_gr, ↓bb_len, ↓bb_ga, ↓bb_gl, ↓bb_go, ↓bb_pf, ↓bb_pz, ↓bb_pr, ↓bb_pa, ↓bb_pb, ↓bb_pl, ↓bb_po, ↓bb_cl, ↓bb_some, ↓bb_RI, ↓bb_RJ, mm_hI, mm_hJ, mm_hR, mm_nI, mm_nJ, mm_nR, mm_sI, mm_sJ, mm_sR, mm_RI, mm_RJ, mm_IJ, mm_IR, mm_JI, mm_JR, mm_II, mm_JJ, mm_RR, h1, q, ↓bS q, e3.1, ↓bS cf]
    · rw [fr_I f3 (by omega)]; exact p3 n hn
/-! aside -/
def sAs (w : zWs) (asd : Nat → Nat) (ac : List Nat) : zWs := (w.1, w.2.1, asd, ac, w.2.2.2.2)
def zkeep (ac : List Nat) (a : Nat) : List Nat := if ac.length < 12 then ac ++ [a] else ac.drop 1 ++ [a]
/-- how many rules are aside in the first k passes -/
def zac (ps : List zPs) (asd : Nat → Nat) : Nat → Nat
  | 0 => 0
  | k + 1 => zac ps asd k + fb_ct (fun i => (asd k).testBit i) (zpa_ ps k).2.length
def sp_aside (a b c : Int32) (w : zWs) : Int32 × zWs := match zix2 w a b with
  | none => zrf w 1
  | some q => if c = 0 ∨ c = 1 then
      (if (wAs w q.1).testBit q.2 = decide (c = 1) then zrf w 5 else zan (sAs w (zasd (wAs w) q.1 q.2) (zkeep (wAc w) (8 * q.1 + q.2))) (nI (zac (wSc w).2.2 (zasd (wAs w) q.1 q.2) (wSc w).2.2.length)))
    else zrf w 2
theorem keep_len {ac : List Nat} {a : Nat} (h : ac.length ≤ 12) : (zkeep ac a).length ≤ 12 := by
  unfold zkeep
  split
  · simp; omega
  · simp; omega
theorem keep_mem {ac : List Nat} {a x : Nat} (h : x ∈ zkeep ac a) : x ∈ ac ∨ x = a := by
  unfold zkeep at h
  split at h
  · rcases List.mem_append.1 h with q | q
    · exact Or.inl q
    · exact Or.inr (List.mem_singleton.1 q)
  · rcases List.mem_append.1 h with q | q
    · exact Or.inl (List.mem_of_mem_drop q)
    · exact Or.inr (List.mem_singleton.1 q)
theorem asd_lt {asd : Nat → Nat} {p i q n : Nat} (h : asd q < 2 ^ n) (hi : q = p → i < n) : zasd asd p i q < 2 ^ n := by
  unfold zasd zup
  split
  · rename_i e
    subst e
    exact Nat.xor_lt_two_pow h (Nat.pow_lt_pow_right (by omega) (hi rfl))
  · exact h
theorem okW_as {w : zWs} {p i : Nat} {ac : List Nat} (ho : okW w) (hp : p < (wSc w).2.2.length) (hi : i < (zpa_ (wSc w).2.2 p).2.length) (h12 : ac.length ≤ 12) (hac : ∀ a, a ∈ ac → a / 8 < (wSc w).2.2.length ∧ a % 8 < (zpa_ (wSc w).2.2 (a / 8)).2.length) : okW (sAs w (zasd (wAs w) p i) ac) := by
  obtain ⟨a1, a2, a3, a4, a5, a6, a7, a8, a9, a10⟩ := ho
  exact ⟨a1, a2, a3, h12, hac, a6, a7, a8, a9, fun q hq => ⟨(a10 q hq).1, asd_lt (a10 q hq).2 (fun e => by subst e; exact hi)⟩⟩
theorem hk_aside (a b c : Int32) : zHk (sp_aside a b c) := fun S w ho hp => by
  unfold sp_aside at hp ⊢
  cases e : zix2 w a b with
  | none => exact okW_tr ho (by omega)
  | some q =>
    obtain ⟨p, i⟩ := q
    rw [e] at hp
    obtain ⟨_, _, _, _, hp1, hi⟩ := ix2_some e
    simp only at hp ⊢
    split
    · rename_i q1
      rw [if_pos q1] at hp
      split
      · exact okW_tr ho (by omega)
      · rename_i q2
        rw [if_neg q2] at hp
        obtain ⟨T, U, hm, _⟩ := hp
        have wps : wPs (wSc w).2.2 := hm.2.2.1.1.2.2.2.2.2.2.2.2.2
        have r8 := (ps_w wps hp1).1
        refine okW_tr (okW_as ho hp1 hi (keep_len ho.2.2.2.1) (fun x hx => ?_)) (by omega)
        rcases keep_mem hx with q | q
        · exact ho.2.2.2.2.1 x q
        · subst q
          rw [show (8 * p + i) / 8 = p by omega, show (8 * p + i) % 8 = i by omega]
          exact ⟨hp1, hi⟩
    · exact okW_tr ho (by omega)
theorem bc_256 : ∀ m, m < 256 → zbc (nI m) = nI (fb_ct (fun i => m.testBit i) 8) := by decide +kernel
theorem ct_top {m n : Nat} (h : m < 2 ^ n) : ∀ k, n ≤ k → fb_ct (fun i => m.testBit i) k = fb_ct (fun i => m.testBit i) n := by
  intro k hk
  induction k with
  | zero => have : n = 0 := by omega
            rw [this]
  | succ k ih =>
    by_cases q : n = k + 1
    · rw [q]
    · rw [fb_ct_succ, ih (by omega), Nat.testBit_lt_two_pow (Nat.lt_of_lt_of_le h (Nat.pow_le_pow_right (by omega) (by omega)))]
      rfl
theorem ac_le {ps : List zPs} {asd : Nat → Nat} (h : ∀ p, p < ps.length → (zpa_ ps p).2.length ≤ 8) : ∀ k, k ≤ ps.length → zac ps asd k ≤ 8 * k := by
  intro k
  induction k with
  | zero => intro _; exact Nat.le_refl 0
  | succ k ih =>
    intro hk
    have := ih (by omega)
    have h8 := h k (by omega)
    have := fb_ct_le (fun i => (asd k).testBit i) (zpa_ ps k).2.length
    rw [zac]; omega
theorem scr_count {S : zM} {T : Nat} {sc : zSc} {asd : Nat → Nat} (hS : pScr S T sc asd) (ha : ∀ p, p < sc.2.2.length → asd p < 2 ^ (zpa_ sc.2.2 p).2.length) : f_Script_asideCount T S = some (nI (zac sc.2.2 asd sc.2.2.length), S) := by
  have h3 := hS.2.2.2.2.2.2.2.2.2.1
  have h5 := hS.2.2.2.1
  refine loop_g (N := sc.2.2.length) (by omega) (fun F (a : Int32) i _ => L_Script_asideCount_4 F T a (nI i) S) (fun a i _ => a = nI (zac sc.2.2 asd i)) (fun o => o = some (nI (zac sc.2.2 asd sc.2.2.length), S)) ?_ ?_ 0 0 S (by omega) rfl
  · rintro F a _ rfl
    show L_Script_asideCount_4 (F + 1) _ _ _ _ = _
    have lt : ¬ nI sc.2.2.length < nI sc.2.2.length := by rw [nI_ltI (by omega) (by omega)]; omega
    rw [L_Script_asideCount_4]
    simp [-Prod.exists, -Prod.forall, ↓bb_gf, ↓bb_gr, ↓bb_len, ↓bb_ga, ↓bb_gl, ↓bb_go, ↓bb_pf, ↓bb_pz, ↓bb_pr, ↓bb_pa, ↓bb_pb, ↓bb_pl, ↓bb_po, ↓bb_cl, ↓bb_some, ↓bb_RI, ↓bb_RJ, mm_hI, mm_hJ, mm_hR, mm_nI, mm_nJ, mm_nR, mm_sI, mm_sJ, mm_sR, mm_RI, mm_RJ, mm_IJ, mm_IR, mm_JI, mm_JR, mm_II, mm_JJ, mm_RR, hS.1.1, h5, lt]
  · rintro F a i _ hi rfl ih
    show L_Script_asideCount_4 (F + 1) _ _ _ _ = _
    have lt : nI i < nI sc.2.2.length := (nI_ltI (by omega) (by omega)).2 hi
    have pa := scr_passAt hS (nI i)
    rw [if_neg (nI_pos (by omega)), nI_clamp (by omega), if_pos hi] at pa
    have hP := hS.2.2.2.2.2.1 i hi
    have r8 := hP.2.2.2.2.2.2.2.1.1
    have bc : f_J_bitCount (nI (asd i)) S = some (nI (fb_ct (fun k => (asd i).testBit k) (zpa_ sc.2.2 i).2.length), S) := by
      rw [bc_eq, bc_256 _ hP.2.2.2.2.2.2.2.2, ct_top (ha i hi) 8 r8]
    have e1 : nI i + 1 = nI (i + 1) := nI_add i 1
    rw [L_Script_asideCount_4]
    simp only [↓bb_gf, hS.1.1, if_true, h5, lt, ↓bb_cl, ↓bS pa, hP.1.1, hP.2.2.2.1, ↓bS bc, nI_add, e1]
    exact ih _ S rfl
