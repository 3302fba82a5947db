/-! passes with no rule that serves -/
def zemp (w : zWs) (j : Nat) : Bool := (List.range (zpa_ (wSc w).2.2 j).2.length).all (fun i => (wAs w j).testBit i)
theorem emp_iff {w : zWs} {j : Nat} : zemp w j = true ↔ ∀ i, i < (zpa_ (wSc w).2.2 j).2.length → (wAs w j).testBit i = true := by
  unfold zemp
  rw [List.all_eq_true]
  exact ⟨fun h i hi => h i (List.mem_range.2 hi), fun h i hi => h i (List.mem_range.1 hi)⟩
theorem bits_0 {n : Nat} {f : Nat → Bool} : zbits n f = 0 ↔ ∀ i, i < n → f i = false := by
  constructor
  · intro h i hi
    have := bits_tb f n i
    rw [h, Nat.zero_testBit] at this
    simp [hi] at this
    exact this
  · intro h
    induction n with
    | zero => rfl
    | succ n ih => rw [zbits, ih (fun i hi => h i (by omega)), h n (by omega)]; rfl
/-- the reference: is the pass empty -/
theorem m_isEmpty {S : zM} {w : zWs} (h : sMo S 408) (hs : mSc S 408 (wSc w) (wAs w)) {p : Nat} (hp : p < (wSc w).2.2.length) : f_Mo_isEmpty 408 (nI p) S = some (if zemp w p then 1 else 0, S) := by
  have x13 := hs.2.2.2.2.2.2.2.2.2.2.2.2
  have h3 := x13.1
  have r8 := (ps_w x13 hp).1
  have v3 : zI S (408 + 3) p = nI (zpa_ (wSc w).2.2 p).2.length := hs.2.2.2.2.2.1 p (by omega)
  have z3 : zinb (nI p) 3 = true := (nn_in (by omega)).2 (by omega)
  have cp : (nI p).toNatClampNeg = p := nI_clamp (by omega)
  have m8 : (8 : Int32) * nI p = nI (8 * p) := pk_mul 8 _
  refine loop_g (N := (zpa_ (wSc w).2.2 p).2.length) (by omega) (fun F (_ : Unit) i _ => L_Mo_isEmpty_2 F 408 (nI p) (nI i) S) (fun _ i _ => ∀ k, k < i → (wAs w p).testBit k = true) (fun o => o = some (if zemp w p then 1 else 0, S)) ?_ ?_ () 0 S (by omega) (fun k hk => by omega)
  · intro F _ _ hi
    show L_Mo_isEmpty_2 (F + 1) _ _ _ _ = _
    have lt : ¬ nI (zpa_ (wSc w).2.2 p).2.length < nI (zpa_ (wSc w).2.2 p).2.length := by rw [nI_ltI (by omega) (by omega)]; omega
    rw [emp_iff.2 hi, L_Mo_isEmpty_2]
    simp [-Prod.exists, -Prod.forall, ↓bb_gf, ↓bb_gr, ↓bb_len, ↓bb_ga, ↓bb_gl, ↓bb_go, ↓bb_pf, ↓bb_pz, ↓bb_pr, ↓bb_pa, ↓bb_pb, ↓bb_pl, ↓bb_po, ↓bb_cl, ↓bb_some, ↓bb_RI, ↓bb_RJ, mm_hI, mm_hJ, mm_hR, mm_nI, mm_nJ, mm_nR, mm_sI, mm_sJ, mm_sR, mm_RI, mm_RJ, mm_IJ, mm_IR, mm_JI, mm_JR, mm_II, mm_JJ, mm_RR, h.1, ↓bS (mo_ruleMany h), mh_ruleMany h, z3, cp, v3, lt]
  · intro F _ i _ hi hk ih
    show L_Mo_isEmpty_2 (F + 1) _ _ _ _ = _
    have lt : nI i < nI (zpa_ (wSc w).2.2 p).2.length := (nI_ltI (by omega) (by omega)).2 hi
    have e1 : nI i + 1 = nI (i + 1) := nI_add i 1
    have z : zinb (nI (8 * p + i)) 24 = true := (nn_in (by omega)).2 (by omega)
    have c : (nI (8 * p + i)).toNatClampNeg = 8 * p + i := nI_clamp (by omega)
    have v := hs.2.2.2.2.2.2.2.2.1 p i (by omega) (by omega)
    rw [L_Mo_isEmpty_2]
    cases b : (wAs w p).testBit i with
    | true =>
      rw [b] at v
      simp only [if_true] at v
      have := ih () S (fun k q => by
        by_cases e : k = i
        · subst e; exact b
        · exact hk k (by omega))
      rw [← this]
      simp [-Prod.exists, -Prod.forall, ↓bb_gf, ↓bb_gr, ↓bb_len, ↓bb_ga, ↓bb_gl, ↓bb_go, ↓bb_pf, ↓bb_pz, ↓bb_pr, ↓bb_pa, ↓bb_pb, ↓bb_pl, ↓bb_po, ↓bb_cl, ↓bb_some, ↓bb_RI, ↓bb_RJ, mm_hI, mm_hJ, mm_hR, mm_nI, mm_nJ, mm_nR, mm_sI, mm_sJ, mm_sR, mm_RI, mm_RJ, mm_IJ, mm_IR, mm_JI, mm_JR, mm_II, mm_JJ, mm_RR, h.1, ↓bS (mo_ruleMany h), mh_ruleMany h, z3, cp, v3, lt, ↓bS (mo_isAside h), mh_isAside h, m8, nI_add, z, c, v, e1]
    | false =>
      rw [b] at v
      simp only [Bool.false_eq_true, if_false] at v
      have ne : zemp w p = false := by
        cases e : zemp w p with
        | false => rfl
        | true => have := emp_iff.1 e i hi; rw [b] at this; cases this
      simp [-Prod.exists, -Prod.forall, ↓bb_gf, ↓bb_gr, ↓bb_len, ↓bb_ga, ↓bb_gl, ↓bb_go, ↓bb_pf, ↓bb_pz, ↓bb_pr, ↓bb_pa, ↓bb_pb, ↓bb_pl, ↓bb_po, ↓bb_cl, ↓bb_some, ↓bb_RI, ↓bb_RJ, mm_hI, mm_hJ, mm_hR, mm_nI, mm_nJ, mm_nR, mm_sI, mm_sJ, mm_sR, mm_RI, mm_RJ, mm_IJ, mm_IR, mm_JI, mm_JR, mm_II, mm_JJ, mm_RR, h.1, ↓bS (mo_ruleMany h), mh_ruleMany h, z3, cp, v3, lt, ↓bS (mo_isAside h), mh_isAside h, m8, nI_add, z, c, v, ne]
/-- the reference's answer -/
theorem m_empty {S : zM} {w : zWs} (h : pMo S w) (a : Int32) : ∃ S', f_Mo_empty 408 a S = some (match zkt (zemp w) (wSc w).2.2.length a with | some j => nI j | none => 0, S') ∧ pMo S' w ∧ zfr wMo S S' ∧ zI S' 408 0 = (match zkt (zemp w) (wSc w).2.2.length a with | some _ => 0 | none => 1) := by
  obtain ⟨k1, k2⟩ := mo_th0 h
  have hsc : mSc (zwI S 408 0 0) 408 (wSc w) (wAs w) := k1.1.2.1
  have hm := k1.1.1
  have h3 := hsc.2.2.2.2.2.2.2.2.2.2.2.2.1
  have v8 := hsc.2.2.1
  have v9 := hsc.2.2.2.1
  have go : L_Mo_empty_9 zF 408 a 0 0 (zwI S 408 0 0) = (match zkt (zemp w) (wSc w).2.2.length a with | some j => some (nI j, zwI S 408 0 0) | none => some (0, zwI (zwI S 408 0 0) 408 0 1)) := by
    refine loop_kt (N := (wSc w).2.2.length) (by omega) (fun F x i => L_Mo_empty_9 F 408 a x (nI i) (zwI S 408 0 0)) a (fun o => match o with | some j => some (nI j, zwI S 408 0 0) | none => some (0, zwI (zwI S 408 0 0) 408 0 1)) (fun F x => ?_) (fun F i hi e => ?_) (fun F x i hi e q => ?_) (fun F x i hi e => ?_)
    · show L_Mo_empty_9 (F + 1) _ _ _ _ _ = _
      have lt : ¬ nI (wSc w).2.2.length < nI (wSc w).2.2.length := by rw [nI_ltI (by omega) (by omega)]; omega
      rw [L_Mo_empty_9]
      by_cases q : (wSc w).2.2.length = 0
      · rw [if_pos q] at v9
        simp only [↓bb_gf, hm.1, if_true, v9, ↓bb_pf]
      · rw [if_neg q] at v9
        have d : ¬ (1 : Int32) = 0 := by decide
        simp only [↓bb_gf, hm.1, if_true, v9, d, if_false, v8, lt, ↓bb_pf]
    all_goals
      have qz : ¬ (wSc w).2.2.length = 0 := by omega
      rw [if_neg qz] at v9
      have lt : nI i < nI (wSc w).2.2.length := (nI_ltI (by omega) (by omega)).2 hi
      have e1 : nI i + 1 = nI (i + 1) := nI_add i 1
      have ie := m_isEmpty hm hsc hi
      rw [e] at ie
      have d : ¬ (1 : Int32) = 0 := by decide
    · simp only [if_true] at ie
      show L_Mo_empty_9 (F + 1) _ _ _ _ _ = _
      rw [L_Mo_empty_9]
      simp only [↓bb_gf, hm.1, if_true, v9, d, if_false, v8, lt, ↓bb_cl, ↓bS ie]
    · simp only [if_true] at ie
      show L_Mo_empty_9 (F + 1) _ _ _ _ _ = _
      rw [L_Mo_empty_9]
      simp only [↓bb_gf, hm.1, if_true, v9, d, if_false, v8, lt, ↓bb_cl, ↓bS ie, q, e1]
    · simp only [Bool.false_eq_true, if_false] at ie
      show L_Mo_empty_9 (F + 1) _ _ _ _ _ = _
      rw [L_Mo_empty_9]
      simp only [↓bb_gf, hm.1, if_true, v9, d, if_false, v8, lt, ↓bb_cl, ↓bS ie, e1]
  have fe : f_Mo_empty 408 a S = L_Mo_empty_9 zF 408 a 0 0 (zwI S 408 0 0) := by simp [f_Mo_empty, -Prod.exists, -Prod.forall, ↓bb_gf, ↓bb_gr, ↓bb_len, ↓bb_ga, ↓bb_gl, ↓bb_go, ↓bb_pf, ↓bb_pz, ↓bb_pr, ↓bb_pa, ↓bb_pb, ↓bb_pl, ↓bb_po, ↓bb_cl, ↓bb_some, ↓bb_RI, ↓bb_RJ, mm_hI, mm_hJ, mm_hR, mm_nI, mm_nJ, mm_nR, mm_sI, mm_sJ, mm_sR, mm_RI, mm_RJ, mm_IJ, mm_IR, mm_JI, mm_JR, mm_II, mm_JJ, mm_RR, h.1.1.1]
  rw [fe, go]
  cases e : zkt (zemp w) (wSc w).2.2.length a with
  | some j => exact ⟨_, rfl, k1, k2, by simp [-Prod.exists, -Prod.forall, zgf, zgr, zpf, zpz, zpr, zga, zgl, zgo, zpa, zpb, zpl, zpo, mm_len, zcl, Option.bind_some, Option.bind_none, mm_hI, mm_hJ, mm_hR, mm_nI, mm_nJ, mm_nR, mm_sI, mm_sJ, mm_sR, mm_RI, mm_RJ, mm_IJ, mm_IR, mm_JI, mm_JR, mm_II, mm_JJ, mm_RR]⟩
  | none =>
    have f0 : zfr (fun b j => b = 408 ∧ j = 0) (zwI S 408 0 0) (zwI (zwI S 408 0 0) 408 0 1) := fr_wI _ _ ⟨rfl, rfl⟩
    obtain ⟨l1, l2⟩ := mo_keep k1 f0 (fun b j q => by unfold wMs; omega) (by omega) (by omega)
    exact ⟨_, rfl, l1, fr_trans k2 l2, by simp [-Prod.exists, -Prod.forall, zgf, zgr, zpf, zpz, zpr, zga, zgl, zgo, zpa, zpb, zpl, zpo, mm_len, zcl, Option.bind_some, Option.bind_none, mm_hI, mm_hJ, mm_hR, mm_nI, mm_nJ, mm_nR, mm_sI, mm_sJ, mm_sR, mm_RI, mm_RJ, mm_IJ, mm_IR, mm_JI, mm_JR, mm_II, mm_JJ, mm_RR]⟩
