/-! what the tables and the start say, at the law's entry -/
def ztm : Nat → Term := fun i => bif Nat.beq i 12 then .string "CarriedLetters" 356 else .string "CarriedLetters$Reader" ([67, 75, 80, 84, 89, 113, 135, 146, 164, 173, 175, 180].getD i 0)
def zFl : List Cond := flatC (Jvm.Cond.and given_1 narrow_1)
def zvl (i : Nat) : Term := .field (ztm i) "java/lang/String" "value" "[B"
set_option maxRecDepth 100000 in
set_option maxHeartbeats 8000000 in
theorem zs_a : (List.range 13).all (fun i => decide (Cond.exactly (ztm i) "java/lang/String" ∈ zFl) && decide (Cond.eq (.field (ztm i) "java/lang/String" "coder" "B") (.int 0) ∈ zFl) && decide (Cond.arrayOf (zvl i) .byte ∈ zFl) && decide (Cond.eq (.length (zvl i)) (.int (Int32.ofNat ((zstr.map List.length).getD i 0))) ∈ zFl)) = true := by decide +kernel
set_option maxRecDepth 100000 in
set_option maxHeartbeats 8000000 in
theorem zs_b : (List.range 13).all (fun i => (List.range ((zstr.map List.length).getD i 0)).all (fun j => decide (Cond.eq (.elem (zvl i) (.int (Int32.ofNat j))) (.int ((zstr.getD i []).getD j 0)) ∈ zFl))) = true := by decide +kernel
set_option maxRecDepth 100000 in
set_option maxHeartbeats 8000000 in
theorem zs_c : (List.range 13).all (fun i => (List.range i).all (fun j => decide (Cond.not (Cond.eq (ztm i) (ztm j)) ∈ zFl) || decide (Cond.not (Cond.eq (ztm j) (ztm i)) ∈ zFl))) = true := by decide +kernel
/-- the reference's own places of the same texts -/
def zm2 : List Nat := [190, 192, 194, 196, 198, 200, 202, 204, 206, 208, 210, 212]
set_option maxRecDepth 100000 in
set_option maxHeartbeats 8000000 in
theorem zs_d : (List.range 12).all (fun i => decide (Cond.eq (ztm i) (.string "CarriedLettersModel" (zm2.getD i 0)) ∈ zFl)) = true := by decide +kernel
set_option maxRecDepth 100000 in
set_option maxHeartbeats 8000000 in
theorem zs_e : zstrs.all (fun q => decide (Cond.stringRef q.1 q.2.1 q.2.2.1 ∈ lw_tbl)) = true := by decide +kernel
set_option maxRecDepth 100000 in
theorem zs_f : zstrs.all (fun q => (decide (q.2.2.2 < 13) && decide (Term.string q.1 q.2.1 = ztm q.2.2.2)) || (decide (q.2.2.2 < 12) && decide (Term.string q.1 q.2.1 = .string "CarriedLettersModel" (zm2.getD q.2.2.2 0)))) = true := by decide +kernel
def zwds : List Cond := [.laysStatic "java/lang/String" "COMPACT_STRINGS" "Z", .initialized "java/lang/String", .laysStatic "jdk/internal/util/Preconditions" "SIOOBE_FORMATTER" "Ljava/util/function/BiFunction;", .initialized "jdk/internal/util/Preconditions", .laysStatic Bundle.tN "UNASSIGNED_STACK" Bundle.steD, .initialized Bundle.tN, .laysStatic Bundle.tN "SUPPRESSED_SENTINEL" Bundle.listD, .arrayClass .int, .arrayClass .long, .arrayClass .boolean, .arrayOver (.object RX5), .arrayOver (.object RX8), .arrayOver (.object RX9), .instantiable "java/util/NoSuchElementException" 6]
set_option maxRecDepth 100000 in
set_option maxHeartbeats 8000000 in
theorem zwds_in : zwds.all (fun w => decide (w ∈ lw_tbl)) = true := by decide +kernel
theorem zwd_at (i : Nat) {w : Cond} (h : zwds[i]? = some w) : w ∈ lw_tbl := of_decide_eq_true (List.all_eq_true.mp zwds_in w (List.mem_of_getElem? h))
def zst3 : List Cond := [Cond.eq (.static "java/lang/String" "COMPACT_STRINGS" "Z") (.int 1), .isRef (.static "jdk/internal/util/Preconditions" "SIOOBE_FORMATTER" "Ljava/util/function/BiFunction;"), .isRef (.static Bundle.tN "UNASSIGNED_STACK" Bundle.steD), .isRef (.static Bundle.tN "SUPPRESSED_SENTINEL" Bundle.listD)]
set_option maxRecDepth 100000 in
set_option maxHeartbeats 8000000 in
theorem zst3_in : zst3.all (fun w => decide (w ∈ zFl)) = true := by decide +kernel
theorem zst_at (i : Nat) {w : Cond} (h : zst3[i]? = some w) : w ∈ zFl := of_decide_eq_true (List.all_eq_true.mp zst3_in w (List.mem_of_getElem? h))
theorem z_prim {s : State} {args : Array Value} {ty : FieldType} (h : (Cond.arrayClass ty).before args s = true) : ∃ cA : ClassId, ArrOfT s cA ty ∧ s.vm.findClass ("[" ++ ty.toString) = some cA := by
  obtain ⟨c, k, comp, h1, h2, h3⟩ := Cond.arrayClass_spec (show (Cond.arrayClass ty).holds args s none s [] = true from h)
  exact ⟨c, fun N z => ⟨(fun k h => by cases h), k, h2, comp, h3⟩, h1⟩
theorem z_objs {s : State} {args : Array Value} {C : String} (h : (Cond.arrayOver (.object C)).before args s = true) : ∃ cA : ClassId, ArrOfT s cA (.object C) ∧ va_RA s cA (.object C) := by
  obtain ⟨comp, c, k, f1, -, f2, f3, f4⟩ := Cond.arrayOver_spec (show (Cond.arrayOver (.object C)).holds args s none s [] = true from h)
  exact ⟨c, fun N z => ⟨(fun k h => by cases h), k, f2, comp, f3⟩, k, comp, f2, f3, f1, f4⟩
theorem law_world {p : Program} {s : State} {m : MethodId} {meth : Method} {c : Code} {b L : Nat} {xs : Nat → Int32} (C0 : lw_At p s m meth c b L xs) : ∃ (aK aV : Nat → Nat) (G : va_G) (tc : Nat → ClassId), zKS s.heap b L xs aK aV G tc s := by
  obtain ⟨hx, hb, hr, hml, hown, hts, hX, hbl, hlocks, hgv⟩ := id C0
  have hfl : ∀ w ∈ zFl, w.before #[Value.ref b] s = true := flat_of_before _ hgv
  have hA : ∀ a : Nat, a < s.heap.size → ¬ s.heap.size ≤ a := fun a h => Nat.not_le.mpr h
  have ra : ∀ i, i < 13 → _ := fun i hi => List.all_eq_true.mp zs_a i (List.mem_range.mpr hi)
  obtain ⟨adK, adV, hS, hev⟩ := vk_Sof (args := #[Value.ref b]) (s := s) (N := 13) (tm := ztm) (len := zstr.map List.length) (byt := zstr) (A := fun q => s.heap.size ≤ q)
    (fun i hi => by
      have : ∀ i, i < 13 → (zstr.map List.length).getD i 0 < 100 := by decide +kernel
      have := this i hi
      omega)
    (fun i hi => by
      have := List.all_eq_true.mp zs_a i (List.mem_range.mpr hi)
      simp only [Bool.and_eq_true, decide_eq_true_eq] at this
      exact hfl _ this.1.1.1)
    (fun i hi => by
      have := List.all_eq_true.mp zs_a i (List.mem_range.mpr hi)
      simp only [Bool.and_eq_true, decide_eq_true_eq] at this
      exact hfl _ this.1.1.2)
    (fun i hi => by
      have := List.all_eq_true.mp zs_a i (List.mem_range.mpr hi)
      simp only [Bool.and_eq_true, decide_eq_true_eq] at this
      exact hfl _ this.1.2)
    (fun i hi => by
      have := List.all_eq_true.mp zs_a i (List.mem_range.mpr hi)
      simp only [Bool.and_eq_true, decide_eq_true_eq] at this
      exact hfl _ this.2)
    (fun i hi j hj => by
      have := List.all_eq_true.mp (List.all_eq_true.mp zs_b i (List.mem_range.mpr hi)) j (List.mem_range.mpr hj)
      exact hfl _ (of_decide_eq_true this))
    (fun i j hi hj hij => by
      rcases Nat.lt_or_gt_of_ne hij with q | q
      · have := List.all_eq_true.mp (List.all_eq_true.mp zs_c j (List.mem_range.mpr hj)) i (List.mem_range.mpr q)
        simp only [Bool.or_eq_true, decide_eq_true_eq] at this
        rcases this with h | h
        · exact Or.inr (hfl _ h)
        · exact Or.inl (hfl _ h)
      · have := List.all_eq_true.mp (List.all_eq_true.mp zs_c i (List.mem_range.mpr hi)) j (List.mem_range.mpr q)
        simp only [Bool.or_eq_true, decide_eq_true_eq] at this
        rcases this with h | h
        · exact Or.inl (hfl _ h)
        · exact Or.inr (hfl _ h)) hA
  have hKc : ∀ k, ∃ D : ClassId × (Nat → Nat), ∀ q : vw_C, vwC[k]? = some q → u_Kn s q.1 q.2.1 q.2.2 D.1 D.2 := by
    intro k
    by_cases hk : k < 13
    · obtain ⟨C, T, N, ty, z1, z2, z3, z4, z5, z6, z7, z8, z9, z10⟩ := zcls_ok k hk
      obtain ⟨cC, iS, hu⟩ := u_known (s := s) (args := #[Value.ref b]) (C := C) (T := T) (N := N) (n := N) (ws := zTs) (fun w hw => hts w (List.mem_filter.mp hw).1) z4 (hts _ (List.mem_filter.mp z9).1)
      exact ⟨(cC, iS), fun q hq => by rw [z1] at hq; cases hq; exact hu⟩
    · by_cases h13 : k = 13
      · subst h13
        obtain ⟨cC, iS, hu⟩ := u_known (s := s) (args := #[Value.ref b]) (C := "java/util/NoSuchElementException") (T := TX0) (N := 0) (n := 6) (ws := []) (fun w hw => by cases hw) (fun w hw => by cases hw) (hts _ (zwd_at 13 rfl))
        exact ⟨(cC, iS), fun q hq => by
          have e : vwC[13]? = some ("java/util/NoSuchElementException", TX0, 0) := rfl
          rw [e] at hq; cases hq; exact hu⟩
      · refine ⟨(0, fun _ => 0), fun q hq => ?_⟩
        have : vwC.length = 14 := by decide +kernel
        rw [List.getElem?_eq_none (by omega)] at hq
        cases hq
  obtain ⟨c0, i0a, i0b⟩ := z_prim (hts _ (zwd_at 7 rfl))
  obtain ⟨c1, i1a, i1b⟩ := z_prim (hts _ (zwd_at 8 rfl))
  obtain ⟨c2, i2a, i2b⟩ := z_prim (hts _ (zwd_at 9 rfl))
  obtain ⟨c5, i5a, i5b⟩ := z_objs (C := RX5) (hts _ (zwd_at 10 rfl))
  obtain ⟨c8, i8a, i8b⟩ := z_objs (C := RX8) (hts _ (zwd_at 11 rfl))
  obtain ⟨c9, i9a, i9b⟩ := z_objs (C := RX9) (hts _ (zwd_at 12 rfl))
  obtain ⟨aK, haK⟩ : ∃ aK : Nat → Nat, aK = fun i => if i < 1000000 then adK i else adV (i - 1000000) := ⟨_, rfl⟩
  have ak : ∀ i, i < 13 → aK i = adK i := fun i hi => by rw [haK]; exact if_pos (by omega)
  refine ⟨aK, adV, (fun k => (Classical.choose (hKc k)).1, fun k => (Classical.choose (hKc k)).2), (fun k => if k = 100 then c0 else if k = 101 then c1 else if k = 102 then c2 else if k = 115 then c5 else if k = 118 then c8 else c9), ⟨fun k q hq => Classical.choose_spec (hKc k) q hq, fun k q hq => ?_⟩, fun w hw hn => ?_, fun q hq => ?_, ⟨hX, hbl⟩, ⟨fun i hi => ?_, fun i j hi hj e => hS.2 i j hi hj (by rw [← ak i hi, ← ak j hj]; exact e)⟩, va_AO.of (hts _ (zwd_at 10 rfl)), va_AO.of (hts _ (zwd_at 11 rfl)), va_AO.of (hts _ (zwd_at 12 rfl)), fun k hk => ?_, ?_, ?_, ?_, ?_⟩
  · match k, hq with
    | 0, hq => cases hq; exact ⟨i0a, i0b⟩
    | 1, hq => cases hq; exact ⟨i1a, i1b⟩
    | 2, hq => cases hq; exact ⟨i2a, i2b⟩
    | 3, hq => cases hq; exact ⟨i5a, i5b⟩
    | 4, hq => cases hq; exact ⟨i8a, i8b⟩
    | 5, hq => cases hq; exact ⟨i9a, i9b⟩
    | k + 6, hq => simp at hq
  · cases w with
    | fieldLinkNest a i b n d h => exact va_Nw.of rfl (hts _ hw)
    | methodLinkNest a i x h => exact va_Nw.of rfl (hts _ hw)
    | castable a i => exact va_Nw.of rfl (hts _ hw)
    | declares x => exact va_Nw.of rfl (hts _ hw)
    | _ => cases hn
  · have h1 := of_decide_eq_true (List.all_eq_true.mp zs_e q hq)
    have h2 := List.all_eq_true.mp zs_f q hq
    simp only [Bool.or_eq_true, Bool.and_eq_true, decide_eq_true_eq] at h2
    refine vk_R.of (A := #[Value.ref b]) (hts _ h1) ?_
    rcases h2 with ⟨g1, g2⟩ | ⟨g1, g2⟩
    · rw [g2, ak _ g1]; exact hev _ g1
    · have := of_decide_eq_true (List.all_eq_true.mp zs_d q.2.2.2 (List.mem_range.mpr g1))
      obtain ⟨y, y1, y2⟩ := Cond.eq_one (show (Cond.eq (ztm q.2.2.2) (.string "CarriedLettersModel" (zm2.getD q.2.2.2 0))).holds #[Value.ref b] s none s [] = true from hfl _ this)
      rw [g2, ak _ (by omega), y2, ← y1]
      exact hev _ (by omega)
  · rw [ak i hi]; exact hS.1 i hi
  · rw [haK]
    show (if 1000000 + k < 1000000 then adK (1000000 + k) else adV (1000000 + k - 1000000)) = adV k
    rw [if_neg (by omega), show 1000000 + k - 1000000 = k by omega]
  · obtain ⟨y, y1, y2⟩ := Cond.eq_one (show (Cond.eq (.static "java/lang/String" "COMPACT_STRINGS" "Z") (.int 1)).holds #[Value.ref b] s none s [] = true from hfl _ (zst_at 0 rfl))
    have y2 : some (Value.int 1) = some y := y2
    cases y2
    exact va_Zof (hts _ (zwd_at 0 rfl)) (hts _ (zwd_at 1 rfl)) y1 hA
  · exact va_Zqof (hts _ (zwd_at 2 rfl)) (hts _ (zwd_at 3 rfl)) (hfl _ (zst_at 1 rfl)) hA
  · exact vx_Zqof (hts _ (zwd_at 4 rfl)) (hts _ (zwd_at 5 rfl)) (hfl _ (zst_at 2 rfl)) hA
  · exact vx_Zqof (hts _ (zwd_at 6 rfl)) (hts _ (zwd_at 5 rfl)) (hfl _ (zst_at 3 rfl)) hA
