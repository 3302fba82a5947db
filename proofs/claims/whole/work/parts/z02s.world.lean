/-! THE WORLD OF A MEMORY: cell i of the abstract memory lies at address zad i; the base heap HB is the law's own at its entry. -/
abbrev vwC : List vw_C := vwCl ++ [("java/util/NoSuchElementException", TX0, 0)]
def zfn : List Nat := [2, 6, 12, 7, 3, 6, 8, 8, 2, 4, 6, 18, 67, 0]
/-- of each field: 0 int, 1 a reference, 2 boolean -/
def zft : List (List Nat) := [[1, 0], [1, 1, 1, 1, 1, 0], [1, 1, 1, 1, 1, 1, 1, 1, 1, 1, 0, 0], [1, 1, 1, 1, 1, 1, 0], [1, 1, 1], [1, 1, 1, 0, 2, 0], [1, 1, 1, 1, 1, 0, 0, 2], [1, 0, 0, 1, 1, 0, 0, 0], [1, 0], [1, 1, 0, 0], [1, 1, 1, 0, 0, 0], [1, 1, 1, 1, 1, 1, 1, 1, 1, 1, 1, 1, 1, 0, 0, 0, 0, 2], [0, 0, 0, 0, 1, 0, 0, 0, 0, 2, 1, 1, 1, 1, 0, 0, 0, 1, 1, 1, 1, 1, 0, 0, 0, 0, 0, 0, 0, 0, 1, 0, 1, 1, 1, 0, 1, 1, 1, 1, 1, 0, 1, 0, 1, 1, 1, 1, 2, 0, 1, 1, 1, 1, 1, 1, 0, 1, 1, 1, 1, 0, 0, 1, 1, 1, 0], []]
def zad (HB : Heap) (b : Nat) (aK : Nat → Nat) (i : Nat) : Nat := if i = 0 then b else if i < 1000000 then HB.size + (i - 1) else aK (i - 1000000)
def yzcv (ad : Nat → Nat) (v : Value) : Value := match v with
  | .ref a => .ref (ad a)
  | v => v
theorem zcv_cat (ad : Nat → Nat) (v : Value) : (yzcv ad v).category = v.category := by cases v <;> rfl
theorem zad_in {HB : Heap} {b : Nat} {aK : Nat → Nat} {i : Nat} (h : i + 1 < 1000000) : zad HB b aK (i + 1) = HB.size + i := by
  unfold zad
  rw [if_neg (by omega), if_pos h]
  omega
def zfv (ad : Nat → Nat) (S : zM) (kd i k : Nat) : Value := if (zft.getD kd []).getD k 0 = 1 then va_rf ((zR S i k).map ad) else .int (zI S i k)
def zent (ad : Nat → Nat) (tc : Nat → ClassId) (S : zM) (i : Nat) : va_E :=
  if (zh S i).1 < 100 then .inr ((zh S i).1, (List.range (zfn.getD (zh S i).1 0)).map (zfv ad S (zh S i).1 i))
  else if (zh S i).1 = 101 then .inl (tc 101, (zh S i).2, .inr (.inl (zJ S i)))
  else if (zh S i).1 < 110 then .inl (tc (zh S i).1, (zh S i).2, .inl (zI S i))
  else .inl (tc (zh S i).1, (zh S i).2, .inr (.inr (.inr (.inr (fun j => (zR S i j).map ad)))))
def yzwl (ad : Nat → Nat) (tc : Nat → ClassId) (S : zM) : va_W := (List.range (zn S)).map (fun i => (ad (i + 1), zent ad tc S (i + 1)))
theorem zwl_get {ad : Nat → Nat} {tc : Nat → ClassId} {S : zM} {i : Nat} (h1 : 1 ≤ i) (h2 : i ≤ zn S) : (yzwl ad tc S)[i - 1]? = some (ad i, zent ad tc S i) := by
  unfold yzwl
  rw [List.getElem?_map, List.getElem?_range (by omega)]
  simp only [Option.map_some]
  rw [show i - 1 + 1 = i by omega]
theorem zwl_set {ad : Nat → Nat} {tc : Nat → ClassId} {S S' : zM} {i : Nat} (h1 : 1 ≤ i) (h2 : i ≤ zn S) (hn : zn S' = zn S) (ho : ∀ j, j ≠ i → zent ad tc S' j = zent ad tc S j) : yzwl ad tc S' = (yzwl ad tc S).set (i - 1) (ad i, zent ad tc S' i) := by
  apply List.ext_getElem?
  intro k
  unfold yzwl
  rw [List.getElem?_set, List.getElem?_map, List.getElem?_map, hn, List.length_map, List.length_range]
  by_cases hk : i - 1 = k
  · subst hk
    rw [if_pos rfl, if_pos (by omega), List.getElem?_range (by omega)]
    simp only [Option.map_some]
    rw [show i - 1 + 1 = i by omega]
  · rw [if_neg hk]
    by_cases hl : k < zn S
    · rw [List.getElem?_range hl]
      simp only [Option.map_some]
      rw [ho (k + 1) (by omega)]
    · rw [List.getElem?_eq_none (by simp; omega)]
      rfl
theorem zwl_new {ad : Nat → Nat} {tc : Nat → ClassId} {S S' : zM} (hn : zn S' = zn S + 1) (ho : ∀ j, j ≤ zn S → zent ad tc S' j = zent ad tc S j) : yzwl ad tc S' = yzwl ad tc S ++ [(ad (zn S + 1), zent ad tc S' (zn S + 1))] := by
  unfold yzwl
  rw [hn, List.range_succ, List.map_append, List.map_cons, List.map_nil]
  congr 1
  apply List.map_congr_left
  intro j hj
  rw [ho (j + 1) (by have := List.mem_range.mp hj; omega)]
/-- the shapes -/
def yzok (L : Nat) (xs : Nat → Int32) (S : zM) : Prop := (zh S 0 = (100, L) ∧ ∀ k, k < L → zI S 0 k = xs k) ∧ zn S < 900000 ∧ ∀ a, zn S < a → zh S a = (999, 0) ∧ (∀ k, zI S a k = 0) ∧ (∀ k, zJ S a k = 0) ∧ ∀ k, zR S a k = none
theorem yzok.le {L : Nat} {xs : Nat → Int32} {S : zM} (h : yzok L xs S) {a kd : Nat} (hk : (zh S a).1 = kd) (hkd : kd ≠ 999) : a ≤ zn S := by
  rcases Nat.lt_or_ge (zn S) a with q | q
  · exact absurd (by rw [← hk, (h.2.2 a q).1]) hkd
  · exact q
theorem yzok.pos {L : Nat} {xs : Nat → Int32} {S : zM} (h : yzok L xs S) {a kd : Nat} (hk : (zh S a).1 = kd) (hkd : kd ≠ 100) : 1 ≤ a := by
  rcases Nat.eq_zero_or_pos a with q | q
  · subst q
    exact absurd (by rw [← hk, h.1.1]) hkd
  · exact q
theorem zad_inj {HB : Heap} {b : Nat} {aK : Nat → Nat} {i j : Nat} (hi : i + 1 < 1000000) (hj : j + 1 < 1000000) (h : zad HB b aK (i + 1) = zad HB b aK (j + 1)) : i = j := by
  rw [zad_in hi, zad_in hj] at h
  omega
theorem zwl_D {HB : Heap} {b L : Nat} {xs : Nat → Int32} {aK : Nat → Nat} {tc : Nat → ClassId} {S : zM} (h : yzok L xs S) : va_D (fun q => HB.size ≤ q) (yzwl (zad HB b aK) tc S) := by
  have key : ∀ (k : Nat) (q : Nat × va_E), (yzwl (zad HB b aK) tc S)[k]? = some q → k < zn S ∧ q.1 = HB.size + k := by
    intro k q hk
    unfold yzwl at hk
    rw [List.getElem?_map] at hk
    by_cases hl : k < zn S
    · rw [List.getElem?_range hl] at hk
      simp only [Option.map_some, Option.some.injEq] at hk
      rw [← hk]
      have hb := h.2.1
      exact ⟨hl, zad_in (b := b) (aK := aK) (by omega)⟩
    · rw [List.getElem?_eq_none (by simp; omega)] at hk
      cases hk
  refine ⟨fun i j p q hi hj e => ?_, fun k q hk => ?_⟩
  · have h1 := key i p hi
    have h2 := key j q hj
    omega
  · have h1 := key k q hk
    show HB.size ≤ q.1
    omega
/-- what the heap is -/
def zRH (HB : Heap) (b L : Nat) (xs : Nat → Int32) (aK : Nat → Nat) (G : va_G) (tc : Nat → ClassId) (S : zM) (H : Heap) : Prop :=
  (∀ q : Nat, q < HB.size → H[q]? = HB[q]?) ∧ H.size = HB.size + zn S ∧ va_P G vwC (yzwl (zad HB b aK) tc S) H ∧ yzok L xs S
abbrev ztys (tc : Nat → ClassId) : List (ClassId × FieldType) := [(tc 100, .int), (tc 101, .long), (tc 102, .boolean), (tc 115, .object RX5), (tc 118, .object RX8), (tc 119, .object RX9)]
def znest (w : Cond) : Bool := match w with
  | .fieldLinkNest .. => true
  | .methodLinkNest .. => true
  | .castable .. => true
  | .declares .. => true
  | _ => false
def zstrs : List (String × Nat × String × Nat) := [(RX7, 67, "script", 0), (RX7, 75, "kind", 1), (RX7, 80, "pass", 2), (RX7, 84, "rule", 3), (RX7, 89, "letters", 4), (RX7, 113, "of", 5), (RX7, 135, "again", 6), (RX7, 146, "after", 7), (RX7, 164, "before", 8), (RX7, 173, "to", 9), (RX7, 175, "none", 10), (RX7, 180, "edge", 11), (RX11, 356, "no such pass", 12), (RX12, 190, "script", 0), (RX12, 192, "kind", 1), (RX12, 194, "pass", 2), (RX12, 196, "rule", 3), (RX12, 198, "letters", 4), (RX12, 200, "of", 5), (RX12, 202, "again", 6), (RX12, 204, "after", 7), (RX12, 206, "before", 8), (RX12, 208, "to", 9), (RX12, 210, "none", 10), (RX12, 212, "edge", 11)]
/-- what the tables say -/
def zKS (HB : Heap) (b L : Nat) (xs : Nat → Int32) (aK aV : Nat → Nat) (G : va_G) (tc : Nat → ClassId) (U : State) : Prop :=
  va_K G vwC (ztys tc) U ∧ (∀ w ∈ lw_tbl, znest w = true → va_Nw w U) ∧ (∀ q ∈ zstrs, vk_R q.1 q.2.1 q.2.2.1 (aK q.2.2.2) U) ∧ (va_X b L xs U HB ∧ b < HB.size) ∧ vk_S 13 (zstr.map List.length) zstr aK aV (fun q => HB.size ≤ q) U HB ∧ va_AO RX5 U ∧ va_AO RX8 U ∧ va_AO RX9 U ∧
  (∀ k, k < 13 → aK (1000000 + k) = aV k) ∧ va_Z "java/lang/String" "COMPACT_STRINGS" "Z" (.int 1) (fun q => HB.size ≤ q) U HB ∧ va_Zq "jdk/internal/util/Preconditions" "SIOOBE_FORMATTER" "Ljava/util/function/BiFunction;" (fun q => HB.size ≤ q) U HB ∧ vx_Zq Bundle.tN "UNASSIGNED_STACK" Bundle.steD (fun q => HB.size ≤ q) U HB ∧ vx_Zq Bundle.tN "SUPPRESSED_SENTINEL" Bundle.listD (fun q => HB.size ≤ q) U HB
theorem zKS.warm {HB : Heap} {b L : Nat} {xs : Nat → Int32} {aK aV : Nat → Nat} {G : va_G} {tc : Nat → ClassId} {s U : State} (hW : s.WarmedH U.vm) (h : zKS HB b L xs aK aV G tc s) : zKS HB b L xs aK aV G tc U := by
  obtain ⟨h1, h2, h3, h4, h5, h6, h7, h8, h9, h10, h11, h12, h13⟩ := h
  refine ⟨va_K.moved hW.alike h1, fun w hw hn => ?_, fun q hq => vk_R.warm hW (h3 q hq), ⟨va_X.moved hW.alike h4.1, h4.2⟩, vk_S.moved hW.alike h5, va_AO.moved hW.alike h6, va_AO.moved hW.alike h7, va_AO.moved hW.alike h8, h9, va_Z.moved hW.alike h10, va_Zq.moved hW.alike h11, vx_Zq.moved hW.alike h12, vx_Zq.moved hW.alike h13⟩
  have := h2 w hw hn
  cases w with
  | fieldLinkNest a i b n d h => exact va_Nw.warmF hW this
  | methodLinkNest a i x h => exact va_Nw.warmM hW this
  | castable a i => exact va_Nw.warmC hW this
  | declares x => exact va_Nw.warmD hW this
  | _ => cases hn
theorem zKS.same {HB : Heap} {b L : Nat} {xs : Nat → Int32} {aK aV : Nat → Nat} {G : va_G} {tc : Nat → ClassId} {s U : State} (hv : U.vm = s.vm) (h : zKS HB b L xs aK aV G tc s) : zKS HB b L xs aK aV G tc U := by
  obtain ⟨h1, h2, h3, h4, h5, h6, h7, h8, h9, h10, h11, h12, h13⟩ := h
  have hA : s.vm.Alike U.vm := by rw [hv]; exact Vm.Alike.refl s.vm
  refine ⟨va_K.moved hA h1, fun w hw hn => ?_, fun q hq => vk_R.same hv (h3 q hq), ⟨va_X.moved hA h4.1, h4.2⟩, vk_S.moved hA h5, va_AO.moved hA h6, va_AO.moved hA h7, va_AO.moved hA h8, h9, va_Z.moved hA h10, va_Zq.moved hA h11, vx_Zq.moved hA h12, vx_Zq.moved hA h13⟩
  have := h2 w hw hn
  cases w with
  | fieldLinkNest a i b n d h => exact va_Nw.same rfl hv.symm this
  | methodLinkNest a i x h => exact va_Nw.same rfl hv.symm this
  | castable a i => exact va_Nw.same rfl hv.symm this
  | declares x => exact va_Nw.same rfl hv.symm this
  | _ => cases hn
/-! locals -/
def zas (ad : Nat → Nat) : Nat → zV → List (Nat × Value)
  | _, [] => []
  | i, some v :: r => (i, yzcv ad v) :: zas ad (i + 1) r
  | i, none :: r => zas ad (i + 1) r
theorem zas_mem {ad : Nat → Nat} : ∀ (lv : zV) (i : Nat) (q : Nat × Value), q ∈ zas ad i lv ↔ ∃ k v, lv[k]? = some (some v) ∧ q = (i + k, yzcv ad v)
  | [], i, q => by simp [zas]
  | some v :: r, i, q => by
    rw [zas, List.mem_cons, zas_mem r (i + 1) q]
    constructor
    · rintro (h | ⟨k, w, h1, h2⟩)
      · exact ⟨0, v, rfl, by simpa using h⟩
      · exact ⟨k + 1, w, by simpa using h1, by rw [h2]; congr 1; omega⟩
    · rintro ⟨k, w, h1, h2⟩
      cases k with
      | zero =>
        simp only [List.getElem?_cons_zero, Option.some.injEq] at h1
        subst h1
        exact Or.inl (by simpa using h2)
      | succ k => exact Or.inr ⟨k, w, by simpa using h1, by rw [h2]; congr 1; omega⟩
  | none :: r, i, q => by
    rw [zas, zas_mem r (i + 1) q]
    constructor
    · rintro ⟨k, w, h1, h2⟩
      exact ⟨k + 1, w, by simpa using h1, by rw [h2]; congr 1; omega⟩
    · rintro ⟨k, w, h1, h2⟩
      cases k with
      | zero => simp at h1
      | succ k => exact ⟨k, w, by simpa using h1, by rw [h2]; congr 1; omega⟩
theorem zas_at {ad : Nat → Nat} {ls : Array Slot} {nL : Nat} {lv : zV} (h : lv_has ls nL (zas ad 0 lv)) {i : Nat} {v : Value} (hg : zget lv i = some v) : ls[i]? = some (.val (yzcv ad v)) := by
  refine h.2.2 (i, yzcv ad v) ((zas_mem lv 0 _).mpr ⟨i, v, ?_, by simp⟩)
  unfold zget at hg
  cases hq : lv[i]? with
  | none => rw [hq] at hg; cases hg
  | some o => rw [hq] at hg; simp only at hg; rw [hg]
theorem zclr_get {lv : zV} {i k : Nat} {v : Value} (h : (zclr lv i)[k]? = some (some v)) : lv[k]? = some (some v) ∧ ¬ (k + 1 = i ∧ v.category = 2) := by
  cases i with
  | zero => exact ⟨h, fun q => by omega⟩
  | succ j =>
    unfold zclr at h
    simp only at h
    cases hj : lv[j]? with
    | none =>
      rw [hj] at h
      simp only at h
      refine ⟨h, fun q => ?_⟩
      have : k = j := by omega
      subst this
      rw [h] at hj
      cases hj
    | some o =>
      rw [hj] at h
      cases o with
      | none =>
        simp only at h
        refine ⟨h, fun q => ?_⟩
        have : k = j := by omega
        subst this
        rw [h] at hj
        cases hj
      | some w =>
        simp only at h
        cases hb : Nat.beq w.category 2 with
        | true =>
          rw [hb, cond_true] at h
          rw [List.getElem?_set] at h
          by_cases hk : j = k
          · subst hk
            rw [if_pos rfl] at h
            split at h
            · cases h
            · cases h
          · rw [if_neg hk] at h
            exact ⟨h, fun q => by omega⟩
        | false =>
          rw [hb, cond_false] at h
          refine ⟨h, fun q => ?_⟩
          have : k = j := by omega
          subst this
          rw [h] at hj
          cases hj
          rw [q.2] at hb
          cases hb
theorem zset_has {ad : Nat → Nat} {ls : Array Slot} {nL : Nat} {lv : zV} {i : Nat} {v : Value} (h : lv_has ls nL ((i, yzcv ad v) :: (zas ad 0 lv).filter (fun q => !(q.1 == i) && !(q.1 + 1 == i && q.2.category == 2)))) : lv_has ls nL (zas ad 0 (zset lv i v)) := by
  refine ⟨h.1, h.2.1, fun q hq => ?_⟩
  obtain ⟨k, w, h1, rfl⟩ := (zas_mem _ _ _).mp hq
  unfold zset at h1
  rw [List.getElem?_set] at h1
  by_cases hk : i = k
  · subst hk
    rw [if_pos rfl] at h1
    split at h1
    · cases h1
      exact h.2.2 _ (by simp)
    · cases h1
  · rw [if_neg hk] at h1
    obtain ⟨g1, g2⟩ := zclr_get h1
    refine h.2.2 _ (List.mem_cons_of_mem _ (List.mem_filter.mpr ⟨(zas_mem _ _ _).mpr ⟨k, w, g1, rfl⟩, ?_⟩))
    simp only [Nat.zero_add, zcv_cat, Bool.and_eq_true, Bool.not_eq_true', beq_eq_false_iff_ne, Bool.and_eq_false_iff]
    refine ⟨fun e => hk e.symm, ?_⟩
    by_cases hc : k + 1 = i
    · exact Or.inr (fun e => g2 ⟨hc, e⟩)
    · exact Or.inl hc
theorem zset2_has {ad : Nat → Nat} {ls : Array Slot} {nL : Nat} {lv : zV} {i : Nat} {v : Value} (h : lv_has ls nL ((i, yzcv ad v) :: (zas ad 0 lv).filter (fun q => !(q.1 == i) && (!(q.1 == i + 1) && !(q.1 + 1 == i && q.2.category == 2))))) : lv_has ls nL (zas ad 0 (zset2 lv i v)) := by
  refine ⟨h.1, h.2.1, fun q hq => ?_⟩
  obtain ⟨k, w, h1, rfl⟩ := (zas_mem _ _ _).mp hq
  unfold zset2 at h1
  rw [List.getElem?_set] at h1
  by_cases hk2 : i + 1 = k
  · rw [if_pos hk2] at h1
    split at h1
    · cases h1
    · cases h1
  rw [if_neg hk2, List.getElem?_set] at h1
  by_cases hk : i = k
  · subst hk
    rw [if_pos rfl] at h1
    split at h1
    · cases h1
      exact h.2.2 _ (by simp)
    · cases h1
  · rw [if_neg hk] at h1
    obtain ⟨g1, g2⟩ := zclr_get h1
    refine h.2.2 _ (List.mem_cons_of_mem _ (List.mem_filter.mpr ⟨(zas_mem _ _ _).mpr ⟨k, w, g1, rfl⟩, ?_⟩))
    simp only [Nat.zero_add, zcv_cat, Bool.and_eq_true, Bool.not_eq_true', beq_eq_false_iff_ne, Bool.and_eq_false_iff]
    refine ⟨fun e => hk e.symm, fun e => hk2 e.symm, ?_⟩
    by_cases hc : k + 1 = i
    · exact Or.inr (fun e => g2 ⟨hc, e⟩)
    · exact Or.inl hc
