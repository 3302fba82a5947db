/-! the beginnings by number -/
def zcd (t : List Nat) : Nat := ((t.length * 8 + t.getD 0 0) * 8 + t.getD 1 0) * 8 + t.getD 2 0
def zc3 (t : List Nat) : Prop := t.length ≤ 3 ∧ ∀ x, x ∈ t → x < 8
theorem c3_app {t : List Nat} {x : Nat} (h : zc3 (t ++ [x])) : (t = [] ∨ (∃ a, t = [a] ∧ a < 8) ∨ ∃ a b, t = [a, b] ∧ a < 8 ∧ b < 8) ∧ x < 8 := by
  obtain ⟨h1, h2⟩ := h
  refine ⟨?_, h2 x (by simp)⟩
  match t, h1, h2 with
  | [], _, _ => exact Or.inl rfl
  | [a], _, h2 => exact Or.inr (Or.inl ⟨a, rfl, h2 a (by simp)⟩)
  | [a, b], _, h2 => exact Or.inr (Or.inr ⟨a, b, rfl, h2 a (by simp), h2 b (by simp)⟩)
  | a :: b :: c :: r, h1, _ => simp at h1
theorem cd_step {t u : List Nat} {x y : Nat} (ht : zc3 (t ++ [x])) (hu : zc3 (u ++ [y])) (h : zcd t < zcd u) : zcd (t ++ [x]) < zcd (u ++ [y]) := by
  obtain ⟨a1, hx⟩ := c3_app ht
  obtain ⟨a2, hy⟩ := c3_app hu
  rcases a1 with rfl | ⟨a, rfl, ha⟩ | ⟨a, b, rfl, ha, hb⟩ <;> rcases a2 with rfl | ⟨c, rfl, hc⟩ | ⟨c, d, rfl, hc, hd⟩ <;> simp [zcd] at h ⊢ <;> omega
theorem cd_last {t : List Nat} {x y : Nat} (ht : zc3 (t ++ [x])) (hu : zc3 (t ++ [y])) (h : x < y) : zcd (t ++ [x]) < zcd (t ++ [y]) := by
  obtain ⟨a1, hx⟩ := c3_app ht
  rcases a1 with rfl | ⟨a, rfl, ha⟩ | ⟨a, b, rfl, ha, hb⟩ <;> simp [zcd] <;> omega
theorem cd_pos {t : List Nat} {x : Nat} : 0 < zcd (t ++ [x]) := by
  unfold zcd; simp; omega
theorem cd_lt {t : List Nat} (h : zc3 t) : zcd t < 2048 := by
  obtain ⟨h1, h2⟩ := h
  match t, h1, h2 with
  | [], _, _ => simp [zcd]
  | [a], _, h2 => have := h2 a (by simp); simp [zcd]; omega
  | [a, b], _, h2 => have := h2 a (by simp); have := h2 b (by simp); simp [zcd]; omega
  | [a, b, c], _, h2 => have := h2 a (by simp); have := h2 b (by simp); have := h2 c (by simp); simp [zcd]; omega
  | a :: b :: c :: d :: r, h1, _ => simp at h1
theorem list_end (t : List Nat) : t = [] ∨ ∃ u x, t = u ++ [x] := by
  rcases List.eq_nil_or_concat t with h | ⟨u, x, h⟩
  · exact Or.inl h
  · exact Or.inr ⟨u, x, by rw [h]; try simp⟩
theorem idx_inj_ {nd : List (List Nat)} {t u : List Nat} (ht : t ∈ nd) (hu : u ∈ nd) (h : nd.idxOf t = nd.idxOf u) : t = u := by
  have h1 := List.getElem_idxOf (List.idxOf_lt_length_of_mem ht)
  have h2 := List.getElem_idxOf (List.idxOf_lt_length_of_mem hu)
  rw [← h1, ← h2]
  congr 1
theorem cd_mono {nd : List (List Nat)} (hc : ∀ t, t ∈ nd → zc3 t) (hp : ∀ t x, t ++ [x] ∈ nd → t ∈ nd) (ho : wOd nd) (h0 : nd.idxOf [] = 0) : ∀ n t u, nd.idxOf u ≤ n → t ∈ nd → u ∈ nd → nd.idxOf t < nd.idxOf u → zcd t < zcd u := by
  intro n
  induction n with
  | zero => intro t u h1 _ _ h2; omega
  | succ n ih =>
    intro t u hn ht hu hl
    rcases list_end u with rfl | ⟨u, y, rfl⟩
    · omega
    rcases list_end t with rfl | ⟨t, x, rfl⟩
    · have := cd_pos (t := u) (x := y)
      simpa [zcd] using this
    have ct := hc _ ht
    have cu := hc _ hu
    have hx := (c3_app ct).2
    have hy := (c3_app cu).2
    have pt := hp _ _ ht
    have pu := hp _ _ hu
    have q1 := ho.1 _ _ hu
    by_cases e1 : nd.idxOf u * 8 + y < nd.idxOf t * 8 + x
    · have := ho.2 _ _ _ _ hu ht e1; omega
    by_cases e2 : nd.idxOf t = nd.idxOf u
    · have e3 := idx_inj_ pt pu e2
      subst e3
      by_cases e4 : x = y
      · subst e4; omega
      · exact cd_last ct cu (by omega)
    · exact cd_step ct cu (ih t u (by omega) pt pu (by omega))
/-- the first digits of a beginning's number -/
def zcv (t : List Nat) (e : Nat) : Nat → Nat
  | 0 => e
  | k + 1 => 8 * zcv t e k + (if k < e then lg t k else 0)
theorem cv_cd {t : List Nat} {e : Nat} (h : e ≤ t.length) : zcv t e 3 = zcd (t.take e) := by
  have q : ∀ k, (t.take e).getD k 0 = if k < e then lg t k else 0 := by
    intro k
    split
    · exact lg_take (by assumption)
    · rw [List.getD_eq_getElem?_getD, List.getElem?_eq_none (by simp; omega)]; rfl
  simp only [zcv, zcd, q, List.length_take, Nat.min_eq_left h]
  omega
section
variable {S : zM} {M : Nat}
theorem begin_l {b e : Nat} {ru : zRu} (hm : sMo S M) (hr : mRu S (M + 5) b ru) (hb : b + 11 ≤ 264) (he : e ≤ ru.1.length) (h3 : e ≤ 3) : ∀ d F k, d + k = 3 → d < F → L_Mo_beginning_5 F M (nI b) (nI e) (nI (zcv ru.1 e k)) (nI k) S = some (nI (zcv ru.1 e 3), S) := by
  intro d
  induction d with
  | zero =>
    intro F k hd hF
    cases F with
    | zero => omega
    | succ F =>
      have ek : k = 3 := by omega
      subst ek
      have : ¬ nI 3 < (3 : Int32) := by decide
      simp [L_Mo_beginning_5, this]
  | succ d ih =>
    intro F k hd hF
    cases F with
    | zero => omega
    | succ F =>
      have hk : nI k < (3 : Int32) := (nI_ltI (b := 3) (by omega) (by omega)).2 (by omega)
      have nxt := ih F (k + 1) (by omega) (by omega)
      have e1 : nI k + 1 = nI (k + 1) := nI_add k 1
      have e8 : (8 : Int32) * nI (zcv ru.1 e k) = nI (8 * zcv ru.1 e k) := pk_mul 8 _
      have e4 : nI b + 4 = nI (b + 4) := nI_add b 4
      by_cases c : k < e
      · have zi : zinb (nI (b + 4 + k)) 264 = true := (nn_in (by omega)).2 (by omega)
        have ci : (nI (b + 4 + k)).toNatClampNeg = b + 4 + k := nI_clamp (by omega)
        have x := hr.2.2.2.2.1 k (by omega)
        rw [zcv, if_pos c] at nxt
        rw [← nxt]
        simp (disch := omega) [L_Mo_beginning_5, -Prod.exists, -Prod.forall, ↓bb_gf, ↓bb_gr, ↓bb_len, ↓bb_ga, ↓bb_gl, ↓bb_go, ↓bb_pf, ↓bb_pz, ↓bb_pr, ↓bb_pa, ↓bb_pb, ↓bb_pl, ↓bb_po, ↓bb_cl, ↓bb_some, ↓bb_RI, ↓bb_RJ, mm_hI, mm_hJ, mm_hR, mm_nI, mm_nJ, mm_nR, mm_sI, mm_sJ, mm_sR, mm_RI, mm_RJ, mm_IJ, mm_IR, mm_JI, mm_JR, mm_II, mm_JJ, mm_RR, nI_ltI, hk, c, hm.1, ↓bS (mo_rules hm), mh_rules hm, e4, nI_add, zi, ci, x, e8, e1]
      · rw [zcv, if_neg c] at nxt
        rw [← nxt]
        simp (disch := omega) [L_Mo_beginning_5, nI_ltI, hk, c, e8, e1]
theorem m_begin {b e : Nat} {ru : zRu} (hm : sMo S M) (hr : mRu S (M + 5) b ru) (hb : b + 11 ≤ 264) (he : e ≤ ru.1.length) (h3 : e ≤ 3) : f_Mo_beginning M (nI b) (nI e) S = some (nI (zcd (ru.1.take e)), S) := by
  have := begin_l hm hr hb he h3 3 zF 0 (by omega) (by rw [zF_eq]; omega)
  rw [cv_cd he] at this
  exact this
theorem c3_pre {ru : zRu} {t : List Nat} (hw : wRu ru) (h : t <+: ru.1) : zc3 t := by
  obtain ⟨_, w2, _, w4, _⟩ := hw
  have := h.length_le
  exact ⟨by omega, fun x hx => l8_iff.1 w4 x (h.subset hx)⟩
theorem isb_in {K : Nat → Int32 → Int32 → Int32 → zM → Option (Int32 × zM)} {b c : Nat} {a1 a3 : Int32} {ru : zRu} (hm : sMo S M) (hr : mRu S (M + 5) b ru) (hb : b + 11 ≤ 264) (hw : wRu ru) (hc : c < 2048) : ∀ d F e, d + e = ru.1.length + 1 → d < F → ((∃ e', e ≤ e' ∧ e' ≤ ru.1.length ∧ zcd (ru.1.take e') = c) ∧ L_Mo_isBeginning_22 K F M a1 (nI c) a3 (nI b) (nI e) S = some (1, S)) ∨ ((∀ e', e ≤ e' → e' ≤ ru.1.length → zcd (ru.1.take e') ≠ c) ∧ L_Mo_isBeginning_22 K F M a1 (nI c) a3 (nI b) (nI e) S = K M a1 (nI c) a3 S) := by
  have zi : zinb (nI b) 264 = true := (nn_in (by omega)).2 (by omega)
  have ci : (nI b).toNatClampNeg = b := nI_clamp (by omega)
  have x := hr.1
  have h3 := hw.2.1
  intro d
  induction d with
  | zero =>
    intro F e hd hF
    cases F with
    | zero => omega
    | succ F =>
      have hx : ¬ nI e ≤ nI ru.1.length := fun q => absurd ((nI_leI (by omega) (by omega)).1 q) (by omega)
      refine Or.inr ⟨fun e' h1 h2 => by omega, ?_⟩
      simp (disch := omega) [L_Mo_isBeginning_22, -Prod.exists, -Prod.forall, ↓bb_gf, ↓bb_gr, ↓bb_len, ↓bb_ga, ↓bb_gl, ↓bb_go, ↓bb_pf, ↓bb_pz, ↓bb_pr, ↓bb_pa, ↓bb_pb, ↓bb_pl, ↓bb_po, ↓bb_cl, ↓bb_some, ↓bb_RI, ↓bb_RJ, mm_hI, mm_hJ, mm_hR, mm_nI, mm_nJ, mm_nR, mm_sI, mm_sJ, mm_sR, mm_RI, mm_RJ, mm_IJ, mm_IR, mm_JI, mm_JR, mm_II, mm_JJ, mm_RR, hm.1, ↓bS (mo_rules hm), mh_rules hm, zi, ci, x, hx]
  | succ d ih =>
    intro F e hd hF
    cases F with
    | zero => omega
    | succ F =>
      have hx : nI e ≤ nI ru.1.length := (nI_leI (by omega) (by omega)).2 (by omega)
      have e1 : nI e + 1 = nI (e + 1) := nI_add e 1
      have bg := m_begin hm hr hb (e := e) (by omega) (by omega)
      have zl := cd_lt (c3_pre hw (List.take_prefix e ru.1))
      by_cases q : zcd (ru.1.take e) = c
      · refine Or.inl ⟨⟨e, by omega, by omega, q⟩, ?_⟩
        rw [q] at bg
        simp (disch := omega) [L_Mo_isBeginning_22, -Prod.exists, -Prod.forall, ↓bb_gf, ↓bb_gr, ↓bb_len, ↓bb_ga, ↓bb_gl, ↓bb_go, ↓bb_pf, ↓bb_pz, ↓bb_pr, ↓bb_pa, ↓bb_pb, ↓bb_pl, ↓bb_po, ↓bb_cl, ↓bb_some, ↓bb_RI, ↓bb_RJ, mm_hI, mm_hJ, mm_hR, mm_nI, mm_nJ, mm_nR, mm_sI, mm_sJ, mm_sR, mm_RI, mm_RJ, mm_IJ, mm_IR, mm_JI, mm_JR, mm_II, mm_JJ, mm_RR, hm.1, ↓bS (mo_rules hm), mh_rules hm, zi, ci, x, hx, ↓bS bg]
      · have hq : ¬ nI (zcd (ru.1.take e)) = nI c := fun w => q ((nI_eq (by omega) (by omega)).1 w)
        have st : L_Mo_isBeginning_22 K (F + 1) M a1 (nI c) a3 (nI b) (nI e) S = L_Mo_isBeginning_22 K F M a1 (nI c) a3 (nI b) (nI (e + 1)) S := by
          rw [L_Mo_isBeginning_22]
          simp (disch := omega) [-Prod.exists, -Prod.forall, ↓bb_gf, ↓bb_gr, ↓bb_len, ↓bb_ga, ↓bb_gl, ↓bb_go, ↓bb_pf, ↓bb_pz, ↓bb_pr, ↓bb_pa, ↓bb_pb, ↓bb_pl, ↓bb_po, ↓bb_cl, ↓bb_some, ↓bb_RI, ↓bb_RJ, mm_hI, mm_hJ, mm_hR, mm_nI, mm_nJ, mm_nR, mm_sI, mm_sJ, mm_sR, mm_RI, mm_RJ, mm_IJ, mm_IR, mm_JI, mm_JR, mm_II, mm_JJ, mm_RR, hm.1, ↓bS (mo_rules hm), mh_rules hm, zi, ci, x, hx, ↓bS bg, hq, e1]
        rw [st]
        rcases ih F (e + 1) (by omega) (by omega) with ⟨⟨e', w1, w2, w3⟩, w4⟩ | ⟨w1, w2⟩
        · exact Or.inl ⟨⟨e', by omega, w2, w3⟩, w4⟩
        · refine Or.inr ⟨fun e' h1 h2 => ?_, w2⟩
          by_cases e3 : e' = e
          · subst e3; exact q
          · exact w1 e' (by omega) h2
theorem isb_out {sc : zSc} {asd : Nat → Nat} {p c : Nat} (hm : sMo S M) (hs : mSc S M sc asd) (hp : p < sc.2.2.length) (hc : c < 2048) : ∀ d F i, d + i = (zpa_ sc.2.2 p).2.length → d < F → ((∃ j e, i ≤ j ∧ j < (zpa_ sc.2.2 p).2.length ∧ e ≤ (zru (zpa_ sc.2.2 p).2 j).1.length ∧ zcd ((zru (zpa_ sc.2.2 p).2 j).1.take e) = c) ∧ L_Mo_isBeginning_2 F M (nI p) (nI c) (nI i) S = some (1, S)) ∨ ((∀ j e, i ≤ j → j < (zpa_ sc.2.2 p).2.length → e ≤ (zru (zpa_ sc.2.2 p).2 j).1.length → zcd ((zru (zpa_ sc.2.2 p).2 j).1.take e) ≠ c) ∧ L_Mo_isBeginning_2 F M (nI p) (nI c) (nI i) S = some (if c = 0 then 1 else 0, S)) := by
  obtain ⟨x1, x2, x3, x4, x5, x6, x7, x8, x9, x10, x11, x12, x13⟩ := hs
  have hp3 : p < 3 := by have := x13.1; omega
  have wr := ps_w x13 hp
  have hr8 := wr.1
  have zp : zinb (nI p) 3 = true := (nn_in (by omega)).2 (by omega)
  have cp : (nI p).toNatClampNeg = p := nI_clamp (by omega)
  have y6 := x6 p hp3
  have ro : ∀ b : Nat, f_Mo_rowOf (nI p) (nI b) S = some (nI (aRu p b), S) := fun b => by
    unfold f_Mo_rowOf
    rw [show (8 : Int32) = nI 8 from rfl, show (11 : Int32) = nI 11 from rfl, pk_mul, nI_add, pk_mul]; rfl
  intro d
  induction d with
  | zero =>
    intro F i hd hF
    cases F with
    | zero => omega
    | succ F =>
      have hx : ¬ i < (zpa_ sc.2.2 p).2.length := by omega
      refine Or.inr ⟨fun j e h1 h2 => by omega, ?_⟩
      by_cases c0 : c = 0
      · subst c0
        simp (disch := omega) [L_Mo_isBeginning_2, -Prod.exists, -Prod.forall, ↓bb_gf, ↓bb_gr, ↓bb_len, ↓bb_ga, ↓bb_gl, ↓bb_go, ↓bb_pf, ↓bb_pz, ↓bb_pr, ↓bb_pa, ↓bb_pb, ↓bb_pl, ↓bb_po, ↓bb_cl, ↓bb_some, ↓bb_RI, ↓bb_RJ, mm_hI, mm_hJ, mm_hR, mm_nI, mm_nJ, mm_nR, mm_sI, mm_sJ, mm_sR, mm_RI, mm_RJ, mm_IJ, mm_IR, mm_JI, mm_JR, mm_II, mm_JJ, mm_RR, nI_ltI, hm.1, ↓bS (mo_ruleMany hm), mh_ruleMany hm, zp, cp, y6, hx]
        rfl
      · have hq : ¬ nI c = 0 := fun w => c0 ((nI_eq (b := 0) (by omega) (by omega)).1 w)
        simp (disch := omega) [L_Mo_isBeginning_2, -Prod.exists, -Prod.forall, ↓bb_gf, ↓bb_gr, ↓bb_len, ↓bb_ga, ↓bb_gl, ↓bb_go, ↓bb_pf, ↓bb_pz, ↓bb_pr, ↓bb_pa, ↓bb_pb, ↓bb_pl, ↓bb_po, ↓bb_cl, ↓bb_some, ↓bb_RI, ↓bb_RJ, mm_hI, mm_hJ, mm_hR, mm_nI, mm_nJ, mm_nR, mm_sI, mm_sJ, mm_sR, mm_RI, mm_RJ, mm_IJ, mm_IR, mm_JI, mm_JR, mm_II, mm_JJ, mm_RR, nI_ltI, hm.1, ↓bS (mo_ruleMany hm), mh_ruleMany hm, zp, cp, y6, hx, hq, c0]
  | succ d ih =>
    intro F i hd hF
    cases F with
    | zero => omega
    | succ F =>
      have hi : i < (zpa_ sc.2.2 p).2.length := by omega
      have har : aRu p i + 11 ≤ 264 := by unfold aRu; omega
      have e1 : nI i + 1 = nI (i + 1) := nI_add i 1
      have st : L_Mo_isBeginning_2 (F + 1) M (nI p) (nI c) (nI i) S = L_Mo_isBeginning_22 (F_Mo_isBeginning_56 (L_Mo_isBeginning_2 F)) zF M (nI p) (nI c) (nI i) (nI (aRu p i)) (nI 0) S := by
        rw [L_Mo_isBeginning_2]
        simp (disch := omega) [-Prod.exists, -Prod.forall, ↓bb_gf, ↓bb_gr, ↓bb_len, ↓bb_ga, ↓bb_gl, ↓bb_go, ↓bb_pf, ↓bb_pz, ↓bb_pr, ↓bb_pa, ↓bb_pb, ↓bb_pl, ↓bb_po, ↓bb_cl, ↓bb_some, ↓bb_RI, ↓bb_RJ, mm_hI, mm_hJ, mm_hR, mm_nI, mm_nJ, mm_nR, mm_sI, mm_sJ, mm_sR, mm_RI, mm_RJ, mm_IJ, mm_IR, mm_JI, mm_JR, mm_II, mm_JJ, mm_RR, nI_ltI, hm.1, ↓bS (mo_ruleMany hm), mh_ruleMany hm, zp, cp, y6, hi, ↓bS (ro i)]
        try rfl
      rw [st]
      rcases isb_in (K := F_Mo_isBeginning_56 (L_Mo_isBeginning_2 F)) (a1 := nI p) (a3 := nI i) hm (x8 p i hp hi) har (ru_w wr hi) hc ((zru (zpa_ sc.2.2 p).2 i).1.length + 1) zF 0 (by omega) (by have := (ru_w wr hi).2.1; rw [zF_eq]; omega) with ⟨⟨e, w1, w2, w3⟩, w4⟩ | ⟨w1, w2⟩
      · exact Or.inl ⟨⟨i, e, by omega, hi, w2, w3⟩, w4⟩
      · rw [w2, F_Mo_isBeginning_56, e1]
        rcases ih F (i + 1) (by omega) (by omega) with ⟨⟨j, e, v1, v2, v3, v4⟩, v5⟩ | ⟨v1, v2⟩
        · exact Or.inl ⟨⟨j, e, by omega, v2, v3, v4⟩, v5⟩
        · refine Or.inr ⟨fun j e h1 h2 h3 => ?_, v2⟩
          by_cases e3 : j = i
          · subst e3; exact w1 e (by omega) h3
          · exact v1 j e (by omega) h2 h3
/-- a number is a beginning's -/
theorem m_isb {sc : zSc} {asd : Nat → Nat} {p c : Nat} {nd : List (List Nat)} (hm : sMo S M) (hs : mSc S M sc asd) (hp : p < sc.2.2.length) (hn : wNd (zpa_ sc.2.2 p).2 false nd) (hc : c < 2048) : ((∃ t, t ∈ nd ∧ zcd t = c) ∧ f_Mo_isBeginning M (nI p) (nI c) S = some (1, S)) ∨ ((∀ t, t ∈ nd → zcd t ≠ c) ∧ f_Mo_isBeginning M (nI p) (nI c) S = some (0, S)) := by
  have wr := ps_w hs.2.2.2.2.2.2.2.2.2.2.2.2 hp
  have hr8 := wr.1
  rcases isb_out hm hs hp hc (zpa_ sc.2.2 p).2.length zF 0 (by omega) (by rw [zF_eq]; omega) with ⟨⟨j, e, v1, v2, v3, v4⟩, v5⟩ | ⟨v1, v2⟩
  · exact Or.inl ⟨⟨_, (hn.2.2.2.2.1 _).2 (Or.inr ⟨j, v2, List.take_prefix e _⟩), v4⟩, v5⟩
  · by_cases c0 : c = 0
    · rw [if_pos c0] at v2
      exact Or.inl ⟨⟨[], (hn.2.2.2.2.1 _).2 (Or.inl rfl), by rw [c0]; rfl⟩, v2⟩
    · rw [if_neg c0] at v2
      refine Or.inr ⟨fun t ht hq => ?_, v2⟩
      rcases (hn.2.2.2.2.1 t).1 ht with rfl | ⟨i, hi, hpre⟩
      · exact c0 (by rw [← hq]; rfl)
      · have hpre : t <+: (zru (zpa_ sc.2.2 p).2 i).1 := hpre
        have := v1 i t.length (by omega) hi hpre.length_le
        rw [← List.prefix_iff_eq_take.1 hpre] at this
        exact this hq
end
