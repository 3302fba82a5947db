/-! the class's reader: names, kinds, lines -/
def zn256 (cs : List Nat) : Nat := cs.foldl (fun v c => v * 256 + c) 0
theorem n256_snoc (cs : List Nat) (c : Nat) : zn256 (cs ++ [c]) = zn256 cs * 256 + c := by simp [zn256]
def wNm (cs : List Nat) : Prop := cs.length ≤ 7 ∧ ∀ c ∈ cs, 97 ≤ c ∧ c ≤ 122
theorem n256_lt : ∀ (n : Nat) (cs : List Nat), cs.length = n → (∀ c ∈ cs, 97 ≤ c ∧ c ≤ 122) → zn256 cs < 256 ^ n := by
  intro n
  induction n with
  | zero => intro cs h _; have := List.length_eq_zero_iff.1 h; subst this; simp [zn256]
  | succ n ih =>
    intro cs h hc
    have hne : cs ≠ [] := by intro e; subst e; simp at h
    have e := List.dropLast_concat_getLast hne
    have h2 := hc _ (List.getLast_mem hne)
    have i := ih cs.dropLast (by simp [h]) (fun c hcc => hc c (by rw [List.dropLast_eq_take] at hcc; exact List.mem_of_mem_take hcc))
    rw [← e, n256_snoc, Nat.pow_succ]; omega
theorem n256_inj : ∀ (n : Nat) (xs ys : List Nat), xs.length = n → (∀ c ∈ xs, 97 ≤ c ∧ c ≤ 122) → (∀ c ∈ ys, 97 ≤ c ∧ c ≤ 122) → zn256 xs = zn256 ys → xs = ys := by
  intro n
  induction n with
  | zero =>
    intro xs ys h hx hy e
    have := List.length_eq_zero_iff.1 h; subst this
    by_cases hy0 : ys = []
    · exact hy0.symm
    · have e2 := List.dropLast_concat_getLast hy0
      have h3 := hy _ (List.getLast_mem hy0)
      rw [← e2, n256_snoc] at e
      simp [zn256] at e
      omega
  | succ n ih =>
    intro xs ys h hx hy e
    have hne : xs ≠ [] := by intro e; subst e; simp at h
    have ex := List.dropLast_concat_getLast hne
    have h2 := hx _ (List.getLast_mem hne)
    have hyne : ys ≠ [] := by
      intro e2; subst e2
      rw [← ex, n256_snoc] at e; simp [zn256] at e; omega
    have ey := List.dropLast_concat_getLast hyne
    have h3 := hy _ (List.getLast_mem hyne)
    rw [← ex, ← ey, n256_snoc, n256_snoc] at e
    have := ih xs.dropLast ys.dropLast (by simp [h]) (fun c hcc => hx c (by rw [List.dropLast_eq_take] at hcc; exact List.mem_of_mem_take hcc)) (fun c hcc => hy c (by rw [List.dropLast_eq_take] at hcc; exact List.mem_of_mem_take hcc)) (by omega)
    have e2 : xs.getLast hne = ys.getLast hyne := by omega
    rw [← ex, ← ey, this, e2]
theorem n256_b {cs : List Nat} (h : wNm cs) : zn256 cs < 2 ^ 56 := by
  have h1 := n256_lt _ cs rfl h.2
  have h2 : 256 ^ cs.length ≤ 256 ^ 7 := Nat.pow_le_pow_right (by omega) h.1
  omega
theorem sl_nm {tx : List Nat} {t : zTk} (h : wTk tx t) (h1 : t.2.2 = 1) : wNm (zsl tx t) := ⟨by rw [sl_len h]; exact (h.2.2.2.2.1 h1).1, sl_rng h h1⟩
theorem rd_name_l {S : zM} {rd q : Nat} {tx : List Nat} {t : zTk} (h : pRd S rd q tx t) : ∀ d F k, d + k = t.2.1 → d < F → t.1 ≤ k → L_Reader_nameHere_7 F rd (lN (zn256 ((tx.drop t.1).take (k - t.1)))) (nI k) S = some (lN (zn256 (zsl tx t)), S) := by
  obtain ⟨hb, h2, h6, h5, ht⟩ := h
  have h900 := hb.2.2.2.2.2.2.1
  have ht1 := ht.1
  have ht2 := ht.2.1
  intro d
  induction d with
  | zero =>
    intro F k hd hF hk
    cases F with
    | zero => omega
    | succ F =>
      have ek : k = t.2.1 := by omega
      subst ek
      simp (disch := omega) [L_Reader_nameHere_7, -Prod.exists, -Prod.forall, ↓bb_gf, ↓bb_gr, ↓bb_len, ↓bb_ga, ↓bb_gl, ↓bb_go, ↓bb_pf, ↓bb_pz, ↓bb_pr, ↓bb_pa, ↓bb_pb, ↓bb_pl, ↓bb_po, ↓bb_cl, ↓bb_some, ↓bb_RI, ↓bb_RJ, mm_hI, mm_hJ, mm_hR, mm_nI, mm_nJ, mm_nR, mm_sI, mm_sJ, mm_sR, mm_RI, mm_RJ, mm_IJ, mm_IR, mm_JI, mm_JR, mm_II, mm_JJ, mm_RR, nn_lit, nI_add, pk_mul, nI_clamp, nI_ltI, nI_leI, nI_eq, nn_in, nn_eqm, nn_meq, nn_ltm, nn_mlt, nn_lem, nn_mle, nn_in_m, hb.1, h2]
      rfl
  | succ d ih =>
    intro F k hd hF hk
    cases F with
    | zero => omega
    | succ F =>
      have hk2 : k < t.2.1 := by omega
      have by1 := rd_byte hb (show k < tx.length by omega)
      have c1 := hb.2.2.2.2.2.2.2 k
      have eor : (lN (zn256 ((tx.drop t.1).take (k - t.1))) <<< ((8 : Int32).toInt64 &&& 63)) ||| (nI (lg tx k)).toInt64 = lN (zn256 ((tx.drop t.1).take (k + 1 - t.1))) := by
        have hjl : k - t.1 < (tx.drop t.1).length := by simp; omega
        rw [show k + 1 - t.1 = k - t.1 + 1 by omega, List.take_succ_eq_append_getElem hjl, ← lg_get hjl, lg_drop, show t.1 + (k - t.1) = k by omega, n256_snoc]
        have := wb_shl (zn256 ((tx.drop t.1).take (k - t.1))) (k := 8) (by omega)
        rw [show (8 : Int32) = nI 8 from rfl, this, nI_l (by omega)]
        have q := fb_or_sumL (a := lg tx k) (k := 8) (zn256 ((tx.drop t.1).take (k - t.1))) (by omega)
        rw [Nat.mul_comm] at q
        exact q
      rw [← ih F (k + 1) (by omega) (by omega) (by omega), ← eor]
      simp (disch := omega) only [L_Reader_nameHere_7, bb_gf, hb.1, if_true, h2, nI_ltI, hk2, bb_cl, bS by1, nI_1]
theorem rd_name {S : zM} {rd q : Nat} {tx : List Nat} {t : zTk} (h : pRd S rd q tx t) : f_Reader_nameHere rd S = some (lN (zn256 (zsl tx t)), S) := by
  have h0 := h
  obtain ⟨hb, h2, h6, h5, ht⟩ := h
  have ht1 := ht.1
  have ht2 := ht.2.1
  have h900 := hb.2.2.2.2.2.2.1
  have := rd_name_l h0 (t.2.1 - t.1) zF t.1 (by omega) (by rw [zF_eq]; omega) (by omega)
  rw [Nat.sub_self, List.take_zero] at this
  rw [← this]
  simp only [f_Reader_nameHere, bb_gf, hb.1, if_true, h6]
  rfl
/-! the script under work -/
def wRt (st : zRt) : Prop := st.1 ≤ 4 ∧ st.2.1.length = st.2.2.1.length ∧ st.2.2.1.length ≤ 4 ∧ (∀ k, lg st.2.2.1 k < 256) ∧ (∀ n ∈ st.2.1, wNm n) ∧ wPs st.2.2.2
def lnm (ns : List (List Nat)) (k : Nat) : List Nat := ns.getD k []
def aScr (S : zM) (T : Nat) : Prop := sScr S T ∧ ∀ p, p < 3 → sPassA S (aPs T p)
def rScr (S : zM) (T : Nat) (st : zRt) : Prop := aScr S T ∧ zI S T 3 = nI st.1 ∧ zI S T 4 = nI st.2.2.1.length ∧ zI S T 5 = nI st.2.2.2.length ∧ (∀ k, k < st.2.2.1.length → zI S (T + 2) k = nI (lg st.2.2.1 k)) ∧ (∀ k, k < st.2.1.length → zJ S (T + 1) k = lN (zn256 (lnm st.2.1 k))) ∧ (∀ p, p < st.2.2.2.length → qPass S (aPs T p) (zpa_ st.2.2.2 p) 0) ∧ wRt st
theorem aScr_sm {S S' : zM} {T : Nat} (h : aScr S T) (q : zsm T (T + 172) S S') : aScr S' T :=
  ⟨sScr_sm h.1 q (by omega) (by omega), fun p hp => sPassA_sm (h.2 p hp) q (by unfold aPs; omega) (by unfold aPs; omega)⟩
theorem rScr_sm {S S' : zM} {T : Nat} {st : zRt} (h : rScr S T st) (q : zsm T (T + 172) S S') : rScr S' T st := by
  obtain ⟨a1, a2, a3, a4, a5, a6, a7, a8⟩ := h
  have e : ∀ b j, T ≤ b → b < T + 172 → zI S' b j = zI S b j := fun b j h1 h2 => (q.2 b j h1 h2).2.1
  have e2 : ∀ b j, T ≤ b → b < T + 172 → zJ S' b j = zJ S b j := fun b j h1 h2 => (q.2 b j h1 h2).2.2
  have h3 := a8.2.2.2.2.2.1
  exact ⟨aScr_sm a1 q, by rw [e _ _ (by omega) (by omega)]; exact a2, by rw [e _ _ (by omega) (by omega)]; exact a3, by rw [e _ _ (by omega) (by omega)]; exact a4, fun k hk => by rw [e _ _ (by omega) (by omega)]; exact a5 k hk, fun k hk => by rw [e2 _ _ (by omega) (by omega)]; exact a6 k hk, fun p hp => qPass_sm (a7 p hp) q (by unfold aPs; omega) (by unfold aPs; omega), a8⟩
theorem idx_le {x : List Nat} : ∀ (l : List (List Nat)) (k : Nat), k < l.length → lnm l k = x → l.idxOf x ≤ k := by
  intro l
  induction l with
  | nil => intro k h; simp at h
  | cons a l ih =>
    intro k h e
    rw [List.idxOf_cons]
    by_cases q : a = x
    · simp [q]
    · cases k with
      | zero => simp [lnm] at e; exact absurd e q
      | succ k =>
        have := ih k (by simpa using h) (by simpa [lnm] using e)
        have q' : (a == x) = false := by simp [q]
        rw [q']; simp; exact this
/-- the kinds alone: all that a side asks for -/
def kScr (S : zM) (T : Nat) (st : zRt) : Prop := sScr S T ∧ zI S T 4 = nI st.2.2.1.length ∧ (∀ k, k < st.2.2.1.length → zI S (T + 2) k = nI (lg st.2.2.1 k)) ∧ (∀ k, k < st.2.1.length → zJ S (T + 1) k = lN (zn256 (lnm st.2.1 k))) ∧ wRt st
theorem kOf {S : zM} {T : Nat} {st : zRt} (h : rScr S T st) : kScr S T st := ⟨h.1.1, h.2.2.1, h.2.2.2.2.1, h.2.2.2.2.2.1, h.2.2.2.2.2.2.2⟩
theorem kScr_sm {S S' : zM} {T : Nat} {st : zRt} (h : kScr S T st) (q : zsm T (T + 4) S S') : kScr S' T st := by
  obtain ⟨a1, a2, a3, a4, a5⟩ := h
  exact ⟨sScr_sm a1 q (by omega) (by omega), by rw [(q.2 _ _ (by omega) (by omega)).2.1]; exact a2, fun k hk => by rw [(q.2 _ _ (by omega) (by omega)).2.1]; exact a3 k hk, fun k hk => by rw [(q.2 _ _ (by omega) (by omega)).2.2]; exact a4 k hk, a5⟩
theorem scr_kind_l {S : zM} {T : Nat} {st : zRt} (h : kScr S T st) {nm : List Nat} (hn : wNm nm) : ∀ d F k, d + k = st.2.1.length → d < F → (∀ j, j < k → lnm st.2.1 j ≠ nm) → L_Script_lettersOfKind_2 F T (lN (zn256 nm)) (nI k) S = some (if nm ∈ st.2.1 then nI (lg st.2.2.1 (st.2.1.idxOf nm)) else -1, S) := by
  obtain ⟨⟨b1, b2, b3, b4, b5, b6, b7, b8⟩, a3, a5, a6, w1, w2, w3, w4, w5, w6⟩ := h
  intro d
  induction d with
  | zero =>
    intro F k hd hF hs
    cases F with
    | zero => omega
    | succ F =>
      have hni : ¬ nm ∈ st.2.1 := by
        intro q
        have := List.idxOf_lt_length_iff.2 q
        exact hs (st.2.1.idxOf nm) (by omega) (by simp [lnm, this])
      rw [if_neg hni]
      simp (disch := omega) [L_Script_lettersOfKind_2, -Prod.exists, -Prod.forall, ↓bb_gf, ↓bb_gr, ↓bb_len, ↓bb_ga, ↓bb_gl, ↓bb_go, ↓bb_pf, ↓bb_pz, ↓bb_pr, ↓bb_pa, ↓bb_pb, ↓bb_pl, ↓bb_po, ↓bb_cl, ↓bb_some, ↓bb_RI, ↓bb_RJ, mm_hI, mm_hJ, mm_hR, mm_nI, mm_nJ, mm_nR, mm_sI, mm_sJ, mm_sR, mm_RI, mm_RJ, mm_IJ, mm_IR, mm_JI, mm_JR, mm_II, mm_JJ, mm_RR, nn_lit, nI_add, pk_mul, nI_clamp, nI_ltI, nI_leI, nI_eq, nn_in, nn_eqm, nn_meq, nn_ltm, nn_mlt, nn_lem, nn_mle, nn_in_m, b1, a3, show ¬ k < st.2.2.1.length by omega]
  | succ d ih =>
    intro F k hd hF hs
    cases F with
    | zero => omega
    | succ F =>
      have hk : k < st.2.1.length := by omega
      have hkn : lnm st.2.1 k ∈ st.2.1 := by
        have : lnm st.2.1 k = st.2.1[k] := by simp [lnm, hk]
        rw [this]; exact List.getElem_mem hk
      have ej := a6 k hk
      have b9 := n256_b hn
      have b10 := n256_b (w5 _ hkn)
      by_cases e : lnm st.2.1 k = nm
      · have hi : nm ∈ st.2.1 := by rw [← e]; exact hkn
        have hx : st.2.1.idxOf nm = k := by
          have h1 : st.2.1.idxOf nm ≤ k := idx_le _ _ hk e
          have h2 : ¬ st.2.1.idxOf nm < k := by
            intro q
            have h3 : st.2.1.idxOf nm < st.2.1.length := by omega
            exact hs (st.2.1.idxOf nm) q (by simp [lnm, h3])
          omega
        rw [if_pos hi, hx]
        have hc : lg_cmp (lN (zn256 (lnm st.2.1 k))) (lN (zn256 nm)) = nI 0 := by rw [e]; exact (lg_cmp_eq _ _).2 rfl
        simp (disch := omega) [L_Script_lettersOfKind_2, -Prod.exists, -Prod.forall, ↓bb_gf, ↓bb_gr, ↓bb_len, ↓bb_ga, ↓bb_gl, ↓bb_go, ↓bb_pf, ↓bb_pz, ↓bb_pr, ↓bb_pa, ↓bb_pb, ↓bb_pl, ↓bb_po, ↓bb_cl, ↓bb_some, ↓bb_RI, ↓bb_RJ, mm_hI, mm_hJ, mm_hR, mm_nI, mm_nJ, mm_nR, mm_sI, mm_sJ, mm_sR, mm_RI, mm_RJ, mm_IJ, mm_IR, mm_JI, mm_JR, mm_II, mm_JJ, mm_RR, nn_lit, nI_add, pk_mul, nI_clamp, nI_ltI, nI_leI, nI_eq, nn_in, nn_eqm, nn_meq, nn_ltm, nn_mlt, nn_lem, nn_mle, nn_in_m, b1, a3, show k < st.2.2.1.length by omega, show k < 4 by omega, ↓bS b2, b3, ej, hc, ↓bS b4, b5, a5 k (by omega)]
      · have hc : ¬ lg_cmp (lN (zn256 (lnm st.2.1 k))) (lN (zn256 nm)) = nI 0 := by
          intro q
          have q2 := (lg_cmp_eq _ _).1 q
          exact e (n256_inj _ _ _ rfl (w5 _ hkn).2 hn.2 ((fb_lN_inj (by omega) (by omega)).1 q2))
        rw [← ih F (k + 1) (by omega) (by omega) (fun j hj => by
          by_cases q : j = k
          · subst q; exact e
          · exact hs j (by omega))]
        simp (disch := omega) [L_Script_lettersOfKind_2, -Prod.exists, -Prod.forall, ↓bb_gf, ↓bb_gr, ↓bb_len, ↓bb_ga, ↓bb_gl, ↓bb_go, ↓bb_pf, ↓bb_pz, ↓bb_pr, ↓bb_pa, ↓bb_pb, ↓bb_pl, ↓bb_po, ↓bb_cl, ↓bb_some, ↓bb_RI, ↓bb_RJ, mm_hI, mm_hJ, mm_hR, mm_nI, mm_nJ, mm_nR, mm_sI, mm_sJ, mm_sR, mm_RI, mm_RJ, mm_IJ, mm_IR, mm_JI, mm_JR, mm_II, mm_JJ, mm_RR, nn_lit, nI_add, pk_mul, nI_clamp, nI_ltI, nI_leI, nI_eq, nn_in, nn_eqm, nn_meq, nn_ltm, nn_mlt, nn_lem, nn_mle, nn_in_m, b1, a3, show k < st.2.2.1.length by omega, show k < 4 by omega, ↓bS b2, b3, ej, hc]
theorem scr_kind {S : zM} {T : Nat} {st : zRt} (h : kScr S T st) {nm : List Nat} (hn : wNm nm) : f_Script_lettersOfKind T (lN (zn256 nm)) S = some (if nm ∈ st.2.1 then nI (lg st.2.2.1 (st.2.1.idxOf nm)) else -1, S) := by
  have w := h.2.2.2.2
  exact scr_kind_l h hn st.2.1.length zF 0 (by omega) (by rw [zF_eq]; have := w.2.1; have := w.2.2.1; omega) (fun j hj => by omega)
