/-! the reference's reader: words, letters, names -/
section
variable {S S0 : zM} {M : Nat} {tx : List Nat} {t : zTk}
theorem m_is_l {w : Nat} (h : pMr S M tx t) (hw : w < 13) (hl : t.2.1 - t.1 = (zwd w).length) : ∀ d F k, d + k = (zwd w).length → d < F → (∀ j, j < k → lg (zsl tx t) j = lg (zwd w) j) → L_Mo_isWord_28 F M (1000000 + w) (nI k) S = some (if zsl tx t = zwd w then 1 else 0, S) := by
  obtain ⟨⟨hm, a2, a3, h900, a5⟩, h24, h23, h25, ht, _⟩ := h
  have h12 := wd_len w hw
  have ht1 := ht.1
  have ht2 := ht.2.1
  have hsl := sl_len ht
  intro d
  induction d with
  | zero =>
    intro F k hd hF hs
    cases F with
    | zero => omega
    | succ F =>
      have e : zsl tx t = zwd w := lg_ext (by omega) (fun j hj => hs j (by omega))
      simp (disch := omega) [L_Mo_isWord_28, -Prod.exists, -Prod.forall, ↓bb_gf, ↓bb_gr, ↓bb_len, ↓bb_ga, ↓bb_gl, ↓bb_go, ↓bb_pf, ↓bb_pz, ↓bb_pr, ↓bb_pa, ↓bb_pb, ↓bb_pl, ↓bb_po, ↓bb_cl, ↓bb_some, ↓bb_RI, ↓bb_RJ, mm_hI, mm_hJ, mm_hR, mm_nI, mm_nJ, mm_nR, mm_sI, mm_sJ, mm_sR, mm_RI, mm_RJ, mm_IJ, mm_IR, mm_JI, mm_JR, mm_II, mm_JJ, mm_RR, nn_lit, nI_add, pk_mul, nI_clamp, nI_ltI, nI_leI, nI_eq, nn_in, nn_eqm, nn_meq, nn_ltm, nn_mlt, nn_lem, nn_mle, nn_in_m, ↓bS (j_len (S := S) hw), show ¬ k < (zwd w).length by omega, e]
  | succ d ih =>
    intro F k hd hF hs
    cases F with
    | zero => omega
    | succ F =>
      have hk : k < (zwd w).length := by omega
      have lgk : lg (zsl tx t) k = lg tx (t.1 + k) := sl_lg (by omega)
      have c1 := a5 (t.1 + k)
      have c2 := ((wd_eq w hw).2 k hk).2
      have et := a2 (t.1 + k) (by omega)
      by_cases e : lg tx (t.1 + k) = lg (zwd w) k
      · rw [← ih F (k + 1) (by omega) (by omega) (fun j hj => by
          by_cases q : j = k
          · subst q; rw [lgk, e]
          · exact hs j (by omega))]
        simp (disch := omega) [L_Mo_isWord_28, -Prod.exists, -Prod.forall, ↓bb_gf, ↓bb_gr, ↓bb_len, ↓bb_ga, ↓bb_gl, ↓bb_go, ↓bb_pf, ↓bb_pz, ↓bb_pr, ↓bb_pa, ↓bb_pb, ↓bb_pl, ↓bb_po, ↓bb_cl, ↓bb_some, ↓bb_RI, ↓bb_RJ, mm_hI, mm_hJ, mm_hR, mm_nI, mm_nJ, mm_nR, mm_sI, mm_sJ, mm_sR, mm_RI, mm_RJ, mm_IJ, mm_IR, mm_JI, mm_JR, mm_II, mm_JJ, mm_RR, nn_lit, nI_add, pk_mul, nI_clamp, nI_ltI, nI_leI, nI_eq, nn_in, nn_eqm, nn_meq, nn_ltm, nn_mlt, nn_lem, nn_mle, nn_in_m, ↓bS (j_len (S := S) hw), hk, hm.1, ↓bS (mo_tape hm), mh_tape hm, h23, show t.1 + k < 900 by omega, et, ↓bS (j_char (S := S) hw hk), e]
      · have ne : ¬ zsl tx t = zwd w := fun q => e (by rw [← lgk, q])
        simp (disch := omega) [L_Mo_isWord_28, -Prod.exists, -Prod.forall, ↓bb_gf, ↓bb_gr, ↓bb_len, ↓bb_ga, ↓bb_gl, ↓bb_go, ↓bb_pf, ↓bb_pz, ↓bb_pr, ↓bb_pa, ↓bb_pb, ↓bb_pl, ↓bb_po, ↓bb_cl, ↓bb_some, ↓bb_RI, ↓bb_RJ, mm_hI, mm_hJ, mm_hR, mm_nI, mm_nJ, mm_nR, mm_sI, mm_sJ, mm_sR, mm_RI, mm_RJ, mm_IJ, mm_IR, mm_JI, mm_JR, mm_II, mm_JJ, mm_RR, nn_lit, nI_add, pk_mul, nI_clamp, nI_ltI, nI_leI, nI_eq, nn_in, nn_eqm, nn_meq, nn_ltm, nn_mlt, nn_lem, nn_mle, nn_in_m, ↓bS (j_len (S := S) hw), hk, hm.1, ↓bS (mo_tape hm), mh_tape hm, h23, show t.1 + k < 900 by omega, et, ↓bS (j_char (S := S) hw hk), e, ne]
theorem m_is {w : Nat} (h : pMr S M tx t) (hw : w < 13) : f_Mo_isWord M (1000000 + w) S = some (if zisw tx t w then 1 else 0, S) := by
  have h0 := h
  obtain ⟨⟨hm, a2, a3, h900, a5⟩, h24, h23, h25, ht, _⟩ := h
  have h12 := wd_len w hw
  have ht1 := ht.1
  have ht2 := ht.2.1
  have tk := tk_1 ht.2.2.1
  have esub : nI t.2.1 - nI t.1 = nI (t.2.1 - t.1) := pk_sub (by omega)
  by_cases e1 : t.2.2 = 1
  · have e2 := tk.1.2 e1
    by_cases hl : t.2.1 - t.1 = (zwd w).length
    · have := m_is_l h0 hw hl (zwd w).length zF 0 (by omega) (by rw [zF_eq]; omega) (fun j hj => by omega)
      have ez : zisw tx t w = decide (zsl tx t = zwd w) := by simp [zisw, e1]
      rw [ez]
      simp (disch := omega) [f_Mo_isWord, -Prod.exists, -Prod.forall, ↓bb_gf, ↓bb_gr, ↓bb_len, ↓bb_ga, ↓bb_gl, ↓bb_go, ↓bb_pf, ↓bb_pz, ↓bb_pr, ↓bb_pa, ↓bb_pb, ↓bb_pl, ↓bb_po, ↓bb_cl, ↓bb_some, ↓bb_RI, ↓bb_RJ, mm_hI, mm_hJ, mm_hR, mm_nI, mm_nJ, mm_nR, mm_sI, mm_sJ, mm_sR, mm_RI, mm_RJ, mm_IJ, mm_IR, mm_JI, mm_JR, mm_II, mm_JJ, mm_RR, nn_lit, nI_add, pk_mul, nI_clamp, nI_ltI, nI_leI, nI_eq, nn_in, nn_eqm, nn_meq, nn_ltm, nn_mlt, nn_lem, nn_mle, nn_in_m, hm.1, h25, e2, h24, h23, ↓bS (j_len (S := S) hw), esub, hl, this]
    · have ez : zisw tx t w = false := by
        simp only [zisw, e1, decide_true, Bool.true_and, decide_eq_false_iff_not]
        intro q; exact hl (by rw [← sl_len ht, q])
      simp (disch := omega) [f_Mo_isWord, -Prod.exists, -Prod.forall, ↓bb_gf, ↓bb_gr, ↓bb_len, ↓bb_ga, ↓bb_gl, ↓bb_go, ↓bb_pf, ↓bb_pz, ↓bb_pr, ↓bb_pa, ↓bb_pb, ↓bb_pl, ↓bb_po, ↓bb_cl, ↓bb_some, ↓bb_RI, ↓bb_RJ, mm_hI, mm_hJ, mm_hR, mm_nI, mm_nJ, mm_nR, mm_sI, mm_sJ, mm_sR, mm_RI, mm_RJ, mm_IJ, mm_IR, mm_JI, mm_JR, mm_II, mm_JJ, mm_RR, nn_lit, nI_add, pk_mul, nI_clamp, nI_ltI, nI_leI, nI_eq, nn_in, nn_eqm, nn_meq, nn_ltm, nn_mlt, nn_lem, nn_mle, nn_in_m, hm.1, h25, e2, h24, h23, ↓bS (j_len (S := S) hw), esub, hl, ez]
  · have e2 : ¬ tkM t.2.2 = 2 := fun q => e1 (tk.1.1 q)
    have ez : zisw tx t w = false := by simp [zisw, e1]
    simp (disch := omega) [f_Mo_isWord, -Prod.exists, -Prod.forall, ↓bb_gf, ↓bb_gr, ↓bb_len, ↓bb_ga, ↓bb_gl, ↓bb_go, ↓bb_pf, ↓bb_pz, ↓bb_pr, ↓bb_pa, ↓bb_pb, ↓bb_pl, ↓bb_po, ↓bb_cl, ↓bb_some, ↓bb_RI, ↓bb_RJ, mm_hI, mm_hJ, mm_hR, mm_nI, mm_nJ, mm_nR, mm_sI, mm_sJ, mm_sR, mm_RI, mm_RJ, mm_IJ, mm_IR, mm_JI, mm_JR, mm_II, mm_JJ, mm_RR, nn_lit, nI_add, pk_mul, nI_clamp, nI_ltI, nI_leI, nI_eq, nn_in, nn_eqm, nn_meq, nn_ltm, nn_mlt, nn_lem, nn_mle, nn_in_m, hm.1, h25, e2, ez]
theorem m_kept (h : pMr S M tx t) : f_Mo_isKeyword M S = some (if zkept tx t then 1 else 0, S) := by
  have hh := h.1.1.1
  have i0 := m_is h (show 0 < 13 by omega)
  have i1 := m_is h (show 1 < 13 by omega)
  have i2 := m_is h (show 2 < 13 by omega)
  have i3 := m_is h (show 3 < 13 by omega)
  have i4 := m_is h (show 4 < 13 by omega)
  have i5 := m_is h (show 5 < 13 by omega)
  have i6 := m_is h (show 6 < 13 by omega)
  have i7 := m_is h (show 7 < 13 by omega)
  have i8 := m_is h (show 8 < 13 by omega)
  have i9 := m_is h (show 9 < 13 by omega)
  have i10 := m_is h (show 10 < 13 by omega)
  have i11 := m_is h (show 11 < 13 by omega)
  have z : ∀ c : Bool, ((if c then (1 : Int32) else 0) = 0) ↔ c = false := by intro c; cases c <;> simp
  rw [kept_eq]
  unfold f_Mo_isKeyword
  simp only [↓bb_cl, hh, if_true, ↓bS i0, ↓bS i1, ↓bS i2, ↓bS i3, ↓bS i4, ↓bS i5, ↓bS i6, ↓bS i7, ↓bS i8, ↓bS i9, ↓bS i10, ↓bS i11, z]
  cases zisw tx t 0 <;> simp
  cases zisw tx t 1 <;> simp
  cases zisw tx t 2 <;> simp
  cases zisw tx t 3 <;> simp
  cases zisw tx t 4 <;> simp
  cases zisw tx t 5 <;> simp
  cases zisw tx t 6 <;> simp
  cases zisw tx t 7 <;> simp
  cases zisw tx t 8 <;> simp
  cases zisw tx t 9 <;> simp
  cases zisw tx t 10 <;> simp
  cases zisw tx t 11 <;> simp
theorem m_are_l (h : pMr S M tx t) : ∀ d F k, d + k = t.2.1 → d < F → t.1 ≤ k → (∀ j, t.1 ≤ j → j < k → lg tx j ≤ 104) → L_Mo_areLetters_28 F M (nI k) S = some (if (zsl tx t).all (fun c => decide (c ≤ 104)) then 1 else 0, S) := by
  obtain ⟨⟨hm, a2, a3, h900, a5⟩, h24, h23, h25, ht, _⟩ := h
  have ht1 := ht.1
  have ht2 := ht.2.1
  have hsl := sl_len ht
  intro d
  induction d with
  | zero =>
    intro F k hd hF hk hs
    cases F with
    | zero => omega
    | succ F =>
      have e : (zsl tx t).all (fun c => decide (c ≤ 104)) = true := by
        rw [List.all_eq_true]
        intro c hc
        obtain ⟨j, hj, e⟩ := lg_mem hc
        rw [sl_lg (by omega)] at e
        simp only [decide_eq_true_eq]
        rw [← e]; exact hs _ (by omega) (by omega)
      simp (disch := omega) [L_Mo_areLetters_28, -Prod.exists, -Prod.forall, ↓bb_gf, ↓bb_gr, ↓bb_len, ↓bb_ga, ↓bb_gl, ↓bb_go, ↓bb_pf, ↓bb_pz, ↓bb_pr, ↓bb_pa, ↓bb_pb, ↓bb_pl, ↓bb_po, ↓bb_cl, ↓bb_some, ↓bb_RI, ↓bb_RJ, mm_hI, mm_hJ, mm_hR, mm_nI, mm_nJ, mm_nR, mm_sI, mm_sJ, mm_sR, mm_RI, mm_RJ, mm_IJ, mm_IR, mm_JI, mm_JR, mm_II, mm_JJ, mm_RR, nn_lit, nI_add, pk_mul, nI_clamp, nI_ltI, nI_leI, nI_eq, nn_in, nn_eqm, nn_meq, nn_ltm, nn_mlt, nn_lem, nn_mle, nn_in_m, hm.1, h24, show ¬ k < t.2.1 by omega, e]
  | succ d ih =>
    intro F k hd hF hk hs
    cases F with
    | zero => omega
    | succ F =>
      have hk2 : k < t.2.1 := by omega
      have et := a2 k (by omega)
      have c1 := a5 k
      by_cases e : lg tx k ≤ 104
      · rw [← ih F (k + 1) (by omega) (by omega) (by omega) (fun j hj hj2 => by
          by_cases q : j = k
          · subst q; exact e
          · exact hs j hj (by omega))]
        simp (disch := omega) [L_Mo_areLetters_28, -Prod.exists, -Prod.forall, ↓bb_gf, ↓bb_gr, ↓bb_len, ↓bb_ga, ↓bb_gl, ↓bb_go, ↓bb_pf, ↓bb_pz, ↓bb_pr, ↓bb_pa, ↓bb_pb, ↓bb_pl, ↓bb_po, ↓bb_cl, ↓bb_some, ↓bb_RI, ↓bb_RJ, mm_hI, mm_hJ, mm_hR, mm_nI, mm_nJ, mm_nR, mm_sI, mm_sJ, mm_sR, mm_RI, mm_RJ, mm_IJ, mm_IR, mm_JI, mm_JR, mm_II, mm_JJ, mm_RR, nn_lit, nI_add, pk_mul, nI_clamp, nI_ltI, nI_leI, nI_eq, nn_in, nn_eqm, nn_meq, nn_ltm, nn_mlt, nn_lem, nn_mle, nn_in_m, hm.1, h24, hk2, ↓bS (mo_tape hm), mh_tape hm, show k < 900 by omega, et, e]
      · have ne : (zsl tx t).all (fun c => decide (c ≤ 104)) = false := by
          rw [Bool.eq_false_iff]
          intro q
          rw [List.all_eq_true] at q
          have m : lg tx k ∈ zsl tx t := by
            have : lg (zsl tx t) (k - t.1) = lg tx k := by rw [sl_lg (by omega)]; congr 1; omega
            rw [← this, lg_get (by omega)]; exact List.getElem_mem _
          have := q _ m
          simp at this; omega
        rw [ne]
        simp (disch := omega) [L_Mo_areLetters_28, -Prod.exists, -Prod.forall, ↓bb_gf, ↓bb_gr, ↓bb_len, ↓bb_ga, ↓bb_gl, ↓bb_go, ↓bb_pf, ↓bb_pz, ↓bb_pr, ↓bb_pa, ↓bb_pb, ↓bb_pl, ↓bb_po, ↓bb_cl, ↓bb_some, ↓bb_RI, ↓bb_RJ, mm_hI, mm_hJ, mm_hR, mm_nI, mm_nJ, mm_nR, mm_sI, mm_sJ, mm_sR, mm_RI, mm_RJ, mm_IJ, mm_IR, mm_JI, mm_JR, mm_II, mm_JJ, mm_RR, nn_lit, nI_add, pk_mul, nI_clamp, nI_ltI, nI_leI, nI_eq, nn_in, nn_eqm, nn_meq, nn_ltm, nn_mlt, nn_lem, nn_mle, nn_in_m, hm.1, h24, hk2, ↓bS (mo_tape hm), mh_tape hm, show k < 900 by omega, et, e]
theorem m_are (h : pMr S M tx t) {most : Nat} (hmo : most < 100) : f_Mo_areLetters M (nI most) S = some (if zlets tx t most then 1 else 0, S) := by
  have h0 := h
  obtain ⟨⟨hm, a2, a3, h900, a5⟩, h24, h23, h25, ht, _⟩ := h
  have ht1 := ht.1
  have ht2 := ht.2.1
  have tk := tk_1 ht.2.2.1
  have esub : nI t.2.1 - nI t.1 = nI (t.2.1 - t.1) := pk_sub (by omega)
  by_cases e1 : t.2.2 = 1
  · have e2 := tk.1.2 e1
    by_cases hl : t.2.1 - t.1 ≤ most
    · have := m_are_l h0 (t.2.1 - t.1) zF t.1 (by omega) (by rw [zF_eq]; omega) (by omega) (fun j hj => by omega)
      have ez : zlets tx t most = (zsl tx t).all (fun c => decide (c ≤ 104)) := by simp [zlets, e1, hl]
      rw [ez, ← this]
      simp (disch := omega) [f_Mo_areLetters, -Prod.exists, -Prod.forall, ↓bb_gf, ↓bb_gr, ↓bb_len, ↓bb_ga, ↓bb_gl, ↓bb_go, ↓bb_pf, ↓bb_pz, ↓bb_pr, ↓bb_pa, ↓bb_pb, ↓bb_pl, ↓bb_po, ↓bb_cl, ↓bb_some, ↓bb_RI, ↓bb_RJ, mm_hI, mm_hJ, mm_hR, mm_nI, mm_nJ, mm_nR, mm_sI, mm_sJ, mm_sR, mm_RI, mm_RJ, mm_IJ, mm_IR, mm_JI, mm_JR, mm_II, mm_JJ, mm_RR, nn_lit, nI_add, pk_mul, nI_clamp, nI_ltI, nI_leI, nI_eq, nn_in, nn_eqm, nn_meq, nn_ltm, nn_mlt, nn_lem, nn_mle, nn_in_m, hm.1, h25, e2, h24, h23, esub, hl]
    · have ez : zlets tx t most = false := by simp [zlets, hl]
      simp (disch := omega) [f_Mo_areLetters, -Prod.exists, -Prod.forall, ↓bb_gf, ↓bb_gr, ↓bb_len, ↓bb_ga, ↓bb_gl, ↓bb_go, ↓bb_pf, ↓bb_pz, ↓bb_pr, ↓bb_pa, ↓bb_pb, ↓bb_pl, ↓bb_po, ↓bb_cl, ↓bb_some, ↓bb_RI, ↓bb_RJ, mm_hI, mm_hJ, mm_hR, mm_nI, mm_nJ, mm_nR, mm_sI, mm_sJ, mm_sR, mm_RI, mm_RJ, mm_IJ, mm_IR, mm_JI, mm_JR, mm_II, mm_JJ, mm_RR, nn_lit, nI_add, pk_mul, nI_clamp, nI_ltI, nI_leI, nI_eq, nn_in, nn_eqm, nn_meq, nn_ltm, nn_mlt, nn_lem, nn_mle, nn_in_m, hm.1, h25, e2, h24, h23, esub, hl, ez]
  · have e2 : ¬ tkM t.2.2 = 2 := fun q => e1 (tk.1.1 q)
    have ez : zlets tx t most = false := by simp [zlets, e1]
    simp (disch := omega) [f_Mo_areLetters, -Prod.exists, -Prod.forall, ↓bb_gf, ↓bb_gr, ↓bb_len, ↓bb_ga, ↓bb_gl, ↓bb_go, ↓bb_pf, ↓bb_pz, ↓bb_pr, ↓bb_pa, ↓bb_pb, ↓bb_pl, ↓bb_po, ↓bb_cl, ↓bb_some, ↓bb_RI, ↓bb_RJ, mm_hI, mm_hJ, mm_hR, mm_nI, mm_nJ, mm_nR, mm_sI, mm_sJ, mm_sR, mm_RI, mm_RJ, mm_IJ, mm_IR, mm_JI, mm_JR, mm_II, mm_JJ, mm_RR, nn_lit, nI_add, pk_mul, nI_clamp, nI_ltI, nI_leI, nI_eq, nn_in, nn_eqm, nn_meq, nn_ltm, nn_mlt, nn_lem, nn_mle, nn_in_m, hm.1, h25, e2, ez]
/-! names as numbers -/
def zn32 (cs : List Nat) : Nat := cs.foldl (fun v c => 32 * v + (c - 96)) 0
theorem n32_snoc (cs : List Nat) (c : Nat) : zn32 (cs ++ [c]) = 32 * zn32 cs + (c - 96) := by simp [zn32]
theorem n32_lt : ∀ (n : Nat) (cs : List Nat), cs.length = n → (∀ c ∈ cs, 97 ≤ c ∧ c ≤ 122) → zn32 cs < 32 ^ n := by
  intro n
  induction n with
  | zero => intro cs h _; have := List.length_eq_zero_iff.1 h; subst this; simp [zn32]
  | succ n ih =>
    intro cs h hc
    have hne : cs ≠ [] := by intro e; subst e; simp at h
    have e := List.dropLast_concat_getLast hne
    have h2 := hc _ (List.getLast_mem hne)
    have i := ih cs.dropLast (by simp [h]) (fun c hcc => hc c (by rw [List.dropLast_eq_take] at hcc; exact List.mem_of_mem_take hcc))
    rw [← e, n32_snoc, Nat.pow_succ]; omega
theorem n32_inj : ∀ (n : Nat) (xs ys : List Nat), xs.length = n → (∀ c ∈ xs, 97 ≤ c ∧ c ≤ 122) → (∀ c ∈ ys, 97 ≤ c ∧ c ≤ 122) → zn32 xs = zn32 ys → xs = ys := by
  intro n
  induction n with
  | zero =>
    intro xs ys h hx hy e
    have := List.length_eq_zero_iff.1 h; subst this
    by_cases hy0 : ys = []
    · exact hy0.symm
    · have e2 := List.dropLast_concat_getLast hy0
      have h3 := hy _ (List.getLast_mem hy0)
      rw [← e2, n32_snoc] at e
      simp [zn32] at e
      omega
  | succ n ih =>
    intro xs ys h hx hy e
    have hne : xs ≠ [] := by intro e; subst e; simp at h
    have ex := List.dropLast_concat_getLast hne
    have h2 := hx _ (List.getLast_mem hne)
    have hyne : ys ≠ [] := by
      intro e2; subst e2
      rw [← ex, n32_snoc] at e; simp [zn32] at e; omega
    have ey := List.dropLast_concat_getLast hyne
    have h3 := hy _ (List.getLast_mem hyne)
    rw [← ex, ← ey, n32_snoc, n32_snoc] at e
    have := ih xs.dropLast ys.dropLast (by simp [h]) (fun c hcc => hx c (by rw [List.dropLast_eq_take] at hcc; exact List.mem_of_mem_take hcc)) (fun c hcc => hy c (by rw [List.dropLast_eq_take] at hcc; exact List.mem_of_mem_take hcc)) (by omega)
    have e2 : xs.getLast hne = ys.getLast hyne := by omega
    rw [← ex, ← ey, this, e2]
theorem n32_b {cs : List Nat} (h : wNm cs) : zn32 cs < 2 ^ 35 := by
  have h1 := n32_lt _ cs rfl h.2
  have h2 : 32 ^ cs.length ≤ 32 ^ 7 := Nat.pow_le_pow_right (by omega) h.1
  omega
theorem m_spelt_l (h : pMr S M tx t) (h1 : t.2.2 = 1) : ∀ d F k, d + k = t.2.1 → d < F → t.1 ≤ k → L_Mo_spelt_7 F M (lN (zn32 ((tx.drop t.1).take (k - t.1)))) (nI k) S = some (lN (zn32 (zsl tx t)), S) := by
  obtain ⟨⟨hm, a2, a3, h900, a5⟩, h24, h23, h25, ht, _⟩ := h
  have ht1 := ht.1
  have ht2 := ht.2.1
  intro d
  induction d with
  | zero =>
    intro F k hd hF hk
    cases F with
    | zero => omega
    | succ F =>
      have ek : k = t.2.1 := by omega
      subst ek
      simp (disch := omega) [L_Mo_spelt_7, -Prod.exists, -Prod.forall, ↓bb_gf, ↓bb_gr, ↓bb_len, ↓bb_ga, ↓bb_gl, ↓bb_go, ↓bb_pf, ↓bb_pz, ↓bb_pr, ↓bb_pa, ↓bb_pb, ↓bb_pl, ↓bb_po, ↓bb_cl, ↓bb_some, ↓bb_RI, ↓bb_RJ, mm_hI, mm_hJ, mm_hR, mm_nI, mm_nJ, mm_nR, mm_sI, mm_sJ, mm_sR, mm_RI, mm_RJ, mm_IJ, mm_IR, mm_JI, mm_JR, mm_II, mm_JJ, mm_RR, nn_lit, nI_add, pk_mul, nI_clamp, nI_ltI, nI_leI, nI_eq, nn_in, nn_eqm, nn_meq, nn_ltm, nn_mlt, nn_lem, nn_mle, nn_in_m, hm.1, h24]
      rfl
  | succ d ih =>
    intro F k hd hF hk
    cases F with
    | zero => omega
    | succ F =>
      have hk2 : k < t.2.1 := by omega
      have et := a2 k (by omega)
      have c1 := (ht.2.2.2.2.1 h1).2 k hk hk2
      have eor : (32 : Int64) * lN (zn32 ((tx.drop t.1).take (k - t.1))) + (nI (lg tx k)).toInt64 - 96 = lN (zn32 ((tx.drop t.1).take (k + 1 - t.1))) := by
        have hjl : k - t.1 < (tx.drop t.1).length := by simp; omega
        rw [show k + 1 - t.1 = k - t.1 + 1 by omega, List.take_succ_eq_append_getElem hjl, ← lg_get hjl, lg_drop, show t.1 + (k - t.1) = k by omega, n32_snoc]
        rw [nI_l (by omega), show (32 : Int64) = lN 32 from rfl, show (96 : Int64) = lN 96 from rfl, lN_mul, lN_add, lN_sub (by omega)]
        congr 1; omega
      rw [← ih F (k + 1) (by omega) (by omega) (by omega), ← eor]
      simp (disch := omega) only [L_Mo_spelt_7, bb_gf, hm.1, if_true, h24, nI_ltI, hk2, bb_gr, bS (mo_tape hm), bb_ga, mh_tape hm, nn_in, show k < 900 by omega, true_and, nI_clamp, et, nI_1]
theorem m_spelt (h : pMr S M tx t) (h1 : t.2.2 = 1) : f_Mo_spelt M S = some (lN (zn32 (zsl tx t)), S) := by
  have h0 := h
  obtain ⟨⟨hm, a2, a3, h900, a5⟩, h24, h23, h25, ht, _⟩ := h
  have ht1 := ht.1
  have ht2 := ht.2.1
  have := m_spelt_l h0 h1 (t.2.1 - t.1) zF t.1 (by omega) (by rw [zF_eq]; omega) (by omega)
  rw [Nat.sub_self, List.take_zero] at this
  rw [← this]
  simp only [f_Mo_spelt, bb_gf, hm.1, if_true, h23]
  rfl
end
