/-! the class's reader: what a token is -/
theorem rd_byte {S : zM} {rd q k : Nat} {tx : List Nat} (h : bRd S rd q tx) (hk : k < tx.length) : f_Reader_byteAt rd (nI k) S = some (nI (lg tx k), S) := by
  obtain ⟨a1, a2, a3, a4, a5, a6, a7, a8⟩ := h
  simp (disch := omega) [f_Reader_byteAt, -Prod.exists, -Prod.forall, ↓bb_gf, ↓bb_gr, ↓bb_len, ↓bb_ga, ↓bb_gl, ↓bb_go, ↓bb_pf, ↓bb_pz, ↓bb_pr, ↓bb_pa, ↓bb_pb, ↓bb_pl, ↓bb_po, ↓bb_cl, ↓bb_some, ↓bb_RI, ↓bb_RJ, mm_hI, mm_hJ, mm_hR, mm_nI, mm_nJ, mm_nR, mm_sI, mm_sJ, mm_sR, mm_RI, mm_RJ, mm_IJ, mm_IR, mm_JI, mm_JR, mm_II, mm_JJ, mm_RR, nn_lit, nI_add, pk_mul, nI_clamp, nI_ltI, nI_leI, nI_eq, nn_in, nn_eqm, nn_meq, nn_ltm, nn_mlt, nn_lem, nn_mle, nn_in_m, a1, a6, hk, ↓bS a2, a3, show k < 900 by omega, a5 k hk]
theorem wd_len : ∀ w, w < 13 → (zwd w).length ≤ 12 := by decide +kernel
theorem wd_eq : ∀ w, w < 13 → (zstr.getD w []).length = (zwd w).length ∧ ∀ k, k < (zwd w).length → (zstr.getD w []).getD k 0 = nI (lg (zwd w) k) ∧ lg (zwd w) k < 256 := by decide +kernel
theorem j_len {S : zM} {w : Nat} (hw : w < 13) : f_J_length (1000000 + w) S = some (nI (zwd w).length, S) := by
  unfold f_J_length
  rw [if_pos (by omega), show 1000000 + w - 1000000 = w by omega, (wd_eq w hw).1]
  rfl
theorem j_char {S : zM} {w k : Nat} (hw : w < 13) (hk : k < (zwd w).length) : f_J_charAt (1000000 + w) (nI k) S = some (nI (lg (zwd w) k), S) := by
  have h12 := wd_len w hw
  unfold f_J_charAt
  rw [show 1000000 + w - 1000000 = w by omega, (wd_eq w hw).1, if_pos ⟨by omega, by omega, (nn_in (by omega)).2 hk⟩, nI_clamp (by omega), ((wd_eq w hw).2 k hk).1]
theorem rd_is_l {S : zM} {rd q w : Nat} {tx : List Nat} {t : zTk} (h : pRd S rd q tx t) (hw : w < 13) (hl : t.2.1 - t.1 = (zwd w).length) : ∀ d F k, d + k = (zwd w).length → d < F → (∀ j, j < k → lg (zsl tx t) j = lg (zwd w) j) → L_Reader_is_28 F rd (1000000 + w) (nI k) S = some (if zsl tx t = zwd w then 1 else 0, S) := by
  obtain ⟨hb, h2, h6, h5, ht⟩ := h
  have h900 := hb.2.2.2.2.2.2.1
  have h12 := wd_len w hw
  have ht1 := ht.1
  have ht2 := ht.2.1
  have hsl := sl_len ht
  intro d
  induction d with
  | zero =>
    intro F k hd hF hs
    cases F with
    | zero => omega
    | succ F =>
      have e : zsl tx t = zwd w := lg_ext (by omega) (fun j hj => hs j (by omega))
      simp (disch := omega) [L_Reader_is_28, -Prod.exists, -Prod.forall, ↓bb_gf, ↓bb_gr, ↓bb_len, ↓bb_ga, ↓bb_gl, ↓bb_go, ↓bb_pf, ↓bb_pz, ↓bb_pr, ↓bb_pa, ↓bb_pb, ↓bb_pl, ↓bb_po, ↓bb_cl, ↓bb_some, ↓bb_RI, ↓bb_RJ, mm_hI, mm_hJ, mm_hR, mm_nI, mm_nJ, mm_nR, mm_sI, mm_sJ, mm_sR, mm_RI, mm_RJ, mm_IJ, mm_IR, mm_JI, mm_JR, mm_II, mm_JJ, mm_RR, nn_lit, nI_add, pk_mul, nI_clamp, nI_ltI, nI_leI, nI_eq, nn_in, nn_eqm, nn_meq, nn_ltm, nn_mlt, nn_lem, nn_mle, nn_in_m, ↓bS (j_len (S := S) hw), show ¬ k < (zwd w).length by omega, e]
  | succ d ih =>
    intro F k hd hF hs
    cases F with
    | zero => omega
    | succ F =>
      have hk : k < (zwd w).length := by omega
      have by1 := rd_byte hb (show t.1 + k < tx.length by omega)
      have lgk : lg (zsl tx t) k = lg tx (t.1 + k) := sl_lg (by omega)
      have c1 := hb.2.2.2.2.2.2.2 (t.1 + k)
      have c2 := ((wd_eq w hw).2 k hk).2
      by_cases e : lg tx (t.1 + k) = lg (zwd w) k
      · rw [← ih F (k + 1) (by omega) (by omega) (fun j hj => by
          by_cases q : j = k
          · subst q; rw [lgk, e]
          · exact hs j (by omega))]
        simp (disch := omega) [L_Reader_is_28, -Prod.exists, -Prod.forall, ↓bb_gf, ↓bb_gr, ↓bb_len, ↓bb_ga, ↓bb_gl, ↓bb_go, ↓bb_pf, ↓bb_pz, ↓bb_pr, ↓bb_pa, ↓bb_pb, ↓bb_pl, ↓bb_po, ↓bb_cl, ↓bb_some, ↓bb_RI, ↓bb_RJ, mm_hI, mm_hJ, mm_hR, mm_nI, mm_nJ, mm_nR, mm_sI, mm_sJ, mm_sR, mm_RI, mm_RJ, mm_IJ, mm_IR, mm_JI, mm_JR, mm_II, mm_JJ, mm_RR, nn_lit, nI_add, pk_mul, nI_clamp, nI_ltI, nI_leI, nI_eq, nn_in, nn_eqm, nn_meq, nn_ltm, nn_mlt, nn_lem, nn_mle, nn_in_m, ↓bS (j_len (S := S) hw), hk, hb.1, h6, ↓bS by1, ↓bS (j_char (S := S) hw hk), e]
      · have ne : ¬ zsl tx t = zwd w := fun q => e (by rw [← lgk, q])
        simp (disch := omega) [L_Reader_is_28, -Prod.exists, -Prod.forall, ↓bb_gf, ↓bb_gr, ↓bb_len, ↓bb_ga, ↓bb_gl, ↓bb_go, ↓bb_pf, ↓bb_pz, ↓bb_pr, ↓bb_pa, ↓bb_pb, ↓bb_pl, ↓bb_po, ↓bb_cl, ↓bb_some, ↓bb_RI, ↓bb_RJ, mm_hI, mm_hJ, mm_hR, mm_nI, mm_nJ, mm_nR, mm_sI, mm_sJ, mm_sR, mm_RI, mm_RJ, mm_IJ, mm_IR, mm_JI, mm_JR, mm_II, mm_JJ, mm_RR, nn_lit, nI_add, pk_mul, nI_clamp, nI_ltI, nI_leI, nI_eq, nn_in, nn_eqm, nn_meq, nn_ltm, nn_mlt, nn_lem, nn_mle, nn_in_m, ↓bS (j_len (S := S) hw), hk, hb.1, h6, ↓bS by1, ↓bS (j_char (S := S) hw hk), e, ne]
theorem rd_is {S : zM} {rd q w : Nat} {tx : List Nat} {t : zTk} (h : pRd S rd q tx t) (hw : w < 13) : f_Reader_is rd (1000000 + w) S = some (if zisw tx t w then 1 else 0, S) := by
  have h0 := h
  obtain ⟨hb, h2, h6, h5, ht⟩ := h
  have h900 := hb.2.2.2.2.2.2.1
  have h12 := wd_len w hw
  have ht1 := ht.1
  have ht2 := ht.2.1
  have ht3 := ht.2.2.1
  have esub : nI t.2.1 - nI t.1 = nI (t.2.1 - t.1) := pk_sub (by omega)
  by_cases e1 : t.2.2 = 1
  · by_cases hl : t.2.1 - t.1 = (zwd w).length
    · have := rd_is_l h0 hw hl (zwd w).length zF 0 (by omega) (by rw [zF_eq]; omega) (fun j hj => by omega)
      have ez : zisw tx t w = decide (zsl tx t = zwd w) := by simp [zisw, e1]
      rw [ez]
      simp (disch := omega) [f_Reader_is, -Prod.exists, -Prod.forall, ↓bb_gf, ↓bb_gr, ↓bb_len, ↓bb_ga, ↓bb_gl, ↓bb_go, ↓bb_pf, ↓bb_pz, ↓bb_pr, ↓bb_pa, ↓bb_pb, ↓bb_pl, ↓bb_po, ↓bb_cl, ↓bb_some, ↓bb_RI, ↓bb_RJ, mm_hI, mm_hJ, mm_hR, mm_nI, mm_nJ, mm_nR, mm_sI, mm_sJ, mm_sR, mm_RI, mm_RJ, mm_IJ, mm_IR, mm_JI, mm_JR, mm_II, mm_JJ, mm_RR, nn_lit, nI_add, pk_mul, nI_clamp, nI_ltI, nI_leI, nI_eq, nn_in, nn_eqm, nn_meq, nn_ltm, nn_mlt, nn_lem, nn_mle, nn_in_m, hb.1, h5, e1, h2, h6, ↓bS (j_len (S := S) hw), esub, hl, this]
    · have ez : zisw tx t w = false := by
        simp only [zisw, e1, decide_true, Bool.true_and, decide_eq_false_iff_not]
        intro q; exact hl (by rw [← sl_len ht, q])
      simp (disch := omega) [f_Reader_is, -Prod.exists, -Prod.forall, ↓bb_gf, ↓bb_gr, ↓bb_len, ↓bb_ga, ↓bb_gl, ↓bb_go, ↓bb_pf, ↓bb_pz, ↓bb_pr, ↓bb_pa, ↓bb_pb, ↓bb_pl, ↓bb_po, ↓bb_cl, ↓bb_some, ↓bb_RI, ↓bb_RJ, mm_hI, mm_hJ, mm_hR, mm_nI, mm_nJ, mm_nR, mm_sI, mm_sJ, mm_sR, mm_RI, mm_RJ, mm_IJ, mm_IR, mm_JI, mm_JR, mm_II, mm_JJ, mm_RR, nn_lit, nI_add, pk_mul, nI_clamp, nI_ltI, nI_leI, nI_eq, nn_in, nn_eqm, nn_meq, nn_ltm, nn_mlt, nn_lem, nn_mle, nn_in_m, hb.1, h5, e1, h2, h6, ↓bS (j_len (S := S) hw), esub, hl, ez]
  · have ez : zisw tx t w = false := by simp [zisw, e1]
    simp (disch := omega) [f_Reader_is, -Prod.exists, -Prod.forall, ↓bb_gf, ↓bb_gr, ↓bb_len, ↓bb_ga, ↓bb_gl, ↓bb_go, ↓bb_pf, ↓bb_pz, ↓bb_pr, ↓bb_pa, ↓bb_pb, ↓bb_pl, ↓bb_po, ↓bb_cl, ↓bb_some, ↓bb_RI, ↓bb_RJ, mm_hI, mm_hJ, mm_hR, mm_nI, mm_nJ, mm_nR, mm_sI, mm_sJ, mm_sR, mm_RI, mm_RJ, mm_IJ, mm_IR, mm_JI, mm_JR, mm_II, mm_JJ, mm_RR, nn_lit, nI_add, pk_mul, nI_clamp, nI_ltI, nI_leI, nI_eq, nn_in, nn_eqm, nn_meq, nn_ltm, nn_mlt, nn_lem, nn_mle, nn_in_m, hb.1, h5, e1, ez]
theorem kept_eq (tx : List Nat) (t : zTk) : zkept tx t = (zisw tx t 0 || (zisw tx t 1 || (zisw tx t 2 || (zisw tx t 3 || (zisw tx t 4 || (zisw tx t 5 || (zisw tx t 6 || (zisw tx t 7 || (zisw tx t 8 || (zisw tx t 9 || (zisw tx t 10 || zisw tx t 11)))))))))))  := by
  simp [zkept, List.range, List.range.loop]
theorem rd_kept {S : zM} {rd q : Nat} {tx : List Nat} {t : zTk} (h : pRd S rd q tx t) : f_Reader_isKept rd S = some (if zkept tx t then 1 else 0, S) := by
  have hh := h.1.1
  have i0 := rd_is h (show 0 < 13 by omega)
  have i1 := rd_is h (show 1 < 13 by omega)
  have i2 := rd_is h (show 2 < 13 by omega)
  have i3 := rd_is h (show 3 < 13 by omega)
  have i4 := rd_is h (show 4 < 13 by omega)
  have i5 := rd_is h (show 5 < 13 by omega)
  have i6 := rd_is h (show 6 < 13 by omega)
  have i7 := rd_is h (show 7 < 13 by omega)
  have i8 := rd_is h (show 8 < 13 by omega)
  have i9 := rd_is h (show 9 < 13 by omega)
  have i10 := rd_is h (show 10 < 13 by omega)
  have i11 := rd_is h (show 11 < 13 by omega)
  have z : ∀ c : Bool, ((if c then (1 : Int32) else 0) = 0) ↔ c = false := by intro c; cases c <;> simp
  rw [kept_eq]
  unfold f_Reader_isKept
  simp only [↓bb_cl, hh, if_true, ↓bS i0, ↓bS i1, ↓bS i2, ↓bS i3, ↓bS i4, ↓bS i5, ↓bS i6, ↓bS i7, ↓bS i8, ↓bS i9, ↓bS i10, ↓bS i11, z]
  cases zisw tx t 0 <;> simp
  cases zisw tx t 1 <;> simp
  cases zisw tx t 2 <;> simp
  cases zisw tx t 3 <;> simp
  cases zisw tx t 4 <;> simp
  cases zisw tx t 5 <;> simp
  cases zisw tx t 6 <;> simp
  cases zisw tx t 7 <;> simp
  cases zisw tx t 8 <;> simp
  cases zisw tx t 9 <;> simp
  cases zisw tx t 10 <;> simp
  cases zisw tx t 11 <;> simp
theorem rd_are_l {S : zM} {rd q : Nat} {tx : List Nat} {t : zTk} (h : pRd S rd q tx t) : ∀ d F k, d + k = t.2.1 → d < F → t.1 ≤ k → (∀ j, t.1 ≤ j → j < k → lg tx j ≤ 104) → L_Reader_areLetters_28 F rd (nI k) S = some (if (zsl tx t).all (fun c => decide (c ≤ 104)) then 1 else 0, S) := by
  obtain ⟨hb, h2, h6, h5, ht⟩ := h
  have h900 := hb.2.2.2.2.2.2.1
  have ht1 := ht.1
  have ht2 := ht.2.1
  have hsl := sl_len ht
  intro d
  induction d with
  | zero =>
    intro F k hd hF hk hs
    cases F with
    | zero => omega
    | succ F =>
      have e : (zsl tx t).all (fun c => decide (c ≤ 104)) = true := by
        rw [List.all_eq_true]
        intro c hc
        obtain ⟨j, hj, e⟩ := lg_mem hc
        rw [sl_lg (by omega)] at e
        simp only [decide_eq_true_eq]
        rw [← e]; exact hs _ (by omega) (by omega)
      simp (disch := omega) [L_Reader_areLetters_28, -Prod.exists, -Prod.forall, ↓bb_gf, ↓bb_gr, ↓bb_len, ↓bb_ga, ↓bb_gl, ↓bb_go, ↓bb_pf, ↓bb_pz, ↓bb_pr, ↓bb_pa, ↓bb_pb, ↓bb_pl, ↓bb_po, ↓bb_cl, ↓bb_some, ↓bb_RI, ↓bb_RJ, mm_hI, mm_hJ, mm_hR, mm_nI, mm_nJ, mm_nR, mm_sI, mm_sJ, mm_sR, mm_RI, mm_RJ, mm_IJ, mm_IR, mm_JI, mm_JR, mm_II, mm_JJ, mm_RR, nn_lit, nI_add, pk_mul, nI_clamp, nI_ltI, nI_leI, nI_eq, nn_in, nn_eqm, nn_meq, nn_ltm, nn_mlt, nn_lem, nn_mle, nn_in_m, hb.1, h2, show ¬ k < t.2.1 by omega, e]
  | succ d ih =>
    intro F k hd hF hk hs
    cases F with
    | zero => omega
    | succ F =>
      have hk2 : k < t.2.1 := by omega
      have by1 := rd_byte hb (show k < tx.length by omega)
      have c1 := hb.2.2.2.2.2.2.2 k
      by_cases e : lg tx k ≤ 104
      · rw [← ih F (k + 1) (by omega) (by omega) (by omega) (fun j hj hj2 => by
          by_cases q : j = k
          · subst q; exact e
          · exact hs j hj (by omega))]
        simp (disch := omega) [L_Reader_areLetters_28, -Prod.exists, -Prod.forall, ↓bb_gf, ↓bb_gr, ↓bb_len, ↓bb_ga, ↓bb_gl, ↓bb_go, ↓bb_pf, ↓bb_pz, ↓bb_pr, ↓bb_pa, ↓bb_pb, ↓bb_pl, ↓bb_po, ↓bb_cl, ↓bb_some, ↓bb_RI, ↓bb_RJ, mm_hI, mm_hJ, mm_hR, mm_nI, mm_nJ, mm_nR, mm_sI, mm_sJ, mm_sR, mm_RI, mm_RJ, mm_IJ, mm_IR, mm_JI, mm_JR, mm_II, mm_JJ, mm_RR, nn_lit, nI_add, pk_mul, nI_clamp, nI_ltI, nI_leI, nI_eq, nn_in, nn_eqm, nn_meq, nn_ltm, nn_mlt, nn_lem, nn_mle, nn_in_m, hb.1, h2, hk2, ↓bS by1, e]
      · have ne : (zsl tx t).all (fun c => decide (c ≤ 104)) = false := by
          rw [Bool.eq_false_iff]
          intro q
          rw [List.all_eq_true] at q
          have m : lg tx k ∈ zsl tx t := by
            have : lg (zsl tx t) (k - t.1) = lg tx k := by rw [sl_lg (by omega)]; congr 1; omega
            rw [← this, lg_get (by omega)]; exact List.getElem_mem _
          have := q _ m
          simp at this; omega
        rw [ne]
        simp (disch := omega) [L_Reader_areLetters_28, -Prod.exists, -Prod.forall, ↓bb_gf, ↓bb_gr, ↓bb_len, ↓bb_ga, ↓bb_gl, ↓bb_go, ↓bb_pf, ↓bb_pz, ↓bb_pr, ↓bb_pa, ↓bb_pb, ↓bb_pl, ↓bb_po, ↓bb_cl, ↓bb_some, ↓bb_RI, ↓bb_RJ, mm_hI, mm_hJ, mm_hR, mm_nI, mm_nJ, mm_nR, mm_sI, mm_sJ, mm_sR, mm_RI, mm_RJ, mm_IJ, mm_IR, mm_JI, mm_JR, mm_II, mm_JJ, mm_RR, nn_lit, nI_add, pk_mul, nI_clamp, nI_ltI, nI_leI, nI_eq, nn_in, nn_eqm, nn_meq, nn_ltm, nn_mlt, nn_lem, nn_mle, nn_in_m, hb.1, h2, hk2, ↓bS by1, e]
theorem rd_are {S : zM} {rd q : Nat} {tx : List Nat} {t : zTk} (h : pRd S rd q tx t) {most : Nat} (hm : most < 100) : f_Reader_areLetters rd (nI most) S = some (if zlets tx t most then 1 else 0, S) := by
  have h0 := h
  obtain ⟨hb, h2, h6, h5, ht⟩ := h
  have h900 := hb.2.2.2.2.2.2.1
  have ht1 := ht.1
  have ht2 := ht.2.1
  have ht3 := ht.2.2.1
  have esub : nI t.2.1 - nI t.1 = nI (t.2.1 - t.1) := pk_sub (by omega)
  by_cases e1 : t.2.2 = 1
  · by_cases hl : t.2.1 - t.1 ≤ most
    · have := rd_are_l h0 (t.2.1 - t.1) zF t.1 (by omega) (by rw [zF_eq]; omega) (by omega) (fun j hj => by omega)
      have ez : zlets tx t most = (zsl tx t).all (fun c => decide (c ≤ 104)) := by simp [zlets, e1, hl]
      rw [ez, ← this]
      simp (disch := omega) [f_Reader_areLetters, -Prod.exists, -Prod.forall, ↓bb_gf, ↓bb_gr, ↓bb_len, ↓bb_ga, ↓bb_gl, ↓bb_go, ↓bb_pf, ↓bb_pz, ↓bb_pr, ↓bb_pa, ↓bb_pb, ↓bb_pl, ↓bb_po, ↓bb_cl, ↓bb_some, ↓bb_RI, ↓bb_RJ, mm_hI, mm_hJ, mm_hR, mm_nI, mm_nJ, mm_nR, mm_sI, mm_sJ, mm_sR, mm_RI, mm_RJ, mm_IJ, mm_IR, mm_JI, mm_JR, mm_II, mm_JJ, mm_RR, nn_lit, nI_add, pk_mul, nI_clamp, nI_ltI, nI_leI, nI_eq, nn_in, nn_eqm, nn_meq, nn_ltm, nn_mlt, nn_lem, nn_mle, nn_in_m, hb.1, h5, e1, h2, h6, esub, hl]
    · have ez : zlets tx t most = false := by simp [zlets, hl]
      simp (disch := omega) [f_Reader_areLetters, -Prod.exists, -Prod.forall, ↓bb_gf, ↓bb_gr, ↓bb_len, ↓bb_ga, ↓bb_gl, ↓bb_go, ↓bb_pf, ↓bb_pz, ↓bb_pr, ↓bb_pa, ↓bb_pb, ↓bb_pl, ↓bb_po, ↓bb_cl, ↓bb_some, ↓bb_RI, ↓bb_RJ, mm_hI, mm_hJ, mm_hR, mm_nI, mm_nJ, mm_nR, mm_sI, mm_sJ, mm_sR, mm_RI, mm_RJ, mm_IJ, mm_IR, mm_JI, mm_JR, mm_II, mm_JJ, mm_RR, nn_lit, nI_add, pk_mul, nI_clamp, nI_ltI, nI_leI, nI_eq, nn_in, nn_eqm, nn_meq, nn_ltm, nn_mlt, nn_lem, nn_mle, nn_in_m, hb.1, h5, e1, h2, h6, esub, hl, ez]
  · have ez : zlets tx t most = false := by simp [zlets, e1]
    simp (disch := omega) [f_Reader_areLetters, -Prod.exists, -Prod.forall, ↓bb_gf, ↓bb_gr, ↓bb_len, ↓bb_ga, ↓bb_gl, ↓bb_go, ↓bb_pf, ↓bb_pz, ↓bb_pr, ↓bb_pa, ↓bb_pb, ↓bb_pl, ↓bb_po, ↓bb_cl, ↓bb_some, ↓bb_RI, ↓bb_RJ, mm_hI, mm_hJ, mm_hR, mm_nI, mm_nJ, mm_nR, mm_sI, mm_sJ, mm_sR, mm_RI, mm_RJ, mm_IJ, mm_IR, mm_JI, mm_JR, mm_II, mm_JJ, mm_RR, nn_lit, nI_add, pk_mul, nI_clamp, nI_ltI, nI_leI, nI_eq, nn_in, nn_eqm, nn_meq, nn_ltm, nn_mlt, nn_lem, nn_mle, nn_in_m, hb.1, h5, e1, ez]
theorem lets_is {tx : List Nat} {t : zTk} {most : Nat} (h : zlets tx t most = true) : t.2.2 = 1 ∧ t.2.1 - t.1 ≤ most ∧ ∀ c ∈ zsl tx t, c ≤ 104 := by
  simp only [zlets, Bool.and_eq_true, decide_eq_true_eq, List.all_eq_true] at h
  exact ⟨h.1.1, h.1.2, h.2⟩
theorem sl_rng {tx : List Nat} {t : zTk} (h : wTk tx t) (h1 : t.2.2 = 1) : ∀ c ∈ zsl tx t, 97 ≤ c ∧ c ≤ 122 := by
  intro c hc
  obtain ⟨j, hj, e⟩ := lg_mem hc
  rw [sl_len h] at hj
  rw [sl_lg hj] at e
  rw [← e]; exact (h.2.2.2.2.1 h1).2 _ (by omega) (by omega)
theorem rd_bits_l {S : zM} {rd q : Nat} {tx : List Nat} {t : zTk} (h : pRd S rd q tx t) (hz : ∀ j, t.1 ≤ j → j < t.2.1 → 97 ≤ lg tx j ∧ lg tx j ≤ 104) : ∀ d F k, d + k = t.2.1 → d < F → t.1 ≤ k → L_Reader_letterBits_7 F rd (nI (zlb ((tx.drop t.1).take (k - t.1)))) (nI k) S = some (nI (zlb (zsl tx t)), S) := by
  obtain ⟨hb, h2, h6, h5, ht⟩ := h
  have h900 := hb.2.2.2.2.2.2.1
  have ht1 := ht.1
  have ht2 := ht.2.1
  intro d
  induction d with
  | zero =>
    intro F k hd hF hk
    cases F with
    | zero => omega
    | succ F =>
      have ek : k = t.2.1 := by omega
      subst ek
      simp (disch := omega) [L_Reader_letterBits_7, -Prod.exists, -Prod.forall, ↓bb_gf, ↓bb_gr, ↓bb_len, ↓bb_ga, ↓bb_gl, ↓bb_go, ↓bb_pf, ↓bb_pz, ↓bb_pr, ↓bb_pa, ↓bb_pb, ↓bb_pl, ↓bb_po, ↓bb_cl, ↓bb_some, ↓bb_RI, ↓bb_RJ, mm_hI, mm_hJ, mm_hR, mm_nI, mm_nJ, mm_nR, mm_sI, mm_sJ, mm_sR, mm_RI, mm_RJ, mm_IJ, mm_IR, mm_JI, mm_JR, mm_II, mm_JJ, mm_RR, nn_lit, nI_add, pk_mul, nI_clamp, nI_ltI, nI_leI, nI_eq, nn_in, nn_eqm, nn_meq, nn_ltm, nn_mlt, nn_lem, nn_mle, nn_in_m, hb.1, h2]
      rfl
  | succ d ih =>
    intro F k hd hF hk
    cases F with
    | zero => omega
    | succ F =>
      have hk2 : k < t.2.1 := by omega
      have by1 := rd_byte hb (show k < tx.length by omega)
      have c1 := hz k hk hk2
      have esub : nI (lg tx k) - nI 97 = nI (lg tx k - 97) := pk_sub (by omega)
      have eor : nI (zlb ((tx.drop t.1).take (k - t.1))) ||| nI (2 ^ (lg tx k - 97)) = nI (zlb ((tx.drop t.1).take (k + 1 - t.1))) := by
        rw [fa_or]; congr 1
        refine bits_add (by omega) (fun j hj => ?_)
        have hjl : k - t.1 < (tx.drop t.1).length := by simp; omega
        rw [show k + 1 - t.1 = k - t.1 + 1 by omega, List.take_succ_eq_append_getElem hjl, ← lg_get hjl, lg_drop, show t.1 + (k - t.1) = k by omega]
        simp only [List.contains_append]
        congr 1
        simp only [List.contains_cons, List.contains_nil, Bool.or_false]
        by_cases q : j = lg tx k - 97
        · have : 97 + j = lg tx k := by omega
          simp [q]; omega
        · have : ¬ 97 + j = lg tx k := by omega
          simp [q]; omega
      rw [← ih F (k + 1) (by omega) (by omega) (by omega), ← eor]
      simp (disch := omega) [L_Reader_letterBits_7, -Prod.exists, -Prod.forall, ↓bb_gf, ↓bb_gr, ↓bb_len, ↓bb_ga, ↓bb_gl, ↓bb_go, ↓bb_pf, ↓bb_pz, ↓bb_pr, ↓bb_pa, ↓bb_pb, ↓bb_pl, ↓bb_po, ↓bb_cl, ↓bb_some, ↓bb_RI, ↓bb_RJ, mm_hI, mm_hJ, mm_hR, mm_nI, mm_nJ, mm_nR, mm_sI, mm_sJ, mm_sR, mm_RI, mm_RJ, mm_IJ, mm_IR, mm_JI, mm_JR, mm_II, mm_JJ, mm_RR, nn_lit, nI_add, pk_mul, nI_clamp, nI_ltI, nI_leI, nI_eq, nn_in, nn_eqm, nn_meq, nn_ltm, nn_mlt, nn_lem, nn_mle, nn_in_m, hb.1, h2, hk2, ↓bS by1, esub, nn_pow2]
theorem rd_bits {S : zM} {rd q : Nat} {tx : List Nat} {t : zTk} (h : pRd S rd q tx t) {most : Nat} (hl : zlets tx t most = true) : f_Reader_letterBits rd S = some (nI (zlb (zsl tx t)), S) := by
  have h0 := h
  obtain ⟨hb, h2, h6, h5, ht⟩ := h
  have h900 := hb.2.2.2.2.2.2.1
  have ht1 := ht.1
  have ht2 := ht.2.1
  obtain ⟨l1, l2, l3⟩ := lets_is hl
  have hz : ∀ j, t.1 ≤ j → j < t.2.1 → 97 ≤ lg tx j ∧ lg tx j ≤ 104 := by
    intro j hj hj2
    have m : lg tx j ∈ zsl tx t := by
      have : lg (zsl tx t) (j - t.1) = lg tx j := by rw [sl_lg (by omega)]; congr 1; omega
      rw [← this, lg_get (by rw [sl_len ht]; omega)]; exact List.getElem_mem _
    exact ⟨((ht.2.2.2.2.1 l1).2 j hj hj2).1, l3 _ m⟩
  have := rd_bits_l h0 hz (t.2.1 - t.1) zF t.1 (by omega) (by rw [zF_eq]; omega) (by omega)
  have z : zlb ((tx.drop t.1).take (t.1 - t.1)) = 0 := by
    simp [zlb]; decide
  rw [z] at this
  simp [f_Reader_letterBits, -Prod.exists, -Prod.forall, ↓bb_gf, ↓bb_gr, ↓bb_len, ↓bb_ga, ↓bb_gl, ↓bb_go, ↓bb_pf, ↓bb_pz, ↓bb_pr, ↓bb_pa, ↓bb_pb, ↓bb_pl, ↓bb_po, ↓bb_cl, ↓bb_some, ↓bb_RI, ↓bb_RJ, mm_hI, mm_hJ, mm_hR, mm_nI, mm_nJ, mm_nR, mm_sI, mm_sJ, mm_sR, mm_RI, mm_RJ, mm_IJ, mm_IR, mm_JI, mm_JR, mm_II, mm_JJ, mm_RR, hb.1, h6]
  exact this
