/-! the reference: a word's letters -/
theorem sar_and (x : Int64) {k : Nat} (hk : k ≤ 56) : (x >>> ((nI k).toInt64 &&& 63)) &&& 255 = lN (uN x / 2 ^ k % 256) := by
  rw [wb_c k (by omega)]
  apply wb_inj
  rw [Int64.toBitVec_and, Int64.toBitVec_shiftRight, wb_tb, wb_tb, wb_sm k (by omega)]
  apply BitVec.eq_of_getLsbD_eq
  intro i hi
  have e1 : (BitVec.ofNat 64 k).toNat = k := by rw [BitVec.toNat_ofNat]; omega
  have e3 : (255 : Int64).toBitVec = BitVec.ofNat 64 (2 ^ 8 - 1) := rfl
  rw [BitVec.getLsbD_and, e3, BitVec.getLsbD_ofNat, BitVec.getLsbD_ofNat, Nat.testBit_two_pow_sub_one, show (256 : Nat) = 2 ^ 8 from rfl, Nat.testBit_mod_two_pow, Nat.testBit_div_two_pow, BitVec.sshiftRight', e1, BitVec.getLsbD_sshiftRight]
  have e2 : uN x = x.toBitVec.toNat := rfl
  by_cases h8 : i < 8
  · have h1 : ¬ 64 ≤ i := by omega
    have h2 : k + i < 64 := by omega
    simp [h8, h1, h2, hi, e2, BitVec.getLsbD, Nat.add_comm]
  · simp [h8]
theorem by_m (w : Int64) {j : Nat} (hj : j < 8) : ((w >>> ((nI (8 * j)).toInt64 &&& 63)) &&& 255) = lN (zby w j) := sar_and w (by omega)
theorem tw_w (w : Int64) : ∀ j ys us, l8 ys → ztw w j ys = some us → l8 us ∧ us.length ≤ ys.length + j ∧ 0 < us.length := by
  intro j
  induction j with
  | zero =>
    intro ys us h e
    rw [ztw] at e
    split at e
    · cases e
    · rename_i q
      cases e
      exact ⟨h, by omega, List.length_pos_iff.2 q⟩
  | succ j ih =>
    intro ys us h e
    rw [ztw] at e
    split at e
    · have := ih ys us h e; exact ⟨this.1, by omega, this.2.2⟩
    · split at e
      · cases e
      · rename_i q
        have := ih _ us (l8_app h (l8_one (by omega))) e
        simp only [List.length_append, List.length_cons, List.length_nil] at this
        exact ⟨this.1, by omega, this.2.2⟩
theorem wl_w {w : Int64} {us : List Nat} (h : zwl w = some us) : l8 us ∧ us.length ≤ 8 ∧ 0 < us.length := by
  have := tw_w w 8 [] us l8_nil h
  exact ⟨this.1, by have := this.2.1; simp at this; exact this, this.2.2⟩
section
variable {S S0 : zM} {M : Nat} {w : Int64}
theorem ll_39 (hm : sMo S0 M) {m : Nat} (hm8 : m ≤ 8) (h41 : zI S0 M 41 = nI m) : ∀ d F (S : zM) (ys : List Nat), d + ys.length = m → d < F → (ys = [] → 0 < m → zby w (m - 1) ≠ 0) → l8 ys → zfr (fun b j => b = M + 19) S0 S → (∀ k, k < ys.length → zI S (M + 19) k = nI (lg ys k)) → ∃ S', L_Mo_laysLetters_39 F M w (nI m) (nI ys.length) S = some (if (ztw w d ys).isSome then 1 else 0, S') ∧ zfr (fun b j => b = M + 19) S0 S' ∧ (∀ us, ztw w d ys = some us → pNow S' M us) := by
  intro d
  induction d with
  | zero =>
    intro F S ys hd hF hz h8 hf hv
    cases F with
    | zero => omega
    | succ F =>
      have el : ys.length = m := by omega
      have nlt : ¬ nI ys.length < nI m := fun z => by have := (nI_ltI (by omega) (by omega)).1 z; omega
      refine ⟨S, ?_, hf, fun us e => ?_⟩
      · rw [L_Mo_laysLetters_39, if_neg nlt, ztw]
        by_cases q : ys = []
        · have m0 : m = 0 := by rw [← el, q]; rfl
          have le : nI m ≤ 0 := by rw [m0]; decide
          simp [q, le]
        · have m0 : 0 < m := by rw [← el]; exact List.length_pos_iff.2 q
          have le : ¬ nI m ≤ 0 := nI_nle m0 (by omega)
          simp [q, le]
      · rw [ztw] at e
        split at e
        · cases e
        · cases e
          exact ⟨by rw [fr_I hf (by omega), h41, el], hv, h8, by omega⟩
  | succ d ih =>
    intro F S ys hd hF hz h8 hf hv
    cases F with
    | zero => omega
    | succ F =>
      have hm' := mo_fr hm hf
      have lt : nI ys.length < nI m := (nI_ltI (by omega) (by omega)).2 (by omega)
      have es : (8 : Int32) * (nI m - 1 - nI ys.length) = nI (8 * d) := by
        rw [show (1 : Int32) = nI 1 from rfl, pk_sub (by omega), pk_sub (by omega), show (8 : Int32) = nI 8 from rfl, pk_mul]; congr 1; omega
      have eb : ((w >>> (((8 : Int32) * (nI m - 1 - nI ys.length)).toInt64 &&& 63)) &&& 255) = lN (zby w d) := by rw [es]; exact by_m w (by omega)
      have bl := by_lt w d
      have ei : (lN (zby w d)).toInt32 = nI (zby w d) := lN_i _
      have ii : f_Mo_in (nI (zby w d)) 97 104 S = some (if 97 ≤ zby w d ∧ zby w d ≤ 104 then 1 else 0, S) := m_in (lo := 97) (hi := 104) (by omega) (by omega) (by omega)
      have nz : ¬ (zby w d = 0 ∧ ys = []) := fun q => by
        have := hz q.2 (by omega)
        rw [q.2] at hd
        simp at hd
        rw [show m - 1 = d by omega] at this
        exact this q.1
      rw [ztw, if_neg nz, L_Mo_laysLetters_39, if_pos lt, eb, ei]
      by_cases c : 97 ≤ zby w d ∧ zby w d ≤ 104
      · rw [if_pos c] at ii
        have cc : ¬ (zby w d < 97 ∨ 104 < zby w d) := by omega
        rw [if_neg cc]
        have zk : zinb (nI ys.length) 64 = true := (nn_in (by omega)).2 (by omega)
        have ck : (nI ys.length).toNatClampNeg = ys.length := nI_clamp (by omega)
        have esub : nI (zby w d) - 97 = nI (zby w d - 97) := pk_sub (a := zby w d) (b := 97) (by omega)
        obtain ⟨S', g1, g2⟩ := ih F (zwI S (M + 19) ys.length (nI (zby w d - 97))) (ys ++ [zby w d - 97]) (by simp; omega) (by omega) (fun q => by simp at q) (l8_app h8 (l8_one (by omega))) (fr_trans hf (fr_wI _ _ (by omega))) (fun k hk => by
          simp only [List.length_append, List.length_cons, List.length_nil] at hk
          by_cases q : k = ys.length
          · subst q; rw [lg_end]; simp [mm_II]
          · rw [mm_II, if_neg (by omega), lg_app1 (by omega)]; exact hv k (by omega))
        refine ⟨S', ?_, g2⟩
        rw [← g1]
        simp [-Prod.exists, -Prod.forall, ↓bb_gf, ↓bb_gr, ↓bb_len, ↓bb_ga, ↓bb_gl, ↓bb_go, ↓bb_pf, ↓bb_pz, ↓bb_pr, ↓bb_pa, ↓bb_pb, ↓bb_pl, ↓bb_po, ↓bb_cl, ↓bb_some, ↓bb_RI, ↓bb_RJ, mm_hI, mm_hJ, mm_hR, mm_nI, mm_nJ, mm_nR, mm_sI, mm_sJ, mm_sR, mm_RI, mm_RJ, mm_IJ, mm_IR, mm_JI, mm_JR, mm_II, mm_JJ, mm_RR, ↓bS ii, hm'.1, ↓bS (mo_now hm'), mh_now hm', zk, ck, esub, nI_1]
      · rw [if_neg c] at ii
        have cc : zby w d < 97 ∨ 104 < zby w d := by omega
        rw [if_pos cc]
        refine ⟨S, ?_, hf, fun us e => by cases e⟩
        simp [-Prod.exists, -Prod.forall, ↓bb_gf, ↓bb_gr, ↓bb_len, ↓bb_ga, ↓bb_gl, ↓bb_go, ↓bb_pf, ↓bb_pz, ↓bb_pr, ↓bb_pa, ↓bb_pb, ↓bb_pl, ↓bb_po, ↓bb_cl, ↓bb_some, ↓bb_RI, ↓bb_RJ, mm_hI, mm_hJ, mm_hR, mm_nI, mm_nJ, mm_nR, mm_sI, mm_sJ, mm_sR, mm_RI, mm_RJ, mm_IJ, mm_IR, mm_JI, mm_JR, mm_II, mm_JJ, mm_RR, ↓bS ii]
theorem ll_3 (hm : sMo S M) : ∀ m F, m ≤ 8 → m < F → ztw w 8 [] = ztw w m [] → ∃ S', L_Mo_laysLetters_3 (F_Mo_laysLetters_31 (L_Mo_laysLetters_39 zF)) F M w (nI m) S = some (if (zwl w).isSome then 1 else 0, S') ∧ zfr (fun b j => b = M + 19 ∨ (b = M ∧ j = 41)) S S' ∧ (∀ us, zwl w = some us → pNow S' M us) := by
  have stop : ∀ (m F : Nat), m ≤ 8 → ztw w 8 [] = ztw w m [] → (0 < m → zby w (m - 1) ≠ 0) → ∃ S', F_Mo_laysLetters_31 (L_Mo_laysLetters_39 zF) M w (nI m) S = some (if (zwl w).isSome then 1 else 0, S') ∧ zfr (fun b j => b = M + 19 ∨ (b = M ∧ j = 41)) S S' ∧ (∀ us, zwl w = some us → pNow S' M us) := by
    intro m F hm8 he hz
    have fw : zfr (fun b j => b = M ∧ j = 41) S (zwI S M 41 (nI m)) := fr_wI _ _ ⟨rfl, rfl⟩
    obtain ⟨S', g1, g2, g3⟩ := ll_39 (S0 := zwI S M 41 (nI m)) (w := w) (mo_fr hm fw) hm8 (by simp [mm_II]) m zF (zwI S M 41 (nI m)) [] (by simp) (by rw [zF_eq]; omega) (fun _ => hz) l8_nil (fr_refl _ _) (fun k hk => by simp at hk)
    refine ⟨S', ?_, fr_trans (fr_mono fw (fun b j hb => Or.inr hb)) (fr_mono g2 (fun b j hb => Or.inl hb)), fun us e => g3 us ?_⟩
    · unfold zwl
      rw [he, ← g1]
      simp [F_Mo_laysLetters_31, -Prod.exists, -Prod.forall, ↓bb_gf, ↓bb_gr, ↓bb_len, ↓bb_ga, ↓bb_gl, ↓bb_go, ↓bb_pf, ↓bb_pz, ↓bb_pr, ↓bb_pa, ↓bb_pb, ↓bb_pl, ↓bb_po, ↓bb_cl, ↓bb_some, ↓bb_RI, ↓bb_RJ, mm_hI, mm_hJ, mm_hR, mm_nI, mm_nJ, mm_nR, mm_sI, mm_sJ, mm_sR, mm_RI, mm_RJ, mm_IJ, mm_IR, mm_JI, mm_JR, mm_II, mm_JJ, mm_RR, hm.1]
      rfl
    · unfold zwl at e; rw [← he]; exact e
  intro m
  induction m with
  | zero =>
    intro F hm8 hF he
    cases F with
    | zero => omega
    | succ F =>
      obtain ⟨S', g1, g2⟩ := stop 0 F hm8 he (fun q => by omega)
      refine ⟨S', ?_, g2⟩
      rw [L_Mo_laysLetters_3, if_pos (by decide)]
      exact g1
  | succ m ih =>
    intro F hm8 hF he
    cases F with
    | zero => omega
    | succ F =>
      have nle : ¬ nI (m + 1) ≤ 0 := nI_nle (by omega) (by omega)
      have es : (8 : Int32) * nI (m + 1) - 8 = nI (8 * m) := by
        rw [show (8 : Int32) = nI 8 from rfl, pk_mul, pk_sub (by omega)]; congr 1
      have eb : ((w >>> (((8 : Int32) * nI (m + 1) - 8).toInt64 &&& 63)) &&& 255) = lN (zby w m) := by rw [es]; exact by_m w (by omega)
      have bl := by_lt w m
      rw [L_Mo_laysLetters_3, if_neg nle, eb]
      by_cases c : zby w m = 0
      · have c0 : lg_cmp (lN (zby w m)) 0 = 0 := (lg_cmp_eq _ _).2 (by rw [c]; rfl)
        rw [if_pos c0, pk_m1]
        exact ih F (by omega) (by omega) (by rw [he, ztw, if_pos ⟨c, rfl⟩])
      · have c0 : ¬ lg_cmp (lN (zby w m)) 0 = 0 := fun z => by
          have := (lg_cmp_eq _ _).1 z
          exact c ((fb_lN_inj (b := 0) (by omega) (by omega)).1 this)
        rw [if_neg c0]
        exact stop (m + 1) F hm8 he (fun _ => c)
theorem m_word (hm : sMo S M) (w : Int64) : ∃ S', f_Mo_laysLetters M w S = some (if (zwl w).isSome then 1 else 0, S') ∧ zfr (fun b j => b = M + 19 ∨ (b = M ∧ j = 41)) S S' ∧ (∀ us, zwl w = some us → pNow S' M us) :=
  ll_3 hm 8 zF (by omega) (by rw [zF_eq]; omega) rfl
end
