/-! the reference: which rule serves -/
/-- the script as the reference keeps it -/
def mSc (S : zM) (M : Nat) (sc : zSc) (asd : Nat → Nat) : Prop := zI S M 6 = nI sc.1 ∧ zI S M 7 = nI sc.2.1.length ∧ zI S M 8 = nI sc.2.2.length ∧ zI S M 9 = (if sc.2.2.length = 0 then 0 else 1) ∧ (∀ k, k < sc.2.1.length → zI S (M + 2) k = nI (lg sc.2.1 k)) ∧ (∀ p, p < 3 → zI S (M + 3) p = nI (zpa_ sc.2.2 p).2.length) ∧ (∀ p, p < sc.2.2.length → zI S (M + 4) p = (if (zpa_ sc.2.2 p).1 then 1 else 0)) ∧ (∀ p i, p < sc.2.2.length → i < (zpa_ sc.2.2 p).2.length → mRu S (M + 5) (aRu p i) (zru (zpa_ sc.2.2 p).2 i)) ∧ (∀ p i, p < 3 → i < 8 → zI S (M + 18) (8 * p + i) = (if (asd p).testBit i then 1 else 0)) ∧ sc.1 ≤ 4 ∧ sc.2.1.length ≤ 4 ∧ (∀ k, lg sc.2.1 k < 256) ∧ wPs sc.2.2
theorem mSc_fr {W : Nat → Nat → Prop} {S S' : zM} {M : Nat} {sc : zSc} {asd : Nat → Nat} (h : mSc S M sc asd) (hf : zfr W S S') (h1 : ∀ j, 6 ≤ j → j ≤ 9 → ¬ W M j) (h2 : ∀ b j, (M + 2 ≤ b ∧ b ≤ M + 5) ∨ b = M + 18 → ¬ W b j) : mSc S' M sc asd := by
  obtain ⟨a1, a2, a3, a4, a5, a6, a7, a8, a9, a10, a11, a12, a13⟩ := h
  refine ⟨by rw [fr_I hf (h1 _ (by omega) (by omega))]; exact a1, by rw [fr_I hf (h1 _ (by omega) (by omega))]; exact a2, by rw [fr_I hf (h1 _ (by omega) (by omega))]; exact a3, by rw [fr_I hf (h1 _ (by omega) (by omega))]; exact a4, fun k hk => by rw [fr_I hf (h2 _ _ (by omega))]; exact a5 k hk, fun p hp => by rw [fr_I hf (h2 _ _ (by omega))]; exact a6 p hp, fun p hp => by rw [fr_I hf (h2 _ _ (by omega))]; exact a7 p hp, fun p i hp hi => ?_, fun p i hp hi => by rw [fr_I hf (h2 _ _ (by omega))]; exact a9 p i hp hi, a10, a11, a12, a13⟩
  have wr := ps_w a13 hp
  exact mRu_eq (a8 p i hp hi) ⟨(ru_w wr hi).2.1, (ru_w wr hi).2.2.1⟩ (fun j _ _ => fr_I hf (h2 _ _ (by omega)))
def pNow (S : zM) (M : Nat) (row : List Nat) : Prop := zI S M 41 = nI row.length ∧ (∀ k, k < row.length → zI S (M + 19) k = nI (lg row k)) ∧ l8 row ∧ row.length ≤ 60
theorem now_fr {W : Nat → Nat → Prop} {S S' : zM} {M : Nat} {row : List Nat} (h : pNow S M row) (hf : zfr W S S') (h1 : ¬ W M 41) (h2 : ∀ j, ¬ W (M + 19) j) : pNow S' M row :=
  ⟨by rw [fr_I hf h1]; exact h.1, fun k hk => by rw [fr_I hf (h2 k)]; exact h.2.1 k hk, h.2.2⟩
def loN (tn : Bool) : Nat := if tn then 1 else 0
def laN (tn : Bool) : Nat := if tn then 7 else 4
theorem mRu_T {S : zM} {q b : Nat} {ru : zRu} (h : mRu S q b ru) (tn : Bool) : zI S q (b + loN tn) = nI (ruT tn ru).length ∧ ∀ k, k < (ruT tn ru).length → zI S q (b + laN tn + k) = nI (lg (ruT tn ru) k) := by
  cases tn
  · exact ⟨h.1, h.2.2.2.2.1⟩
  · exact ⟨h.2.1, h.2.2.2.2.2⟩
section
variable {S : zM} {M : Nat} {row : List Nat} {sc : zSc} {asd : Nat → Nat}
theorem m_side_at (hm : sMo S M) (hn : pNow S M row) (h0 : 0 < row.length) {k : Nat} (hk : k < 2 ^ 30) : f_Mo_sideAt M (nI k) S = some (nI (2 ^ zsd row k), S) := by
  obtain ⟨a1, a2, a3, a4⟩ := hn
  have es : nI row.length - 1 = nI (row.length - 1) := pk_sub (a := row.length) (b := 1) (by omega)
  have ii : f_Mo_in (nI k) 0 (nI (row.length - 1)) S = some (if 0 ≤ k ∧ k ≤ row.length - 1 then 1 else 0, S) := m_in (lo := 0) (by omega) (by omega) (by omega)
  rw [← es, ← a1] at ii
  by_cases c : k < row.length
  · rw [if_pos (by omega)] at ii
    have l7 := a3 k
    have zin : zinb (nI k) 64 = true := (nn_in (by omega)).2 (by omega)
    have ncl : (nI k).toNatClampNeg = k := nI_clamp (by omega)
    have ev : (1 : Int32) <<< (nI (lg row k) &&& 31) = nI (2 ^ lg row k) := nn_pow2 (by omega)
    have es2 : zsd row k = lg row k := by unfold zsd; rw [if_pos c]
    rw [es2]
    simp [f_Mo_sideAt, -Prod.exists, -Prod.forall, ↓bb_gf, ↓bb_gr, ↓bb_len, ↓bb_ga, ↓bb_gl, ↓bb_go, ↓bb_pf, ↓bb_pz, ↓bb_pr, ↓bb_pa, ↓bb_pb, ↓bb_pl, ↓bb_po, ↓bb_cl, ↓bb_some, ↓bb_RI, ↓bb_RJ, mm_hI, mm_hJ, mm_hR, mm_nI, mm_nJ, mm_nR, mm_sI, mm_sJ, mm_sR, mm_RI, mm_RJ, mm_IJ, mm_IR, mm_JI, mm_JR, mm_II, mm_JJ, mm_RR, hm.1, ↓bS ii, ↓bS (mo_now hm), mh_now hm, zin, ncl, a2 k c, ev]
  · rw [if_neg (by omega)] at ii
    have es2 : zsd row k = 8 := by unfold zsd; rw [if_neg c]
    rw [es2]
    simp [f_Mo_sideAt, -Prod.exists, -Prod.forall, ↓bb_gf, ↓bb_gr, ↓bb_len, ↓bb_ga, ↓bb_gl, ↓bb_go, ↓bb_pf, ↓bb_pz, ↓bb_pr, ↓bb_pa, ↓bb_pb, ↓bb_pl, ↓bb_po, ↓bb_cl, ↓bb_some, ↓bb_RI, ↓bb_RJ, mm_hI, mm_hJ, mm_hR, mm_nI, mm_nJ, mm_nR, mm_sI, mm_sJ, mm_sR, mm_RI, mm_RJ, mm_IJ, mm_IR, mm_JI, mm_JR, mm_II, mm_JJ, mm_RR, hm.1, ↓bS ii]
    rfl
theorem m_side_neg (hm : sMo S M) : f_Mo_sideAt M (-1) S = some (nI (2 ^ 8), S) := by
  have ii : f_Mo_in (-1) 0 (zI S M 41 - 1) S = some (0, S) := m_inN (by decide)
  simp [f_Mo_sideAt, -Prod.exists, -Prod.forall, ↓bb_gf, ↓bb_gr, ↓bb_len, ↓bb_ga, ↓bb_gl, ↓bb_go, ↓bb_pf, ↓bb_pz, ↓bb_pr, ↓bb_pa, ↓bb_pb, ↓bb_pl, ↓bb_po, ↓bb_cl, ↓bb_some, ↓bb_RI, ↓bb_RJ, mm_hI, mm_hJ, mm_hR, mm_nI, mm_nJ, mm_nR, mm_sI, mm_sJ, mm_sR, mm_RI, mm_RJ, mm_IJ, mm_IR, mm_JI, mm_JR, mm_II, mm_JJ, mm_RR, hm.1, ↓bS ii]
  rfl
theorem fits_l {b at_ : Nat} {ru : zRu} {tn : Bool} (hm : sMo S M) (hn : pNow S M row) (hr : mRu S (M + 5) b ru) (hw : wRu ru) (hb : b + 11 ≤ 264) (hl : at_ + (ruT tn ru).length ≤ row.length) (h0 : 0 < (ruT tn ru).length) : ∀ d F k, d + k = (ruT tn ru).length → d < F → (∀ j, j < k → lg row (at_ + j) = lg (ruT tn ru) j) → L_Mo_fits_32 F_Mo_fits_71 F M (nI b) (nI (laN tn)) (nI at_) (nI (ruT tn ru).length) (nI k) S = some (if zfit tn row at_ ru then 1 else 0, S) := by
  obtain ⟨t1, t2⟩ := mRu_T hr tn
  obtain ⟨g1, g2⟩ := ruT_le hw tn
  have n4 := hn.2.2.2
  have n3 := hn.2.2.1
  have hla : laN tn + (ruT tn ru).length ≤ 11 := by
    obtain ⟨_, w2, w3, _⟩ := hw
    cases tn
    · simp [laN, ruT]; omega
    · simp [laN, ruT]; omega
  intro d
  induction d with
  | zero =>
    intro F k hd hF hs
    cases F with
    | zero => omega
    | succ F =>
      have hx : ¬ k < (ruT tn ru).length := by omega
      have held : zheld row at_ (ruT tn ru) = true := held_iff.2 ⟨hl, fun j hj => hs j (by omega)⟩
      have hne : ruT tn ru ≠ [] := List.length_pos_iff.1 h0
      have ezf : zfit tn row at_ ru = (ru.2.2.1.testBit (zah row at_) && ru.2.2.2.testBit (zsd row (at_ + (ruT tn ru).length))) := by
        simp [zfit, held, hne]
      rw [ezf]
      have sA : f_Mo_sideAt M (nI at_ - 1) S = some (nI (2 ^ zah row at_), S) := by
        cases at_ with
        | zero => exact m_side_neg hm
        | succ a => rw [nI_pred, m_side_at hm hn (by omega) (by omega)]; simp [zah]
      have sB : f_Mo_sideAt M (nI (at_ + (ruT tn ru).length)) S = some (nI (2 ^ zsd row (at_ + (ruT tn ru).length)), S) := m_side_at hm hn (by omega) (by omega)
      have zl : ∀ j, zsd row j < 31 := fun j => by unfold zsd; split; have := n3 j; omega; omega
      have zl2 : zah row at_ < 31 := by unfold zah; split; omega; exact zl _
      have fA : nI ru.2.2.1 &&& nI (2 ^ zah row at_) = 0 ↔ ru.2.2.1.testBit (zah row at_) = false := fa_bit zl2
      have fB : nI ru.2.2.2 &&& nI (2 ^ zsd row (at_ + (ruT tn ru).length)) = 0 ↔ ru.2.2.2.testBit (zsd row (at_ + (ruT tn ru).length)) = false := fa_bit (zl _)
      have z2 : zinb (nI (b + 2)) 264 = true := (nn_in (by omega)).2 (by omega)
      have c2 : (nI (b + 2)).toNatClampNeg = b + 2 := nI_clamp (by omega)
      have z3 : zinb (nI (b + 3)) 264 = true := (nn_in (by omega)).2 (by omega)
      have c3 : (nI (b + 3)).toNatClampNeg = b + 3 := nI_clamp (by omega)
      have a2 : nI b + 2 = nI (b + 2) := nI_add b 2
      have a3 : nI b + 3 = nI (b + 3) := nI_add b 3
      have aB : nI at_ + nI (ruT tn ru).length = nI (at_ + (ruT tn ru).length) := nI_add _ _
      rw [← aB] at sB
      cases b1 : ru.2.2.1.testBit (zah row at_)
      · have q := fA.2 b1
        simp (disch := omega) [L_Mo_fits_32, F_Mo_fits_71, -Prod.exists, -Prod.forall, ↓bb_gf, ↓bb_gr, ↓bb_len, ↓bb_ga, ↓bb_gl, ↓bb_go, ↓bb_pf, ↓bb_pz, ↓bb_pr, ↓bb_pa, ↓bb_pb, ↓bb_pl, ↓bb_po, ↓bb_cl, ↓bb_some, ↓bb_RI, ↓bb_RJ, mm_hI, mm_hJ, mm_hR, mm_nI, mm_nJ, mm_nR, mm_sI, mm_sJ, mm_sR, mm_RI, mm_RJ, mm_IJ, mm_IR, mm_JI, mm_JR, mm_II, mm_JJ, mm_RR, nI_ltI, hx, hm.1, ↓bS (mo_rules hm), mh_rules hm, a2, z2, c2, hr.2.2.1, ↓bS sA, q]
      · have q : ¬ nI ru.2.2.1 &&& nI (2 ^ zah row at_) = 0 := fun z => by rw [fA.1 z] at b1; cases b1
        cases b2 : ru.2.2.2.testBit (zsd row (at_ + (ruT tn ru).length))
        · have q2 := fB.2 b2
          simp (disch := omega) [L_Mo_fits_32, F_Mo_fits_71, -Prod.exists, -Prod.forall, ↓bb_gf, ↓bb_gr, ↓bb_len, ↓bb_ga, ↓bb_gl, ↓bb_go, ↓bb_pf, ↓bb_pz, ↓bb_pr, ↓bb_pa, ↓bb_pb, ↓bb_pl, ↓bb_po, ↓bb_cl, ↓bb_some, ↓bb_RI, ↓bb_RJ, mm_hI, mm_hJ, mm_hR, mm_nI, mm_nJ, mm_nR, mm_sI, mm_sJ, mm_sR, mm_RI, mm_RJ, mm_IJ, mm_IR, mm_JI, mm_JR, mm_II, mm_JJ, mm_RR, nI_ltI, hx, hm.1, ↓bS (mo_rules hm), mh_rules hm, a2, z2, c2, hr.2.2.1, ↓bS sA, q, a3, z3, c3, hr.2.2.2.1, ↓bS sB, q2]
        · have q2 : ¬ nI ru.2.2.2 &&& nI (2 ^ zsd row (at_ + (ruT tn ru).length)) = 0 := fun z => by rw [fB.1 z] at b2; cases b2
          simp (disch := omega) [L_Mo_fits_32, F_Mo_fits_71, -Prod.exists, -Prod.forall, ↓bb_gf, ↓bb_gr, ↓bb_len, ↓bb_ga, ↓bb_gl, ↓bb_go, ↓bb_pf, ↓bb_pz, ↓bb_pr, ↓bb_pa, ↓bb_pb, ↓bb_pl, ↓bb_po, ↓bb_cl, ↓bb_some, ↓bb_RI, ↓bb_RJ, mm_hI, mm_hJ, mm_hR, mm_nI, mm_nJ, mm_nR, mm_sI, mm_sJ, mm_sR, mm_RI, mm_RJ, mm_IJ, mm_IR, mm_JI, mm_JR, mm_II, mm_JJ, mm_RR, nI_ltI, hx, hm.1, ↓bS (mo_rules hm), mh_rules hm, a2, z2, c2, hr.2.2.1, ↓bS sA, q, a3, z3, c3, hr.2.2.2.1, ↓bS sB, q2]
  | succ d ih =>
    intro F k hd hF hs
    cases F with
    | zero => omega
    | succ F =>
      have hk : k < (ruT tn ru).length := by omega
      have z1 : zinb (nI (at_ + k)) 64 = true := (nn_in (by omega)).2 (by omega)
      have c1 : (nI (at_ + k)).toNatClampNeg = at_ + k := nI_clamp (by omega)
      have z2 : zinb (nI (b + laN tn + k)) 264 = true := (nn_in (by omega)).2 (by omega)
      have c2 : (nI (b + laN tn + k)).toNatClampNeg = b + laN tn + k := nI_clamp (by omega)
      have v1 := hn.2.1 (at_ + k) (by omega)
      have v2 := t2 k hk
      have l1 := n3 (at_ + k)
      have l2 := g2 k
      by_cases e : lg row (at_ + k) = lg (ruT tn ru) k
      · rw [← ih F (k + 1) (by omega) (by omega) (fun j hj => by
          by_cases q : j = k
          · subst q; exact e
          · exact hs j (by omega))]
        simp (disch := omega) [L_Mo_fits_32, -Prod.exists, -Prod.forall, ↓bb_gf, ↓bb_gr, ↓bb_len, ↓bb_ga, ↓bb_gl, ↓bb_go, ↓bb_pf, ↓bb_pz, ↓bb_pr, ↓bb_pa, ↓bb_pb, ↓bb_pl, ↓bb_po, ↓bb_cl, ↓bb_some, ↓bb_RI, ↓bb_RJ, mm_hI, mm_hJ, mm_hR, mm_nI, mm_nJ, mm_nR, mm_sI, mm_sJ, mm_sR, mm_RI, mm_RJ, mm_IJ, mm_IR, mm_JI, mm_JR, mm_II, mm_JJ, mm_RR, nI_ltI, nI_add, nI_1, hk, hm.1, ↓bS (mo_now hm), mh_now hm, ↓bS (mo_rules hm), mh_rules hm, z1, c1, z2, c2, v1, v2, e]
      · have ne : zfit tn row at_ ru = false := by
          rw [Bool.eq_false_iff]
          intro q
          simp only [zfit, Bool.and_eq_true] at q
          exact e ((held_iff.1 q.1.1.2).2 k hk)
        have ne2 : ¬ nI (lg row (at_ + k)) = nI (lg (ruT tn ru) k) := fun z => e ((nI_eq (by omega) (by omega)).1 z)
        simp (disch := omega) [L_Mo_fits_32, -Prod.exists, -Prod.forall, ↓bb_gf, ↓bb_gr, ↓bb_len, ↓bb_ga, ↓bb_gl, ↓bb_go, ↓bb_pf, ↓bb_pz, ↓bb_pr, ↓bb_pa, ↓bb_pb, ↓bb_pl, ↓bb_po, ↓bb_cl, ↓bb_some, ↓bb_RI, ↓bb_RJ, mm_hI, mm_hJ, mm_hR, mm_nI, mm_nJ, mm_nR, mm_sI, mm_sJ, mm_sR, mm_RI, mm_RJ, mm_IJ, mm_IR, mm_JI, mm_JR, mm_II, mm_JJ, mm_RR, nI_ltI, nI_add, nI_1, hk, hm.1, ↓bS (mo_now hm), mh_now hm, ↓bS (mo_rules hm), mh_rules hm, z1, c1, z2, c2, v1, v2, ne2, ne]
theorem m_fits {b at_ : Nat} {ru : zRu} {tn : Bool} (hm : sMo S M) (hn : pNow S M row) (hr : mRu S (M + 5) b ru) (hw : wRu ru) (hb : b + 11 ≤ 264) (hat : at_ < row.length) : f_Mo_fits M (nI b) (nI (loN tn)) (nI (laN tn)) (nI at_) S = some (if zfit tn row at_ ru then 1 else 0, S) := by
  obtain ⟨t1, t2⟩ := mRu_T hr tn
  obtain ⟨g1, g2⟩ := ruT_le hw tn
  have n4 := hn.2.2.2
  have lo1 : loN tn ≤ 1 := by cases tn <;> simp [loN]
  have z1 : zinb (nI (b + loN tn)) 264 = true := (nn_in (by omega)).2 (by omega)
  have c1 : (nI (b + loN tn)).toNatClampNeg = b + loN tn := nI_clamp (by omega)
  by_cases h0 : (ruT tn ru).length = 0
  · have ne : zfit tn row at_ ru = false := by
      have := List.length_eq_zero_iff.1 h0
      simp [zfit, this]
    rw [h0] at t1
    have n0 : nI 0 = 0 := rfl
    simp (disch := omega) [f_Mo_fits, -Prod.exists, -Prod.forall, ↓bb_gf, ↓bb_gr, ↓bb_len, ↓bb_ga, ↓bb_gl, ↓bb_go, ↓bb_pf, ↓bb_pz, ↓bb_pr, ↓bb_pa, ↓bb_pb, ↓bb_pl, ↓bb_po, ↓bb_cl, ↓bb_some, ↓bb_RI, ↓bb_RJ, mm_hI, mm_hJ, mm_hR, mm_nI, mm_nJ, mm_nR, mm_sI, mm_sJ, mm_sR, mm_RI, mm_RJ, mm_IJ, mm_IR, mm_JI, mm_JR, mm_II, mm_JJ, mm_RR, nI_add, hm.1, ↓bS (mo_rules hm), mh_rules hm, z1, c1, t1, n0, ne]
  · have nz : ¬ nI (ruT tn ru).length = 0 := nI_ne0 (by omega) (by omega)
    by_cases hl : at_ + (ruT tn ru).length ≤ row.length
    · have := fits_l hm hn hr hw hb hl (by omega) (ruT tn ru).length zF 0 (by omega) (by rw [zF_eq]; omega) (fun j hj => by omega)
      rw [← this]
      simp (disch := omega) [f_Mo_fits, -Prod.exists, -Prod.forall, ↓bb_gf, ↓bb_gr, ↓bb_len, ↓bb_ga, ↓bb_gl, ↓bb_go, ↓bb_pf, ↓bb_pz, ↓bb_pr, ↓bb_pa, ↓bb_pb, ↓bb_pl, ↓bb_po, ↓bb_cl, ↓bb_some, ↓bb_RI, ↓bb_RJ, mm_hI, mm_hJ, mm_hR, mm_nI, mm_nJ, mm_nR, mm_sI, mm_sJ, mm_sR, mm_RI, mm_RJ, mm_IJ, mm_IR, mm_JI, mm_JR, mm_II, mm_JJ, mm_RR, nI_add, nI_leI, hm.1, ↓bS (mo_rules hm), mh_rules hm, z1, c1, t1, nz, hn.1, hl]
      rfl
    · have ne : zfit tn row at_ ru = false := by
        rw [Bool.eq_false_iff]
        intro q
        simp only [zfit, Bool.and_eq_true] at q
        exact hl (held_iff.1 q.1.1.2).1
      simp (disch := omega) [f_Mo_fits, -Prod.exists, -Prod.forall, ↓bb_gf, ↓bb_gr, ↓bb_len, ↓bb_ga, ↓bb_gl, ↓bb_go, ↓bb_pf, ↓bb_pz, ↓bb_pr, ↓bb_pa, ↓bb_pb, ↓bb_pl, ↓bb_po, ↓bb_cl, ↓bb_some, ↓bb_RI, ↓bb_RJ, mm_hI, mm_hJ, mm_hR, mm_nI, mm_nJ, mm_nR, mm_sI, mm_sJ, mm_sR, mm_RI, mm_RJ, mm_IJ, mm_IR, mm_JI, mm_JR, mm_II, mm_JJ, mm_RR, nI_add, nI_leI, hm.1, ↓bS (mo_rules hm), mh_rules hm, z1, c1, t1, nz, hn.1, hl, ne]
theorem sv_no {rs : List zRu} {mask : Nat} {tn : Bool} {at_ i : Nat} (h : zok rs mask tn row at_ i = false) : zsv rs mask tn row at_ (i + 1) = zsv rs mask tn row at_ i := by
  rw [zsv]
  cases zsv rs mask tn row at_ i <;> simp [h]
theorem sv_none {rs : List zRu} {mask : Nat} {tn : Bool} {at_ i : Nat} (h : zok rs mask tn row at_ i = true) (h2 : zsv rs mask tn row at_ i = none) : zsv rs mask tn row at_ (i + 1) = some i := by
  rw [zsv, h2]; simp [h]
theorem sv_some {rs : List zRu} {mask : Nat} {tn : Bool} {at_ i b : Nat} (h : zok rs mask tn row at_ i = true) (h2 : zsv rs mask tn row at_ i = some b) : zsv rs mask tn row at_ (i + 1) = if zlenT rs tn b < zlenT rs tn i then some i else some b := by
  rw [zsv, h2]; simp [h]
theorem serv_l {p at_ : Nat} {tn : Bool} (hm : sMo S M) (hs : mSc S M sc asd) (hp : p < sc.2.2.length) (hn : pNow S M row) (hat : at_ < row.length) : ∀ d F i, d + i = (zpa_ sc.2.2 p).2.length → d < F → L_Mo_serving_6 F M (nI p) (nI at_) (nI (loN tn)) (nI (laN tn)) (zsI (zsv (zpa_ sc.2.2 p).2 (asd p) tn row at_ i)) (nI i) S = some (zsI (zserve (zpa_ sc.2.2 p).2 (asd p) tn row at_), S) := by
  obtain ⟨a1, a2, a3, a4, a5, a6, a7, a8, a9, a10, a11, a12, a13⟩ := hs
  have wr := ps_w a13 hp
  have w8 := wr.1
  have p3 := a13.1
  have x6 := a6 p (by omega)
  have zp : zinb (nI p) 3 = true := (nn_in (by omega)).2 (by omega)
  have cp : (nI p).toNatClampNeg = p := nI_clamp (by omega)
  have lo1 : loN tn ≤ 1 := by cases tn <;> simp [loN]
  intro d
  induction d with
  | zero =>
    intro F i hd hF
    cases F with
    | zero => omega
    | succ F =>
      have ei : i = (zpa_ sc.2.2 p).2.length := by omega
      subst ei
      simp (disch := omega) [L_Mo_serving_6, -Prod.exists, -Prod.forall, ↓bb_gf, ↓bb_gr, ↓bb_len, ↓bb_ga, ↓bb_gl, ↓bb_go, ↓bb_pf, ↓bb_pz, ↓bb_pr, ↓bb_pa, ↓bb_pb, ↓bb_pl, ↓bb_po, ↓bb_cl, ↓bb_some, ↓bb_RI, ↓bb_RJ, mm_hI, mm_hJ, mm_hR, mm_nI, mm_nJ, mm_nR, mm_sI, mm_sJ, mm_sR, mm_RI, mm_RJ, mm_IJ, mm_IR, mm_JI, mm_JR, mm_II, mm_JJ, mm_RR, nI_ltI, hm.1, ↓bS (mo_ruleMany hm), mh_ruleMany hm, zp, cp, x6]
      rfl
  | succ d ih =>
    intro F i hd hF
    cases F with
    | zero => omega
    | succ F =>
      have hi : i < (zpa_ sc.2.2 p).2.length := by omega
      have hrow : (11 : Int32) * ((8 : Int32) * nI p + nI i) = nI (aRu p i) := by
        rw [show (8 : Int32) = nI 8 from rfl, show (11 : Int32) = nI 11 from rfl, pk_mul, nI_add, pk_mul]; rfl
      have h8i : (8 : Int32) * nI p + nI i = nI (8 * p + i) := by rw [show (8 : Int32) = nI 8 from rfl, pk_mul, nI_add]
      have zi : zinb (nI (8 * p + i)) 24 = true := (nn_in (by omega)).2 (by omega)
      have ci : (nI (8 * p + i)).toNatClampNeg = 8 * p + i := nI_clamp (by omega)
      have x9 := a9 p i (by omega) (by omega)
      have hru := a8 p i hp hi
      have hwu := ru_w wr hi
      have har : aRu p i + 11 ≤ 264 := by unfold aRu; omega
      have fit := m_fits (tn := tn) hm hn hru hwu har hat
      have ok : zok (zpa_ sc.2.2 p).2 (asd p) tn row at_ i = (!(asd p).testBit i && zfit tn row at_ (zru (zpa_ sc.2.2 p).2 i)) := rfl
      have nxt := ih F (i + 1) (by omega) (by omega)
      have ro : ∀ b : Nat, f_Mo_rowOf (nI p) (nI b) S = some (nI (aRu p b), S) := fun b => by
        unfold f_Mo_rowOf
        rw [show (8 : Int32) = nI 8 from rfl, show (11 : Int32) = nI 11 from rfl, pk_mul, nI_add, pk_mul]; rfl
      cases b1 : (asd p).testBit i with
      | true =>
        rw [b1] at x9
        simp only [if_true] at x9
        have e : zok (zpa_ sc.2.2 p).2 (asd p) tn row at_ i = false := by rw [ok, b1]; rfl
        rw [sv_no e] at nxt
        rw [← nxt]
        simp (disch := omega) [L_Mo_serving_6, ↓bS (ro i), -Prod.exists, -Prod.forall, ↓bb_gf, ↓bb_gr, ↓bb_len, ↓bb_ga, ↓bb_gl, ↓bb_go, ↓bb_pf, ↓bb_pz, ↓bb_pr, ↓bb_pa, ↓bb_pb, ↓bb_pl, ↓bb_po, ↓bb_cl, ↓bb_some, ↓bb_RI, ↓bb_RJ, mm_hI, mm_hJ, mm_hR, mm_nI, mm_nJ, mm_nR, mm_sI, mm_sJ, mm_sR, mm_RI, mm_RJ, mm_IJ, mm_IR, mm_JI, mm_JR, mm_II, mm_JJ, mm_RR, nI_ltI, nI_1, hm.1, ↓bS (mo_ruleMany hm), mh_ruleMany hm, zp, cp, x6, hi, ↓bS (mo_isAside hm), mh_isAside hm, h8i, zi, ci, x9]
      | false =>
        rw [b1] at x9
        simp only [Bool.false_eq_true, if_false] at x9
        cases b2 : zfit tn row at_ (zru (zpa_ sc.2.2 p).2 i) with
        | false =>
          rw [b2] at fit
          simp only [Bool.false_eq_true, if_false] at fit
          have e : zok (zpa_ sc.2.2 p).2 (asd p) tn row at_ i = false := by rw [ok, b1, b2]; rfl
          rw [sv_no e] at nxt
          rw [← nxt]
          simp (disch := omega) [L_Mo_serving_6, ↓bS (ro i), -Prod.exists, -Prod.forall, ↓bb_gf, ↓bb_gr, ↓bb_len, ↓bb_ga, ↓bb_gl, ↓bb_go, ↓bb_pf, ↓bb_pz, ↓bb_pr, ↓bb_pa, ↓bb_pb, ↓bb_pl, ↓bb_po, ↓bb_cl, ↓bb_some, ↓bb_RI, ↓bb_RJ, mm_hI, mm_hJ, mm_hR, mm_nI, mm_nJ, mm_nR, mm_sI, mm_sJ, mm_sR, mm_RI, mm_RJ, mm_IJ, mm_IR, mm_JI, mm_JR, mm_II, mm_JJ, mm_RR, nI_ltI, nI_1, hm.1, ↓bS (mo_ruleMany hm), mh_ruleMany hm, zp, cp, x6, hi, ↓bS (mo_isAside hm), mh_isAside hm, h8i, zi, ci, x9, ↓bS fit]
        | true =>
          rw [b2] at fit
          simp only [if_true] at fit
          have e : zok (zpa_ sc.2.2 p).2 (asd p) tn row at_ i = true := by rw [ok, b1, b2]; rfl
          cases hw : zsv (zpa_ sc.2.2 p).2 (asd p) tn row at_ i with
          | none =>
            rw [sv_none e hw] at nxt
            simp only [zsI] at nxt ⊢
            rw [← nxt]
            simp (disch := omega) [L_Mo_serving_6, ↓bS (ro i), -Prod.exists, -Prod.forall, ↓bb_gf, ↓bb_gr, ↓bb_len, ↓bb_ga, ↓bb_gl, ↓bb_go, ↓bb_pf, ↓bb_pz, ↓bb_pr, ↓bb_pa, ↓bb_pb, ↓bb_pl, ↓bb_po, ↓bb_cl, ↓bb_some, ↓bb_RI, ↓bb_RJ, mm_hI, mm_hJ, mm_hR, mm_nI, mm_nJ, mm_nR, mm_sI, mm_sJ, mm_sR, mm_RI, mm_RJ, mm_IJ, mm_IR, mm_JI, mm_JR, mm_II, mm_JJ, mm_RR, nI_ltI, nI_1, hm.1, ↓bS (mo_ruleMany hm), mh_ruleMany hm, zp, cp, x6, hi, ↓bS (mo_isAside hm), mh_isAside hm, h8i, zi, ci, x9, ↓bS fit]
          | some b =>
            have hbn : b < i := by
              have := sv_char (zpa_ sc.2.2 p).2 (asd p) tn row at_ i
              rw [hw] at this
              exact this.1
            have nb1 : ¬ nI b = -1 := fun z => (nn_eqm (m := 1) (by omega) (by omega) (by omega)).1 z
            have harb : aRu p b + 11 ≤ 264 := by unfold aRu; omega
            have ti := (mRu_T hru tn).1
            have tb := (mRu_T (a8 p b hp (by omega)) tn).1
            have gi := (ruT_le hwu tn).1
            have gb := (ruT_le (ru_w wr (show b < _ by omega)) tn).1
            have z1 : zinb (nI (aRu p i + loN tn)) 264 = true := (nn_in (by omega)).2 (by omega)
            have c1 : (nI (aRu p i + loN tn)).toNatClampNeg = aRu p i + loN tn := nI_clamp (by omega)
            have z2 : zinb (nI (aRu p b + loN tn)) 264 = true := (nn_in (by omega)).2 (by omega)
            have c2 : (nI (aRu p b + loN tn)).toNatClampNeg = aRu p b + loN tn := nI_clamp (by omega)
            rw [sv_some e hw] at nxt
            have lti : zlenT (zpa_ sc.2.2 p).2 tn i = (ruT tn (zru (zpa_ sc.2.2 p).2 i)).length := rfl
            have ltb : zlenT (zpa_ sc.2.2 p).2 tn b = (ruT tn (zru (zpa_ sc.2.2 p).2 b)).length := rfl
            by_cases c : zlenT (zpa_ sc.2.2 p).2 tn b < zlenT (zpa_ sc.2.2 p).2 tn i
            · rw [if_pos c] at nxt
              simp only [zsI] at nxt ⊢
              have nle : ¬ nI (ruT tn (zru (zpa_ sc.2.2 p).2 i)).length ≤ nI (ruT tn (zru (zpa_ sc.2.2 p).2 b)).length := fun z => by
                have := (nI_leI (by omega) (by omega)).1 z; omega
              rw [← nxt]
              simp (disch := omega) [L_Mo_serving_6, ↓bS (ro i), -Prod.exists, -Prod.forall, ↓bb_gf, ↓bb_gr, ↓bb_len, ↓bb_ga, ↓bb_gl, ↓bb_go, ↓bb_pf, ↓bb_pz, ↓bb_pr, ↓bb_pa, ↓bb_pb, ↓bb_pl, ↓bb_po, ↓bb_cl, ↓bb_some, ↓bb_RI, ↓bb_RJ, mm_hI, mm_hJ, mm_hR, mm_nI, mm_nJ, mm_nR, mm_sI, mm_sJ, mm_sR, mm_RI, mm_RJ, mm_IJ, mm_IR, mm_JI, mm_JR, mm_II, mm_JJ, mm_RR, nI_ltI, nI_1, hm.1, ↓bS (mo_ruleMany hm), mh_ruleMany hm, zp, cp, x6, hi, ↓bS (mo_isAside hm), mh_isAside hm, h8i, zi, ci, x9, ↓bS fit, nb1, ↓bS (mo_rules hm), mh_rules hm, ↓bS (ro b), nI_add, z1, c1, ti, z2, c2, tb, nle]
            · rw [if_neg c] at nxt
              simp only [zsI] at nxt ⊢
              have nle : nI (ruT tn (zru (zpa_ sc.2.2 p).2 i)).length ≤ nI (ruT tn (zru (zpa_ sc.2.2 p).2 b)).length := (nI_leI (by omega) (by omega)).2 (by omega)
              rw [← nxt]
              simp (disch := omega) [L_Mo_serving_6, ↓bS (ro i), -Prod.exists, -Prod.forall, ↓bb_gf, ↓bb_gr, ↓bb_len, ↓bb_ga, ↓bb_gl, ↓bb_go, ↓bb_pf, ↓bb_pz, ↓bb_pr, ↓bb_pa, ↓bb_pb, ↓bb_pl, ↓bb_po, ↓bb_cl, ↓bb_some, ↓bb_RI, ↓bb_RJ, mm_hI, mm_hJ, mm_hR, mm_nI, mm_nJ, mm_nR, mm_sI, mm_sJ, mm_sR, mm_RI, mm_RJ, mm_IJ, mm_IR, mm_JI, mm_JR, mm_II, mm_JJ, mm_RR, nI_ltI, nI_1, hm.1, ↓bS (mo_ruleMany hm), mh_ruleMany hm, zp, cp, x6, hi, ↓bS (mo_isAside hm), mh_isAside hm, h8i, zi, ci, x9, ↓bS fit, nb1, ↓bS (mo_rules hm), mh_rules hm, ↓bS (ro b), nI_add, z1, c1, ti, z2, c2, tb, nle]
theorem m_serving {p at_ : Nat} {tn : Bool} (hm : sMo S M) (hs : mSc S M sc asd) (hp : p < sc.2.2.length) (hn : pNow S M row) (hat : at_ < row.length) : f_Mo_serving M (nI p) (nI at_) (nI (loN tn)) (nI (laN tn)) S = some (zsI (zserve (zpa_ sc.2.2 p).2 (asd p) tn row at_), S) := by
  have w8 := (ps_w hs.2.2.2.2.2.2.2.2.2.2.2.2 hp).1
  exact serv_l hm hs hp hn hat (zpa_ sc.2.2 p).2.length zF 0 (by omega) (by rw [zF_eq]; omega)
end
