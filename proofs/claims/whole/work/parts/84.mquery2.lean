/-! the reference: what is sought; words that come back -/
theorem rnd_sv {rs : List zRu} {mask : Nat} {tn : Bool} {row : List Nat} : ∀ f at_ out sv, (zrnd rs mask tn row f at_ out sv).2.2.length ≤ sv.length + f := by
  intro f
  induction f with
  | zero => intro at_ out sv; exact Nat.le_refl _
  | succ f ih =>
    intro at_ out sv
    rw [zrnd]
    split
    · simp
    · cases e : zserve rs mask tn row at_ with
      | none =>
        simp only
        split
        · have := ih (at_ + 1) (out ++ [lg row at_]) sv; omega
        · simp
      | some i =>
        simp only
        split
        · have := ih (at_ + zlenT rs tn i) (out ++ ruG tn (zru rs i)) (sv ++ [i])
          rw [List.length_append, List.length_singleton] at this
          omega
        · rw [List.length_append, List.length_singleton]; omega
theorem prn_sv {rs : List zRu} (hw : wRs rs) {mask : Nat} {ag tn : Bool} : ∀ k r row sv, l8 row → row.length ≤ 60 → (zprn rs mask ag tn k r row sv).2.2.2.length ≤ sv.length + 61 * k := by
  intro k
  induction k with
  | zero => intro r row sv _ _; exact Nat.le_refl _
  | succ k ih =>
    intro r row sv h8 h60
    have h1 : (zround rs mask tn row).2.2.length ≤ 61 := by
      have := rnd_sv (rs := rs) (mask := mask) (tn := tn) (row := row) (row.length + 1) 0 [] []
      unfold zround
      simp at this
      omega
    obtain ⟨q1, q2, q3⟩ := round_w hw (mask := mask) (tn := tn) h8
    rw [zprn]
    split
    · split
      · simp only [List.length_append]; omega
      · have := ih (r + 1) (zround rs mask tn row).2.1 (sv ++ (zround rs mask tn row).2.2) q1 q2
        rw [List.length_append] at this
        omega
    · simp only [List.length_append]; omega
theorem ite20 (b : Bool) : (if b = true then 20 else 1) ≤ 20 := by cases b <;> decide
theorem al_sv {ps : List zPs} (hw : wPs ps) {asd : Nat → Nat} {tn : Bool} {row : List Nat} (h1 : l8 row) (h2 : row.length ≤ 60) : ∀ k, k ≤ ps.length → (zal ps asd tn row k).2.2.2.2.length ≤ 1220 * k := by
  intro k
  induction k with
  | zero => intro _; simp [zal]
  | succ k ih =>
    intro hk
    have i1 := ih (by omega)
    obtain ⟨a1, a2⟩ := al_w hw (asd := asd) (tn := tn) h1 h2 k (by omega)
    rw [zal]
    split
    · simp only [List.length_append, List.length_map]
      have hp : (if tn then ps.length - 1 - k else k) < ps.length := by split <;> omega
      have : (zprun (zpa_ ps (if tn then ps.length - 1 - k else k)).2 (asd (if tn then ps.length - 1 - k else k)) (zpa_ ps (if tn then ps.length - 1 - k else k)).1 tn (zal ps asd tn row k).2.1).2.2.2.length ≤ 1220 := by
        have := prn_sv (ps_w hw hp) (mask := asd (if tn then ps.length - 1 - k else k)) (ag := (zpa_ ps (if tn then ps.length - 1 - k else k)).1) (tn := tn) (if (zpa_ ps (if tn then ps.length - 1 - k else k)).1 then 20 else 1) 0 (zal ps asd tn row k).2.1 [] a1 a2
        unfold zprun
        have h20 : (if (zpa_ ps (if tn then ps.length - 1 - k else k)).1 = true then 20 else 1) ≤ 20 := ite20 _
        simp only [List.length_nil] at this
        omega
      omega
    · omega
theorem car_sv {ps : List zPs} (hw : wPs ps) {asd : Nat → Nat} {tn : Bool} {row : List Nat} (h1 : l8 row) (h2 : row.length ≤ 60) (k : Nat) : (zcar ps asd tn row).2.2.2.2.count k < 2 ^ 31 := by
  have := al_sv hw (asd := asd) (tn := tn) h1 h2 ps.length (Nat.le_refl _)
  have h3 := hw.1
  have h4 := List.count_le_length (a := k) (l := (zcar ps asd tn row).2.2.2.2)
  unfold zcar at h4 ⊢
  omega
def zbk (L : Nat) (ps : List zPs) (asd : Nat → Nat) (i : Nat) : Nat := if (zcar ps asd false (zword L i)).1 = 0 then (if (zcar ps asd true (zcar ps asd false (zword L i)).2.1).1 = 0 ∧ (zcar ps asd true (zcar ps asd false (zword L i)).2.1).2.1 = zword L i then 1 else 2) else 0
theorem bk_lt (L : Nat) (ps : List zPs) (asd : Nat → Nat) (i : Nat) : zbk L ps asd i ≤ 2 := by
  unfold zbk; split
  · split <;> omega
  · omega
def wBk (M : Nat) : Nat → Nat → Prop := fun b j => (b = M ∧ (j = 41 ∨ j = 43)) ∨ (M + 19 ≤ b ∧ b ≤ M + 24) ∨ b = M + 36
section
variable {S S0 : zM} {M : Nat} {sc : zSc} {asd : Nat → Nat}
theorem sk_12 {xs : List Nat} (hm0 : sMo S0 M) (hn0 : pNow S0 M xs) : ∃ S', L_Mo_seeks_12 zF M 0 S0 = some (1, S') ∧ zfr (fun b _ => b = M + 35) S0 S' ∧ mSo S' M xs := by
  refine loop_g (α := Unit) (N := 4) (by omega) (fun F _ i S => L_Mo_seeks_12 F M (nI i) S) (fun _ i S => zfr (fun b _ => b = M + 35) S0 S ∧ ∀ p, p < i → zJ S (M + 35) p = lN (zkey xs p)) (fun o => ∃ S', o = some (1, S') ∧ zfr (fun b _ => b = M + 35) S0 S' ∧ mSo S' M xs) (fun F a S h => ?_) (fun F a i S hi h k => ?_) () 0 S0 (by omega) ⟨fr_refl _ _, fun p hp => by omega⟩
  · have hx : ¬ nI 4 < (4 : Int32) := by decide
    exact ⟨S, by simp [L_Mo_seeks_12, hx], h.1, h.2, hn0.2.2.1, hn0.2.2.2⟩
  · have hm := mo_fr hm0 h.1
    have hn := now_fr hn0 h.1 (by omega) (fun j => by omega)
    have hx : nI i < (4 : Int32) := (nI_ltI (b := 4) (by omega) (by omega)).2 (by omega)
    have e1 : nI i + 1 = nI (i + 1) := nI_add i 1
    have ko := m_keyOf hm hn (p := i) hi
    have z : zinb (nI i) 4 = true := (nn_in (by omega)).2 (by omega)
    have c : (nI i).toNatClampNeg = i := nI_clamp (by omega)
    have := k () (zwJ S (M + 35) i (lN (zkey xs i))) ⟨fr_trans h.1 (fr_wJ _ _ rfl), fun p hp => by
      by_cases q : p = i
      · subst q; simp [-Prod.exists, -Prod.forall, zgf, zgr, zpf, zpz, zpr, zga, zgl, zgo, zpa, zpb, zpl, zpo, mm_len, zcl, Option.bind_some, Option.bind_none, mm_hI, mm_hJ, mm_hR, mm_nI, mm_nJ, mm_nR, mm_sI, mm_sJ, mm_sR, mm_RI, mm_RJ, mm_IJ, mm_IR, mm_JI, mm_JR, mm_II, mm_JJ, mm_RR]
      · rw [← h.2 p (by omega)]; simp [-Prod.exists, -Prod.forall, zgf, zgr, zpf, zpz, zpr, zga, zgl, zgo, zpa, zpb, zpl, zpo, mm_len, zcl, Option.bind_some, Option.bind_none, mm_hI, mm_hJ, mm_hR, mm_nI, mm_nJ, mm_nR, mm_sI, mm_sJ, mm_sR, mm_RI, mm_RJ, mm_IJ, mm_IR, mm_JI, mm_JR, mm_II, mm_JJ, mm_RR, q]⟩
    rw [L_Mo_seeks_12]
    simpa [-Prod.exists, -Prod.forall, ↓bb_gf, ↓bb_gr, ↓bb_len, ↓bb_ga, ↓bb_gl, ↓bb_go, ↓bb_pf, ↓bb_pz, ↓bb_pr, ↓bb_pa, ↓bb_pb, ↓bb_pl, ↓bb_po, ↓bb_cl, ↓bb_some, ↓bb_RI, ↓bb_RJ, mm_hI, mm_hJ, mm_hR, mm_nI, mm_nJ, mm_nR, mm_sI, mm_sJ, mm_sR, mm_RI, mm_RJ, mm_IJ, mm_IR, mm_JI, mm_JR, mm_II, mm_JJ, mm_RR, hx, hm.1, ↓bS (mo_sought hm), mh_sought hm, ↓bS ko, z, c, e1] using this
theorem m_seeks (hm : sMo S M) (w : Int64) : ∃ S', f_Mo_seeks M w S = some (if (zwl w).isSome then 1 else 0, S') ∧ zfr (fun b j => b = M + 19 ∨ (b = M ∧ j = 41) ∨ b = M + 35) S S' ∧ (∀ us, zwl w = some us → mSo S' M us) := by
  obtain ⟨S1, r1, r2, r3⟩ := m_word hm w
  have hm1 := mo_fr hm r2
  cases e : zwl w with
  | none =>
    rw [e] at r1
    simp only [Option.isSome_none, Bool.false_eq_true, if_false] at r1
    refine ⟨S1, ?_, fr_mono r2 (fun b j h => by omega), fun us h => by cases h⟩
    simp [f_Mo_seeks, -Prod.exists, -Prod.forall, ↓bb_gf, ↓bb_gr, ↓bb_len, ↓bb_ga, ↓bb_gl, ↓bb_go, ↓bb_pf, ↓bb_pz, ↓bb_pr, ↓bb_pa, ↓bb_pb, ↓bb_pl, ↓bb_po, ↓bb_cl, ↓bb_some, ↓bb_RI, ↓bb_RJ, mm_hI, mm_hJ, mm_hR, mm_nI, mm_nJ, mm_nR, mm_sI, mm_sJ, mm_sR, mm_RI, mm_RJ, mm_IJ, mm_IR, mm_JI, mm_JR, mm_II, mm_JJ, mm_RR, hm.1, ↓bS r1]
  | some us =>
    rw [e] at r1
    simp only [Option.isSome_some, if_true] at r1
    obtain ⟨S', q1, q2, q3⟩ := sk_12 hm1 (r3 us e)
    refine ⟨S', ?_, fr_trans (fr_mono r2 (fun b j h => by omega)) (fr_mono q2 (fun b j h => by omega)), fun vs h => by cases h; exact q3⟩
    simp [f_Mo_seeks, -Prod.exists, -Prod.forall, ↓bb_gf, ↓bb_gr, ↓bb_len, ↓bb_ga, ↓bb_gl, ↓bb_go, ↓bb_pf, ↓bb_pz, ↓bb_pr, ↓bb_pa, ↓bb_pb, ↓bb_pl, ↓bb_po, ↓bb_cl, ↓bb_some, ↓bb_RI, ↓bb_RJ, mm_hI, mm_hJ, mm_hR, mm_nI, mm_nJ, mm_nR, mm_sI, mm_sJ, mm_sR, mm_RI, mm_RJ, mm_IJ, mm_IR, mm_JI, mm_JR, mm_II, mm_JJ, mm_RR, hm.1, ↓bS r1, q1]
theorem m_doubled (hm : sMo S M) (hs : mSc S M sc asd) (hL : 2 ≤ sc.1 ∧ sc.1 ≤ 4) {n : Nat} (hn : n ≤ 5) : ∃ S', f_Mo_doubledMany M (nI n) S = some (nI (zdbl (zoc sc.1 sc.2.2 asd) (zcnt sc.1 n)), S') ∧ zfr (wLW M) S S' := by
  obtain ⟨S1, r1, r2, r3, r4⟩ := m_laysWords hm hs hL hn
  have c5 := cnt_le (n := n) hL hn
  have hw := oc_w (asd := asd) hL hs.2.2.2.2.2.2.2.2.2.2.2.2
  have := m_dbl_l (mo_fr hm r2) (fun i hi => hw i (by omega)) r4 (by omega) r3
  exact ⟨S1, by simp [f_Mo_doubledMany, -Prod.exists, -Prod.forall, ↓bb_gf, ↓bb_gr, ↓bb_len, ↓bb_ga, ↓bb_gl, ↓bb_go, ↓bb_pf, ↓bb_pz, ↓bb_pr, ↓bb_pa, ↓bb_pb, ↓bb_pl, ↓bb_po, ↓bb_cl, ↓bb_some, ↓bb_RI, ↓bb_RJ, mm_hI, mm_hJ, mm_hR, mm_nI, mm_nJ, mm_nR, mm_sI, mm_sJ, mm_sR, mm_RI, mm_RJ, mm_IJ, mm_IR, mm_JI, mm_JR, mm_II, mm_JJ, mm_RR, hm.1, ↓bS r1, this], r2⟩
theorem bo_65 {xs ys : List Nat} (hm : sMo S M) (hn : pNow S M xs) (hy : ∀ k, k < ys.length → zI S (M + 36) k = nI (lg ys k)) (h8 : l8 ys) (h5 : ys.length ≤ 5) (hl : xs.length = ys.length) : L_Mo_backOf_65 zF M (nI ys.length) 0 S = some (if xs = ys then 1 else 2, S) := by
  have := loop_fi (N := ys.length) (by omega) (fun F j => L_Mo_backOf_65 F M (nI ys.length) (nI j) S) (p := fun k => decide (¬ lg xs k = lg ys k)) (fun o => some (match o with | none => 1 | some _ => 2, S)) (fun F => ?_) (fun F j hj e => ?_) (fun F j hj e => ?_)
  · rw [show (0 : Int32) = nI 0 from rfl, this]
    cases e : zfi (fun k => decide (¬ lg xs k = lg ys k)) ys.length with
    | none =>
      have h1 := fi_none e
      rw [if_pos (lg_ext hl (fun k hk => by have := h1 k (by omega); simpa using this))]
    | some k =>
      obtain ⟨a, b, c⟩ := fi_some e
      rw [if_neg (fun w => by rw [w] at b; simp at b)]
  · have hx : ¬ nI ys.length < nI ys.length := by rw [nI_ltI (by omega) (by omega)]; omega
    simp [L_Mo_backOf_65, hx]
  · have hx : nI j < nI ys.length := by rw [nI_ltI (by omega) (by omega)]; omega
    have z : zinb (nI j) 64 = true := (nn_in (by omega)).2 (by omega)
    have z5 : zinb (nI j) 5 = true := (nn_in (by omega)).2 (by omega)
    have c : (nI j).toNatClampNeg = j := nI_clamp (by omega)
    have v1 := hn.2.1 j (by omega)
    have v2 := hy j hj
    have b1 := hn.2.2.1 j
    have b2 := h8 j
    have q : ¬ nI (lg xs j) = nI (lg ys j) := fun w => (of_decide_eq_true e) ((nI_eq (by omega) (by omega)).1 w)
    rw [L_Mo_backOf_65]
    simp [-Prod.exists, -Prod.forall, ↓bb_gf, ↓bb_gr, ↓bb_len, ↓bb_ga, ↓bb_gl, ↓bb_go, ↓bb_pf, ↓bb_pz, ↓bb_pr, ↓bb_pa, ↓bb_pb, ↓bb_pl, ↓bb_po, ↓bb_cl, ↓bb_some, ↓bb_RI, ↓bb_RJ, mm_hI, mm_hJ, mm_hR, mm_nI, mm_nJ, mm_nR, mm_sI, mm_sJ, mm_sR, mm_RI, mm_RJ, mm_IJ, mm_IR, mm_JI, mm_JR, mm_II, mm_JJ, mm_RR, hx, hm.1, ↓bS (mo_now hm), mh_now hm, ↓bS (mo_word hm), mh_word hm, z, z5, c, v1, v2, q]
  · have hx : nI j < nI ys.length := by rw [nI_ltI (by omega) (by omega)]; omega
    have e1 : nI j + 1 = nI (j + 1) := nI_add j 1
    have z : zinb (nI j) 64 = true := (nn_in (by omega)).2 (by omega)
    have z5 : zinb (nI j) 5 = true := (nn_in (by omega)).2 (by omega)
    have c : (nI j).toNatClampNeg = j := nI_clamp (by omega)
    have v1 := hn.2.1 j (by omega)
    have v2 := hy j hj
    have q : lg xs j = lg ys j := by simpa using e
    rw [L_Mo_backOf_65]
    simp [-Prod.exists, -Prod.forall, ↓bb_gf, ↓bb_gr, ↓bb_len, ↓bb_ga, ↓bb_gl, ↓bb_go, ↓bb_pf, ↓bb_pz, ↓bb_pr, ↓bb_pa, ↓bb_pb, ↓bb_pl, ↓bb_po, ↓bb_cl, ↓bb_some, ↓bb_RI, ↓bb_RJ, mm_hI, mm_hJ, mm_hR, mm_nI, mm_nJ, mm_nR, mm_sI, mm_sJ, mm_sR, mm_RI, mm_RJ, mm_IJ, mm_IR, mm_JI, mm_JR, mm_II, mm_JJ, mm_RR, hx, hm.1, ↓bS (mo_now hm), mh_now hm, ↓bS (mo_word hm), mh_word hm, z, z5, c, v1, v2, q, e1]
theorem bo_35 (hm : sMo S M) (hs : mSc S M sc asd) {i : Nat} (hL : 2 ≤ sc.1 ∧ sc.1 ≤ 4) (hi : i < zcnt sc.1 5) (hn : pNow S M (zword sc.1 i)) (hy : ∀ k, k < (zword sc.1 i).length → zI S (M + 36) k = nI (lg (zword sc.1 i) k)) : ∃ S', F_Mo_backOf_35 (L_Mo_backOf_65 zF) M (nI (zword sc.1 i).length) S = some (nI (zbk sc.1 sc.2.2 asd i), S') ∧ zfr (wBk M) S S' := by
  obtain ⟨w1, w2, w3, w4, w5, w6⟩ := word_ok hL hi
  obtain ⟨S1, row1, a1, a2, a3, a4⟩ := m_all_ false hm hs hn
  have hm1 := mo_fr hm a2
  have hs1 := mSc_fr hs a2 (fun j a b => by unfold wGA; omega) (fun b j a => by unfold wGA; omega)
  simp only [Bool.false_eq_true, if_false] at a1
  have f1 : zfr (wBk M) S S1 := fr_mono a2 (fun b j h => by unfold wGA at h; unfold wBk; omega)
  have hc := car_code sc.2.2 asd false (zword sc.1 i)
  unfold zbk
  by_cases q1 : (zcar sc.2.2 asd false (zword sc.1 i)).1 = 0
  · have g1 : nI (zcar sc.2.2 asd false (zword sc.1 i)).1 = 0 := by rw [q1]; rfl
    have er := (a4 q1).1
    subst er
    obtain ⟨S2, row2, b1, b2, b3, b4⟩ := m_all_ true hm1 hs1 a3
    have hm2 := mo_fr hm1 b2
    simp only [if_true] at b1
    have f2 : zfr (wBk M) S1 S2 := fr_mono b2 (fun b j h => by unfold wGA at h; unfold wBk; omega)
    have hc2 := car_code sc.2.2 asd true (zcar sc.2.2 asd false (zword sc.1 i)).2.1
    rw [if_pos q1]
    by_cases q2 : (zcar sc.2.2 asd true (zcar sc.2.2 asd false (zword sc.1 i)).2.1).1 = 0
    · have g2 : nI (zcar sc.2.2 asd true (zcar sc.2.2 asd false (zword sc.1 i)).2.1).1 = 0 := by rw [q2]; rfl
      have er2 := (b4 q2).1
      have h41 := b3.1
      have h60 := b3.2.2.2
      refine ⟨S2, ?_, fr_trans f1 f2⟩
      by_cases q3 : row2.length = (zword sc.1 i).length
      · have hy2 : ∀ k, k < (zword sc.1 i).length → zI S2 (M + 36) k = nI (lg (zword sc.1 i) k) := fun k hk => by rw [fr_I b2 (by unfold wGA; omega), fr_I a2 (by unfold wGA; omega)]; exact hy k hk
        have bo := bo_65 hm2 b3 hy2 w6 w2 q3
        have h41' : zI S2 M 41 = nI (zword sc.1 i).length := by rw [h41, q3]
        rw [er2] at bo
        have e : (if (zcar sc.2.2 asd true (zcar sc.2.2 asd false (zword sc.1 i)).2.1).1 = 0 ∧ (zcar sc.2.2 asd true (zcar sc.2.2 asd false (zword sc.1 i)).2.1).2.1 = zword sc.1 i then 1 else 2) = (if (zcar sc.2.2 asd true (zcar sc.2.2 asd false (zword sc.1 i)).2.1).2.1 = zword sc.1 i then 1 else 2) := by simp [q2]
        rw [e]
        simp [F_Mo_backOf_35, -Prod.exists, -Prod.forall, ↓bb_gf, ↓bb_gr, ↓bb_len, ↓bb_ga, ↓bb_gl, ↓bb_go, ↓bb_pf, ↓bb_pz, ↓bb_pr, ↓bb_pa, ↓bb_pb, ↓bb_pl, ↓bb_po, ↓bb_cl, ↓bb_some, ↓bb_RI, ↓bb_RJ, mm_hI, mm_hJ, mm_hR, mm_nI, mm_nJ, mm_nR, mm_sI, mm_sJ, mm_sR, mm_RI, mm_RJ, mm_IJ, mm_IR, mm_JI, mm_JR, mm_II, mm_JJ, mm_RR, hm.1, ↓bS a1, g1, hm1.1, ↓bS b1, g2, hm2.1, h41', bo]
        split <;> rfl
      · have n3 : ¬ nI row2.length = nI (zword sc.1 i).length := fun w => q3 ((nI_eq (by omega) (by omega)).1 w)
        rw [if_neg (fun w => q3 (by rw [er2, w.2]))]
        simp [F_Mo_backOf_35, -Prod.exists, -Prod.forall, ↓bb_gf, ↓bb_gr, ↓bb_len, ↓bb_ga, ↓bb_gl, ↓bb_go, ↓bb_pf, ↓bb_pz, ↓bb_pr, ↓bb_pa, ↓bb_pb, ↓bb_pl, ↓bb_po, ↓bb_cl, ↓bb_some, ↓bb_RI, ↓bb_RJ, mm_hI, mm_hJ, mm_hR, mm_nI, mm_nJ, mm_nR, mm_sI, mm_sJ, mm_sR, mm_RI, mm_RJ, mm_IJ, mm_IR, mm_JI, mm_JR, mm_II, mm_JJ, mm_RR, hm.1, ↓bS a1, g1, hm1.1, ↓bS b1, g2, hm2.1, h41, n3]; rfl
    · have g2 : ¬ nI (zcar sc.2.2 asd true (zcar sc.2.2 asd false (zword sc.1 i)).2.1).1 = 0 := fun w => q2 ((nI_eq (b := 0) (by omega) (by omega)).1 w)
      rw [if_neg (fun w => q2 w.1)]
      refine ⟨S2, ?_, fr_trans f1 f2⟩
      simp [F_Mo_backOf_35, -Prod.exists, -Prod.forall, ↓bb_gf, ↓bb_gr, ↓bb_len, ↓bb_ga, ↓bb_gl, ↓bb_go, ↓bb_pf, ↓bb_pz, ↓bb_pr, ↓bb_pa, ↓bb_pb, ↓bb_pl, ↓bb_po, ↓bb_cl, ↓bb_some, ↓bb_RI, ↓bb_RJ, mm_hI, mm_hJ, mm_hR, mm_nI, mm_nJ, mm_nR, mm_sI, mm_sJ, mm_sR, mm_RI, mm_RJ, mm_IJ, mm_IR, mm_JI, mm_JR, mm_II, mm_JJ, mm_RR, hm.1, ↓bS a1, g1, hm1.1, ↓bS b1, g2]; rfl
  · have g1 : ¬ nI (zcar sc.2.2 asd false (zword sc.1 i)).1 = 0 := fun w => q1 ((nI_eq (b := 0) (by omega) (by omega)).1 w)
    rw [if_neg q1]
    refine ⟨S1, ?_, f1⟩
    simp [F_Mo_backOf_35, -Prod.exists, -Prod.forall, ↓bb_gf, ↓bb_gr, ↓bb_len, ↓bb_ga, ↓bb_gl, ↓bb_go, ↓bb_pf, ↓bb_pz, ↓bb_pr, ↓bb_pa, ↓bb_pb, ↓bb_pl, ↓bb_po, ↓bb_cl, ↓bb_some, ↓bb_RI, ↓bb_RJ, mm_hI, mm_hJ, mm_hR, mm_nI, mm_nJ, mm_nR, mm_sI, mm_sJ, mm_sR, mm_RI, mm_RJ, mm_IJ, mm_IR, mm_JI, mm_JR, mm_II, mm_JJ, mm_RR, hm.1, ↓bS a1, g1]; rfl
theorem m_back (hm : sMo S M) (hs : mSc S M sc asd) {i : Nat} (hL : 2 ≤ sc.1 ∧ sc.1 ≤ 4) (hi : i < zcnt sc.1 5) : ∃ S', f_Mo_backOf M (nI i) S = some (nI (zbk sc.1 sc.2.2 asd i), S') ∧ zfr (wBk M) S S' := by
  obtain ⟨w1, w2, w3, w4, w5, w6⟩ := word_ok hL hi
  obtain ⟨S1, a1, a2, a3⟩ := m_index hm hs.1 hL hi
  have hm1 := mo_fr hm a2
  have hs1 := mSc_fr hs a2 (fun j a b => by omega) (fun b j a => by omega)
  have f1 : zfr (wBk M) S S1 := fr_mono a2 (fun b j h => by unfold wBk; omega)
  have key : ∃ S', L_Mo_backOf_12 (F_Mo_backOf_35 (L_Mo_backOf_65 zF)) zF M (nI (zword sc.1 i).length) 0 S1 = some (nI (zbk sc.1 sc.2.2 asd i), S') ∧ zfr (wBk M) S1 S' := by
    refine loop_g (α := Unit) (N := (zword sc.1 i).length) (by omega) (fun F _ j S => L_Mo_backOf_12 (F_Mo_backOf_35 (L_Mo_backOf_65 zF)) F M (nI (zword sc.1 i).length) (nI j) S) (fun _ j S => zfr (fun b _ => b = M + 36) S1 S ∧ ∀ k, k < j → zI S (M + 36) k = nI (lg (zword sc.1 i) k)) (fun o => ∃ S', o = some (nI (zbk sc.1 sc.2.2 asd i), S') ∧ zfr (wBk M) S1 S') (fun F a S h => ?_) (fun F a j S hj h k => ?_) () 0 S1 (by omega) ⟨fr_refl _ _, fun p hp => by omega⟩
    · have hx : ¬ nI (zword sc.1 i).length < nI (zword sc.1 i).length := by rw [nI_ltI (by omega) (by omega)]; omega
      have st : L_Mo_backOf_12 (F_Mo_backOf_35 (L_Mo_backOf_65 zF)) (F + 1) M (nI (zword sc.1 i).length) (nI (zword sc.1 i).length) S = F_Mo_backOf_35 (L_Mo_backOf_65 zF) M (nI (zword sc.1 i).length) S := by simp [L_Mo_backOf_12, hx]
      obtain ⟨S', r1, r2⟩ := bo_35 (mo_fr hm1 h.1) (mSc_fr hs1 h.1 (fun j a b => by omega) (fun b j a => by omega)) hL hi (now_fr a3 h.1 (by omega) (fun j => by omega)) h.2
      exact ⟨S', by rw [st]; exact r1, fr_trans (fr_mono h.1 (fun b j h => by unfold wBk; omega)) r2⟩
    · have hm2 := mo_fr hm1 h.1
      have hn2 := now_fr a3 h.1 (by omega) (fun j => by omega)
      have hx : nI j < nI (zword sc.1 i).length := by rw [nI_ltI (by omega) (by omega)]; omega
      have e1 : nI j + 1 = nI (j + 1) := nI_add j 1
      have z : zinb (nI j) 64 = true := (nn_in (by omega)).2 (by omega)
      have z5 : zinb (nI j) 5 = true := (nn_in (by omega)).2 (by omega)
      have c : (nI j).toNatClampNeg = j := nI_clamp (by omega)
      have v1 := hn2.2.1 j hj
      have := k () (zwI S (M + 36) j (nI (lg (zword sc.1 i) j))) ⟨fr_trans h.1 (fr_wI _ _ rfl), fun p hp => by
        by_cases q : p = j
        · subst q; simp [-Prod.exists, -Prod.forall, zgf, zgr, zpf, zpz, zpr, zga, zgl, zgo, zpa, zpb, zpl, zpo, mm_len, zcl, Option.bind_some, Option.bind_none, mm_hI, mm_hJ, mm_hR, mm_nI, mm_nJ, mm_nR, mm_sI, mm_sJ, mm_sR, mm_RI, mm_RJ, mm_IJ, mm_IR, mm_JI, mm_JR, mm_II, mm_JJ, mm_RR]
        · rw [← h.2 p (by omega)]; simp [-Prod.exists, -Prod.forall, zgf, zgr, zpf, zpz, zpr, zga, zgl, zgo, zpa, zpb, zpl, zpo, mm_len, zcl, Option.bind_some, Option.bind_none, mm_hI, mm_hJ, mm_hR, mm_nI, mm_nJ, mm_nR, mm_sI, mm_sJ, mm_sR, mm_RI, mm_RJ, mm_IJ, mm_IR, mm_JI, mm_JR, mm_II, mm_JJ, mm_RR, q]⟩
      have st : L_Mo_backOf_12 (F_Mo_backOf_35 (L_Mo_backOf_65 zF)) (F + 1) M (nI (zword sc.1 i).length) (nI j) S = L_Mo_backOf_12 (F_Mo_backOf_35 (L_Mo_backOf_65 zF)) F M (nI (zword sc.1 i).length) (nI (j + 1)) (zwI S (M + 36) j (nI (lg (zword sc.1 i) j))) := by
        rw [L_Mo_backOf_12]
        simp [-Prod.exists, -Prod.forall, ↓bb_gf, ↓bb_gr, ↓bb_len, ↓bb_ga, ↓bb_gl, ↓bb_go, ↓bb_pf, ↓bb_pz, ↓bb_pr, ↓bb_pa, ↓bb_pb, ↓bb_pl, ↓bb_po, ↓bb_cl, ↓bb_some, ↓bb_RI, ↓bb_RJ, mm_hI, mm_hJ, mm_hR, mm_nI, mm_nJ, mm_nR, mm_sI, mm_sJ, mm_sR, mm_RI, mm_RJ, mm_IJ, mm_IR, mm_JI, mm_JR, mm_II, mm_JJ, mm_RR, hx, hm2.1, ↓bS (mo_now hm2), mh_now hm2, ↓bS (mo_word hm2), mh_word hm2, z, z5, c, v1, e1]
      rw [st]; exact this
  obtain ⟨S', r1, r2⟩ := key
  refine ⟨S', ?_, fr_trans f1 r2⟩
  simp [f_Mo_backOf, -Prod.exists, -Prod.forall, ↓bb_gf, ↓bb_gr, ↓bb_len, ↓bb_ga, ↓bb_gl, ↓bb_go, ↓bb_pf, ↓bb_pz, ↓bb_pr, ↓bb_pa, ↓bb_pb, ↓bb_pl, ↓bb_po, ↓bb_cl, ↓bb_some, ↓bb_RI, ↓bb_RJ, mm_hI, mm_hJ, mm_hR, mm_nI, mm_nJ, mm_nR, mm_sI, mm_sJ, mm_sR, mm_RI, mm_RJ, mm_IJ, mm_IR, mm_JI, mm_JR, mm_II, mm_JJ, mm_RR, hm.1, ↓bS a1, hm1.1, a3.1, r1]
theorem m_comeBack_l (hm0 : sMo S0 M) (hs0 : mSc S0 M sc asd) (hL : 2 ≤ sc.1 ∧ sc.1 ≤ 4) {n : Nat} (hn : n ≤ 5) : ∃ S', L_Mo_comeBack_19 zF M (nI n) 0 0 S0 = some (nI (fb_ct (fun i => decide (zbk sc.1 sc.2.2 asd i = 1)) (zcnt sc.1 n)), S') ∧ zfr (wBk M) S0 S' := by
  have c5 := cnt_le (n := n) hL hn
  refine loop_g (α := Int32) (N := zcnt sc.1 n) (by omega) (fun F a i S => L_Mo_comeBack_19 F M (nI n) a (nI i) S) (fun a i S => zfr (wBk M) S0 S ∧ a = nI (fb_ct (fun i => decide (zbk sc.1 sc.2.2 asd i = 1)) i)) (fun o => ∃ S', o = some (nI (fb_ct (fun i => decide (zbk sc.1 sc.2.2 asd i = 1)) (zcnt sc.1 n)), S') ∧ zfr (wBk M) S0 S') (fun F a S h => ?_) (fun F a i S hi h k => ?_) 0 0 S0 (by omega) ⟨fr_refl _ _, rfl⟩
  · have hm := mo_fr hm0 h.1
    have hs := mSc_fr hs0 h.1 (fun j a b => by unfold wBk; omega) (fun b j a => by unfold wBk; omega)
    have mu := m_manyUpTo hL.2 hn hm hs.1
    have hx : ¬ nI (zcnt sc.1 n) < nI (zcnt sc.1 n) := by rw [nI_ltI (by omega) (by omega)]; omega
    refine ⟨S, ?_, h.1⟩
    simp [L_Mo_comeBack_19, -Prod.exists, -Prod.forall, ↓bb_gf, ↓bb_gr, ↓bb_len, ↓bb_ga, ↓bb_gl, ↓bb_go, ↓bb_pf, ↓bb_pz, ↓bb_pr, ↓bb_pa, ↓bb_pb, ↓bb_pl, ↓bb_po, ↓bb_cl, ↓bb_some, ↓bb_RI, ↓bb_RJ, mm_hI, mm_hJ, mm_hR, mm_nI, mm_nJ, mm_nR, mm_sI, mm_sJ, mm_sR, mm_RI, mm_RJ, mm_IJ, mm_IR, mm_JI, mm_JR, mm_II, mm_JJ, mm_RR, hm.1, ↓bS mu, hx, h.2]
  · have hm := mo_fr hm0 h.1
    have hs := mSc_fr hs0 h.1 (fun j a b => by unfold wBk; omega) (fun b j a => by unfold wBk; omega)
    have mu := m_manyUpTo hL.2 hn hm hs.1
    have hx : nI i < nI (zcnt sc.1 n) := by rw [nI_ltI (by omega) (by omega)]; omega
    have e1 : nI i + 1 = nI (i + 1) := nI_add i 1
    obtain ⟨S1, r1, r2⟩ := m_back hm hs hL (i := i) (by omega)
    have bl := bk_lt sc.1 sc.2.2 asd i
    by_cases q : zbk sc.1 sc.2.2 asd i = 1
    · have g : nI (zbk sc.1 sc.2.2 asd i) = 1 := by rw [q]; rfl
      have := k (a + 1) S1 ⟨fr_trans h.1 r2, by rw [h.2, fb_ct_succ]; simp only [q, decide_true, if_true]; exact nI_add _ 1⟩
      rw [L_Mo_comeBack_19]
      simpa [-Prod.exists, -Prod.forall, ↓bb_gf, ↓bb_gr, ↓bb_len, ↓bb_ga, ↓bb_gl, ↓bb_go, ↓bb_pf, ↓bb_pz, ↓bb_pr, ↓bb_pa, ↓bb_pb, ↓bb_pl, ↓bb_po, ↓bb_cl, ↓bb_some, ↓bb_RI, ↓bb_RJ, mm_hI, mm_hJ, mm_hR, mm_nI, mm_nJ, mm_nR, mm_sI, mm_sJ, mm_sR, mm_RI, mm_RJ, mm_IJ, mm_IR, mm_JI, mm_JR, mm_II, mm_JJ, mm_RR, hm.1, ↓bS mu, hx, ↓bS r1, g, e1] using this
    · have g : ¬ nI (zbk sc.1 sc.2.2 asd i) = 1 := fun w => q ((nI_eq (b := 1) (by omega) (by omega)).1 w)
      have := k (a + 0) S1 ⟨fr_trans h.1 r2, by rw [h.2, fb_ct_succ]; simp only [q, decide_false, Bool.false_eq_true, if_false]; exact nI_add _ 0⟩
      have st : L_Mo_comeBack_19 (F + 1) M (nI n) a (nI i) S = L_Mo_comeBack_19 F M (nI n) (a + 0) (nI (i + 1)) S1 := by
        rw [L_Mo_comeBack_19]
        simp [-Prod.exists, -Prod.forall, ↓bb_gf, ↓bb_gr, ↓bb_len, ↓bb_ga, ↓bb_gl, ↓bb_go, ↓bb_pf, ↓bb_pz, ↓bb_pr, ↓bb_pa, ↓bb_pb, ↓bb_pl, ↓bb_po, ↓bb_cl, ↓bb_some, ↓bb_RI, ↓bb_RJ, mm_hI, mm_hJ, mm_hR, mm_nI, mm_nJ, mm_nR, mm_sI, mm_sJ, mm_sR, mm_RI, mm_RJ, mm_IJ, mm_IR, mm_JI, mm_JR, mm_II, mm_JJ, mm_RR, hm.1, ↓bS mu, hx, ↓bS r1, g, e1]
      rw [st]; exact this
theorem m_lost_l (hm0 : sMo S0 M) (hs0 : mSc S0 M sc asd) (hL : 2 ≤ sc.1 ∧ sc.1 ≤ 4) {n : Nat} (hn : n ≤ 5) : ∃ S', L_Mo_lost_19 zF M (nI n) 0 S0 = zrW M S' 5 (zfi (fun i => decide (zbk sc.1 sc.2.2 asd i = 2)) (zcnt sc.1 n)) ∧ zfr (wBk M) S0 S' := by
  have c5 := cnt_le (n := n) hL hn
  refine loop_g (α := Unit) (N := zcnt sc.1 n) (by omega) (fun F _ i S => L_Mo_lost_19 F M (nI n) (nI i) S) (fun _ i S => zfr (wBk M) S0 S ∧ ∀ j, j < i → decide (zbk sc.1 sc.2.2 asd j = 2) = false) (fun o => ∃ S', o = zrW M S' 5 (zfi (fun i => decide (zbk sc.1 sc.2.2 asd i = 2)) (zcnt sc.1 n)) ∧ zfr (wBk M) S0 S') (fun F a S h => ?_) (fun F a i S hi h k => ?_) () 0 S0 (by omega) ⟨fr_refl _ _, fun j hj => by omega⟩
  · have hm := mo_fr hm0 h.1
    have hs := mSc_fr hs0 h.1 (fun j a b => by unfold wBk; omega) (fun b j a => by unfold wBk; omega)
    have mu := m_manyUpTo hL.2 hn hm hs.1
    have hx : ¬ nI (zcnt sc.1 n) < nI (zcnt sc.1 n) := by rw [nI_ltI (by omega) (by omega)]; omega
    refine ⟨S, ?_, h.1⟩
    rw [fi_no h.2]
    simp [L_Mo_lost_19, -Prod.exists, -Prod.forall, ↓bb_gf, ↓bb_gr, ↓bb_len, ↓bb_ga, ↓bb_gl, ↓bb_go, ↓bb_pf, ↓bb_pz, ↓bb_pr, ↓bb_pa, ↓bb_pb, ↓bb_pl, ↓bb_po, ↓bb_cl, ↓bb_some, ↓bb_RI, ↓bb_RJ, mm_hI, mm_hJ, mm_hR, mm_nI, mm_nJ, mm_nR, mm_sI, mm_sJ, mm_sR, mm_RI, mm_RJ, mm_IJ, mm_IR, mm_JI, mm_JR, mm_II, mm_JJ, mm_RR, hm.1, ↓bS mu, hx, zrW]
  · have hm := mo_fr hm0 h.1
    have hs := mSc_fr hs0 h.1 (fun j a b => by unfold wBk; omega) (fun b j a => by unfold wBk; omega)
    have mu := m_manyUpTo hL.2 hn hm hs.1
    have hx : nI i < nI (zcnt sc.1 n) := by rw [nI_ltI (by omega) (by omega)]; omega
    have e1 : nI i + 1 = nI (i + 1) := nI_add i 1
    obtain ⟨S1, r1, r2⟩ := m_back hm hs hL (i := i) (by omega)
    have hm1 := mo_fr hm r2
    have bl := bk_lt sc.1 sc.2.2 asd i
    by_cases q : zbk sc.1 sc.2.2 asd i = 2
    · have g : nI (zbk sc.1 sc.2.2 asd i) = 2 := by rw [q]; rfl
      refine ⟨S1, ?_, fr_trans h.1 r2⟩
      rw [fi_is hi (by simpa using q) h.2, L_Mo_lost_19]
      simp [-Prod.exists, -Prod.forall, ↓bb_gf, ↓bb_gr, ↓bb_len, ↓bb_ga, ↓bb_gl, ↓bb_go, ↓bb_pf, ↓bb_pz, ↓bb_pr, ↓bb_pa, ↓bb_pb, ↓bb_pl, ↓bb_po, ↓bb_cl, ↓bb_some, ↓bb_RI, ↓bb_RJ, mm_hI, mm_hJ, mm_hR, mm_nI, mm_nJ, mm_nR, mm_sI, mm_sJ, mm_sR, mm_RI, mm_RJ, mm_IJ, mm_IR, mm_JI, mm_JR, mm_II, mm_JJ, mm_RR, hm.1, ↓bS mu, hx, ↓bS r1, g, hm1.1, zrW]
    · have g : ¬ nI (zbk sc.1 sc.2.2 asd i) = 2 := fun w => q ((nI_eq (b := 2) (by omega) (by omega)).1 w)
      have := k () S1 ⟨fr_trans h.1 r2, fun j hj => by
        by_cases q2 : j = i
        · subst q2; simpa using q
        · exact h.2 j (by omega)⟩
      rw [L_Mo_lost_19]
      simpa [-Prod.exists, -Prod.forall, ↓bb_gf, ↓bb_gr, ↓bb_len, ↓bb_ga, ↓bb_gl, ↓bb_go, ↓bb_pf, ↓bb_pz, ↓bb_pr, ↓bb_pa, ↓bb_pb, ↓bb_pl, ↓bb_po, ↓bb_cl, ↓bb_some, ↓bb_RI, ↓bb_RJ, mm_hI, mm_hJ, mm_hR, mm_nI, mm_nJ, mm_nR, mm_sI, mm_sJ, mm_sR, mm_RI, mm_RJ, mm_IJ, mm_IR, mm_JI, mm_JR, mm_II, mm_JJ, mm_RR, hm.1, ↓bS mu, hx, ↓bS r1, g, e1] using this
end
