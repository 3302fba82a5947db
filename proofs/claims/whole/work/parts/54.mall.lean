/-! the reference: passes, all of them -/
section
variable {S S0 : zM} {M : Nat} {row : List Nat} {sc : zSc} {asd : Nat → Nat}
theorem m_round {p : Nat} {sv0 : List Nat} (tn : Bool) (hm : sMo S M) (hsc : mSc S M sc asd) (hp : p < sc.2.2.length) (hn : pNow S M row) (hs : mSv S M sv0) : ∃ S', f_Mo_goesRound M (nI p) (if tn then 1 else 0) S = some (if (zround (zpa_ sc.2.2 p).2 (asd p) tn row).1 then 1 else 0, S') ∧ zfr (wGR M) S S' ∧ ((zround (zpa_ sc.2.2 p).2 (asd p) tn row).1 = true → pNext S' M (zround (zpa_ sc.2.2 p).2 (asd p) tn row).2.1 ∧ mSv S' M (sv0 ++ (zround (zpa_ sc.2.2 p).2 (asd p) tn row).2.2.map (fun i => 8 * p + i))) := by
  have n4 := hn.2.2.2
  have fw : zfr (wGR M) S (zwI S M 43 0) := fr_wI _ _ (by unfold wGR; omega)
  obtain ⟨S', g1, g2⟩ := m_round_l (tn := tn) (sv0 := sv0) hm hsc hp hn row.length zF (zwI S M 43 0) 0 [] [] (row.length + 1) (by omega) (by rw [zF_eq]; omega) (by omega) fw ⟨by simp [mm_II]; rfl, fun k hk => by simp at hk⟩ (by simp) (fun k hk => by
    rw [mm_II, if_neg (by omega)]; simp; exact hs k hk)
  refine ⟨S', ?_, g2⟩
  unfold zround
  rw [← g1]
  cases tn
  · simp [f_Mo_goesRound, -Prod.exists, -Prod.forall, ↓bb_gf, ↓bb_gr, ↓bb_len, ↓bb_ga, ↓bb_gl, ↓bb_go, ↓bb_pf, ↓bb_pz, ↓bb_pr, ↓bb_pa, ↓bb_pb, ↓bb_pl, ↓bb_po, ↓bb_cl, ↓bb_some, ↓bb_RI, ↓bb_RJ, mm_hI, mm_hJ, mm_hR, mm_nI, mm_nJ, mm_nR, mm_sI, mm_sJ, mm_sR, mm_RI, mm_RJ, mm_IJ, mm_IR, mm_JI, mm_JR, mm_II, mm_JJ, mm_RR, hm.1]; rfl
  · simp [f_Mo_goesRound, -Prod.exists, -Prod.forall, ↓bb_gf, ↓bb_gr, ↓bb_len, ↓bb_ga, ↓bb_gl, ↓bb_go, ↓bb_pf, ↓bb_pz, ↓bb_pr, ↓bb_pa, ↓bb_pb, ↓bb_pl, ↓bb_po, ↓bb_cl, ↓bb_some, ↓bb_RI, ↓bb_RJ, mm_hI, mm_hJ, mm_hR, mm_nI, mm_nJ, mm_nR, mm_sI, mm_sJ, mm_sR, mm_RI, mm_RJ, mm_IJ, mm_IR, mm_JI, mm_JR, mm_II, mm_JJ, mm_RR, hm.1]; rfl
theorem chg_l {out : List Nat} (hm : sMo S M) (hn : pNow S M row) (ho : pNext S M out) (h8 : l8 out) (hl : row.length = out.length) : ∀ d F k, d + k = row.length → d < F → (∀ j, j < k → lg row j = lg out j) → L_Mo_isChanged_15 F M (nI k) S = some (if row = out then 0 else 1, S) := by
  have n4 := hn.2.2.2
  intro d
  induction d with
  | zero =>
    intro F k hd hF hs
    cases F with
    | zero => omega
    | succ F =>
      have e : row = out := lg_ext hl (fun j hj => hs j (by omega))
      have nlt : ¬ nI k < nI row.length := fun z => by have := (nI_ltI (by omega) (by omega)).1 z; omega
      rw [if_pos e]
      simp [L_Mo_isChanged_15, -Prod.exists, -Prod.forall, ↓bb_gf, ↓bb_gr, ↓bb_len, ↓bb_ga, ↓bb_gl, ↓bb_go, ↓bb_pf, ↓bb_pz, ↓bb_pr, ↓bb_pa, ↓bb_pb, ↓bb_pl, ↓bb_po, ↓bb_cl, ↓bb_some, ↓bb_RI, ↓bb_RJ, mm_hI, mm_hJ, mm_hR, mm_nI, mm_nJ, mm_nR, mm_sI, mm_sJ, mm_sR, mm_RI, mm_RJ, mm_IJ, mm_IR, mm_JI, mm_JR, mm_II, mm_JJ, mm_RR, hm.1, hn.1, nlt]
  | succ d ih =>
    intro F k hd hF hs
    cases F with
    | zero => omega
    | succ F =>
      have hk : k < row.length := by omega
      have lt : nI k < nI row.length := (nI_ltI (by omega) (by omega)).2 hk
      have zk : zinb (nI k) 64 = true := (nn_in (by omega)).2 (by omega)
      have ck : (nI k).toNatClampNeg = k := nI_clamp (by omega)
      have v1 := hn.2.1 k hk
      have v2 := ho.2 k (by omega)
      have l1 := hn.2.2.1 k
      have l2 := h8 k
      by_cases e : lg row k = lg out k
      · rw [← ih F (k + 1) (by omega) (by omega) (fun j hj => by
          by_cases q : j = k
          · subst q; exact e
          · exact hs j (by omega))]
        simp [L_Mo_isChanged_15, -Prod.exists, -Prod.forall, ↓bb_gf, ↓bb_gr, ↓bb_len, ↓bb_ga, ↓bb_gl, ↓bb_go, ↓bb_pf, ↓bb_pz, ↓bb_pr, ↓bb_pa, ↓bb_pb, ↓bb_pl, ↓bb_po, ↓bb_cl, ↓bb_some, ↓bb_RI, ↓bb_RJ, mm_hI, mm_hJ, mm_hR, mm_nI, mm_nJ, mm_nR, mm_sI, mm_sJ, mm_sR, mm_RI, mm_RJ, mm_IJ, mm_IR, mm_JI, mm_JR, mm_II, mm_JJ, mm_RR, hm.1, hn.1, lt, ↓bS (mo_now hm), mh_now hm, zk, ck, v1, ↓bS (mo_next hm), mh_next hm, v2, e, nI_1]
      · have ne : ¬ nI (lg row k) = nI (lg out k) := fun z => e ((nI_eq (by omega) (by omega)).1 z)
        have ne2 : ¬ row = out := fun z => e (by rw [z])
        simp [L_Mo_isChanged_15, -Prod.exists, -Prod.forall, ↓bb_gf, ↓bb_gr, ↓bb_len, ↓bb_ga, ↓bb_gl, ↓bb_go, ↓bb_pf, ↓bb_pz, ↓bb_pr, ↓bb_pa, ↓bb_pb, ↓bb_pl, ↓bb_po, ↓bb_cl, ↓bb_some, ↓bb_RI, ↓bb_RJ, mm_hI, mm_hJ, mm_hR, mm_nI, mm_nJ, mm_nR, mm_sI, mm_sJ, mm_sR, mm_RI, mm_RJ, mm_IJ, mm_IR, mm_JI, mm_JR, mm_II, mm_JJ, mm_RR, hm.1, hn.1, lt, ↓bS (mo_now hm), mh_now hm, zk, ck, v1, ↓bS (mo_next hm), mh_next hm, v2, ne, ne2]
theorem m_chg {out : List Nat} (hm : sMo S M) (hn : pNow S M row) (ho : pNext S M out) (h8 : l8 out) (h60 : out.length ≤ 60) : f_Mo_isChanged M S = some (if row = out then 0 else 1, S) := by
  have n4 := hn.2.2.2
  by_cases hl : row.length = out.length
  · have := chg_l hm hn ho h8 hl row.length zF 0 (by omega) (by rw [zF_eq]; omega) (fun j hj => by omega)
    rw [← this]
    simp [f_Mo_isChanged, -Prod.exists, -Prod.forall, ↓bb_gf, ↓bb_gr, ↓bb_len, ↓bb_ga, ↓bb_gl, ↓bb_go, ↓bb_pf, ↓bb_pz, ↓bb_pr, ↓bb_pa, ↓bb_pb, ↓bb_pl, ↓bb_po, ↓bb_cl, ↓bb_some, ↓bb_RI, ↓bb_RJ, mm_hI, mm_hJ, mm_hR, mm_nI, mm_nJ, mm_nR, mm_sI, mm_sJ, mm_sR, mm_RI, mm_RJ, mm_IJ, mm_IR, mm_JI, mm_JR, mm_II, mm_JJ, mm_RR, hm.1, hn.1, ho.1, hl]
    rfl
  · have ne : ¬ nI row.length = nI out.length := fun z => hl ((nI_eq (by omega) (by omega)).1 z)
    have ne2 : ¬ row = out := fun z => hl (by rw [z])
    simp [f_Mo_isChanged, -Prod.exists, -Prod.forall, ↓bb_gf, ↓bb_gr, ↓bb_len, ↓bb_ga, ↓bb_gl, ↓bb_go, ↓bb_pf, ↓bb_pz, ↓bb_pr, ↓bb_pa, ↓bb_pb, ↓bb_pl, ↓bb_po, ↓bb_cl, ↓bb_some, ↓bb_RI, ↓bb_RJ, mm_hI, mm_hJ, mm_hR, mm_nI, mm_nJ, mm_nR, mm_sI, mm_sJ, mm_sR, mm_RI, mm_RJ, mm_IJ, mm_IR, mm_JI, mm_JR, mm_II, mm_JJ, mm_RR, hm.1, hn.1, ho.1, ne, ne2]
theorem out_l {out : List Nat} (hm : sMo S0 M) (ho : pNext S0 M out) (h60 : out.length ≤ 60) : ∀ d F k (S : zM), d + k = out.length → d < F → zfr (fun b j => b = M + 19) S0 S → (∀ j, j < k → zI S (M + 19) j = nI (lg out j)) → ∃ S', L_Mo_comesOut_2 F M (nI k) S = some S' ∧ zfr (fun b j => b = M + 19 ∨ (b = M ∧ j = 41)) S0 S' ∧ zI S' M 41 = nI out.length ∧ ∀ j, j < out.length → zI S' (M + 19) j = nI (lg out j) := by
  intro d
  induction d with
  | zero =>
    intro F k S hd hF hf hv
    cases F with
    | zero => omega
    | succ F =>
      have hm' := mo_fr hm hf
      have i43 : zI S M 43 = nI out.length := by rw [fr_I hf (by omega)]; exact ho.1
      have nlt : ¬ nI k < nI out.length := fun z => by have := (nI_ltI (by omega) (by omega)).1 z; omega
      refine ⟨zwI S M 41 (nI out.length), ?_, fr_trans (fr_mono hf (fun b j hb => Or.inl hb)) (fr_wI _ _ (by omega)), by simp [mm_II], fun j hj => by rw [mm_II, if_neg (by omega)]; exact hv j (by omega)⟩
      simp [L_Mo_comesOut_2, -Prod.exists, -Prod.forall, ↓bb_gf, ↓bb_gr, ↓bb_len, ↓bb_ga, ↓bb_gl, ↓bb_go, ↓bb_pf, ↓bb_pz, ↓bb_pr, ↓bb_pa, ↓bb_pb, ↓bb_pl, ↓bb_po, ↓bb_cl, ↓bb_some, ↓bb_RI, ↓bb_RJ, mm_hI, mm_hJ, mm_hR, mm_nI, mm_nJ, mm_nR, mm_sI, mm_sJ, mm_sR, mm_RI, mm_RJ, mm_IJ, mm_IR, mm_JI, mm_JR, mm_II, mm_JJ, mm_RR, hm'.1, i43, nlt]
  | succ d ih =>
    intro F k S hd hF hf hv
    cases F with
    | zero => omega
    | succ F =>
      have hm' := mo_fr hm hf
      have hk : k < out.length := by omega
      have i43 : zI S M 43 = nI out.length := by rw [fr_I hf (by omega)]; exact ho.1
      have lt : nI k < nI out.length := (nI_ltI (by omega) (by omega)).2 hk
      have zk : zinb (nI k) 64 = true := (nn_in (by omega)).2 (by omega)
      have ck : (nI k).toNatClampNeg = k := nI_clamp (by omega)
      have v2 : zI S (M + 20) k = nI (lg out k) := by rw [fr_I hf (by omega)]; exact ho.2 k hk
      obtain ⟨S', g1, g2⟩ := ih F (k + 1) (zwI S (M + 19) k (nI (lg out k))) (by omega) (by omega) (fr_trans hf (fr_wI _ _ (by omega))) (fun j hj => by
        by_cases q : j = k
        · subst q; simp [mm_II]
        · rw [mm_II, if_neg (by omega)]; exact hv j (by omega))
      refine ⟨S', ?_, g2⟩
      rw [← g1]
      simp [L_Mo_comesOut_2, -Prod.exists, -Prod.forall, ↓bb_gf, ↓bb_gr, ↓bb_len, ↓bb_ga, ↓bb_gl, ↓bb_go, ↓bb_pf, ↓bb_pz, ↓bb_pr, ↓bb_pa, ↓bb_pb, ↓bb_pl, ↓bb_po, ↓bb_cl, ↓bb_some, ↓bb_RI, ↓bb_RJ, mm_hI, mm_hJ, mm_hR, mm_nI, mm_nJ, mm_nR, mm_sI, mm_sJ, mm_sR, mm_RI, mm_RJ, mm_IJ, mm_IR, mm_JI, mm_JR, mm_II, mm_JJ, mm_RR, hm'.1, i43, lt, ↓bS (mo_now hm'), mh_now hm', ↓bS (mo_next hm'), mh_next hm', zk, ck, v2, nI_1]
theorem m_out {out : List Nat} (hm : sMo S M) (ho : pNext S M out) (h8 : l8 out) (h60 : out.length ≤ 60) : ∃ S', f_Mo_comesOut M S = some S' ∧ zfr (fun b j => b = M + 19 ∨ (b = M ∧ j = 41)) S S' ∧ pNow S' M out := by
  obtain ⟨S', g1, g2, g3, g4⟩ := out_l hm ho h60 out.length zF 0 S (by omega) (by rw [zF_eq]; omega) (fr_refl _ _) (fun j hj => by omega)
  exact ⟨S', g1, g2, g3, g4, h8, h60⟩
/-- what a pass changes -/
def wGP (M p : Nat) : Nat → Nat → Prop := fun b j => (b = M ∧ (j = 41 ∨ j = 43)) ∨ b = M + 19 ∨ b = M + 20 ∨ b = M + 21 ∨ (b = M + 22 ∧ j = p)
theorem pass_l {p : Nat} {tn : Bool} {sv0 : List Nat} (hm : sMo S0 M) (hsc : mSc S0 M sc asd) (hp : p < sc.2.2.length) : ∀ k F (S : zM) r (row sv : List Nat), k + r = (if (zpa_ sc.2.2 p).1 then 20 else 1) → 0 < k → k < F → zfr (wGP M p) S0 S → pNow S M row → mSv S M (sv0 ++ sv.map (fun i => 8 * p + i)) → zI S (M + 22) p = nI r → ∃ S' row', L_Mo_goesPass_7 F M (nI p) (if tn then 1 else 0) S = some (nI (zprn (zpa_ sc.2.2 p).2 (asd p) (zpa_ sc.2.2 p).1 tn k r row sv).1, S') ∧ zfr (wGP M p) S0 S' ∧ pNow S' M row' ∧ ((zprn (zpa_ sc.2.2 p).2 (asd p) (zpa_ sc.2.2 p).1 tn k r row sv).1 = 0 → row' = (zprn (zpa_ sc.2.2 p).2 (asd p) (zpa_ sc.2.2 p).1 tn k r row sv).2.1 ∧ mSv S' M (sv0 ++ (zprn (zpa_ sc.2.2 p).2 (asd p) (zpa_ sc.2.2 p).1 tn k r row sv).2.2.2.map (fun i => 8 * p + i)) ∧ zI S' (M + 22) p = nI (zprn (zpa_ sc.2.2 p).2 (asd p) (zpa_ sc.2.2 p).1 tn k r row sv).2.2.1) := by
  have w13 := hsc.2.2.2.2.2.2.2.2.2.2.2.2
  have wr := ps_w w13 hp
  have p3 := w13.1
  intro k
  induction k with
  | zero => intro F S r row sv hk h0; omega
  | succ k ih =>
    intro F S r row sv hk h0 hF hf hn hs hr
    have h20 : k + 1 + r ≤ 20 := by split at hk <;> omega
    cases F with
    | zero => omega
    | succ F =>
      have hm' := mo_fr hm hf
      have hsc' : mSc S M sc asd := mSc_fr hsc hf (fun j _ _ => by unfold wGP; omega) (fun b j _ => by unfold wGP; omega)
      obtain ⟨S1, e1, f1, g1⟩ := m_round tn hm' hsc' hp hn hs
      have f1' : zfr (wGP M p) S S1 := fr_mono f1 (fun b j hb => by unfold wGR at hb; unfold wGP; omega)
      have hm1 := mo_fr hm' f1
      have zp : zinb (nI p) 3 = true := (nn_in (by omega)).2 (by omega)
      have cp : (nI p).toNatClampNeg = p := nI_clamp (by omega)
      rw [zprn]
      cases c : (zround (zpa_ sc.2.2 p).2 (asd p) tn row).1 with
      | false =>
        rw [c] at e1
        simp only [Bool.false_eq_true, if_false] at e1
        refine ⟨S1, row, ?_, fr_trans hf f1', now_fr hn f1 (by unfold wGR; omega) (fun j => by unfold wGR; omega), fun q => by simp at q⟩
        simp [L_Mo_goesPass_7, -Prod.exists, -Prod.forall, ↓bb_gf, ↓bb_gr, ↓bb_len, ↓bb_ga, ↓bb_gl, ↓bb_go, ↓bb_pf, ↓bb_pz, ↓bb_pr, ↓bb_pa, ↓bb_pb, ↓bb_pl, ↓bb_po, ↓bb_cl, ↓bb_some, ↓bb_RI, ↓bb_RJ, mm_hI, mm_hJ, mm_hR, mm_nI, mm_nJ, mm_nR, mm_sI, mm_sJ, mm_sR, mm_RI, mm_RJ, mm_IJ, mm_IR, mm_JI, mm_JR, mm_II, mm_JJ, mm_RR, hm'.1, ↓bS e1]; rfl
      | true =>
        rw [c] at e1
        simp only [if_true] at e1
        obtain ⟨pn, sv1⟩ := g1 c
        obtain ⟨o8, o60, _⟩ := round_w wr (mask := asd p) (tn := tn) hn.2.2.1
        have ir : zI S1 (M + 22) p = nI r := by rw [fr_I f1 (by unfold wGR; omega)]; exact hr
        obtain ⟨S2, hS2⟩ : ∃ S2, S2 = zwI S1 (M + 22) p (nI (r + 1)) := ⟨_, rfl⟩
        have f2 : zfr (fun b j => b = M + 22 ∧ j = p) S1 S2 := by rw [hS2]; exact fr_wI _ _ ⟨rfl, rfl⟩
        have hm2 := mo_fr hm1 f2
        have n2 : pNow S2 M row := now_fr (now_fr hn f1 (by unfold wGR; omega) (fun j => by unfold wGR; omega)) f2 (by omega) (fun j => by omega)
        have pn2 : pNext S2 M (zround (zpa_ sc.2.2 p).2 (asd p) tn row).2.1 := ⟨by rw [fr_I f2 (by omega)]; exact pn.1, fun j hj => by rw [fr_I f2 (by omega)]; exact pn.2 j hj⟩
        have ch := m_chg hm2 n2 pn2 o8 o60
        obtain ⟨S3, e3, f3, n3⟩ := m_out hm2 pn2 o8 o60
        have hm3 := mo_fr hm2 f3
        have f13 : zfr (wGP M p) S S3 := fr_trans f1' (fr_trans (fr_mono f2 (fun b j hb => by unfold wGP; omega)) (fr_mono f3 (fun b j hb => by unfold wGP; omega)))
        have ir3 : zI S3 (M + 22) p = nI (r + 1) := by rw [fr_I f3 (by omega), hS2]; simp [mm_II]
        have ag3 : zI S3 (M + 4) p = (if (zpa_ sc.2.2 p).1 then 1 else 0) := by rw [fr_I f13 (by unfold wGP; omega)]; exact hsc'.2.2.2.2.2.2.1 p hp
        have sv3 : mSv S3 M (sv0 ++ (sv ++ (zround (zpa_ sc.2.2 p).2 (asd p) tn row).2.2).map (fun i => 8 * p + i)) := by
          intro j hj
          rw [fr_I f3 (by omega), fr_I f2 (by omega), sv1 j hj, List.append_assoc, ← List.map_append]
        have pre : ∀ R : Option (Int32 × zM), (if zI S3 (M + 4) p = (0 : Int32) then some ((0 : Int32), S3) else if (if row = (zround (zpa_ sc.2.2 p).2 (asd p) tn row).2.1 then (0 : Int32) else 1) = (0 : Int32) then some ((0 : Int32), S3) else if nI (r + 1) = (20 : Int32) then some ((7 : Int32), S3) else L_Mo_goesPass_7 F M (nI p) (if tn then 1 else 0) S3) = R → L_Mo_goesPass_7 (F + 1) M (nI p) (if tn then 1 else 0) S = R := by
          intro R hR
          rw [← hR]
          rw [hS2] at ch e3
          simp [L_Mo_goesPass_7, -Prod.exists, -Prod.forall, ↓bb_gf, ↓bb_gr, ↓bb_len, ↓bb_ga, ↓bb_gl, ↓bb_go, ↓bb_pf, ↓bb_pz, ↓bb_pr, ↓bb_pa, ↓bb_pb, ↓bb_pl, ↓bb_po, ↓bb_cl, ↓bb_some, ↓bb_RI, ↓bb_RJ, mm_hI, mm_hJ, mm_hR, mm_nI, mm_nJ, mm_nR, mm_sI, mm_sJ, mm_sR, mm_RI, mm_RJ, mm_IJ, mm_IR, mm_JI, mm_JR, mm_II, mm_JJ, mm_RR, hm'.1, ↓bS e1, hm1.1, ↓bS (mo_roundsOf hm1), mh_roundsOf hm1, zp, cp, ir, nI_1, ↓bS ch, ↓bS e3, hm3.1, ↓bS (mo_isAgain hm3), mh_isAgain hm3, ↓bS (mo_roundsOf hm3), mh_roundsOf hm3, ir3]
        simp only [if_true]
        by_cases same : (zround (zpa_ sc.2.2 p).2 (asd p) tn row).2.1 = row
        · rw [if_pos (Or.inl same)]
          refine ⟨S3, _, pre _ ?_, fr_trans hf f13, n3, fun _ => ⟨rfl, sv3, ir3⟩⟩
          rw [if_pos same.symm, if_pos rfl]
          split <;> rfl
        · have same' : ¬ row = (zround (zpa_ sc.2.2 p).2 (asd p) tn row).2.1 := fun z => same z.symm
          cases hg : (zpa_ sc.2.2 p).1 with
          | false =>
            rw [if_pos (Or.inr rfl)]
            rw [hg] at ag3
            simp only [Bool.false_eq_true, if_false] at ag3
            refine ⟨S3, _, pre _ ?_, fr_trans hf f13, n3, fun _ => ⟨rfl, sv3, ir3⟩⟩
            rw [if_pos ag3]; rfl
          | true =>
            have hno : ¬ ((zround (zpa_ sc.2.2 p).2 (asd p) tn row).2.1 = row ∨ true = false) := fun q => q.elim same (fun h => Bool.noConfusion h)
            rw [if_neg hno]
            rw [hg] at ag3 hk
            simp only [if_true] at ag3 hk
            have ne1 : ¬ zI S3 (M + 4) p = 0 := by rw [ag3]; decide
            have ne2 : ¬ (if row = (zround (zpa_ sc.2.2 p).2 (asd p) tn row).2.1 then (0 : Int32) else 1) = 0 := by rw [if_neg same']; decide
            by_cases k0 : k = 0
            · subst k0
              have e20 : nI (r + 1) = 20 := by rw [show r + 1 = 20 by omega]; rfl
              refine ⟨S3, _, pre _ ?_, fr_trans hf f13, n3, fun q => by simp [zprn] at q⟩
              rw [if_neg ne1, if_neg ne2, if_pos e20]; rfl
            · have e20 : ¬ nI (r + 1) = 20 := fun z => by have := (nI_eq (b := 20) (by omega) (by omega)).1 z; omega
              obtain ⟨S', row', k1, k2⟩ := ih F S3 (r + 1) _ (sv ++ (zround (zpa_ sc.2.2 p).2 (asd p) tn row).2.2) (by rw [hg]; simp only [if_true]; omega) (by omega) (by omega) (fr_trans hf f13) n3 sv3 ir3
              rw [hg] at k1 k2
              refine ⟨S', row', pre _ ?_, k2⟩
              rw [if_neg ne1, if_neg ne2, if_neg e20]
              exact k1
theorem m_pass {p : Nat} {sv0 : List Nat} (tn : Bool) (hm : sMo S M) (hsc : mSc S M sc asd) (hp : p < sc.2.2.length) (hn : pNow S M row) (hs : mSv S M sv0) : ∃ S' row', f_Mo_goesPass M (nI p) (if tn then 1 else 0) S = some (nI (zprun (zpa_ sc.2.2 p).2 (asd p) (zpa_ sc.2.2 p).1 tn row).1, S') ∧ zfr (wGP M p) S S' ∧ pNow S' M row' ∧ ((zprun (zpa_ sc.2.2 p).2 (asd p) (zpa_ sc.2.2 p).1 tn row).1 = 0 → row' = (zprun (zpa_ sc.2.2 p).2 (asd p) (zpa_ sc.2.2 p).1 tn row).2.1 ∧ mSv S' M (sv0 ++ (zprun (zpa_ sc.2.2 p).2 (asd p) (zpa_ sc.2.2 p).1 tn row).2.2.2.map (fun i => 8 * p + i)) ∧ zI S' (M + 22) p = nI (zprun (zpa_ sc.2.2 p).2 (asd p) (zpa_ sc.2.2 p).1 tn row).2.2.1) := by
  have p3 := hsc.2.2.2.2.2.2.2.2.2.2.2.2.1
  have zp : zinb (nI p) 3 = true := (nn_in (by omega)).2 (by omega)
  have cp : (nI p).toNatClampNeg = p := nI_clamp (by omega)
  have fw : zfr (fun b j => b = M + 22 ∧ j = p) S (zwI S (M + 22) p 0) := fr_wI _ _ ⟨rfl, rfl⟩
  obtain ⟨S', row', g1, g2⟩ := pass_l (tn := tn) (sv0 := sv0) hm hsc hp (if (zpa_ sc.2.2 p).1 then 20 else 1) zF (zwI S (M + 22) p 0) 0 row [] (by omega) (by split <;> omega) (by rw [zF_eq]; split <;> omega) (fr_mono fw (fun b j hb => by unfold wGP; omega)) (now_fr hn fw (by omega) (fun j => by omega)) (fun j hj => by rw [fr_I fw (by omega)]; simp; exact hs j hj) (by simp [mm_II]; rfl)
  refine ⟨S', row', ?_, g2⟩
  unfold zprun
  rw [← g1]
  simp [f_Mo_goesPass, -Prod.exists, -Prod.forall, ↓bb_gf, ↓bb_gr, ↓bb_len, ↓bb_ga, ↓bb_gl, ↓bb_go, ↓bb_pf, ↓bb_pz, ↓bb_pr, ↓bb_pa, ↓bb_pb, ↓bb_pl, ↓bb_po, ↓bb_cl, ↓bb_some, ↓bb_RI, ↓bb_RJ, mm_hI, mm_hJ, mm_hR, mm_nI, mm_nJ, mm_nR, mm_sI, mm_sJ, mm_sR, mm_RI, mm_RJ, mm_IJ, mm_IR, mm_JI, mm_JR, mm_II, mm_JJ, mm_RR, hm.1, ↓bS (mo_roundsOf hm), mh_roundsOf hm, zp, cp]
end
