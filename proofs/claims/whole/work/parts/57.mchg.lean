/-! the reference: how many changes -/
section
variable {S S0 : zM} {M : Nat} {xs ys : List Nat}
def pOth (S : zM) (M : Nat) (xs : List Nat) : Prop := zI S M 56 = nI xs.length ∧ (∀ k, k < xs.length → zI S (M + 30) k = nI (lg xs k)) ∧ l8 xs ∧ xs.length ≤ 60
theorem mc_k (hf : zfr (fun b j => b = M + 31) S0 S) (hm : sMo S0 M) (hx : pOth S0 M xs) (hy : pNow S0 M ys) : sMo S M ∧ pOth S M xs ∧ pNow S M ys :=
  ⟨mo_fr hm hf, ⟨by rw [fr_I hf (by omega)]; exact hx.1, fun k hk => by rw [fr_I hf (by omega)]; exact hx.2.1 k hk, hx.2.2⟩, now_fr hy hf (by omega) (fun j => by omega)⟩
theorem mc_49 (hm : sMo S0 M) (hx : pOth S0 M xs) (hy : pNow S0 M ys) {k158 : Nat → Int32 → zM → Option (Int32 × zM)} {i : Nat} (hi : i < xs.length) (Q : Option (Int32 × zM) → Prop)
    (HK : ∀ S, zfr (fun b j => b = M + 31) S0 S → (∀ k, k ≤ ys.length → zI S (M + 31) k = nI (zD xs ys (i + 1) k)) → Q (k158 M (nI (i + 1)) S)) : ∀ d F j (S : zM), d + j = ys.length → d < F → zfr (fun b j => b = M + 31) S0 S → (∀ k, k ≤ ys.length → zI S (M + 31) k = nI (if k ≤ j then zD xs ys (i + 1) k else zD xs ys i k)) → Q (L_Mo_changesOf_49 k158 F M (nI (i + 1)) (nI (zD xs ys i j)) (nI (j + 1)) S) := by
  have hy60 := hy.2.2.2
  have hx60 := hx.2.2.2
  intro d
  induction d with
  | zero =>
    intro F j S hd hF hf hv
    obtain ⟨hm', hx', hy'⟩ := mc_k hf hm hx hy
    cases F with
    | zero => omega
    | succ F =>
      have nle : ¬ nI (j + 1) ≤ nI ys.length := fun z => by have := (nI_leI (by omega) (by omega)).1 z; omega
      have := HK S hf (fun k hk => by rw [hv k hk, if_pos (by omega)])
      simp [L_Mo_changesOf_49, -Prod.exists, -Prod.forall, ↓bb_gf, ↓bb_gr, ↓bb_len, ↓bb_ga, ↓bb_gl, ↓bb_go, ↓bb_pf, ↓bb_pz, ↓bb_pr, ↓bb_pa, ↓bb_pb, ↓bb_pl, ↓bb_po, ↓bb_cl, ↓bb_some, ↓bb_RI, ↓bb_RJ, mm_hI, mm_hJ, mm_hR, mm_nI, mm_nJ, mm_nR, mm_sI, mm_sJ, mm_sR, mm_RI, mm_RJ, mm_IJ, mm_IR, mm_JI, mm_JR, mm_II, mm_JJ, mm_RR, hm'.1, hy'.1, nle]
      exact this
  | succ d ih =>
    intro F j S hd hF hf hv
    obtain ⟨hm', hx', hy'⟩ := mc_k hf hm hx hy
    cases F with
    | zero => omega
    | succ F =>
      have hj : j < ys.length := by omega
      have le : nI (j + 1) ≤ nI ys.length := (nI_leI (by omega) (by omega)).2 (by omega)
      have d1 := D_le xs ys i j
      have d2 := D_le xs ys i (j + 1)
      have d3 := D_le xs ys (i + 1) j
      have v1 := hv (j + 1) (by omega)
      have v2 := hv j (by omega)
      rw [if_neg (by omega)] at v1
      rw [if_pos (by omega)] at v2
      have step : ∀ v : Nat, v = zD xs ys (i + 1) (j + 1) → Q (L_Mo_changesOf_49 k158 F M (nI (i + 1)) (nI (zD xs ys i (j + 1))) (nI (j + 1 + 1)) (zwI S (M + 31) (j + 1) (nI v))) := by
        intro v ev
        refine ih F (j + 1) _ (by omega) (by omega) (fr_trans hf (fr_wI _ _ rfl)) (fun k hk => ?_)
        rw [mm_II]
        by_cases hkj : k = j + 1
        · rw [if_pos ⟨rfl, hkj⟩, if_pos (by omega), hkj, ev]
        · rw [if_neg (by omega), hv k hk]
          by_cases hkk : k ≤ j
          · rw [if_pos hkk, if_pos (by omega)]
          · rw [if_neg hkk, if_neg (by omega)]
      have es := D_ss xs ys i j
      have z1 : zinb (nI (j + 1)) 61 = true := (nn_in (by omega)).2 (by omega)
      have c1 : (nI (j + 1)).toNatClampNeg = j + 1 := nI_clamp (by omega)
      have z2 : zinb (nI i) 60 = true := (nn_in (by omega)).2 (by omega)
      have c2 : (nI i).toNatClampNeg = i := nI_clamp (by omega)
      have z3 : zinb (nI j) 64 = true := (nn_in (by omega)).2 (by omega)
      have z4 : zinb (nI j) 61 = true := (nn_in (by omega)).2 (by omega)
      have c3 : (nI j).toNatClampNeg = j := nI_clamp (by omega)
      have x1 := hx'.2.1 i hi
      have y1 := hy'.2.1 j hj
      have l1 := hx.2.2.1 i
      have l2 := hy.2.2.1 j
      have pj : nI (j + 1) - 1 = nI j := nI_pred j
      have pi : nI (i + 1) - 1 = nI i := nI_pred i
      have p0 : nI (zD xs ys i j) + 0 = nI (zD xs ys i j) := nI_add _ 0
      by_cases e : lg xs i = lg ys j
      · rw [if_pos e, Nat.add_zero] at es
        by_cases q1 : zD xs ys i (j + 1) + 1 < zD xs ys i j
        · by_cases q2 : zD xs ys (i + 1) j + 1 < zD xs ys i (j + 1) + 1
          · have := step (zD xs ys (i + 1) j + 1) (by rw [es]; omega)
            simp (disch := omega) [L_Mo_changesOf_49, -Prod.exists, -Prod.forall, ↓bb_gf, ↓bb_gr, ↓bb_len, ↓bb_ga, ↓bb_gl, ↓bb_go, ↓bb_pf, ↓bb_pz, ↓bb_pr, ↓bb_pa, ↓bb_pb, ↓bb_pl, ↓bb_po, ↓bb_cl, ↓bb_some, ↓bb_RI, ↓bb_RJ, mm_hI, mm_hJ, mm_hR, mm_nI, mm_nJ, mm_nR, mm_sI, mm_sJ, mm_sR, mm_RI, mm_RJ, mm_IJ, mm_IR, mm_JI, mm_JR, mm_II, mm_JJ, mm_RR, nI_ltI, nI_1, hm'.1, hy'.1, le, ↓bS (mo_changes hm'), mh_changes hm', z1, c1, v1, ↓bS (mo_other hm'), mh_other hm', pi, z2, c2, x1, ↓bS (mo_now hm'), mh_now hm', pj, z3, z4, c3, y1, e, p0, q1, v2, q2]
            exact this
          · have := step (zD xs ys i (j + 1) + 1) (by rw [es]; omega)
            simp (disch := omega) [L_Mo_changesOf_49, -Prod.exists, -Prod.forall, ↓bb_gf, ↓bb_gr, ↓bb_len, ↓bb_ga, ↓bb_gl, ↓bb_go, ↓bb_pf, ↓bb_pz, ↓bb_pr, ↓bb_pa, ↓bb_pb, ↓bb_pl, ↓bb_po, ↓bb_cl, ↓bb_some, ↓bb_RI, ↓bb_RJ, mm_hI, mm_hJ, mm_hR, mm_nI, mm_nJ, mm_nR, mm_sI, mm_sJ, mm_sR, mm_RI, mm_RJ, mm_IJ, mm_IR, mm_JI, mm_JR, mm_II, mm_JJ, mm_RR, nI_ltI, nI_1, hm'.1, hy'.1, le, ↓bS (mo_changes hm'), mh_changes hm', z1, c1, v1, ↓bS (mo_other hm'), mh_other hm', pi, z2, c2, x1, ↓bS (mo_now hm'), mh_now hm', pj, z3, z4, c3, y1, e, p0, q1, v2, q2]
            exact this
        · by_cases q2 : zD xs ys (i + 1) j + 1 < zD xs ys i j
          · have := step (zD xs ys (i + 1) j + 1) (by rw [es]; omega)
            simp (disch := omega) [L_Mo_changesOf_49, -Prod.exists, -Prod.forall, ↓bb_gf, ↓bb_gr, ↓bb_len, ↓bb_ga, ↓bb_gl, ↓bb_go, ↓bb_pf, ↓bb_pz, ↓bb_pr, ↓bb_pa, ↓bb_pb, ↓bb_pl, ↓bb_po, ↓bb_cl, ↓bb_some, ↓bb_RI, ↓bb_RJ, mm_hI, mm_hJ, mm_hR, mm_nI, mm_nJ, mm_nR, mm_sI, mm_sJ, mm_sR, mm_RI, mm_RJ, mm_IJ, mm_IR, mm_JI, mm_JR, mm_II, mm_JJ, mm_RR, nI_ltI, nI_1, hm'.1, hy'.1, le, ↓bS (mo_changes hm'), mh_changes hm', z1, c1, v1, ↓bS (mo_other hm'), mh_other hm', pi, z2, c2, x1, ↓bS (mo_now hm'), mh_now hm', pj, z3, z4, c3, y1, e, p0, q1, v2, q2]
            exact this
          · have := step (zD xs ys i j) (by rw [es]; omega)
            simp (disch := omega) [L_Mo_changesOf_49, -Prod.exists, -Prod.forall, ↓bb_gf, ↓bb_gr, ↓bb_len, ↓bb_ga, ↓bb_gl, ↓bb_go, ↓bb_pf, ↓bb_pz, ↓bb_pr, ↓bb_pa, ↓bb_pb, ↓bb_pl, ↓bb_po, ↓bb_cl, ↓bb_some, ↓bb_RI, ↓bb_RJ, mm_hI, mm_hJ, mm_hR, mm_nI, mm_nJ, mm_nR, mm_sI, mm_sJ, mm_sR, mm_RI, mm_RJ, mm_IJ, mm_IR, mm_JI, mm_JR, mm_II, mm_JJ, mm_RR, nI_ltI, nI_1, hm'.1, hy'.1, le, ↓bS (mo_changes hm'), mh_changes hm', z1, c1, v1, ↓bS (mo_other hm'), mh_other hm', pi, z2, c2, x1, ↓bS (mo_now hm'), mh_now hm', pj, z3, z4, c3, y1, e, p0, q1, v2, q2]
            exact this
      · rw [if_neg e] at es
        have ne : ¬ nI (lg xs i) = nI (lg ys j) := fun z => e ((nI_eq (by omega) (by omega)).1 z)
        by_cases q1 : zD xs ys i (j + 1) + 1 < zD xs ys i j + 1
        · by_cases q2 : zD xs ys (i + 1) j + 1 < zD xs ys i (j + 1) + 1
          · have := step (zD xs ys (i + 1) j + 1) (by rw [es]; omega)
            have q1' : zD xs ys i (j + 1) < zD xs ys i j := by omega
            have q2' : zD xs ys (i + 1) j < zD xs ys i (j + 1) := by omega
            simp (disch := omega) [L_Mo_changesOf_49, -Prod.exists, -Prod.forall, ↓bb_gf, ↓bb_gr, ↓bb_len, ↓bb_ga, ↓bb_gl, ↓bb_go, ↓bb_pf, ↓bb_pz, ↓bb_pr, ↓bb_pa, ↓bb_pb, ↓bb_pl, ↓bb_po, ↓bb_cl, ↓bb_some, ↓bb_RI, ↓bb_RJ, mm_hI, mm_hJ, mm_hR, mm_nI, mm_nJ, mm_nR, mm_sI, mm_sJ, mm_sR, mm_RI, mm_RJ, mm_IJ, mm_IR, mm_JI, mm_JR, mm_II, mm_JJ, mm_RR, nI_ltI, nI_1, hm'.1, hy'.1, le, ↓bS (mo_changes hm'), mh_changes hm', z1, c1, v1, ↓bS (mo_other hm'), mh_other hm', pi, z2, c2, x1, ↓bS (mo_now hm'), mh_now hm', pj, z3, z4, c3, y1, ne, q1', v2, q2']
            exact this
          · have := step (zD xs ys i (j + 1) + 1) (by rw [es]; omega)
            have q1' : zD xs ys i (j + 1) < zD xs ys i j := by omega
            have q2' : ¬ zD xs ys (i + 1) j < zD xs ys i (j + 1) := by omega
            simp (disch := omega) [L_Mo_changesOf_49, -Prod.exists, -Prod.forall, ↓bb_gf, ↓bb_gr, ↓bb_len, ↓bb_ga, ↓bb_gl, ↓bb_go, ↓bb_pf, ↓bb_pz, ↓bb_pr, ↓bb_pa, ↓bb_pb, ↓bb_pl, ↓bb_po, ↓bb_cl, ↓bb_some, ↓bb_RI, ↓bb_RJ, mm_hI, mm_hJ, mm_hR, mm_nI, mm_nJ, mm_nR, mm_sI, mm_sJ, mm_sR, mm_RI, mm_RJ, mm_IJ, mm_IR, mm_JI, mm_JR, mm_II, mm_JJ, mm_RR, nI_ltI, nI_1, hm'.1, hy'.1, le, ↓bS (mo_changes hm'), mh_changes hm', z1, c1, v1, ↓bS (mo_other hm'), mh_other hm', pi, z2, c2, x1, ↓bS (mo_now hm'), mh_now hm', pj, z3, z4, c3, y1, ne, q1', v2, q2']
            exact this
        · by_cases q2 : zD xs ys (i + 1) j + 1 < zD xs ys i j + 1
          · have := step (zD xs ys (i + 1) j + 1) (by rw [es]; omega)
            have q1' : ¬ zD xs ys i (j + 1) < zD xs ys i j := by omega
            have q2' : zD xs ys (i + 1) j < zD xs ys i j := by omega
            simp (disch := omega) [L_Mo_changesOf_49, -Prod.exists, -Prod.forall, ↓bb_gf, ↓bb_gr, ↓bb_len, ↓bb_ga, ↓bb_gl, ↓bb_go, ↓bb_pf, ↓bb_pz, ↓bb_pr, ↓bb_pa, ↓bb_pb, ↓bb_pl, ↓bb_po, ↓bb_cl, ↓bb_some, ↓bb_RI, ↓bb_RJ, mm_hI, mm_hJ, mm_hR, mm_nI, mm_nJ, mm_nR, mm_sI, mm_sJ, mm_sR, mm_RI, mm_RJ, mm_IJ, mm_IR, mm_JI, mm_JR, mm_II, mm_JJ, mm_RR, nI_ltI, nI_1, hm'.1, hy'.1, le, ↓bS (mo_changes hm'), mh_changes hm', z1, c1, v1, ↓bS (mo_other hm'), mh_other hm', pi, z2, c2, x1, ↓bS (mo_now hm'), mh_now hm', pj, z3, z4, c3, y1, ne, q1', v2, q2']
            exact this
          · have := step (zD xs ys i j + 1) (by rw [es]; omega)
            have q1' : ¬ zD xs ys i (j + 1) < zD xs ys i j := by omega
            have q2' : ¬ zD xs ys (i + 1) j < zD xs ys i j := by omega
            simp (disch := omega) [L_Mo_changesOf_49, -Prod.exists, -Prod.forall, ↓bb_gf, ↓bb_gr, ↓bb_len, ↓bb_ga, ↓bb_gl, ↓bb_go, ↓bb_pf, ↓bb_pz, ↓bb_pr, ↓bb_pa, ↓bb_pb, ↓bb_pl, ↓bb_po, ↓bb_cl, ↓bb_some, ↓bb_RI, ↓bb_RJ, mm_hI, mm_hJ, mm_hR, mm_nI, mm_nJ, mm_nR, mm_sI, mm_sJ, mm_sR, mm_RI, mm_RJ, mm_IJ, mm_IR, mm_JI, mm_JR, mm_II, mm_JJ, mm_RR, nI_ltI, nI_1, hm'.1, hy'.1, le, ↓bS (mo_changes hm'), mh_changes hm', z1, c1, v1, ↓bS (mo_other hm'), mh_other hm', pi, z2, c2, x1, ↓bS (mo_now hm'), mh_now hm', pj, z3, z4, c3, y1, ne, q1', v2, q2']
            exact this
theorem mc_25 (hm : sMo S0 M) (hx : pOth S0 M xs) (hy : pNow S0 M ys) : ∀ d F i (S : zM), d + i = xs.length → d < F → zfr (fun b j => b = M + 31) S0 S → (∀ k, k ≤ ys.length → zI S (M + 31) k = nI (zD xs ys i k)) → ∃ S', L_Mo_changesOf_25 F M (nI (i + 1)) S = some (nI (zD xs ys xs.length ys.length), S') ∧ zfr (fun b j => b = M + 31) S0 S' := by
  have hy60 := hy.2.2.2
  have hx60 := hx.2.2.2
  intro d
  induction d with
  | zero =>
    intro F i S hd hF hf hv
    obtain ⟨hm', hx', hy'⟩ := mc_k hf hm hx hy
    cases F with
    | zero => omega
    | succ F =>
      have ei : i = xs.length := by omega
      subst ei
      have nle : ¬ nI (xs.length + 1) ≤ nI xs.length := fun z => by have := (nI_leI (by omega) (by omega)).1 z; omega
      have z1 : zinb (nI ys.length) 61 = true := (nn_in (by omega)).2 (by omega)
      have c1 : (nI ys.length).toNatClampNeg = ys.length := nI_clamp (by omega)
      refine ⟨S, ?_, hf⟩
      have v := hv ys.length (by omega)
      simp [L_Mo_changesOf_25, -Prod.exists, -Prod.forall, ↓bb_gf, ↓bb_gr, ↓bb_len, ↓bb_ga, ↓bb_gl, ↓bb_go, ↓bb_pf, ↓bb_pz, ↓bb_pr, ↓bb_pa, ↓bb_pb, ↓bb_pl, ↓bb_po, ↓bb_cl, ↓bb_some, ↓bb_RI, ↓bb_RJ, mm_hI, mm_hJ, mm_hR, mm_nI, mm_nJ, mm_nR, mm_sI, mm_sJ, mm_sR, mm_RI, mm_RJ, mm_IJ, mm_IR, mm_JI, mm_JR, mm_II, mm_JJ, mm_RR, hm'.1, hx'.1, nle, ↓bS (mo_changes hm'), hy'.1, mh_changes hm', z1, c1, v]
  | succ d ih =>
    intro F i S hd hF hf hv
    obtain ⟨hm', hx', hy'⟩ := mc_k hf hm hx hy
    cases F with
    | zero => omega
    | succ F =>
      have hi : i < xs.length := by omega
      have le : nI (i + 1) ≤ nI xs.length := (nI_leI (by omega) (by omega)).2 (by omega)
      have fw : zfr (fun b j => b = M + 31) S (zwI S (M + 31) 0 (nI (i + 1))) := fr_wI _ _ rfl
      have key := mc_49 hm hx hy (k158 := F_Mo_changesOf_158 (L_Mo_changesOf_25 F)) hi (fun o => ∃ S', o = some (nI (zD xs ys xs.length ys.length), S') ∧ zfr (fun b j => b = M + 31) S0 S') (fun S3 g1 g2 => by
        simp only [F_Mo_changesOf_158]
        rw [nI_1]
        exact ih F (i + 1) S3 (by omega) (by omega) g1 g2) ys.length zF 0 (zwI S (M + 31) 0 (nI (i + 1))) (by omega) (by rw [zF_eq]; omega) (fr_trans hf fw) (fun k hk => by
          rw [mm_II]
          by_cases hk0 : k = 0
          · subst hk0; simp [D_s0]
          · simp [hk0]; rw [hv k hk])
      have v0 := hv 0 (by omega)
      rw [D_i0] at v0 key
      have z0 : zinb 0 61 = true := by decide
      have c0 : (0 : Int32).toNatClampNeg = 0 := by decide
      obtain ⟨S', k1, k2⟩ := key
      refine ⟨S', ?_, k2⟩
      rw [← k1]
      simp [L_Mo_changesOf_25, -Prod.exists, -Prod.forall, ↓bb_gf, ↓bb_gr, ↓bb_len, ↓bb_ga, ↓bb_gl, ↓bb_go, ↓bb_pf, ↓bb_pz, ↓bb_pr, ↓bb_pa, ↓bb_pb, ↓bb_pl, ↓bb_po, ↓bb_cl, ↓bb_some, ↓bb_RI, ↓bb_RJ, mm_hI, mm_hJ, mm_hR, mm_nI, mm_nJ, mm_nR, mm_sI, mm_sJ, mm_sR, mm_RI, mm_RJ, mm_IJ, mm_IR, mm_JI, mm_JR, mm_II, mm_JJ, mm_RR, hm'.1, hx'.1, le, ↓bS (mo_changes hm'), mh_changes hm', z0, c0, v0]
      rfl
theorem mc_2 (hm : sMo S0 M) (hx : pOth S0 M xs) (hy : pNow S0 M ys) : ∀ d F i (S : zM), d + i = ys.length + 1 → d < F → zfr (fun b j => b = M + 31) S0 S → (∀ k, k < i → zI S (M + 31) k = nI k) → ∃ S', L_Mo_changesOf_2 (F_Mo_changesOf_23 (L_Mo_changesOf_25 zF)) F M (nI i) S = some (nI (zD xs ys xs.length ys.length), S') ∧ zfr (fun b j => b = M + 31) S0 S' := by
  have hy60 := hy.2.2.2
  have hx60 := hx.2.2.2
  intro d
  induction d with
  | zero =>
    intro F i S hd hF hf hv
    obtain ⟨hm', hx', hy'⟩ := mc_k hf hm hx hy
    cases F with
    | zero => omega
    | succ F =>
      have nle : ¬ nI i ≤ nI ys.length := fun z => by have := (nI_leI (by omega) (by omega)).1 z; omega
      obtain ⟨S', k1, k2⟩ := mc_25 hm hx hy xs.length zF 0 S (by omega) (by rw [zF_eq]; omega) hf (fun k hk => by rw [D_0]; exact hv k (by omega))
      refine ⟨S', ?_, k2⟩
      rw [← k1]
      simp [L_Mo_changesOf_2, -Prod.exists, -Prod.forall, ↓bb_gf, ↓bb_gr, ↓bb_len, ↓bb_ga, ↓bb_gl, ↓bb_go, ↓bb_pf, ↓bb_pz, ↓bb_pr, ↓bb_pa, ↓bb_pb, ↓bb_pl, ↓bb_po, ↓bb_cl, ↓bb_some, ↓bb_RI, ↓bb_RJ, mm_hI, mm_hJ, mm_hR, mm_nI, mm_nJ, mm_nR, mm_sI, mm_sJ, mm_sR, mm_RI, mm_RJ, mm_IJ, mm_IR, mm_JI, mm_JR, mm_II, mm_JJ, mm_RR, hm'.1, hy'.1, nle, F_Mo_changesOf_23]
      rfl
  | succ d ih =>
    intro F i S hd hF hf hv
    obtain ⟨hm', hx', hy'⟩ := mc_k hf hm hx hy
    cases F with
    | zero => omega
    | succ F =>
      have le : nI i ≤ nI ys.length := (nI_leI (by omega) (by omega)).2 (by omega)
      have z1 : zinb (nI i) 61 = true := (nn_in (by omega)).2 (by omega)
      have c1 : (nI i).toNatClampNeg = i := nI_clamp (by omega)
      obtain ⟨S', k1, k2⟩ := ih F (i + 1) (zwI S (M + 31) i (nI i)) (by omega) (by omega) (fr_trans hf (fr_wI _ _ rfl)) (fun k hk => by
        rw [mm_II]
        by_cases hki : k = i
        · subst hki; simp
        · simp [hki]; exact hv k (by omega))
      refine ⟨S', ?_, k2⟩
      rw [← k1]
      simp [L_Mo_changesOf_2, -Prod.exists, -Prod.forall, ↓bb_gf, ↓bb_gr, ↓bb_len, ↓bb_ga, ↓bb_gl, ↓bb_go, ↓bb_pf, ↓bb_pz, ↓bb_pr, ↓bb_pa, ↓bb_pb, ↓bb_pl, ↓bb_po, ↓bb_cl, ↓bb_some, ↓bb_RI, ↓bb_RJ, mm_hI, mm_hJ, mm_hR, mm_nI, mm_nJ, mm_nR, mm_sI, mm_sJ, mm_sR, mm_RI, mm_RJ, mm_IJ, mm_IR, mm_JI, mm_JR, mm_II, mm_JJ, mm_RR, hm'.1, hy'.1, le, ↓bS (mo_changes hm'), mh_changes hm', z1, c1, nI_1]
theorem m_changes (hm : sMo S M) (hx : pOth S M xs) (hy : pNow S M ys) : ∃ S', f_Mo_changesOf M S = some (nI (zD xs ys xs.length ys.length), S') ∧ zfr (fun b j => b = M + 31) S S' := by
  have hy60 := hy.2.2.2
  exact mc_2 hm hx hy (ys.length + 1) zF 0 S (by omega) (by rw [zF_eq]; omega) (fr_refl _ _) (fun k hk => by omega)
end
