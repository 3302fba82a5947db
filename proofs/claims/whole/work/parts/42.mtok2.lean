/-! the reference's reader: what a token is -/
theorem tk_1 {s : Nat} (h : s < 5) : (tkM s = 2 ↔ s = 1) ∧ (tkM s = 3 ↔ s = 2) ∧ (tkM s = 59 ↔ s = 3) ∧ (tkM s = 0 ↔ s = 0) ∧ tkM s < 100 := by
  have : s = 0 ∨ s = 1 ∨ s = 2 ∨ s = 3 ∨ s = 4 := by omega
  rcases this with e | e | e | e | e <;> subst e <;> decide
section
variable {S S0 : zM} {M : Nat} {tx : List Nat} {t : zTk}
theorem m_next0 (h : bMr S0 M tx) {pos : Nat} (h2 : zI S0 M 24 = nI pos) (hp : pos ≤ tx.length) : ∃ S', f_Mo_goesOn M S0 = some S' ∧ zfr (wMr M) S0 S' ∧ pMr S' M tx (znext tx pos) := by
  have h900 := h.2.2.2.1
  have nw := next_w (tx := tx) hp
  refine mgo_0 h (fun o => ∃ S', o = some S' ∧ zfr (wMr M) S0 S' ∧ pMr S' M tx (znext tx pos)) tx.length zF pos S0 (by omega) (by rw [zF_eq]; omega) hp (fr_refl _ _) h2 (fun S1 f1 e1 => ?_)
  obtain ⟨s, hs⟩ : ∃ s, s = zskip tx tx.length pos := ⟨_, rfl⟩
  rw [← hs] at e1
  have hsl : s ≤ tx.length := by rw [hs]; exact (skip_le tx tx.length pos).2 hp
  have nx : znext tx pos = if tx.length ≤ s then (s, s, 0) else if zkd (lg tx s) = 1 ∨ zkd (lg tx s) = 2 then (s, zrun tx (zkd (lg tx s)) tx.length (s + 1), if zrun tx (zkd (lg tx s)) tx.length (s + 1) - s > (if zkd (lg tx s) = 1 then 7 else 1) then 4 else zkd (lg tx s)) else (s, s + 1, zkd (lg tx s)) := by
    rw [hs]; rfl
  have hb1 := bMr_w h f1
  obtain ⟨S2, hS2⟩ : ∃ S2, S2 = zwI S1 M 23 (nI s) := ⟨_, rfl⟩
  have f2 : zfr (wMr M) S0 S2 := by rw [hS2]; exact fr_trans f1 (fr_wI _ _ (by unfold wMr; omega))
  have hb2 := bMr_w h f2
  have i24 : zI S2 M 24 = nI s := by rw [hS2]; simp [mm_II, e1]
  have i23 : zI S2 M 23 = nI s := by rw [hS2]; simp [mm_II]
  have se := m_see hb2 (k := s) (by omega)
  rw [← i24] at se
  -- the end
  have ok : ∀ (S3 : zM) (e v : Nat), zfr (wMr M) S0 S3 → zI S3 M 24 = nI e → zI S3 M 23 = nI s → zI S3 M 25 = nI (tkM v) → (v = 2 → zI S3 M 26 = nI (lg tx s - 48)) → znext tx pos = (s, e, v) → pMr S3 M tx (znext tx pos) := by
    intro S3 e v f3 a b c d en
    refine ⟨bMr_w h f3, ?_, ?_, ?_, nw.1, ?_⟩
    · rw [en]; exact a
    · rw [en]; exact b
    · rw [en]; exact c
    · rw [en]; exact d
  have h2r : zh S2 M = (12, 0) := hb2.1.1
  have h1r : zh S1 M = (12, 0) := hb1.1.1
  by_cases hlt : s < tx.length
  · rw [if_pos hlt] at se
    rw [if_neg (by omega)] at nx
    have c8 := h.2.2.2.2 s
    have n1 : ¬ nI (lg tx s) = -1 := fun z => (nn_eqm (m := 1) (by omega) (by omega) (by omega)).1 z
    have ia : f_Mo_in (nI (lg tx s)) 97 122 S2 = some (if 97 ≤ lg tx s ∧ lg tx s ≤ 122 then 1 else 0, S2) := m_in (lo := 97) (hi := 122) (by omega) (by omega) (by omega)
    have id : f_Mo_in (nI (lg tx s)) 48 57 S2 = some (if 48 ≤ lg tx s ∧ lg tx s ≤ 57 then 1 else 0, S2) := m_in (lo := 48) (hi := 57) (by omega) (by omega) (by omega)
    by_cases k1 : 97 ≤ lg tx s ∧ lg tx s ≤ 122
    · rw [if_pos k1] at ia
      have z1 := (kd1 _).2 k1
      rw [z1] at nx
      simp only [true_or, if_true] at nx
      have pre : F_Mo_goesOn_26 (L_Mo_goesOn_65 F_Mo_goesOn_96 zF) (L_Mo_goesOn_136 F_Mo_goesOn_200 zF) M S1 = L_Mo_goesOn_65 F_Mo_goesOn_96 zF M S2 := by
        unfold F_Mo_goesOn_26
        simp only [↓bb_gf, ↓bb_pf, h1r, if_true, e1]
        rw [← hS2]
        simp only [↓bb_gf, ↓bb_cl, h2r, if_true, ↓bS se, n1, if_false, ↓bS ia]
        rw [if_neg (by decide)]
      rw [pre]
      have er : zrun tx 1 tx.length (s + 1) = zrun tx 1 (tx.length + 1) s := by rw [zrun, if_pos ⟨hlt, z1⟩]
      refine mgo_65 h (fun o => ∃ S', o = some S' ∧ zfr (wMr M) S0 S' ∧ pMr S' M tx (znext tx pos)) (tx.length + 1) zF s S2 (by omega) (by rw [zF_eq]; omega) hsl f2 i24 (fun S3 f3 b2 b3 => ?_)
      rw [← er] at b2
      rw [i23] at b3
      have rl := run_le tx 1 tx.length (s + 1)
      obtain ⟨e, he⟩ : ∃ e, e = zrun tx 1 tx.length (s + 1) := ⟨_, rfl⟩
      rw [← he] at b2 rl nx
      have re := rl.2.1 (by omega)
      have esub : nI e - nI s = nI (e - s) := pk_sub (by omega)
      have hh3 : zh S3 M = (12, 0) := by rw [fr_h f3]; exact h.1.1
      by_cases hb : e - s > 7
      · rw [if_pos hb] at nx
        refine ⟨zwI S3 M 25 1, ?_, fr_trans f3 (fr_wI _ _ (by unfold wMr; omega)), ok _ e 4 (fr_trans f3 (fr_wI _ _ (by unfold wMr; omega))) (by simp [mm_II, b2]) (by simp [mm_II, b3]) (by simp [mm_II]; rfl) (fun z => by omega) nx⟩
        simp (disch := omega) [F_Mo_goesOn_96, -Prod.exists, -Prod.forall, ↓bb_gf, ↓bb_gr, ↓bb_len, ↓bb_ga, ↓bb_gl, ↓bb_go, ↓bb_pf, ↓bb_pz, ↓bb_pr, ↓bb_pa, ↓bb_pb, ↓bb_pl, ↓bb_po, ↓bb_cl, ↓bb_some, ↓bb_RI, ↓bb_RJ, mm_hI, mm_hJ, mm_hR, mm_nI, mm_nJ, mm_nR, mm_sI, mm_sJ, mm_sR, mm_RI, mm_RJ, mm_IJ, mm_IR, mm_JI, mm_JR, mm_II, mm_JJ, mm_RR, nn_lit, nI_add, pk_mul, nI_clamp, nI_ltI, nI_leI, nI_eq, nn_in, nn_eqm, nn_meq, nn_ltm, nn_mlt, nn_lem, nn_mle, nn_in_m, hh3, b2, b3, esub, show ¬ e - s ≤ 7 by omega]
      · rw [if_neg hb] at nx
        refine ⟨zwI S3 M 25 2, ?_, fr_trans f3 (fr_wI _ _ (by unfold wMr; omega)), ok _ e 1 (fr_trans f3 (fr_wI _ _ (by unfold wMr; omega))) (by simp [mm_II, b2]) (by simp [mm_II, b3]) (by simp [mm_II]; rfl) (fun z => by omega) nx⟩
        simp (disch := omega) [F_Mo_goesOn_96, -Prod.exists, -Prod.forall, ↓bb_gf, ↓bb_gr, ↓bb_len, ↓bb_ga, ↓bb_gl, ↓bb_go, ↓bb_pf, ↓bb_pz, ↓bb_pr, ↓bb_pa, ↓bb_pb, ↓bb_pl, ↓bb_po, ↓bb_cl, ↓bb_some, ↓bb_RI, ↓bb_RJ, mm_hI, mm_hJ, mm_hR, mm_nI, mm_nJ, mm_nR, mm_sI, mm_sJ, mm_sR, mm_RI, mm_RJ, mm_IJ, mm_IR, mm_JI, mm_JR, mm_II, mm_JJ, mm_RR, nn_lit, nI_add, pk_mul, nI_clamp, nI_ltI, nI_leI, nI_eq, nn_in, nn_eqm, nn_meq, nn_ltm, nn_mlt, nn_lem, nn_mle, nn_in_m, hh3, b2, b3, esub, show e - s ≤ 7 by omega]
    · rw [if_neg k1] at ia
      by_cases k2 : 48 ≤ lg tx s ∧ lg tx s ≤ 57
      · rw [if_pos k2] at id
        have z2 := (kd2 _).2 k2
        rw [z2] at nx
        simp only [or_true, if_true, show ¬ 2 = 1 by omega, if_false] at nx
        obtain ⟨S2', hS2'⟩ : ∃ S2', S2' = zwI S2 M 26 (nI 0) := ⟨_, rfl⟩
        have f2' : zfr (wMr M) S0 S2' := by rw [hS2']; exact fr_trans f2 (fr_wI _ _ (by unfold wMr; omega))
        have pre : F_Mo_goesOn_26 (L_Mo_goesOn_65 F_Mo_goesOn_96 zF) (L_Mo_goesOn_136 F_Mo_goesOn_200 zF) M S1 = L_Mo_goesOn_136 F_Mo_goesOn_200 zF M S2' := by
          unfold F_Mo_goesOn_26
          simp only [↓bb_gf, ↓bb_pf, h1r, if_true, e1]
          rw [← hS2]
          simp only [↓bb_gf, ↓bb_cl, h2r, if_true, ↓bS se, n1, if_false, ↓bS ia, ↓bS id]
          rw [if_neg (by decide)]
          rw [hS2']; rfl
        rw [pre]
        have er : zrun tx 2 tx.length (s + 1) = zrun tx 2 (tx.length + 1) s := by rw [zrun, if_pos ⟨hlt, z2⟩]
        have rl := run_le tx 2 tx.length (s + 1)
        obtain ⟨e, he⟩ : ∃ e, e = zrun tx 2 tx.length (s + 1) := ⟨_, rfl⟩
        rw [← he] at rl nx
        refine mgo_136 h (fun o => ∃ S', o = some S' ∧ zfr (wMr M) S0 S' ∧ pMr S' M tx (znext tx pos)) hlt (tx.length + 1) zF s S2' (by omega) (by rw [zF_eq]; omega) (Nat.le_refl _) hsl f2' (by rw [hS2']; simp [mm_II, i24]) (by rw [hS2']; simp [mm_II, i23]) (fun z => by omega) (fun S3 f3 b2 b3 b6 => ?_)
        rw [← er, ← he] at b2 b6
        have re := rl.2.1 (by omega)
        have b6' := b6 (by omega)
        have esub : nI e - nI s = nI (e - s) := pk_sub (by omega)
        have hh3 : zh S3 M = (12, 0) := by rw [fr_h f3]; exact h.1.1
        by_cases hb : e - s > 1
        · rw [if_pos hb] at nx
          refine ⟨zwI S3 M 25 1, ?_, fr_trans f3 (fr_wI _ _ (by unfold wMr; omega)), ok _ e 4 (fr_trans f3 (fr_wI _ _ (by unfold wMr; omega))) (by simp [mm_II, b2]) (by simp [mm_II, b3]) (by simp [mm_II]; rfl) (fun z => by omega) nx⟩
          simp (disch := omega) [F_Mo_goesOn_200, -Prod.exists, -Prod.forall, ↓bb_gf, ↓bb_gr, ↓bb_len, ↓bb_ga, ↓bb_gl, ↓bb_go, ↓bb_pf, ↓bb_pz, ↓bb_pr, ↓bb_pa, ↓bb_pb, ↓bb_pl, ↓bb_po, ↓bb_cl, ↓bb_some, ↓bb_RI, ↓bb_RJ, mm_hI, mm_hJ, mm_hR, mm_nI, mm_nJ, mm_nR, mm_sI, mm_sJ, mm_sR, mm_RI, mm_RJ, mm_IJ, mm_IR, mm_JI, mm_JR, mm_II, mm_JJ, mm_RR, nn_lit, nI_add, pk_mul, nI_clamp, nI_ltI, nI_leI, nI_eq, nn_in, nn_eqm, nn_meq, nn_ltm, nn_mlt, nn_lem, nn_mle, nn_in_m, hh3, b2, b3, esub, show ¬ e - s ≤ 1 by omega]
        · rw [if_neg hb] at nx
          refine ⟨zwI S3 M 25 3, ?_, fr_trans f3 (fr_wI _ _ (by unfold wMr; omega)), ok _ e 2 (fr_trans f3 (fr_wI _ _ (by unfold wMr; omega))) (by simp [mm_II, b2]) (by simp [mm_II, b3]) (by simp [mm_II]; rfl) (fun z => by simp [mm_II, b6']) nx⟩
          simp (disch := omega) [F_Mo_goesOn_200, -Prod.exists, -Prod.forall, ↓bb_gf, ↓bb_gr, ↓bb_len, ↓bb_ga, ↓bb_gl, ↓bb_go, ↓bb_pf, ↓bb_pz, ↓bb_pr, ↓bb_pa, ↓bb_pb, ↓bb_pl, ↓bb_po, ↓bb_cl, ↓bb_some, ↓bb_RI, ↓bb_RJ, mm_hI, mm_hJ, mm_hR, mm_nI, mm_nJ, mm_nR, mm_sI, mm_sJ, mm_sR, mm_RI, mm_RJ, mm_IJ, mm_IR, mm_JI, mm_JR, mm_II, mm_JJ, mm_RR, nn_lit, nI_add, pk_mul, nI_clamp, nI_ltI, nI_leI, nI_eq, nn_in, nn_eqm, nn_meq, nn_ltm, nn_mlt, nn_lem, nn_mle, nn_in_m, hh3, b2, b3, esub, show e - s ≤ 1 by omega]
      · rw [if_neg k2] at id
        have z1 : ¬ zkd (lg tx s) = 1 := fun z => k1 ((kd1 _).1 z)
        have z2 : ¬ zkd (lg tx s) = 2 := fun z => k2 ((kd2 _).1 z)
        simp only [z1, z2, or_self, if_false] at nx
        have kv : zkd (lg tx s) = if lg tx s = 59 then 3 else 4 := by unfold zkd; rw [if_neg k1, if_neg k2]
        by_cases k3 : lg tx s = 59
        · rw [if_pos k3] at kv
          rw [kv] at nx
          rw [k3] at se ia id n1
          refine ⟨zwI (zwI S2 M 24 (nI (s + 1))) M 25 (nI 59), ?_, fr_trans f2 (fr_trans (fr_wI _ _ (by unfold wMr; omega)) (fr_wI _ _ (by unfold wMr; omega))), ok _ (s + 1) 3 (fr_trans f2 (fr_trans (fr_wI _ _ (by unfold wMr; omega)) (fr_wI _ _ (by unfold wMr; omega)))) (by simp [mm_II]) (by simp [mm_II, i23]) (by simp [mm_II]; rfl) (fun z => by omega) nx⟩
          unfold F_Mo_goesOn_26
          simp only [↓bb_gf, ↓bb_pf, h1r, if_true, e1]
          rw [← hS2]
          simp only [↓bb_gf, ↓bb_pf, ↓bb_cl, h2r, mm_hI, if_true, ↓bS se, n1, if_false, ↓bS ia, ↓bS id, i24, nI_1]
          rfl
        · rw [if_neg k3] at kv
          rw [kv] at nx
          have n59 : ¬ nI (lg tx s) = 59 := fun z => k3 ((nI_eq (b := 59) (by omega) (by omega)).1 z)
          refine ⟨zwI (zwI S2 M 24 (nI (s + 1))) M 25 1, ?_, fr_trans f2 (fr_trans (fr_wI _ _ (by unfold wMr; omega)) (fr_wI _ _ (by unfold wMr; omega))), ok _ (s + 1) 4 (fr_trans f2 (fr_trans (fr_wI _ _ (by unfold wMr; omega)) (fr_wI _ _ (by unfold wMr; omega)))) (by simp [mm_II]) (by simp [mm_II, i23]) (by simp [mm_II]; rfl) (fun z => by omega) nx⟩
          unfold F_Mo_goesOn_26
          simp only [↓bb_gf, ↓bb_pf, h1r, if_true, e1]
          rw [← hS2]
          simp only [↓bb_gf, ↓bb_pf, ↓bb_cl, h2r, mm_hI, if_true, ↓bS se, n1, if_false, ↓bS ia, ↓bS id, i24, nI_1, n59]
  · rw [if_neg hlt] at se
    rw [if_pos (by omega)] at nx
    refine ⟨zwI S2 M 25 0, ?_, fr_trans f2 (fr_wI _ _ (by unfold wMr; omega)), ok _ s 0 (fr_trans f2 (fr_wI _ _ (by unfold wMr; omega))) (by simp [mm_II, i24]) (by simp [mm_II, i23]) (by simp [mm_II]; rfl) (fun z => by omega) nx⟩
    unfold F_Mo_goesOn_26
    simp only [↓bb_gf, ↓bb_pf, h1r, if_true, e1]
    rw [← hS2]
    simp only [↓bb_gf, ↓bb_pf, ↓bb_cl, h2r, if_true, ↓bS se]
theorem m_next (h : pMr S M tx t) : ∃ S', f_Mo_goesOn M S = some S' ∧ zfr (wMr M) S S' ∧ pMr S' M tx (znext tx t.2.1) := m_next0 h.1 h.2.1 h.2.2.2.2.1.2.1
end
