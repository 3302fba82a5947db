/-! a carrying that is kept -/
def sCa (w : zWs) (c : Option zCa) : zWs := (w.1, w.2.1, w.2.2.1, w.2.2.2.1, c, w.2.2.2.2.2.1, w.2.2.2.2.2.2.1, w.2.2.2.2.2.2.2)
def zca4 (r : Nat × List Nat × (Nat → List Nat) × (Nat → Nat) × List Nat) : zCa := (r.2.1, r.2.2.1, r.2.2.2.1, r.2.2.2.2)
theorem okW_ca {w : zWs} {c : Option zCa} (h : okW w) (hc : ∀ d, c = some d → l8 d.1 ∧ d.1.length ≤ 60 ∧ ∀ q, l8 (d.2.1 q) ∧ (d.2.1 q).length ≤ 60) : okW (sCa w c) := by
  obtain ⟨a1, a2, a3, a4, a5, a6, a7, a8⟩ := h
  exact ⟨a1, a2, a3, a4, a5, hc, a7, a8⟩
def sp_carry (x : Int64) (w : zWs) : Int32 × zWs := if (wSc w).2.2.length = 0 then zrf (sCa w none) 1 else match zwl x with
  | none => zrf (sCa w none) 2
  | some row => if (zcw w false row).1 = 0 then zan (sCa w (some (zca4 (zcw w false row)))) (nI (zcw w false row).2.1.length) else zrf (sCa w none) (zcw w false row).1
theorem hk_carry (x : Int64) : zHk (sp_carry x) := fun S w ho hp => by
  have on : okW (sCa w none) := okW_ca ho (fun d q => by cases q)
  unfold sp_carry at hp ⊢
  by_cases q : (wSc w).2.2.length = 0
  · rw [if_pos q]; exact okW_tr on (by omega)
  · rw [if_neg q] at hp ⊢
    cases ex : zwl x with
    | none => exact okW_tr on (by omega)
    | some row =>
      rw [ex] at hp
      have cc := zcw_code w false row
      simp only at hp ⊢
      by_cases q1 : (zcw w false row).1 = 0
      · rw [if_pos q1] at hp ⊢
        obtain ⟨T, U, hm, _⟩ := hp
        have wps : wPs (wSc w).2.2 := hm.2.2.1.1.2.2.2.2.2.2.2.2.2
        have r8 := (wl_w ex).2.1
        have w1 := car_w wps (asd := wAs w) (tn := false) (wl_w ex).1 (show row.length ≤ 60 by omega)
        have w2 := al_bh wps (asd := wAs w) (tn := false) (wl_w ex).1 (show row.length ≤ 60 by omega) _ (Nat.le_refl _)
        exact okW_tr (okW_ca ho (fun d q => by cases q; exact ⟨w1.1, w1.2, w2⟩)) (by omega)
      · rw [if_neg q1] at hp ⊢
        exact okW_tr on (by omega)
/-- what carrying may touch -/
def wCr (b j : Nat) : Prop := wSr b j ∨ (b = 1 ∧ j = 17) ∨ (5 ≤ b ∧ b < 19)
def vCr (b j : Nat) : Prop := vSr b j ∨ (5 ≤ b ∧ b < 19)
theorem cMn_ca {S S' : zM} {w : zWs} {T U : Nat} {c : Option zCa} (h : cMn S w T U) (hf : zfq wCr vCr S S') (e : zI S' 1 17 = if c.isSome then 1 else 0) (hl : cLt S' (sCa w c)) : cMn S' (sCa w c) T U := by
  obtain ⟨a1, a2, a3, a4, a5⟩ := h
  have hTU := a1.2.2.2.2.2.2.2.2.2.2.2.2.2.2.2.2.2.2.2.1
  have nV : ∀ b j, (b < 19 ∨ 62 ≤ b) ∧ ¬ (5 ≤ b ∧ b < 19) → ¬ vCr b j := fun b j q r => by unfold vCr vSr at r; omega
  have nW : ∀ b j, (b = 1 ∧ j ≠ 16 ∧ j ≠ 17) ∨ (b ≠ 1 ∧ (b < 5 ∨ 62 ≤ b)) → ¬ wCr b j := fun b j q r => by unfold wCr wSr at r; omega
  obtain ⟨d1, d2, d3, d4, d5, d6, d7⟩ := a2
  refine ⟨cRf_fq a1 hf (fun j _ => nV _ _ (by omega)) (nV _ _ (by omega)), ⟨by rw [fq_I hf (nW _ _ (by omega))]; exact d1, fun k hk => by rw [fq_I hf (nW _ _ (by omega))]; exact d2 k hk, by rw [fq_I hf (nW _ _ (by omega))]; exact d3, fun k hk => by rw [fq_I hf (nW _ _ (by omega))]; exact d4 k hk, by rw [fq_I hf (nW _ _ (by omega))]; exact d5, by rw [fq_I hf (nW _ _ (by omega))]; exact d6, e⟩, cSp_fq a3 hf hTU (fun b j q r => ⟨nW _ _ (by omega), nV _ _ (by omega)⟩), hl, ?_⟩
  rcases a5 with q | ⟨E, K, B, q, e⟩
  · left; exact ⟨by rw [fq_R hf (nV _ _ (by omega))]; exact q.1, fz_fq q.2 hf (fun b j r => by
      rcases r with r | r
      · unfold wCr wSr at r; omega
      · unfold vCr vSr at r; omega) a1.2.2.2.2.2.2.2.2.2.2.2.2.2.2.2.2.2.2.2.2⟩
  · right
    refine ⟨E, K, B, by rw [fq_R hf (nV _ _ (by omega))]; exact q, eCe_low e hf (fun b j h => ?_)⟩
    rcases h with h | h
    · unfold wCr wSr at h; omega
    · unfold vCr vSr at h; omega
theorem sr_cr {S S' : zM} (g : zfq wSr vSr S S') : zfq wCr vCr S S' := fq_mono g (fun b j q => Or.inl q) (fun b j q => Or.inl q)
theorem hc_endc {S S1 : zM} {w : zWs} {T U : Nat} {c : Option zCa} (h : cMn S1 (sCa w c) T U) (hf : zfq wCr vCr S S1) (hs : cSr S1) (t : Nat) : pCl (zwI S1 1 16 (nI t)) (sTr (sCa w c) t) ∧ zko S (zwI S1 1 16 (nI t)) ∧ zrm S (zwI S1 1 16 (nI t)) := by
  have g : zfq wCr vCr S (zwI S1 1 16 (nI t)) := fq_trans hf (fq_fr (fr_wI _ _ (Or.inl (Or.inl ⟨rfl, rfl⟩))))
  refine ⟨cl_end h hs t, ko_fq g (fun b j q => ?_), Or.inl ⟨fq_R g (by unfold vCr vSr; omega), fq_n g, fq_s g⟩⟩
  rcases q with q | q
  · unfold wCr wSr at q; omega
  · unfold vCr vSr at q; omega
theorem hc_carry (x : Int64) : zHc (f_Cl_carry 1 x) (sp_carry x) := fun S w h ho => by
  obtain ⟨T, U, hm, hs, ht⟩ := h; have h1 := hm.1.1; have r10 := r_told hm; have hS := hm.2.2.1.1; obtain ⟨e0, e1⟩ := hc_same hm hs 0; obtain ⟨f0, f1⟩ := hc_same hm hs 1; have h3 := ho.2.2.2.2.2.2.2.2.1
  have fz : zfr (fun b j => b = 1 ∧ j = 17) S (zwI S 1 17 0) := fr_wI _ _ ⟨rfl, rfl⟩
  have gz : zfq wCr vCr S (zwI S 1 17 0) := fq_fr (fr_mono fz (fun b j q => Or.inr (Or.inl q)))
  have lz : cLt (zwI S 1 17 0) (sCa w none) := by
    obtain ⟨x, y, a, _⟩ := hm.2.2.2.1
    exact ⟨x, y, aCar_sm (lo := 5) (hi := 19) a (sm_fr fz (fun b j h1 h2 => by omega)) (by omega) (by omega), fun c q => by cases q⟩
  have mz : cMn (zwI S 1 17 0) (sCa w none) T U := cMn_ca hm gz (by simp [-Prod.exists, -Prod.forall, zgf, zgr, zpf, zpz, zpr, zga, zgl, zgo, zpa, zpb, zpl, zpo, mm_len, zcl, Option.bind_some, Option.bind_none, mm_hI, mm_hJ, mm_hR, mm_nI, mm_nJ, mm_nR, mm_sI, mm_sJ, mm_sR, mm_RI, mm_RJ, mm_IJ, mm_IR, mm_JI, mm_JR, mm_II, mm_JJ, mm_RR]) lz
  have sz : cSr (zwI S 1 17 0) := cSr_fq hs (fq_fr (V := fun _ _ => False) fz) (fun b j h1 h2 => ⟨by omega, fun x => x⟩)
  have on : okW (sCa w none) := okW_ca ho (fun d q => by cases q)
  have ns := cl_ns mz on
  have hTU := hm.1.2.2.2.2.2.2.2.2.2.2.2.2.2.2.2.2.2.2.2.1
  unfold sp_carry
  by_cases q : (wSc w).2.2.length = 0
  · rw [if_pos q]
    have ns' : f_Cl_noScript 1 (zwI S 1 17 0) = some (1, zwI S 1 17 0) := by rw [ns]; simp only [show (wSc (sCa w none)).2.2.length = 0 from q, if_true]
    obtain ⟨y1, y2⟩ := hc_endc mz gz sz 1
    exact ⟨_, by simp [f_Cl_carry, -Prod.exists, -Prod.forall, ↓bb_gf, ↓bb_gr, ↓bb_len, ↓bb_ga, ↓bb_gl, ↓bb_go, ↓bb_pf, ↓bb_pz, ↓bb_pr, ↓bb_pa, ↓bb_pb, ↓bb_pl, ↓bb_po, ↓bb_cl, ↓bb_some, ↓bb_RI, ↓bb_RJ, mm_hI, mm_hJ, mm_hR, mm_nI, mm_nJ, mm_nR, mm_sI, mm_sJ, mm_sR, mm_RI, mm_RJ, mm_IJ, mm_IR, mm_JI, mm_JR, mm_II, mm_JJ, mm_RR, h1, ↓bS ns', ↓bS (cl_refuse mz.1.1 1), zrf] <;> rfl, y1, y2⟩
  · rw [if_neg q]
    have ns' : f_Cl_noScript 1 (zwI S 1 17 0) = some (0, zwI S 1 17 0) := by rw [ns, if_neg (show ¬ (wSc (sCa w none)).2.2.length = 0 from q)]
    obtain ⟨S2, us, t1, t2, t3, t4, t5, t6⟩ := cl_take mz sz x
    have g2 : zfq wCr vCr S S2 := fq_trans gz (fq_fr (fr_mono t2 (fun b j q => by unfold rg at q; unfold wCr wSr; omega)))
    have h33 : zh (zwI S 1 17 0) 33 = (8, 0) := by obtain ⟨_, ⟨ws, r⟩, _⟩ := sz; exact r.1
    have h33' : zh S 33 = (8, 0) := by obtain ⟨_, ⟨ws, r⟩, _⟩ := hs; exact r.1
    have rt : zR S 1 4 = some 33 := r_tak hm
    cases ex : zwl x with
    | none =>
      rw [ex] at t1
      simp only [Option.isSome_none, Bool.false_eq_true, if_false] at t1
      obtain ⟨y1, y2⟩ := hc_endc t5 g2 t6 2
      exact ⟨_, by simp [f_Cl_carry, -Prod.exists, -Prod.forall, ↓bb_gf, ↓bb_gr, ↓bb_len, ↓bb_ga, ↓bb_gl, ↓bb_go, ↓bb_pf, ↓bb_pz, ↓bb_pr, ↓bb_pa, ↓bb_pb, ↓bb_pl, ↓bb_po, ↓bb_cl, ↓bb_some, ↓bb_RI, ↓bb_RJ, mm_hI, mm_hJ, mm_hR, mm_nI, mm_nJ, mm_nR, mm_sI, mm_sJ, mm_sR, mm_RI, mm_RJ, mm_IJ, mm_IR, mm_JI, mm_JR, mm_II, mm_JJ, mm_RR, h1, ↓bS ns', ↓bS rt, h33', ↓bS t1, t5.1.1, ↓bS (cl_refuse t5.1.1 2), zrf] <;> rfl, y1, y2⟩
    | some row =>
      rw [ex] at t1
      simp only [Option.isSome_some, if_true] at t1
      have := t4 row ex
      subst this
      have r8 := (wl_w ex).2.1
      obtain ⟨x0, y0, hc, _⟩ := t5.2.2.2.1
      obtain ⟨S3, x', y', b1, b2, b3, b4, b5⟩ := bring false t5.2.2.1.1 (by omega) hc t3 (by omega) (by omega)
      simp only [Bool.false_eq_true, if_false] at b1
      have b1 : f_Carrier_bring 5 T 33 0 S2 = some (nI (zcw w false row).1, S3) := b1
      have b4 : pSv S3 5 (zcw w false row).2.2.2.2 := b4
      have b5 : (zcw w false row).1 = 0 → pRow S3 x' 60 (zcw w false row).2.1 ∧ ∀ q, q < (wSc w).2.2.length → pRow S3 (5 + 8 + 2 * q) 60 ((zcw w false row).2.2.1 q) ∧ zI S3 (5 + 2) q = nI ((zcw w false row).2.2.2.1 q) := b5
      have g3' : zfq wCr vCr S2 S3 := fq_mono b2 (fun b j q => by unfold rg at q; unfold wCr; omega) (fun b j q => by unfold vPd at q; unfold vCr; omega)
      have g3 : zfq wCr vCr S S3 := fq_trans g2 g3'
      have s3 : cSr S3 := cSr_fq t6 b2 (fun b j h1 h2 => ⟨by unfold rg; omega, by unfold vPd; omega⟩)
      have hx3 : zR S3 5 3 = some x' := b3.1.2.2.2.2.2.2.2.2.1
      have hx4 : (x' = 5 + 4 ∧ y' = 5 + 6) ∨ (x' = 5 + 6 ∧ y' = 5 + 4) := b3.1.2.2.2.2.2.2.2.2.2.2
      have c17 : zI S3 1 17 = 0 := by rw [fq_I b2 (by unfold rg; omega), fr_I t2 (by unfold rg; omega)]; simp [-Prod.exists, -Prod.forall, zgf, zgr, zpf, zpz, zpr, zga, zgl, zgo, zpa, zpb, zpl, zpo, mm_len, zcl, Option.bind_some, Option.bind_none, mm_hI, mm_hJ, mm_hR, mm_nI, mm_nJ, mm_nR, mm_sI, mm_sJ, mm_sR, mm_RI, mm_RJ, mm_IJ, mm_IR, mm_JI, mm_JR, mm_II, mm_JJ, mm_RR]
      have m3 : cMn S3 (sCa w none) T U := cMn_ca (c := none) hm g3 c17 ⟨x', y', b3, fun c q => by cases q⟩
      simp only
      by_cases q1 : (zcw w false row).1 = 0
      · rw [if_pos q1]
        have ee : nI (zcw w false row).1 = 0 := by rw [q1]; rfl
        rw [ee] at b1
        have f4 : zfr (fun b j => b = 1 ∧ j = 17) S3 (zwI S3 1 17 1) := fr_wI _ _ ⟨rfl, rfl⟩
        have g4 : zfq wCr vCr S (zwI S3 1 17 1) := fq_trans g3 (fq_fr (fr_mono f4 (fun b j q => Or.inr (Or.inl q))))
        have sm : zsm 5 19 S3 (zwI S3 1 17 1) := sm_fr f4 (fun b j h1 h2 => by omega)
        have m4 : cMn (zwI S3 1 17 1) (sCa w (some (zca4 (zcw w false row)))) T U := by
          refine cMn_ca hm g4 (by simp [-Prod.exists, -Prod.forall, zgf, zgr, zpf, zpz, zpr, zga, zgl, zgo, zpa, zpb, zpl, zpo, mm_len, zcl, Option.bind_some, Option.bind_none, mm_hI, mm_hJ, mm_hR, mm_nI, mm_nJ, mm_nR, mm_sI, mm_sJ, mm_sR, mm_RI, mm_RJ, mm_IJ, mm_IR, mm_JI, mm_JR, mm_II, mm_JJ, mm_RR]) ⟨x', y', aCar_sm b3 sm (by omega) (by omega), fun c q => ?_⟩
          cases q
          refine ⟨row_sm (b5 q1).1 sm (by omega) (by omega), ⟨fun k hk => by rw [fr_I f4 (by omega)]; exact b4.1 k hk, by rw [fr_I f4 (by omega)]; exact b4.2⟩, fun q q3 hq => ?_⟩
          obtain ⟨v1, v2⟩ := (b5 q1).2 q hq
          exact ⟨row_sm (show pRow S3 (13 + 2 * q) 60 _ from v1) sm (by omega) (by omega), by rw [fr_I f4 (by omega)]; exact v2⟩
        have s4 : cSr (zwI S3 1 17 1) := cSr_fq s3 (fq_fr (V := fun _ _ => False) f4) (fun b j h1 h2 => ⟨by omega, fun x => x⟩)
        obtain ⟨y1, y2⟩ := hc_endc m4 g4 s4 0
        have rr : zR (zwI S3 1 17 1) 5 3 = some x' := by rw [fr_R f4]; exact hx3
        have rw_ := row_sm (b5 q1).1 sm (by omega) (by omega)
        have h5 : zh (zwI S3 1 17 1) 5 = (1, 0) := by rw [fr_h f4]; exact b3.1.1
        have h5' : zh S2 5 = (1, 0) := hc.1.1
        exact ⟨_, by simp only [f_Cl_carry, ↓bb_pz, h1, ↓bS ns', ↓bS rt, h33', zcl, zgr, ↓bS t1]; simp [-Prod.exists, -Prod.forall, ↓bb_gf, ↓bb_gr, ↓bb_len, ↓bb_ga, ↓bb_gl, ↓bb_go, ↓bb_pf, ↓bb_pz, ↓bb_pr, ↓bb_pa, ↓bb_pb, ↓bb_pl, ↓bb_po, ↓bb_cl, ↓bb_some, ↓bb_RI, ↓bb_RJ, mm_hI, mm_hJ, mm_hR, mm_nI, mm_nJ, mm_nR, mm_sI, mm_sJ, mm_sR, mm_RI, mm_RJ, mm_IJ, mm_IR, mm_JI, mm_JR, mm_II, mm_JJ, mm_RR, h1, ↓bS ns', ↓bS rt, h33', ↓bS t1, t5.1.1, ↓bS (r_lat t5), ↓bS (r_told t5), ↓bS (r_tak t5), h5', ↓bS b1, m3.1.1, ↓bS (r_lat m3), b3.1.1, ↓bS hx3, (b5 q1).1.1, (b5 q1).1.2.2.2.2.2.1, ↓bS (cl_answer m4.1.1 _), zan] <;> rfl, y1, y2⟩
      · rw [if_neg q1]
        have e2 := zcw_nz q1
        have h5' : zh S2 5 = (1, 0) := hc.1.1
        obtain ⟨y1, y2⟩ := hc_endc m3 g3 s3 (zcw w false row).1
        exact ⟨_, by simp [f_Cl_carry, -Prod.exists, -Prod.forall, ↓bb_gf, ↓bb_gr, ↓bb_len, ↓bb_ga, ↓bb_gl, ↓bb_go, ↓bb_pf, ↓bb_pz, ↓bb_pr, ↓bb_pa, ↓bb_pb, ↓bb_pl, ↓bb_po, ↓bb_cl, ↓bb_some, ↓bb_RI, ↓bb_RJ, mm_hI, mm_hJ, mm_hR, mm_nI, mm_nJ, mm_nR, mm_sI, mm_sJ, mm_sR, mm_RI, mm_RJ, mm_IJ, mm_IR, mm_JI, mm_JR, mm_II, mm_JJ, mm_RR, h1, ↓bS ns', ↓bS rt, h33', ↓bS t1, t5.1.1, ↓bS (r_lat t5), ↓bS (r_told t5), ↓bS (r_tak t5), h5', ↓bS b1, e2, m3.1.1, ↓bS (cl_refuse m3.1.1 _), zrf] <;> rfl, y1, y2⟩
/-! the reference -/
def wRm (b j : Nat) : Prop := (b = 408 ∧ (j = 48 ∨ j = 49)) ∨ (433 ≤ b ∧ b ≤ 437)
theorem cp_step {S S0 : zM} {W : Nat → Nat → Prop} {d s i : Nat} (hf : zfr W S0 S) (hs : ¬ W s i) : zI S s i = zI S0 s i := fr_I hf hs
theorem m_remembers {S0 : zM} {row : List Nat} (hm0 : sMo S0 408) (hn : pNow S0 408 row) : ∃ S', f_Mo_remembers 408 S0 = some S' ∧ zfr wRm S0 S' ∧ zI S' 408 48 = 1 ∧ zI S' 408 49 = nI row.length ∧ (∀ k, k < row.length → zI S' 433 k = nI (lg row k)) ∧ (∀ k, k < 24 → zI S' 434 k = zI S0 429 k) ∧ (∀ q, q < 3 → zI S' 435 q = zI S0 430 q ∧ zI S' 436 q = zI S0 431 q) ∧ ∀ k, k < 180 → zI S' 437 k = zI S0 432 k := by
  have l60 := hn.2.2.2
  have fa : zfr wRm S0 (zwI (zwI S0 408 48 1) 408 49 (nI row.length)) := fr_trans (fr_wI _ _ (Or.inl ⟨rfl, Or.inl rfl⟩)) (fr_wI _ _ (Or.inl ⟨rfl, Or.inr rfl⟩))
  obtain ⟨S1, a1, a2, a3⟩ := loop_st (N := row.length) (by omega) (fun F i S => L_Mo_remembers_15 (F_Mo_remembers_41 (L_Mo_remembers_43 (F_Mo_remembers_67 (L_Mo_remembers_69 (F_Mo_remembers_104 (L_Mo_remembers_106 zF)) zF)) zF)) F 408 (nI i) S) (fun S => F_Mo_remembers_41 (L_Mo_remembers_43 (F_Mo_remembers_67 (L_Mo_remembers_69 (F_Mo_remembers_104 (L_Mo_remembers_106 zF)) zF)) zF) 408 S) (W := fun b j => b = 433) (S0 := zwI (zwI S0 408 48 1) 408 49 (nI row.length)) (fun i S => zwI S 433 i (nI (lg row i))) (fun i S => zI S 433 i = nI (lg row i))
    (fun F S hf => by
      have hm := mo_fr (mo_fr hm0 fa) hf
      have e : zI S 408 41 = nI row.length := by rw [fr_I hf (by omega), fr_I fa (by unfold wRm; omega)]; exact hn.1
      show L_Mo_remembers_15 _ (F + 1) _ _ _ = _
      rw [L_Mo_remembers_15]
      simp [-Prod.exists, -Prod.forall, ↓bb_gf, ↓bb_gr, ↓bb_len, ↓bb_ga, ↓bb_gl, ↓bb_go, ↓bb_pf, ↓bb_pz, ↓bb_pr, ↓bb_pa, ↓bb_pb, ↓bb_pl, ↓bb_po, ↓bb_cl, ↓bb_some, ↓bb_RI, ↓bb_RJ, mm_hI, mm_hJ, mm_hR, mm_nI, mm_nJ, mm_nR, mm_sI, mm_sJ, mm_sR, mm_RI, mm_RJ, mm_IJ, mm_IR, mm_JI, mm_JR, mm_II, mm_JJ, mm_RR, hm.1, e])
    (fun F i S hi hf => by
      have hm := mo_fr (mo_fr hm0 fa) hf
      have e : zI S 408 41 = nI row.length := by rw [fr_I hf (by omega), fr_I fa (by unfold wRm; omega)]; exact hn.1
      have v : zI S 427 i = nI (lg row i) := by rw [fr_I hf (by omega), fr_I fa (by unfold wRm; omega)]; exact hn.2.1 i hi
      have lt : nI i < nI row.length := (nI_ltI (by omega) (by omega)).2 hi
      have e1 : nI i + 1 = nI (i + 1) := nI_add i 1
      have z : zinb (nI i) 64 = true := (nn_in (by omega)).2 (by omega)
      have z2 : zinb (nI i) 60 = true := (nn_in (by omega)).2 (by omega)
      have c : (nI i).toNatClampNeg = i := nI_clamp (by omega)
      show L_Mo_remembers_15 _ (F + 1) _ _ _ = _
      rw [L_Mo_remembers_15]
      simp [-Prod.exists, -Prod.forall, ↓bb_gf, ↓bb_gr, ↓bb_len, ↓bb_ga, ↓bb_gl, ↓bb_go, ↓bb_pf, ↓bb_pz, ↓bb_pr, ↓bb_pa, ↓bb_pb, ↓bb_pl, ↓bb_po, ↓bb_cl, ↓bb_some, ↓bb_RI, ↓bb_RJ, mm_hI, mm_hJ, mm_hR, mm_nI, mm_nJ, mm_nR, mm_sI, mm_sJ, mm_sR, mm_RI, mm_RJ, mm_IJ, mm_IR, mm_JI, mm_JR, mm_II, mm_JJ, mm_RR, hm.1, e, lt, ↓bS (mo_out hm), ↓bS (mo_now hm), mh_out hm, mh_now hm, z, z2, c, v, e1])
    (fun i S hi => fr_wI _ _ rfl) (fun i S hi hf => by simp [-Prod.exists, -Prod.forall, zgf, zgr, zpf, zpz, zpr, zga, zgl, zgo, zpa, zpb, zpl, zpo, mm_len, zcl, Option.bind_some, Option.bind_none, mm_hI, mm_hJ, mm_hR, mm_nI, mm_nJ, mm_nR, mm_sI, mm_sJ, mm_sR, mm_RI, mm_RJ, mm_IJ, mm_IR, mm_JI, mm_JR, mm_II, mm_JJ, mm_RR]) (fun i j S hi hj hp => by
      have : i ≠ j := by omega
      simp [-Prod.exists, -Prod.forall, zgf, zgr, zpf, zpz, zpr, zga, zgl, zgo, zpa, zpb, zpl, zpo, mm_len, zcl, Option.bind_some, Option.bind_none, mm_hI, mm_hJ, mm_hR, mm_nI, mm_nJ, mm_nR, mm_sI, mm_sJ, mm_sR, mm_RI, mm_RJ, mm_IJ, mm_IR, mm_JI, mm_JR, mm_II, mm_JJ, mm_RR, this, hp])
  have f1 : zfr wRm S0 S1 := fr_trans fa (fr_mono a2 (fun b j q => Or.inr (by omega)))
  obtain ⟨S2, b1, b2, b3⟩ := loop_st (N := 24) (by omega) (fun F i S => L_Mo_remembers_43 (F_Mo_remembers_67 (L_Mo_remembers_69 (F_Mo_remembers_104 (L_Mo_remembers_106 zF)) zF)) F 408 (nI i) S) (fun S => F_Mo_remembers_67 (L_Mo_remembers_69 (F_Mo_remembers_104 (L_Mo_remembers_106 zF)) zF) 408 S) (W := fun b j => b = 434) (S0 := S1) (fun i S => zwI S 434 i (zI S0 429 i)) (fun i S => zI S 434 i = zI S0 429 i)
    (fun F S hf => by
      show L_Mo_remembers_43 _ (F + 1) _ _ _ = _
      rw [L_Mo_remembers_43]
      rw [if_neg (by decide)])
    (fun F i S hi hf => by
      have hm := mo_fr (mo_fr hm0 f1) hf
      have v : zI S 429 i = zI S0 429 i := by rw [fr_I hf (by omega), fr_I f1 (by unfold wRm; omega)]
      have lt : nI i < (24 : Int32) := (nI_ltI (b := 24) (by omega) (by omega)).2 hi
      have e1 : nI i + 1 = nI (i + 1) := nI_add i 1
      have z : zinb (nI i) 24 = true := (nn_in (by omega)).2 (by omega)
      have c : (nI i).toNatClampNeg = i := nI_clamp (by omega)
      show L_Mo_remembers_43 _ (F + 1) _ _ _ = _
      rw [L_Mo_remembers_43]
      simp [-Prod.exists, -Prod.forall, ↓bb_gf, ↓bb_gr, ↓bb_len, ↓bb_ga, ↓bb_gl, ↓bb_go, ↓bb_pf, ↓bb_pz, ↓bb_pr, ↓bb_pa, ↓bb_pb, ↓bb_pl, ↓bb_po, ↓bb_cl, ↓bb_some, ↓bb_RI, ↓bb_RJ, mm_hI, mm_hJ, mm_hR, mm_nI, mm_nJ, mm_nR, mm_sI, mm_sJ, mm_sR, mm_RI, mm_RJ, mm_IJ, mm_IR, mm_JI, mm_JR, mm_II, mm_JJ, mm_RR, lt, hm.1, ↓bS (mo_carriedServed hm), ↓bS (mo_servedBy hm), mh_carriedServed hm, mh_servedBy hm, z, c, v, e1])
    (fun i S hi => fr_wI _ _ rfl) (fun i S hi hf => by simp [-Prod.exists, -Prod.forall, zgf, zgr, zpf, zpz, zpr, zga, zgl, zgo, zpa, zpb, zpl, zpo, mm_len, zcl, Option.bind_some, Option.bind_none, mm_hI, mm_hJ, mm_hR, mm_nI, mm_nJ, mm_nR, mm_sI, mm_sJ, mm_sR, mm_RI, mm_RJ, mm_IJ, mm_IR, mm_JI, mm_JR, mm_II, mm_JJ, mm_RR]) (fun i j S hi hj hp => by
      have : i ≠ j := by omega
      simp [-Prod.exists, -Prod.forall, zgf, zgr, zpf, zpz, zpr, zga, zgl, zgo, zpa, zpb, zpl, zpo, mm_len, zcl, Option.bind_some, Option.bind_none, mm_hI, mm_hJ, mm_hR, mm_nI, mm_nJ, mm_nR, mm_sI, mm_sJ, mm_sR, mm_RI, mm_RJ, mm_IJ, mm_IR, mm_JI, mm_JR, mm_II, mm_JJ, mm_RR, this, hp])
  have f2 : zfr wRm S0 S2 := fr_trans f1 (fr_mono b2 (fun b j q => Or.inr (by omega)))
  obtain ⟨S3, c1, c2, c3⟩ := loop_st (N := 3) (by omega) (fun F i S => L_Mo_remembers_69 (F_Mo_remembers_104 (L_Mo_remembers_106 zF)) F 408 (nI i) S) (fun S => F_Mo_remembers_104 (L_Mo_remembers_106 zF) 408 S) (W := fun b j => b = 435 ∨ b = 436) (S0 := S2) (fun i S => zwI (zwI S 435 i (zI S0 430 i)) 436 i (zI S0 431 i)) (fun i S => zI S 435 i = zI S0 430 i ∧ zI S 436 i = zI S0 431 i)
    (fun F S hf => by
      show L_Mo_remembers_69 _ (F + 1) _ _ _ = _
      rw [L_Mo_remembers_69]
      rw [if_neg (by decide)])
    (fun F i S hi hf => by
      have hm := mo_fr (mo_fr hm0 f2) hf
      have v : zI S 430 i = zI S0 430 i := by rw [fr_I hf (by omega), fr_I f2 (by unfold wRm; omega)]
      have v2 : zI S 431 i = zI S0 431 i := by rw [fr_I hf (by omega), fr_I f2 (by unfold wRm; omega)]
      have lt : nI i < (3 : Int32) := (nI_ltI (b := 3) (by omega) (by omega)).2 hi
      have e1 : nI i + 1 = nI (i + 1) := nI_add i 1
      have z : zinb (nI i) 3 = true := (nn_in (by omega)).2 (by omega)
      have c : (nI i).toNatClampNeg = i := nI_clamp (by omega)
      show L_Mo_remembers_69 _ (F + 1) _ _ _ = _
      rw [L_Mo_remembers_69]
      simp [-Prod.exists, -Prod.forall, ↓bb_gf, ↓bb_gr, ↓bb_len, ↓bb_ga, ↓bb_gl, ↓bb_go, ↓bb_pf, ↓bb_pz, ↓bb_pr, ↓bb_pa, ↓bb_pb, ↓bb_pl, ↓bb_po, ↓bb_cl, ↓bb_some, ↓bb_RI, ↓bb_RJ, mm_hI, mm_hJ, mm_hR, mm_nI, mm_nJ, mm_nR, mm_sI, mm_sJ, mm_sR, mm_RI, mm_RJ, mm_IJ, mm_IR, mm_JI, mm_JR, mm_II, mm_JJ, mm_RR, lt, hm.1, ↓bS (mo_carriedRounds hm), ↓bS (mo_roundsOf hm), mh_carriedRounds hm, mh_roundsOf hm, ↓bS (mo_carriedLong hm), ↓bS (mo_behindLong hm), mh_carriedLong hm, mh_behindLong hm, z, c, v, v2, e1])
    (fun i S hi => fr_trans (fr_wI _ _ (Or.inl rfl)) (fr_wI _ _ (Or.inr rfl))) (fun i S hi hf => by simp [-Prod.exists, -Prod.forall, zgf, zgr, zpf, zpz, zpr, zga, zgl, zgo, zpa, zpb, zpl, zpo, mm_len, zcl, Option.bind_some, Option.bind_none, mm_hI, mm_hJ, mm_hR, mm_nI, mm_nJ, mm_nR, mm_sI, mm_sJ, mm_sR, mm_RI, mm_RJ, mm_IJ, mm_IR, mm_JI, mm_JR, mm_II, mm_JJ, mm_RR]) (fun i j S hi hj hp => by
      have : i ≠ j := by omega
      simp [-Prod.exists, -Prod.forall, zgf, zgr, zpf, zpz, zpr, zga, zgl, zgo, zpa, zpb, zpl, zpo, mm_len, zcl, Option.bind_some, Option.bind_none, mm_hI, mm_hJ, mm_hR, mm_nI, mm_nJ, mm_nR, mm_sI, mm_sJ, mm_sR, mm_RI, mm_RJ, mm_IJ, mm_IR, mm_JI, mm_JR, mm_II, mm_JJ, mm_RR, this, hp.1, hp.2])
  have f3 : zfr wRm S0 S3 := fr_trans f2 (fr_mono c2 (fun b j q => Or.inr (by omega)))
  obtain ⟨S4, d1, d2, d3⟩ := loop_st (N := 180) (by omega) (fun F i S => L_Mo_remembers_106 F 408 (nI i) S) (fun S => some S) (W := fun b j => b = 437) (S0 := S3) (fun i S => zwI S 437 i (zI S0 432 i)) (fun i S => zI S 437 i = zI S0 432 i)
    (fun F S hf => by
      show L_Mo_remembers_106 (F + 1) _ _ _ = _
      rw [L_Mo_remembers_106]
      rw [if_neg (by decide)])
    (fun F i S hi hf => by
      have hm := mo_fr (mo_fr hm0 f3) hf
      have v : zI S 432 i = zI S0 432 i := by rw [fr_I hf (by omega), fr_I f3 (by unfold wRm; omega)]
      have lt : nI i < (180 : Int32) := (nI_ltI (b := 180) (by omega) (by omega)).2 hi
      have e1 : nI i + 1 = nI (i + 1) := nI_add i 1
      have z : zinb (nI i) 180 = true := (nn_in (by omega)).2 (by omega)
      have c : (nI i).toNatClampNeg = i := nI_clamp (by omega)
      show L_Mo_remembers_106 (F + 1) _ _ _ = _
      rw [L_Mo_remembers_106]
      simp [-Prod.exists, -Prod.forall, ↓bb_gf, ↓bb_gr, ↓bb_len, ↓bb_ga, ↓bb_gl, ↓bb_go, ↓bb_pf, ↓bb_pz, ↓bb_pr, ↓bb_pa, ↓bb_pb, ↓bb_pl, ↓bb_po, ↓bb_cl, ↓bb_some, ↓bb_RI, ↓bb_RJ, mm_hI, mm_hJ, mm_hR, mm_nI, mm_nJ, mm_nR, mm_sI, mm_sJ, mm_sR, mm_RI, mm_RJ, mm_IJ, mm_IR, mm_JI, mm_JR, mm_II, mm_JJ, mm_RR, lt, hm.1, ↓bS (mo_carriedAt hm), ↓bS (mo_behindAt hm), mh_carriedAt hm, mh_behindAt hm, z, c, v, e1])
    (fun i S hi => fr_wI _ _ rfl) (fun i S hi hf => by simp [-Prod.exists, -Prod.forall, zgf, zgr, zpf, zpz, zpr, zga, zgl, zgo, zpa, zpb, zpl, zpo, mm_len, zcl, Option.bind_some, Option.bind_none, mm_hI, mm_hJ, mm_hR, mm_nI, mm_nJ, mm_nR, mm_sI, mm_sJ, mm_sR, mm_RI, mm_RJ, mm_IJ, mm_IR, mm_JI, mm_JR, mm_II, mm_JJ, mm_RR]) (fun i j S hi hj hp => by
      have : i ≠ j := by omega
      simp [-Prod.exists, -Prod.forall, zgf, zgr, zpf, zpz, zpr, zga, zgl, zgo, zpa, zpb, zpl, zpo, mm_len, zcl, Option.bind_some, Option.bind_none, mm_hI, mm_hJ, mm_hR, mm_nI, mm_nJ, mm_nR, mm_sI, mm_sJ, mm_sR, mm_RI, mm_RJ, mm_IJ, mm_IR, mm_JI, mm_JR, mm_II, mm_JJ, mm_RR, this, hp])
  have f4 : zfr wRm S0 S4 := fr_trans f3 (fr_mono d2 (fun b j q => Or.inr (by omega)))
  have e41 : zI S0 408 41 = nI row.length := hn.1
  refine ⟨S4, ?_, f4, ?_, ?_, fun k hk => ?_, fun k hk => ?_, fun q hq => ?_, d3⟩
  · rw [← d1]
    show _ = F_Mo_remembers_104 (L_Mo_remembers_106 zF) 408 S3
    rw [← c1]
    show _ = F_Mo_remembers_67 (L_Mo_remembers_69 (F_Mo_remembers_104 (L_Mo_remembers_106 zF)) zF) 408 S2
    rw [← b1]
    show _ = F_Mo_remembers_41 (L_Mo_remembers_43 (F_Mo_remembers_67 (L_Mo_remembers_69 (F_Mo_remembers_104 (L_Mo_remembers_106 zF)) zF)) zF) 408 S1
    rw [← a1]
    simp [f_Mo_remembers, -Prod.exists, -Prod.forall, ↓bb_gf, ↓bb_gr, ↓bb_len, ↓bb_ga, ↓bb_gl, ↓bb_go, ↓bb_pf, ↓bb_pz, ↓bb_pr, ↓bb_pa, ↓bb_pb, ↓bb_pl, ↓bb_po, ↓bb_cl, ↓bb_some, ↓bb_RI, ↓bb_RJ, mm_hI, mm_hJ, mm_hR, mm_nI, mm_nJ, mm_nR, mm_sI, mm_sJ, mm_sR, mm_RI, mm_RJ, mm_IJ, mm_IR, mm_JI, mm_JR, mm_II, mm_JJ, mm_RR, hm0.1, e41]
    rfl
  · rw [fr_I d2 (by omega), fr_I c2 (by omega), fr_I b2 (by omega), fr_I a2 (by omega)]; simp [-Prod.exists, -Prod.forall, zgf, zgr, zpf, zpz, zpr, zga, zgl, zgo, zpa, zpb, zpl, zpo, mm_len, zcl, Option.bind_some, Option.bind_none, mm_hI, mm_hJ, mm_hR, mm_nI, mm_nJ, mm_nR, mm_sI, mm_sJ, mm_sR, mm_RI, mm_RJ, mm_IJ, mm_IR, mm_JI, mm_JR, mm_II, mm_JJ, mm_RR]
  · rw [fr_I d2 (by omega), fr_I c2 (by omega), fr_I b2 (by omega), fr_I a2 (by omega)]; simp [-Prod.exists, -Prod.forall, zgf, zgr, zpf, zpz, zpr, zga, zgl, zgo, zpa, zpb, zpl, zpo, mm_len, zcl, Option.bind_some, Option.bind_none, mm_hI, mm_hJ, mm_hR, mm_nI, mm_nJ, mm_nR, mm_sI, mm_sJ, mm_sR, mm_RI, mm_RJ, mm_IJ, mm_IR, mm_JI, mm_JR, mm_II, mm_JJ, mm_RR]
  · rw [fr_I d2 (by omega), fr_I c2 (by omega), fr_I b2 (by omega)]; exact a3 k hk
  · rw [fr_I d2 (by omega), fr_I c2 (by omega)]; exact b3 k hk
  · rw [fr_I d2 (by omega), fr_I d2 (by omega)]; exact c3 q hq
/-- the reference with another carrying -/
theorem pMo_ca {S S' : zM} {w : zWs} {c : Option zCa} (h : pMo S w) (hf : zfr wRm S S') (e : zI S' 408 48 = if c.isSome then 1 else 0) (hc : ∀ d, c = some d → zI S' 408 49 = nI d.1.length ∧ (∀ k, k < d.1.length → zI S' 433 k = nI (lg d.1 k)) ∧ (∀ k, k < 24 → zI S' 434 k = nI (d.2.2.2.count k)) ∧ ∀ q, q < 3 → q < (wSc w).2.2.length → zI S' 435 q = nI (d.2.2.1 q) ∧ zI S' 436 q = nI (d.2.1 q).length ∧ ∀ k, k < (d.2.1 q).length → zI S' 437 (60 * q + k) = nI (lg (d.2.1 q) k)) : pMo S' (sCa w c) ∧ zfr wMo S S' := by
  obtain ⟨⟨a1, a2, a3, a4, a5, a6, a7, a8, a9⟩, t1, t2⟩ := h
  have eI : ∀ b j, ¬ wRm b j → zI S' b j = zI S b j := fun b j q => fr_I hf q
  refine ⟨⟨⟨mo_fr a1 hf, mSc_fr a2 hf (fun j a b => by unfold wRm; omega) (fun b j a => by unfold wRm; omega), by rw [eI _ _ (by unfold wRm; omega)]; exact a3, fun k hk => by rw [eI _ _ (by unfold wRm; omega)]; exact a4 k hk, by rw [eI _ _ (by unfold wRm; omega)]; exact a5, by rw [eI _ _ (by unfold wRm; omega)]; exact a6, fun k hk => by rw [eI _ _ (by unfold wRm; omega)]; exact a7 k hk, e, hc⟩, by rw [eI _ _ (by unfold wRm; omega)]; exact t1, fun q => by rw [eI _ _ (by unfold wRm; omega)]; exact t2 q⟩, fr_mono hf (fun b j q => by unfold wRm at q; unfold wMo; omega)⟩
theorem hm_carry (x : Int64) : zHm (f_Mo_carry 408 x) (sp_carry x) := fun S w h ho => by
  obtain ⟨e0, e1, e2⟩ := mo_fresh h; obtain ⟨n0, n1, n2⟩ := mo_no e1 (n := 1) (by omega); have n0' : f_Mo_no 408 1 (zfs S) = some (-1, zwI (zfs S) 408 1 (nI 1)) := n0; have hc := e1.1; have h8 := h.1.1.1; have g8 := hc.1.1; have h3 := ho.2.2.2.2.2.2.2.2.1; have ho' : okW (sTr w 0) := okW_tr ho (by omega)
  obtain ⟨z1, z2⟩ := pMo_ca (c := none) e1 (fr_wI (zfs S) 0 (show wRm 408 48 from Or.inl ⟨rfl, Or.inl rfl⟩)) (by simp [-Prod.exists, -Prod.forall, zgf, zgr, zpf, zpz, zpr, zga, zgl, zgo, zpa, zpb, zpl, zpo, mm_len, zcl, Option.bind_some, Option.bind_none, mm_hI, mm_hJ, mm_hR, mm_nI, mm_nJ, mm_nR, mm_sI, mm_sJ, mm_sR, mm_RI, mm_RJ, mm_IJ, mm_IR, mm_JI, mm_JR, mm_II, mm_JJ, mm_RR]) (fun d q => by cases q)
  have h9 : zI (zwI (zfs S) 408 48 0) 408 9 = if (wSc w).2.2.length = 0 then 0 else 1 := z1.1.2.1.2.2.2.1
  obtain ⟨m0, m1, m2⟩ := mo_no z1 (n := 1) (by omega)
  have m0' : f_Mo_no 408 1 (zwI (zfs S) 408 48 0) = some (-1, zwI (zwI (zfs S) 408 48 0) 408 1 (nI 1)) := m0
  unfold sp_carry
  by_cases q : (wSc w).2.2.length = 0
  · rw [if_pos q] at h9 ⊢
    have h9' : zI (zfs S) 408 9 = 0 := by rw [← h9]; simp [-Prod.exists, -Prod.forall, zgf, zgr, zpf, zpz, zpr, zga, zgl, zgo, zpa, zpb, zpl, zpo, mm_len, zcl, Option.bind_some, Option.bind_none, mm_hI, mm_hJ, mm_hR, mm_nI, mm_nJ, mm_nR, mm_sI, mm_sJ, mm_sR, mm_RI, mm_RJ, mm_IJ, mm_IR, mm_JI, mm_JR, mm_II, mm_JJ, mm_RR]
    exact ⟨_, by simp [f_Mo_carry, -Prod.exists, -Prod.forall, ↓bb_gf, ↓bb_gr, ↓bb_len, ↓bb_ga, ↓bb_gl, ↓bb_go, ↓bb_pf, ↓bb_pz, ↓bb_pr, ↓bb_pa, ↓bb_pb, ↓bb_pl, ↓bb_po, ↓bb_cl, ↓bb_some, ↓bb_RI, ↓bb_RJ, mm_hI, mm_hJ, mm_hR, mm_nI, mm_nJ, mm_nR, mm_sI, mm_sJ, mm_sR, mm_RI, mm_RJ, mm_IJ, mm_IR, mm_JI, mm_JR, mm_II, mm_JJ, mm_RR, h8, ↓bS e0, g8, h9', ↓bS m0', zrf] <;> rfl, m1, fr_trans e2 (fr_trans z2 m2)⟩
  · rw [if_neg q] at h9 ⊢
    have h9' : zI (zfs S) 408 9 = 1 := by rw [← h9]; simp [-Prod.exists, -Prod.forall, zgf, zgr, zpf, zpz, zpr, zga, zgl, zgo, zpa, zpb, zpl, zpo, mm_len, zcl, Option.bind_some, Option.bind_none, mm_hI, mm_hJ, mm_hR, mm_nI, mm_nJ, mm_nR, mm_sI, mm_sJ, mm_sR, mm_RI, mm_RJ, mm_IJ, mm_IR, mm_JI, mm_JR, mm_II, mm_JJ, mm_RR]
    obtain ⟨S1, l1, l2, l3, l4⟩ := mo_letters z1 x
    cases ex : zwl x with
    | none =>
      rw [ex] at l1
      simp only [Option.isSome_none, Bool.false_eq_true, if_false] at l1
      obtain ⟨p0, p1, p2⟩ := mo_no l2 (n := 2) (by omega)
      have p0' : f_Mo_no 408 2 S1 = some (-1, zwI S1 408 1 (nI 2)) := p0
      exact ⟨_, by simp [f_Mo_carry, -Prod.exists, -Prod.forall, ↓bb_gf, ↓bb_gr, ↓bb_len, ↓bb_ga, ↓bb_gl, ↓bb_go, ↓bb_pf, ↓bb_pz, ↓bb_pr, ↓bb_pa, ↓bb_pb, ↓bb_pl, ↓bb_po, ↓bb_cl, ↓bb_some, ↓bb_RI, ↓bb_RJ, mm_hI, mm_hJ, mm_hR, mm_nI, mm_nJ, mm_nR, mm_sI, mm_sJ, mm_sR, mm_RI, mm_RJ, mm_IJ, mm_IR, mm_JI, mm_JR, mm_II, mm_JJ, mm_RR, h8, ↓bS e0, g8, h9', ↓bS l1, l2.1.1.1, ↓bS p0', zrf] <;> rfl, p1, fr_trans e2 (fr_trans z2 (fr_trans l3 p2))⟩
    | some row =>
      rw [ex] at l1
      simp only [Option.isSome_some, if_true] at l1
      obtain ⟨S2, row', a1, a2, a3, a4, a5, _⟩ := mo_all false l2 (l4 row ex)
      have a1 : f_Mo_goesAll 408 0 S1 = some (nI (zcw w false row).1, S2) := a1
      have a5 : (zcw w false row).1 = 0 → row' = (zcw w false row).2.1 ∧ mSv S2 408 (zcw w false row).2.2.2.2 ∧ ∀ q, q < (wSc w).2.2.length → mBh S2 408 q ((zcw w false row).2.2.1 q) ((zcw w false row).2.2.2.1 q) := a5
      simp only
      by_cases q1 : (zcw w false row).1 = 0
      · rw [if_pos q1]
        have ee : nI (zcw w false row).1 = 0 := by rw [q1]; rfl
        rw [ee] at a1
        obtain ⟨zz, b1, b2⟩ := a5 q1
        subst zz
        obtain ⟨S3, r1, r2, r3, r4, r5, r6, r7, r8⟩ := m_remembers a2.1.1 a4
        have wps : wPs (wSc w).2.2 := hc.2.1.2.2.2.2.2.2.2.2.2.2.2.2
        have rl := (wl_w ex).2.1
        have w2 := al_bh wps (asd := wAs w) (tn := false) (wl_w ex).1 (show row.length ≤ 60 by omega) _ (Nat.le_refl _)
        obtain ⟨v1, v2⟩ := pMo_ca (c := some (zca4 (zcw w false row))) a2 r2 (by rw [r3]; rfl) (fun d qd => by
          cases qd
          refine ⟨r4, r5, fun k hk => by rw [r6 k hk]; exact b1 k hk, fun q q3 hq => ?_⟩
          obtain ⟨x1, x2, x3⟩ := b2 q hq
          refine ⟨by rw [(r7 q q3).1]; exact x1, by rw [(r7 q q3).2]; exact x2, fun k hk => ?_⟩
          have := (w2 q).2
          have hk' : k < ((zcw w false row).2.2.1 q).length := hk
          have : ((zcw w false row).2.2.1 q).length ≤ 60 := (w2 q).2
          rw [r8 (60 * q + k) (by omega)]
          exact x3 k hk')
        exact ⟨S3, by simp [f_Mo_carry, -Prod.exists, -Prod.forall, ↓bb_gf, ↓bb_gr, ↓bb_len, ↓bb_ga, ↓bb_gl, ↓bb_go, ↓bb_pf, ↓bb_pz, ↓bb_pr, ↓bb_pa, ↓bb_pb, ↓bb_pl, ↓bb_po, ↓bb_cl, ↓bb_some, ↓bb_RI, ↓bb_RJ, mm_hI, mm_hJ, mm_hR, mm_nI, mm_nJ, mm_nR, mm_sI, mm_sJ, mm_sR, mm_RI, mm_RJ, mm_IJ, mm_IR, mm_JI, mm_JR, mm_II, mm_JJ, mm_RR, h8, ↓bS e0, g8, h9', ↓bS l1, l2.1.1.1, ↓bS a1, a2.1.1.1, ↓bS r1, v1.1.1.1, r4, zan] <;> rfl, v1, fr_trans e2 (fr_trans z2 (fr_trans l3 (fr_trans a3 v2)))⟩
      · rw [if_neg q1]
        have cc := zcw_code w false row
        obtain ⟨x0, x1, x2⟩ := mo_no a2 (n := (zcw w false row).1) (by omega)
        have nz := zcw_nz q1
        exact ⟨_, by simp [f_Mo_carry, -Prod.exists, -Prod.forall, ↓bb_gf, ↓bb_gr, ↓bb_len, ↓bb_ga, ↓bb_gl, ↓bb_go, ↓bb_pf, ↓bb_pz, ↓bb_pr, ↓bb_pa, ↓bb_pb, ↓bb_pl, ↓bb_po, ↓bb_cl, ↓bb_some, ↓bb_RI, ↓bb_RJ, mm_hI, mm_hJ, mm_hR, mm_nI, mm_nJ, mm_nR, mm_sI, mm_sJ, mm_sR, mm_RI, mm_RJ, mm_IJ, mm_IR, mm_JI, mm_JR, mm_II, mm_JJ, mm_RR, h8, ↓bS e0, g8, h9', ↓bS l1, l2.1.1.1, ↓bS a1, a2.1.1.1, nz, ↓bS x0, zrf] <;> rfl, x1, fr_trans e2 (fr_trans z2 (fr_trans l3 (fr_trans a3 x2)))⟩
