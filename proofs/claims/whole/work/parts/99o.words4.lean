/-! coming back -/
def zbW (w : zWs) : Nat → Nat := zbk (wSc w).1 (wSc w).2.2 (wAs w)
noncomputable def sp_comeBack (n : Int32) : zWs → Int32 × zWs := zspW n (fun _ => true) (-1) (fun w m => zan w (nI (fb_ct (fun i => decide (zbW w i = 1)) (zNW w m))))
noncomputable def sp_lost (n : Int32) : zWs → Int64 × zWs := zspW n (fun _ => true) (-1) (fun w m => zwA w (zfi (fun i => decide (zbW w i = 2)) (zNW w m)) 5)
theorem hk_comeBack (n : Int32) : zHk (sp_comeBack n) := hk_gen (fun w m ho => ⟨0, by omega, rfl⟩)
theorem hk_lost (n : Int32) : zHk (sp_lost n) := hk_gen (fun w m ho => wA_tr _ _ (by omega))
/-- it learns what comes back -/
theorem cl_back {S S1 : zM} {w : zWs} {T U E K B m : Nat} (ho : okW w) (hp : 0 < (wSc w).2.2.length) (m5 : m ≤ 5) (c : zCH S S1 w T U E K B m) : ∃ S2, f_Census_learnBack E (nI m) S1 = some S2 ∧ zCH S S2 w T U E K (max B (zcnt (wSc w).1 m)) m ∧ bCen S2 E (wSc w).1 (wSc w).2.2 (wAs w) (max B (zcnt (wSc w).1 m)) := by
  obtain ⟨c2, c3, c4, c5, c6, c7, c8, c9, cq⟩ := c
  have hTU := wTU c2
  obtain ⟨a1, a2, a3, a4, a5, a6, a7, a8, a9, a10, a11⟩ := c7
  obtain ⟨S2, l1, l2, l3, l4, l5⟩ := c_learnBack cq a4 (by omega) (by omega) m5 c9 a7 a6 a10
  have q2 := qCen_fq cq l2 (by omega) (fun b j q => by unfold wBk2 at q; omega) (fun b j q => by unfold vLn1 at q; omega)
  have he : eCe S2 w E K (max B (zcnt (wSc w).1 m)) := by
    refine ⟨a1, by rw [fq_n l2]; exact a2, q2.1, l3, by rw [fq_I l2 (by unfold wBk2; omega)]; exact a5, l4, by omega, a8, q2.2.2.2.2.2, l5, fun n hn => by rw [fq_I l2 (by unfold wBk2; omega)]; exact a11 n hn⟩
  obtain ⟨b1, b2, b3, b4, b5, b6⟩ := cMn_ce c2 c3 l2 (fun b j q => by unfold wBk2 at q; omega) (fun b j q => by unfold vLn1 at q; omega) q2.2.1 c6 he
  refine ⟨S2, l1, ⟨b1, b2, ko_trans c4 b3, ?_, b5, he, q2.2.2.1, c9, q2⟩, l5⟩
  rcases b4 with x | x
  · unfold zrm at c5 ⊢
    rw [x.1, x.2.1, x.2.2]; exact c5
  · rw [c6] at x; exact absurd x.1 (by simp)
theorem hc_comeBack (n : Int32) : zHc (f_Cl_comeBack 1 n) (sp_comeBack n) := hc_gen
  (fun S w T U hm ho q => by simp [f_Cl_comeBack, -Prod.exists, -Prod.forall, ↓bb_gf, ↓bb_gr, ↓bb_len, ↓bb_ga, ↓bb_gl, ↓bb_go, ↓bb_pf, ↓bb_pz, ↓bb_pr, ↓bb_pa, ↓bb_pb, ↓bb_pl, ↓bb_po, ↓bb_cl, ↓bb_some, ↓bb_RI, ↓bb_RJ, mm_hI, mm_hJ, mm_hR, mm_nI, mm_nJ, mm_nR, mm_sI, mm_sJ, mm_sR, mm_RI, mm_RJ, mm_IJ, mm_IR, mm_JI, mm_JR, mm_II, mm_JJ, mm_RR, hm.1.1, ↓bS (cl_tu1 hm ho n), wT_nz q, ↓bS (cl_refuse hm.1.1 _)])
  (fun S S1 w T U E K B m e m1 m5 hp _ q hm ho c ch => by
    subst e
    have tu := cl_tu1 hm ho (nI m)
    rw [q] at tu
    have n0 : nI 0 = (0 : Int32) := rfl
    rw [n0] at tu
    obtain ⟨S2, l1, ⟨c2, c3, c4, c5, c6, c7, c8, c9, cq⟩, l3⟩ := cl_back ho hp m5 ch
    have fd : f_Census_countBack E (nI m) S2 = some (nI (fb_ct (fun i => decide (zbW w i = 1)) (zNW w m)), S2) := c_countBack cq m5 c9 l3 (by omega)
    obtain ⟨y1, y2⟩ := hc_endE c2 c3 c4 c5 0
    exact ⟨_, by simp [f_Cl_comeBack, -Prod.exists, -Prod.forall, ↓bb_gf, ↓bb_gr, ↓bb_len, ↓bb_ga, ↓bb_gl, ↓bb_go, ↓bb_pf, ↓bb_pz, ↓bb_pr, ↓bb_pa, ↓bb_pb, ↓bb_pl, ↓bb_po, ↓bb_cl, ↓bb_some, ↓bb_RI, ↓bb_RJ, mm_hI, mm_hJ, mm_hR, mm_nI, mm_nJ, mm_nR, mm_sI, mm_sJ, mm_sR, mm_RI, mm_RJ, mm_IJ, mm_IR, mm_JI, mm_JR, mm_II, mm_JJ, mm_RR, hm.1.1, ↓bS tu, ↓bS c, ch.2.2.2.2.2.1.2.2.1.1, ↓bS l1, c7.2.2.1.1, ↓bS fd, c2.1.1, ↓bS (cl_answer c2.1.1 _), zan] <;> rfl, y1, y2⟩)
theorem hc_lost (n : Int32) : zHc (f_Cl_lost 1 n) (sp_lost n) := hc_gen
  (fun S w T U hm ho q => by simp [f_Cl_lost, -Prod.exists, -Prod.forall, ↓bb_gf, ↓bb_gr, ↓bb_len, ↓bb_ga, ↓bb_gl, ↓bb_go, ↓bb_pf, ↓bb_pz, ↓bb_pr, ↓bb_pa, ↓bb_pb, ↓bb_pl, ↓bb_po, ↓bb_cl, ↓bb_some, ↓bb_RI, ↓bb_RJ, mm_hI, mm_hJ, mm_hR, mm_nI, mm_nJ, mm_nR, mm_sI, mm_sJ, mm_sR, mm_RI, mm_RJ, mm_IJ, mm_IR, mm_JI, mm_JR, mm_II, mm_JJ, mm_RR, hm.1.1, ↓bS (cl_tu1 hm ho n), wT_nz q, ↓bS (cl_refuse hm.1.1 _), m1L])
  (fun S S1 w T U E K B m e m1 m5 hp _ q hm ho c ch => by
    subst e
    have tu := cl_tu1 hm ho (nI m)
    rw [q] at tu
    have n0 : nI 0 = (0 : Int32) := rfl
    rw [n0] at tu
    have nl := nW_le ho hp m5
    obtain ⟨S2, l1, ⟨c2, c3, c4, c5, c6, c7, c8, c9, cq⟩, l3⟩ := cl_back ho hp m5 ch
    have fd : f_Census_firstLost E (nI m) S2 = some (zsI (zfi (fun i => decide (zbW w i = 2)) (zNW w m)), S2) := c_firstLost cq m5 c9 l3 (by omega)
    obtain ⟨S', t1, t2⟩ := cl_tail c2 c3 ho hp c7 c8 c4 c5 (zfi (fun i => decide (zbW w i = 2)) (zNW w m)) (fun i hi => by have := (fi_some hi).1; omega) 5 5 rfl
    refine ⟨S', ?_, t2⟩
    rw [← t1]
    simp only [f_Cl_lost, ↓bb_cl, hm.1.1, if_true, ↓bS tu, ↓bS c, ch.2.2.2.2.2.1.2.2.1.1, ↓bS l1, c7.2.2.1.1, ↓bS fd, c2.1.1])
theorem bk_ms {b j : Nat} (q : wBk 408 b j) : wMs b j := by unfold wBk at q; unfold wMs; omega
theorem hm_comeBack (n : Int32) : zHm (f_Mo_comeBack 408 n) (sp_comeBack n) := hm_gen
  (fun S S1 w h ho q r => by simp [f_Mo_comeBack, -Prod.exists, -Prod.forall, ↓bb_gf, ↓bb_gr, ↓bb_len, ↓bb_ga, ↓bb_gl, ↓bb_go, ↓bb_pf, ↓bb_pz, ↓bb_pr, ↓bb_pa, ↓bb_pb, ↓bb_pl, ↓bb_po, ↓bb_cl, ↓bb_some, ↓bb_RI, ↓bb_RJ, mm_hI, mm_hJ, mm_hR, mm_nI, mm_nJ, mm_nR, mm_sI, mm_sJ, mm_sR, mm_RI, mm_RJ, mm_IJ, mm_IR, mm_JI, mm_JR, mm_II, mm_JJ, mm_RR, h.1.1.1, ↓bS (mo_ww1 h n), ↓bS r])
  (fun S S1 w m e m1 m5 hp _ q h ho r p => by
    subst e
    have ww := mo_ww1 h (nI m)
    rw [q] at ww
    have n0 : nI 0 = (0 : Int32) := rfl
    rw [n0] at ww
    obtain ⟨S', d1, d2⟩ := m_comeBack_l p.1.1 (show mSc S1 408 (wSc w) (wAs w) from p.1.2.1) (ho.2.2.1 hp) m5
    have d1 : L_Mo_comeBack_19 zF 408 (nI m) 0 0 S1 = some (nI (fb_ct (fun i => decide (zbW w i = 1)) (zNW w m)), S') := d1
    obtain ⟨k1, k2⟩ := mo_keep p d2 (fun b j q => bk_ms q) (by unfold wBk; omega) (by unfold wBk; omega)
    exact ⟨S', by simp [f_Mo_comeBack, -Prod.exists, -Prod.forall, ↓bb_gf, ↓bb_gr, ↓bb_len, ↓bb_ga, ↓bb_gl, ↓bb_go, ↓bb_pf, ↓bb_pz, ↓bb_pr, ↓bb_pa, ↓bb_pb, ↓bb_pl, ↓bb_po, ↓bb_cl, ↓bb_some, ↓bb_RI, ↓bb_RJ, mm_hI, mm_hJ, mm_hR, mm_nI, mm_nJ, mm_nR, mm_sI, mm_sJ, mm_sR, mm_RI, mm_RJ, mm_IJ, mm_IR, mm_JI, mm_JR, mm_II, mm_JJ, mm_RR, h.1.1.1, ↓bS ww, ↓bS r, d1, zan], k1, k2⟩)
theorem hm_lost (n : Int32) : zHm (f_Mo_lost 408 n) (sp_lost n) := hm_gen
  (fun S S1 w h ho q r => by simp [f_Mo_lost, -Prod.exists, -Prod.forall, ↓bb_gf, ↓bb_gr, ↓bb_len, ↓bb_ga, ↓bb_gl, ↓bb_go, ↓bb_pf, ↓bb_pz, ↓bb_pr, ↓bb_pa, ↓bb_pb, ↓bb_pl, ↓bb_po, ↓bb_cl, ↓bb_some, ↓bb_RI, ↓bb_RJ, mm_hI, mm_hJ, mm_hR, mm_nI, mm_nJ, mm_nR, mm_sI, mm_sJ, mm_sR, mm_RI, mm_RJ, mm_IJ, mm_IR, mm_JI, mm_JR, mm_II, mm_JJ, mm_RR, h.1.1.1, ↓bS (mo_ww1 h n), ↓bS r])
  (fun S S1 w m e m1 m5 hp _ q h ho r p => by
    subst e
    have ww := mo_ww1 h (nI m)
    rw [q] at ww
    have n0 : nI 0 = (0 : Int32) := rfl
    rw [n0] at ww
    have nl := nW_le ho hp m5
    obtain ⟨S', d1, d2⟩ := m_lost_l p.1.1 (show mSc S1 408 (wSc w) (wAs w) from p.1.2.1) (ho.2.2.1 hp) m5
    have d1 : L_Mo_lost_19 zF 408 (nI m) 0 S1 = zrW 408 S' 5 (zfi (fun i => decide (zbW w i = 2)) (zNW w m)) := d1
    obtain ⟨k1, k2⟩ := mo_keep p d2 (fun b j q => bk_ms q) (by unfold wBk; omega) (by unfold wBk; omega)
    obtain ⟨S2, t1, t2, t3⟩ := mo_tail k1 ho hp (zfi (fun i => decide (zbW w i = 2)) (zNW w m)) (fun i hi => by have := (fi_some hi).1; omega) (why := 5) (by omega) 5 rfl
    refine ⟨S2, ?_, t2, fr_trans k2 t3⟩
    rw [← t1, ← d1]
    simp [f_Mo_lost, -Prod.exists, -Prod.forall, ↓bb_gf, ↓bb_gr, ↓bb_len, ↓bb_ga, ↓bb_gl, ↓bb_go, ↓bb_pf, ↓bb_pz, ↓bb_pr, ↓bb_pa, ↓bb_pb, ↓bb_pl, ↓bb_po, ↓bb_cl, ↓bb_some, ↓bb_RI, ↓bb_RJ, mm_hI, mm_hJ, mm_hR, mm_nI, mm_nJ, mm_nR, mm_sI, mm_sJ, mm_sR, mm_RI, mm_RJ, mm_IJ, mm_IR, mm_JI, mm_JR, mm_II, mm_JJ, mm_RR, h.1.1.1, ↓bS ww, ↓bS r])
/-! the worst rule -/
noncomputable def sp_worst (n : Int32) : zWs → Int32 × zWs := zspW n (fun _ => true) (-1) (fun w m => zan w (zwsF (wSc w).1 (wSc w).2.2 (wAs w) (zNW w m) 24).2)
theorem hk_worst (n : Int32) : zHk (sp_worst n) := hk_gen (fun w m ho => ⟨0, by omega, rfl⟩)
theorem hc_worst (n : Int32) : zHc (f_Cl_worst 1 n) (sp_worst n) := hc_gen
  (fun S w T U hm ho q => by simp [f_Cl_worst, -Prod.exists, -Prod.forall, ↓bb_gf, ↓bb_gr, ↓bb_len, ↓bb_ga, ↓bb_gl, ↓bb_go, ↓bb_pf, ↓bb_pz, ↓bb_pr, ↓bb_pa, ↓bb_pb, ↓bb_pl, ↓bb_po, ↓bb_cl, ↓bb_some, ↓bb_RI, ↓bb_RJ, mm_hI, mm_hJ, mm_hR, mm_nI, mm_nJ, mm_nR, mm_sI, mm_sJ, mm_sR, mm_RI, mm_RJ, mm_IJ, mm_IR, mm_JI, mm_JR, mm_II, mm_JJ, mm_RR, hm.1.1, ↓bS (cl_tu1 hm ho n), wT_nz q, ↓bS (cl_refuse hm.1.1 _)])
  (fun S S1 w T U E K B m e m1 m5 hp _ q hm ho c ⟨c2, c3, c4, c5, c6, c7, c8, c9, cq⟩ => by
    subst e
    have tu := cl_tu1 hm ho (nI m)
    rw [q] at tu
    have n0 : nI 0 = (0 : Int32) := rfl
    rw [n0] at tu
    have hTU := wTU c2
    have c70 := c7
    obtain ⟨a1, a2, a3, a4, a5, a6, a7, a8, a9, a10, a11⟩ := c7
    obtain ⟨S2, l1, l2, l3, l4, l5⟩ := c_worst cq a4 (by omega) (by omega) m5 c9 a11
    have l1 : f_Census_worstRule E (nI m) S1 = some ((zwsF (wSc w).1 (wSc w).2.2 (wAs w) (zNW w m) 24).2, S2) := l1
    have he : eCe S2 w E K B := by
      refine ⟨a1, by rw [fq_n l2]; exact a2, kCen_fq a3 l2 (fun j _ => by unfold vLn1; omega) (fun j => by unfold vLn1; omega) (fun j => by unfold vLn1; omega), l3, by rw [fq_I l2 (by unfold wWr; omega)]; exact a5, by rw [fq_I l2 (by unfold wWr; omega)]; exact a6, a7, a8, dCen_fq a9 l2 (fun b j q => by unfold wWr vLn1 at q; omega), fun i hi => by rw [fq_I l2 (by unfold wWr; omega)]; exact a10 i hi, l5⟩
    obtain ⟨b1, b2, b3, b4, b5, b6⟩ := cMn_ce c2 c3 l2 (fun b j q => by unfold wWr at q; omega) (fun b j q => by unfold vLn1 at q; omega) l4 c6 he
    have rm : zrm S S2 := by
      rcases b4 with x | x
      · unfold zrm at c5 ⊢
        rw [x.1, x.2.1, x.2.2]; exact c5
      · rw [c6] at x; exact absurd x.1 (by simp)
    obtain ⟨y1, y2⟩ := hc_endE b1 b2 (ko_trans c4 b3) rm 0
    exact ⟨_, by simp [f_Cl_worst, -Prod.exists, -Prod.forall, ↓bb_gf, ↓bb_gr, ↓bb_len, ↓bb_ga, ↓bb_gl, ↓bb_go, ↓bb_pf, ↓bb_pz, ↓bb_pr, ↓bb_pa, ↓bb_pb, ↓bb_pl, ↓bb_po, ↓bb_cl, ↓bb_some, ↓bb_RI, ↓bb_RJ, mm_hI, mm_hJ, mm_hR, mm_nI, mm_nJ, mm_nR, mm_sI, mm_sJ, mm_sR, mm_RI, mm_RJ, mm_IJ, mm_IR, mm_JI, mm_JR, mm_II, mm_JJ, mm_RR, hm.1.1, ↓bS tu, ↓bS c, a3.1, ↓bS l1, b1.1.1, ↓bS (cl_answer b1.1.1 _), zan] <;> rfl, y1, y2⟩)
theorem hm_worst (n : Int32) : zHm (f_Mo_worst 408 n) (sp_worst n) := hm_gen
  (fun S S1 w h ho q r => by simp [f_Mo_worst, -Prod.exists, -Prod.forall, ↓bb_gf, ↓bb_gr, ↓bb_len, ↓bb_ga, ↓bb_gl, ↓bb_go, ↓bb_pf, ↓bb_pz, ↓bb_pr, ↓bb_pa, ↓bb_pb, ↓bb_pl, ↓bb_po, ↓bb_cl, ↓bb_some, ↓bb_RI, ↓bb_RJ, mm_hI, mm_hJ, mm_hR, mm_nI, mm_nJ, mm_nR, mm_sI, mm_sJ, mm_sR, mm_RI, mm_RJ, mm_IJ, mm_IR, mm_JI, mm_JR, mm_II, mm_JJ, mm_RR, h.1.1.1, ↓bS (mo_ww1 h n), ↓bS r])
  (fun S S1 w m e m1 m5 hp _ q h ho r p => by
    subst e
    have ww := mo_ww1 h (nI m)
    rw [q] at ww
    have n0 : nI 0 = (0 : Int32) := rfl
    rw [n0] at ww
    obtain ⟨S2, d1, d2, d3⟩ := mo_dbl p ho hp m5
    have hsc : mSc S2 408 (wSc w) (wAs w) := d2.1.2.1
    obtain ⟨S', f1, f2, f3⟩ := m_worst_l d2.1.1 hsc (ho.2.2.1 hp) m5
    have f1 : L_Mo_worst_27 zF 408 (nI m) (nI (zdbl (zoW w) (zNW w m))) (-2) 0 S2 = some ((zwsF (wSc w).1 (wSc w).2.2 (wAs w) (zNW w m) 24).2, S') := f1
    have hw : ∀ b j, wWs 408 b j → wMs b j ∨ b = 426 := fun b j q => by unfold wWs wLW at q; unfold wMs; omega
    have e : ∀ b j, ¬ (wMs b j ∨ b = 426) → zI S' b j = zI S2 b j := fun b j q => fr_I f2 (fun x => q (hw b j x))
    have mc : mCo S' (sTr w 0) := by
      obtain ⟨a1, a2, a3, a4, a5, a6, a7, a8, a9⟩ := d2.1
      refine ⟨mo_fr a1 f2, f3, by rw [e _ _ (by unfold wMs; omega)]; exact a3, fun k hk => by rw [e _ _ (by unfold wMs; omega)]; exact a4 k hk, by rw [e _ _ (by unfold wMs; omega)]; exact a5, by rw [e _ _ (by unfold wMs; omega)]; exact a6, fun k hk => by rw [e _ _ (by unfold wMs; omega)]; exact a7 k hk, by rw [e _ _ (by unfold wMs; omega)]; exact a8, fun c hc => ?_⟩
      obtain ⟨b1, b2, b3, b4⟩ := a9 c hc
      refine ⟨by rw [e _ _ (by unfold wMs; omega)]; exact b1, fun k hk => by rw [e _ _ (by unfold wMs; omega)]; exact b2 k hk, fun k hk => by rw [e _ _ (by unfold wMs; omega)]; exact b3 k hk, fun q q3 hq => ?_⟩
      obtain ⟨c1, c2, c3⟩ := b4 q q3 hq
      exact ⟨by rw [e _ _ (by unfold wMs; omega)]; exact c1, by rw [e _ _ (by unfold wMs; omega)]; exact c2, fun k hk => by rw [e _ _ (by unfold wMs; omega)]; exact c3 k hk⟩
    have pm : pMo S' (sTr w 0) := ⟨mc, by rw [fr_I f2 (by unfold wWs wLW; omega)]; exact d2.2.1, fun q => by cases q⟩
    exact ⟨S', by simp [f_Mo_worst, -Prod.exists, -Prod.forall, ↓bb_gf, ↓bb_gr, ↓bb_len, ↓bb_ga, ↓bb_gl, ↓bb_go, ↓bb_pf, ↓bb_pz, ↓bb_pr, ↓bb_pa, ↓bb_pb, ↓bb_pl, ↓bb_po, ↓bb_cl, ↓bb_some, ↓bb_RI, ↓bb_RJ, mm_hI, mm_hJ, mm_hR, mm_nI, mm_nJ, mm_nR, mm_sI, mm_sJ, mm_sR, mm_RI, mm_RJ, mm_IJ, mm_IR, mm_JI, mm_JR, mm_II, mm_JJ, mm_RR, h.1.1.1, ↓bS ww, ↓bS r, p.1.1.1, ↓bS d1, f1, zan], pm, fr_trans d3 (fr_mono f2 (fun b j q => by unfold wWs wLW at q; unfold wMo; omega))⟩)
/-! rules that never serve -/
theorem bits_not {m : Nat} {g : Nat → Bool} (hm : m ≤ 8) : nI (2 ^ m - 1) &&& (nI (zbits 8 g) ^^^ (-1)) = nI (zbits m (fun k => !g k)) := by
  have hl := bits_lt g 8
  have hp : (2 : Nat) ^ m ≤ 2 ^ 8 := Nat.pow_le_pow_right (by omega) hm
  have hpos : 0 < (2 : Nat) ^ m := Nat.two_pow_pos m
  have h255 : ∀ m, m < 256 → ∀ i, i < 8 → (255 - m).testBit i = !m.testBit i := by decide +kernel
  have e2 : nI (2 ^ m - 1) &&& (nI (zbits 8 g) ^^^ (-1)) = nI ((2 ^ m - 1) &&& (255 - zbits 8 g)) := nn_not (m := zbits 8 g) (by omega) (by omega)
  rw [e2]
  congr 1
  refine bits_ext (fun i => ?_)
  rw [Nat.testBit_and, bits_tb, Nat.testBit_two_pow_sub_one]
  by_cases q : i < m
  · rw [h255 (zbits 8 g) (by omega) i (by omega), bits_tb]
    have : i < 8 := by omega
    simp [q, this]
  · simp [q]
noncomputable def sp_idle (p n : Int32) : zWs → Int32 × zWs := zspW n (fun w => (zix p (wSc w).2.2.length).isSome) (-1) (fun w m => zan w (nI (zidl (wSc w).1 (wSc w).2.2 (wAs w) p.toNatClampNeg (zNW w m))))
theorem hk_idle (p n : Int32) : zHk (sp_idle p n) := hk_gen (fun w m ho => ⟨0, by omega, rfl⟩)
theorem hc_idle (p n : Int32) : zHc (f_Cl_idle 1 p n) (sp_idle p n) := hc_gen
  (fun S w T U hm ho q => by
    have pa := cl_pa hm p
    cases e : zix p (wSc w).2.2.length with
    | some j =>
      rw [e] at pa q
      simp only [Option.map_some] at pa
      simp only [Option.isSome_some] at q
      simp [f_Cl_idle, -Prod.exists, -Prod.forall, ↓bb_gf, ↓bb_gr, ↓bb_len, ↓bb_ga, ↓bb_gl, ↓bb_go, ↓bb_pf, ↓bb_pz, ↓bb_pr, ↓bb_pa, ↓bb_pb, ↓bb_pl, ↓bb_po, ↓bb_cl, ↓bb_some, ↓bb_RI, ↓bb_RJ, mm_hI, mm_hJ, mm_hR, mm_nI, mm_nJ, mm_nR, mm_sI, mm_sJ, mm_sR, mm_RI, mm_RJ, mm_IJ, mm_IR, mm_JI, mm_JR, mm_II, mm_JJ, mm_RR, hm.1.1, ↓bS (r_told hm), hm.2.2.1.1.1.1, ↓bS pa, ↓bS (cl_tu1 hm ho n), wT_nz q, ↓bS (cl_refuse hm.1.1 _)]
    | none =>
      rw [e] at pa q
      simp only [Option.map_none] at pa
      simp only [Option.isSome_none] at q
      simp [f_Cl_idle, -Prod.exists, -Prod.forall, ↓bb_gf, ↓bb_gr, ↓bb_len, ↓bb_ga, ↓bb_gl, ↓bb_go, ↓bb_pf, ↓bb_pz, ↓bb_pr, ↓bb_pa, ↓bb_pb, ↓bb_pl, ↓bb_po, ↓bb_cl, ↓bb_some, ↓bb_RI, ↓bb_RJ, mm_hI, mm_hJ, mm_hR, mm_nI, mm_nJ, mm_nR, mm_sI, mm_sJ, mm_sR, mm_RI, mm_RJ, mm_IJ, mm_IR, mm_JI, mm_JR, mm_II, mm_JJ, mm_RR, hm.1.1, ↓bS (r_told hm), hm.2.2.1.1.1.1, ↓bS pa, ↓bS (cl_tu0 hm ho n), wT_nz q, ↓bS (cl_refuse hm.1.1 _)])
  (fun S S1 w T U E K B m e m1 m5 hp hok q hm ho c ⟨c2, c3, c4, c5, c6, c7, c8, c9, cq⟩ => by
    subst e
    have tu := cl_tu1 hm ho (nI m)
    rw [q] at tu
    have n0 : nI 0 = (0 : Int32) := rfl
    rw [n0] at tu
    have pa := cl_pa hm p
    obtain ⟨j, hj⟩ := Option.isSome_iff_exists.1 hok
    rw [hj] at pa
    simp only [Option.map_some] at pa
    obtain ⟨rfl, hq, hq2⟩ := ix_some hj
    have h3 := ho.2.2.2.2.2.2.2.2.1
    have hP := hm.2.2.1.1.2.2.2.2.2.1 j hq
    have r8 := hP.2.2.2.2.2.2.2.1.1
    have bb : f_Cl_bitsBelow (nI (zpa_ (wSc w).2.2 j).2.length) S = some (nI (2 ^ (zpa_ (wSc w).2.2 j).2.length - 1), S) := by
      rw [f_Cl_bitsBelow]
      have := nn_bitsBelow (k := (zpa_ (wSc w).2.2 j).2.length) (by omega)
      have t : (1 : Int32) <<< (nI (zpa_ (wSc w).2.2 j).2.length &&& 31) - 1 = nI (2 ^ (zpa_ (wSc w).2.2 j).2.length - 1) := this
      rw [t]
    have fd := c_servingIn (p := j) cq m5 c9 (by omega)
    obtain ⟨y1, y2⟩ := hc_endE c2 c3 c4 c5 0
    have bn := bits_not (g := fun k => zsu (wSc w).1 (wSc w).2.2 (wAs w) j (zcnt (wSc w).1 m) k) r8
    refine ⟨_, ?_, y1, y2⟩
    simp only [nI_clamp hq2]
    simp [f_Cl_idle, -Prod.exists, -Prod.forall, ↓bb_gf, ↓bb_gr, ↓bb_len, ↓bb_ga, ↓bb_gl, ↓bb_go, ↓bb_pf, ↓bb_pz, ↓bb_pr, ↓bb_pa, ↓bb_pb, ↓bb_pl, ↓bb_po, ↓bb_cl, ↓bb_some, ↓bb_RI, ↓bb_RJ, mm_hI, mm_hJ, mm_hR, mm_nI, mm_nJ, mm_nR, mm_sI, mm_sJ, mm_sR, mm_RI, mm_RJ, mm_IJ, mm_IR, mm_JI, mm_JR, mm_II, mm_JJ, mm_RR, hm.1.1, ↓bS (r_told hm), hm.2.2.1.1.1.1, ↓bS pa, ↓bS tu, hP.1.1, hP.2.1, ↓bS bb, ↓bS c, c7.2.2.1.1, ↓bS fd, bn, c2.1.1, ↓bS (cl_answer c2.1.1 _), zan]
    refine ⟨?_, rfl⟩
    have tn : ∀ x : Int32, x ^^^ (-1) = ~~~x := fun x => by simp
    rw [tn] at bn
    exact bn)
theorem hm_idle (p n : Int32) : zHm (f_Mo_idle 408 p n) (sp_idle p n) := hm_gen
  (fun S S1 w h ho q r => by
    have ip := mo_isPass h.1 ho p
    have ww := mo_ww h n (zix p (wSc w).2.2.length).isSome
    cases e : zix p (wSc w).2.2.length with
    | some j => rw [e] at ip ww r; simp only [Option.isSome_some, if_true] at ip ww r; simp [f_Mo_idle, -Prod.exists, -Prod.forall, ↓bb_gf, ↓bb_gr, ↓bb_len, ↓bb_ga, ↓bb_gl, ↓bb_go, ↓bb_pf, ↓bb_pz, ↓bb_pr, ↓bb_pa, ↓bb_pb, ↓bb_pl, ↓bb_po, ↓bb_cl, ↓bb_some, ↓bb_RI, ↓bb_RJ, mm_hI, mm_hJ, mm_hR, mm_nI, mm_nJ, mm_nR, mm_sI, mm_sJ, mm_sR, mm_RI, mm_RJ, mm_IJ, mm_IR, mm_JI, mm_JR, mm_II, mm_JJ, mm_RR, ↓bS ip, h.1.1.1, ↓bS ww, ↓bS r]
    | none => rw [e] at ip ww r; simp only [Option.isSome_none, Bool.false_eq_true, if_false] at ip ww r; simp [f_Mo_idle, -Prod.exists, -Prod.forall, ↓bb_gf, ↓bb_gr, ↓bb_len, ↓bb_ga, ↓bb_gl, ↓bb_go, ↓bb_pf, ↓bb_pz, ↓bb_pr, ↓bb_pa, ↓bb_pb, ↓bb_pl, ↓bb_po, ↓bb_cl, ↓bb_some, ↓bb_RI, ↓bb_RJ, mm_hI, mm_hJ, mm_hR, mm_nI, mm_nJ, mm_nR, mm_sI, mm_sJ, mm_sR, mm_RI, mm_RJ, mm_IJ, mm_IR, mm_JI, mm_JR, mm_II, mm_JJ, mm_RR, ↓bS ip, h.1.1.1, ↓bS ww, ↓bS r])
  (fun S S1 w m e m1 m5 hp hok q h ho r pp => by
    subst e
    have ww := mo_ww1 h (nI m)
    rw [q] at ww
    have n0 : nI 0 = (0 : Int32) := rfl
    rw [n0] at ww
    have ip := mo_isPass h.1 ho p
    obtain ⟨j, hj⟩ := Option.isSome_iff_exists.1 hok
    rw [hj] at ip
    simp only [Option.isSome_some, if_true] at ip
    obtain ⟨rfl, hq, hq2⟩ := ix_some hj
    have h3 := ho.2.2.2.2.2.2.2.2.1
    have hsc : mSc S1 408 (wSc w) (wAs w) := pp.1.2.1
    have r8 := (ps_w hsc.2.2.2.2.2.2.2.2.2.2.2.2 hq).1
    obtain ⟨S', d1, d2⟩ := m_idle_l pp.1.1 hsc (ho.2.2.1 hp) m5 hq
    obtain ⟨k1, k2⟩ := mo_keep pp d2 (fun b j q => by unfold wId at q; unfold wMs; omega) (by unfold wId; omega) (by unfold wId; omega)
    have t : (1 : Int32) <<< (nI (zpa_ (wSc w).2.2 j).2.length &&& 31) - 1 = nI (2 ^ (zpa_ (wSc w).2.2 j).2.length - 1) := nn_bitsBelow (k := (zpa_ (wSc w).2.2 j).2.length) (by omega)
    have v : zI S1 (408 + 3) j = nI (zpa_ (wSc w).2.2 j).2.length := hsc.2.2.2.2.2.1 j (by omega)
    have z : zinb (nI j) 3 = true := (nn_in hq2).2 (by omega)
    have cl : (nI j).toNatClampNeg = j := nI_clamp hq2
    refine ⟨S', ?_, k1, k2⟩
    simp only [cl]
    simp [f_Mo_idle, -Prod.exists, -Prod.forall, ↓bb_gf, ↓bb_gr, ↓bb_len, ↓bb_ga, ↓bb_gl, ↓bb_go, ↓bb_pf, ↓bb_pz, ↓bb_pr, ↓bb_pa, ↓bb_pb, ↓bb_pl, ↓bb_po, ↓bb_cl, ↓bb_some, ↓bb_RI, ↓bb_RJ, mm_hI, mm_hJ, mm_hR, mm_nI, mm_nJ, mm_nR, mm_sI, mm_sJ, mm_sR, mm_RI, mm_RJ, mm_IJ, mm_IR, mm_JI, mm_JR, mm_II, mm_JJ, mm_RR, ↓bS ip, h.1.1.1, ↓bS ww, ↓bS r, pp.1.1.1, ↓bS (mo_ruleMany pp.1.1), mh_ruleMany pp.1.1, z, cl, v, t, d1, zan]
    rfl)
