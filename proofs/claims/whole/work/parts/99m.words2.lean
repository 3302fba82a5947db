/-! calls over all words, in general -/
noncomputable def zspW {β : Type} (n : Int32) (ok : zWs → Bool) (bad : β) (g : zWs → Nat → β × zWs) (w : zWs) : β × zWs := if zwT n (ok w) w = 0 then g w n.toNatClampNeg else (bad, sTr w (zwT n (ok w) w))
theorem hk_gen {β : Type} {n : Int32} {ok : zWs → Bool} {bad : β} {g : zWs → Nat → β × zWs} (h : ∀ w m, okW w → ∃ t, t < 8 ∧ (g w m).2 = sTr w t) : zHk (zspW n ok bad g) := hk_tr (fun w ho => by
  unfold zspW
  have c := wT_c n (ok w) w
  split
  · exact h _ _ ho
  · exact ⟨zwT n (ok w) w, by omega, rfl⟩)
/-- the census is at hand -/
def zCH (S S1 : zM) (w : zWs) (T U E K B m : Nat) : Prop := cMn S1 w T U ∧ cSr S1 ∧ zko S S1 ∧ zrm S S1 ∧ zR S1 1 12 = some E ∧ eCe S1 w E K B ∧ zR S1 E 9 = some T ∧ zcnt (wSc w).1 m ≤ K ∧ qCen S1 E T (wSc w) (wAs w) K
theorem hc_gen {β : Type} {f : zM → Option (β × zM)} {n : Int32} {ok : zWs → Bool} {bad : β} {g : zWs → Nat → β × zWs}
    (hb : ∀ S w T U, cMn S w T U → okW w → ¬ zwT n (ok w) w = 0 → f S = some (bad, zwI S 1 16 (nI (zwT n (ok w) w))))
    (hg : ∀ S S1 w T U E K B m, n = nI m → 1 ≤ m → m ≤ 5 → 0 < (wSc w).2.2.length → ok w = true → zwT n true w = 0 → cMn S w T U → okW w → f_Cl_censusUpTo 1 (nI m) S = some (E, S1) → zCH S S1 w T U E K B m → ∃ S', f S = some ((g w m).1, S') ∧ pCl S' (g w m).2 ∧ zko S S' ∧ zrm S S') : zHc f (zspW n ok bad g) := fun S w h ho => by
  obtain ⟨T, U, hm, hs, ht⟩ := h
  unfold zspW
  by_cases q : zwT n (ok w) w = 0
  · rw [if_pos q]
    obtain ⟨m, rfl, m1, m5, hp, hok⟩ := wT_0 q
    rw [nI_clamp (by omega)]
    obtain ⟨S1, E, K, B, c1, c2, c3, c4, c5, c6, c7, c8, c9, _⟩ := cl_census hm hs ho hp m5
    exact hg S S1 w T U E K B m rfl m1 m5 hp hok (by rw [hok] at q; exact q) hm ho c1 ⟨c2, c3, c4, c5, c6, c7, c8, c9, eCe_q c2 ho hp c7 c8⟩
  · rw [if_neg q]
    obtain ⟨y1, y2⟩ := hc_same hm hs (zwT n (ok w) w)
    exact ⟨_, hb S w T U hm ho q, y1, y2⟩
theorem hm_gen {β : Type} {f : zM → Option (β × zM)} {n : Int32} {ok : zWs → Bool} {bad : β} {g : zWs → Nat → β × zWs}
    (hb : ∀ S S1 w, pMo S w → okW w → ¬ zwT n (ok w) w = 0 → f_Mo_isRefused 408 (nI (zwT n (ok w) w)) S = some (1, S1) → f S = some (bad, S1))
    (hg : ∀ S S1 w m, n = nI m → 1 ≤ m → m ≤ 5 → 0 < (wSc w).2.2.length → ok w = true → zwT n true w = 0 → pMo S w → okW w → f_Mo_isRefused 408 0 S = some (0, S1) → pMo S1 (sTr w 0) → ∃ S', f S = some ((g w m).1, S') ∧ pMo S' (g w m).2 ∧ zfr wMo S1 S') : zHm f (zspW n ok bad g) := fun S w h ho => by
  unfold zspW
  have c := wT_c n (ok w) w
  obtain ⟨S1, r1, r2, r3⟩ := mo_ref h (t := zwT n (ok w) w) (by omega)
  by_cases q : zwT n (ok w) w = 0
  · rw [if_pos q]
    obtain ⟨m, rfl, m1, m5, hp, hok⟩ := wT_0 q
    rw [nI_clamp (by omega)]
    rw [q, if_pos rfl] at r1
    rw [q] at r2
    obtain ⟨S', g1, g2, g3⟩ := hg S S1 w m rfl m1 m5 hp hok (by rw [hok] at q; exact q) h ho r1 r2
    exact ⟨S', g1, g2, fr_trans r3 g3⟩
  · rw [if_neg q] at r1 ⊢
    exact ⟨S1, hb S S1 w h ho q r1, r2, r3⟩
/-- words, how each goes -/
def zoW (w : zWs) : Nat → Nat × List Nat := zoc (wSc w).1 (wSc w).2.2 (wAs w)
def zNW (w : zWs) (m : Nat) : Nat := zcnt (wSc w).1 m
theorem nW_le {w : zWs} {m : Nat} (ho : okW w) (hp : 0 < (wSc w).2.2.length) (hm : m ≤ 5) : zNW w m ≤ zcnt (wSc w).1 5 ∧ zcnt (wSc w).1 5 ≤ 1364 := cnt_le (ho.2.2.1 hp) hm
theorem ct_fi {p : Nat → Bool} {N : Nat} : fb_ct p N = 0 ↔ zfi p N = none := by
  constructor
  · intro h
    cases e : zfi p N with
    | none => rfl
    | some k =>
      obtain ⟨a, b, _⟩ := fi_some e
      have s1 := fb_ct_step p (k + 1) (N - (k + 1))
      rw [show k + 1 + (N - (k + 1)) = N by omega, fb_ct_succ, b] at s1
      simp only [if_true] at s1
      omega
  · intro h
    have := fi_none h
    have main : ∀ n, n ≤ N → fb_ct p n = 0 := by
      intro n
      induction n with
      | zero => intro _; rfl
      | succ n ih => intro hn; rw [fb_ct_succ, ih (by omega), this n (by omega)]; rfl
    exact main N (Nat.le_refl _)
/-! words -/
noncomputable def sp_words (n : Int32) : zWs → Int32 × zWs := zspW n (fun _ => true) (-1) (fun w m => zan w (nI (zNW w m)))
theorem hk_words (n : Int32) : zHk (sp_words n) := hk_gen (fun w m ho => ⟨0, by omega, rfl⟩)
theorem hc_words (n : Int32) : zHc (f_Cl_words 1 n) (sp_words n) := fun S w h ho => by
  obtain ⟨T, U, hm, hs, ht⟩ := h; have h1 := hm.1.1; have r10 := r_told hm; have hS := hm.2.2.1.1; obtain ⟨e0, e1⟩ := hc_same hm hs 0; obtain ⟨f0, f1⟩ := hc_same hm hs 1; have h3 := ho.2.2.2.2.2.2.2.2.1
  unfold sp_words zspW
  have tu := cl_tu1 hm ho n
  by_cases q : zwT n true w = 0
  · rw [if_pos q]
    obtain ⟨m, rfl, m1, m5, hp, _⟩ := wT_0 q
    rw [nI_clamp (by omega)]
    rw [q] at tu
    have n0 : nI 0 = (0 : Int32) := rfl
    rw [n0] at tu
    have cu := c_countUpTo (S := S) (ho.2.2.1 hp).2 m5
    exact ⟨_, by simp [f_Cl_words, -Prod.exists, -Prod.forall, ↓bb_gf, ↓bb_gr, ↓bb_len, ↓bb_ga, ↓bb_gl, ↓bb_go, ↓bb_pf, ↓bb_pz, ↓bb_pr, ↓bb_pa, ↓bb_pb, ↓bb_pl, ↓bb_po, ↓bb_cl, ↓bb_some, ↓bb_RI, ↓bb_RJ, mm_hI, mm_hJ, mm_hR, mm_nI, mm_nJ, mm_nR, mm_sI, mm_sJ, mm_sR, mm_RI, mm_RJ, mm_IJ, mm_IR, mm_JI, mm_JR, mm_II, mm_JJ, mm_RR, h1, ↓bS tu, ↓bS r10, hS.1.1, hS.2.1, ↓bS cu, ↓bS (cl_answer h1 _), zan, zNW] <;> rfl, e0, e1⟩
  · rw [if_neg q]
    obtain ⟨y1, y2⟩ := hc_same hm hs (zwT n true w)
    exact ⟨_, by simp [f_Cl_words, -Prod.exists, -Prod.forall, ↓bb_gf, ↓bb_gr, ↓bb_len, ↓bb_ga, ↓bb_gl, ↓bb_go, ↓bb_pf, ↓bb_pz, ↓bb_pr, ↓bb_pa, ↓bb_pb, ↓bb_pl, ↓bb_po, ↓bb_cl, ↓bb_some, ↓bb_RI, ↓bb_RJ, mm_hI, mm_hJ, mm_hR, mm_nI, mm_nJ, mm_nR, mm_sI, mm_sJ, mm_sR, mm_RI, mm_RJ, mm_IJ, mm_IR, mm_JI, mm_JR, mm_II, mm_JJ, mm_RR, h1, ↓bS tu, wT_nz q, ↓bS (cl_refuse h1 _)] <;> rfl, y1, y2⟩
theorem hm_words (n : Int32) : zHm (f_Mo_words 408 n) (sp_words n) := hm_gen
  (fun S S1 w h ho q r => by simp [f_Mo_words, -Prod.exists, -Prod.forall, ↓bb_gf, ↓bb_gr, ↓bb_len, ↓bb_ga, ↓bb_gl, ↓bb_go, ↓bb_pf, ↓bb_pz, ↓bb_pr, ↓bb_pa, ↓bb_pb, ↓bb_pl, ↓bb_po, ↓bb_cl, ↓bb_some, ↓bb_RI, ↓bb_RJ, mm_hI, mm_hJ, mm_hR, mm_nI, mm_nJ, mm_nR, mm_sI, mm_sJ, mm_sR, mm_RI, mm_RJ, mm_IJ, mm_IR, mm_JI, mm_JR, mm_II, mm_JJ, mm_RR, h.1.1.1, ↓bS (mo_ww1 h n), ↓bS r])
  (fun S S1 w m e m1 m5 hp _ q h ho r p => by
    subst e
    have ww := mo_ww1 h (nI m)
    rw [q] at ww
    have n0 : nI 0 = (0 : Int32) := rfl
    rw [n0] at ww
    have mu := m_manyUpTo (ho.2.2.1 hp).2 m5 p.1.1 (show zI S1 408 6 = nI (wSc w).1 from p.1.2.1.1)
    exact ⟨S1, by simp [f_Mo_words, -Prod.exists, -Prod.forall, ↓bb_gf, ↓bb_gr, ↓bb_len, ↓bb_ga, ↓bb_gl, ↓bb_go, ↓bb_pf, ↓bb_pz, ↓bb_pr, ↓bb_pa, ↓bb_pb, ↓bb_pl, ↓bb_po, ↓bb_cl, ↓bb_some, ↓bb_RI, ↓bb_RJ, mm_hI, mm_hJ, mm_hR, mm_nI, mm_nJ, mm_nR, mm_sI, mm_sJ, mm_sR, mm_RI, mm_RJ, mm_IJ, mm_IR, mm_JI, mm_JR, mm_II, mm_JJ, mm_RR, h.1.1.1, ↓bS ww, ↓bS r, p.1.1.1, ↓bS mu, zan, zNW], p, fr_refl _ _⟩)
/-! reversible, doubled -/
noncomputable def sp_reversible (n : Int32) : zWs → Int32 × zWs := zspW n (fun _ => true) (-1) (fun w m => zan w (if zdbl (zoW w) (zNW w m) = 0 then 1 else 0))
noncomputable def sp_doubled (n : Int32) : zWs → Int32 × zWs := zspW n (fun _ => true) (-1) (fun w m => zan w (nI (zdbl (zoW w) (zNW w m))))
theorem hk_reversible (n : Int32) : zHk (sp_reversible n) := hk_gen (fun w m ho => ⟨0, by omega, rfl⟩)
theorem hk_doubled (n : Int32) : zHk (sp_doubled n) := hk_gen (fun w m ho => ⟨0, by omega, rfl⟩)
theorem hc_reversible (n : Int32) : zHc (f_Cl_reversible 1 n) (sp_reversible n) := hc_gen
  (fun S w T U hm ho q => by simp [f_Cl_reversible, -Prod.exists, -Prod.forall, ↓bb_gf, ↓bb_gr, ↓bb_len, ↓bb_ga, ↓bb_gl, ↓bb_go, ↓bb_pf, ↓bb_pz, ↓bb_pr, ↓bb_pa, ↓bb_pb, ↓bb_pl, ↓bb_po, ↓bb_cl, ↓bb_some, ↓bb_RI, ↓bb_RJ, mm_hI, mm_hJ, mm_hR, mm_nI, mm_nJ, mm_nR, mm_sI, mm_sJ, mm_sR, mm_RI, mm_RJ, mm_IJ, mm_IR, mm_JI, mm_JR, mm_II, mm_JJ, mm_RR, hm.1.1, ↓bS (cl_tu1 hm ho n), wT_nz q, ↓bS (cl_refuse hm.1.1 _)])
  (fun S S1 w T U E K B m e m1 m5 hp _ q hm ho c ⟨c2, c3, c4, c5, c6, c7, c8, c9, cq⟩ => by
    subst e
    have tu := cl_tu1 hm ho (nI m)
    rw [q] at tu
    have n0 : nI 0 = (0 : Int32) := rfl
    rw [n0] at tu
    have fd := c_firstDoubled cq m5 c9
    obtain ⟨y1, y2⟩ := hc_endE c2 c3 c4 c5 0
    have cf := ct_fi (p := fun i => (ztwin (zoW w) i).isSome) (N := zNW w m)
    cases e : zfi (fun i => (ztwin (zoW w) i).isSome) (zNW w m) with
    | none =>
      have fd' : f_Census_firstDoubled E (nI m) S1 = some (-1, S1) := by rw [fd]; show some (zsI (zfi (fun i => (ztwin (zoW w) i).isSome) (zNW w m)), S1) = _; rw [e]; rfl
      have z : zdbl (zoW w) (zNW w m) = 0 := cf.2 e
      exact ⟨_, by simp [f_Cl_reversible, -Prod.exists, -Prod.forall, ↓bb_gf, ↓bb_gr, ↓bb_len, ↓bb_ga, ↓bb_gl, ↓bb_go, ↓bb_pf, ↓bb_pz, ↓bb_pr, ↓bb_pa, ↓bb_pb, ↓bb_pl, ↓bb_po, ↓bb_cl, ↓bb_some, ↓bb_RI, ↓bb_RJ, mm_hI, mm_hJ, mm_hR, mm_nI, mm_nJ, mm_nR, mm_sI, mm_sJ, mm_sR, mm_RI, mm_RJ, mm_IJ, mm_IR, mm_JI, mm_JR, mm_II, mm_JJ, mm_RR, hm.1.1, ↓bS tu, ↓bS c, c7.2.2.1.1, ↓bS fd', c2.1.1, ↓bS (cl_answer c2.1.1 _), zan, z] <;> rfl, y1, y2⟩
    | some i =>
      have hi := (fi_some e).1
      have := nW_le ho hp m5
      have fd' : f_Census_firstDoubled E (nI m) S1 = some (nI i, S1) := by rw [fd]; show some (zsI (zfi (fun i => (ztwin (zoW w) i).isSome) (zNW w m)), S1) = _; rw [e]; rfl
      have z : ¬ zdbl (zoW w) (zNW w m) = 0 := fun x => by have := cf.1 x; rw [e] at this; cases this
      have nn : ¬ nI i = -1 := (nn_eqm (i := i) (m := 1) (by omega) (by omega) (by omega)).1
      exact ⟨_, by simp [f_Cl_reversible, -Prod.exists, -Prod.forall, ↓bb_gf, ↓bb_gr, ↓bb_len, ↓bb_ga, ↓bb_gl, ↓bb_go, ↓bb_pf, ↓bb_pz, ↓bb_pr, ↓bb_pa, ↓bb_pb, ↓bb_pl, ↓bb_po, ↓bb_cl, ↓bb_some, ↓bb_RI, ↓bb_RJ, mm_hI, mm_hJ, mm_hR, mm_nI, mm_nJ, mm_nR, mm_sI, mm_sJ, mm_sR, mm_RI, mm_RJ, mm_IJ, mm_IR, mm_JI, mm_JR, mm_II, mm_JJ, mm_RR, hm.1.1, ↓bS tu, ↓bS c, c7.2.2.1.1, ↓bS fd', nn, c2.1.1, ↓bS (cl_answer c2.1.1 _), zan, z] <;> rfl, y1, y2⟩)
theorem hc_doubled (n : Int32) : zHc (f_Cl_doubled 1 n) (sp_doubled n) := hc_gen
  (fun S w T U hm ho q => by simp [f_Cl_doubled, -Prod.exists, -Prod.forall, ↓bb_gf, ↓bb_gr, ↓bb_len, ↓bb_ga, ↓bb_gl, ↓bb_go, ↓bb_pf, ↓bb_pz, ↓bb_pr, ↓bb_pa, ↓bb_pb, ↓bb_pl, ↓bb_po, ↓bb_cl, ↓bb_some, ↓bb_RI, ↓bb_RJ, mm_hI, mm_hJ, mm_hR, mm_nI, mm_nJ, mm_nR, mm_sI, mm_sJ, mm_sR, mm_RI, mm_RJ, mm_IJ, mm_IR, mm_JI, mm_JR, mm_II, mm_JJ, mm_RR, hm.1.1, ↓bS (cl_tu1 hm ho n), wT_nz q, ↓bS (cl_refuse hm.1.1 _)])
  (fun S S1 w T U E K B m e m1 m5 hp _ q hm ho c ⟨c2, c3, c4, c5, c6, c7, c8, c9, cq⟩ => by
    subst e
    have tu := cl_tu1 hm ho (nI m)
    rw [q] at tu
    have n0 : nI 0 = (0 : Int32) := rfl
    rw [n0] at tu
    have fd : f_Census_countDoubled E (nI m) S1 = some (nI (zdbl (zoW w) (zNW w m)), S1) := c_countDoubled cq m5 c9
    obtain ⟨y1, y2⟩ := hc_endE c2 c3 c4 c5 0
    exact ⟨_, by simp [f_Cl_doubled, -Prod.exists, -Prod.forall, ↓bb_gf, ↓bb_gr, ↓bb_len, ↓bb_ga, ↓bb_gl, ↓bb_go, ↓bb_pf, ↓bb_pz, ↓bb_pr, ↓bb_pa, ↓bb_pb, ↓bb_pl, ↓bb_po, ↓bb_cl, ↓bb_some, ↓bb_RI, ↓bb_RJ, mm_hI, mm_hJ, mm_hR, mm_nI, mm_nJ, mm_nR, mm_sI, mm_sJ, mm_sR, mm_RI, mm_RJ, mm_IJ, mm_IR, mm_JI, mm_JR, mm_II, mm_JJ, mm_RR, hm.1.1, ↓bS tu, ↓bS c, c7.2.2.1.1, ↓bS fd, c2.1.1, ↓bS (cl_answer c2.1.1 _), zan] <;> rfl, y1, y2⟩)
theorem lw_ms {b j : Nat} (q : wLW 408 b j) : wMs b j := by unfold wLW at q; unfold wMs; omega
theorem mo_dbl {S : zM} {w : zWs} {m : Nat} (p : pMo S (sTr w 0)) (ho : okW w) (hp : 0 < (wSc w).2.2.length) (m5 : m ≤ 5) : ∃ S', f_Mo_doubledMany 408 (nI m) S = some (nI (zdbl (zoW w) (zNW w m)), S') ∧ pMo S' (sTr w 0) ∧ zfr wMo S S' := by
  obtain ⟨S', d1, d2⟩ := m_doubled p.1.1 (show mSc S 408 (wSc w) (wAs w) from p.1.2.1) (ho.2.2.1 hp) m5
  obtain ⟨k1, k2⟩ := mo_keep p d2 (fun b j q => lw_ms q) (by unfold wLW; omega) (by unfold wLW; omega)
  exact ⟨S', d1, k1, k2⟩
theorem mo_lays {S : zM} {w : zWs} {m : Nat} (p : pMo S (sTr w 0)) (ho : okW w) (hp : 0 < (wSc w).2.2.length) (m5 : m ≤ 5) : ∃ S', f_Mo_laysWords 408 (nI m) S = some S' ∧ pMo S' (sTr w 0) ∧ zfr wMo S S' ∧ zI S' 408 61 = nI (zNW w m) ∧ mWo S' 408 (zNW w m) (zoW w) ∧ wOc (zoW w) (zNW w m) ∧ zfr (wLW 408) S S' := by
  obtain ⟨S', d1, d2, d3, d4⟩ := m_laysWords p.1.1 (show mSc S 408 (wSc w) (wAs w) from p.1.2.1) (ho.2.2.1 hp) m5
  obtain ⟨k1, k2⟩ := mo_keep p d2 (fun b j q => lw_ms q) (by unfold wLW; omega) (by unfold wLW; omega)
  have hsc : mSc S 408 (wSc w) (wAs w) := p.1.2.1
  have ow := oc_w (asd := wAs w) (ho.2.2.1 hp) hsc.2.2.2.2.2.2.2.2.2.2.2.2
  have nl := nW_le ho hp m5
  exact ⟨S', d1, k1, k2, d3, d4, fun i hi => ow i (by omega), d2⟩
theorem hm_doubled (n : Int32) : zHm (f_Mo_doubled 408 n) (sp_doubled n) := hm_gen
  (fun S S1 w h ho q r => by simp [f_Mo_doubled, -Prod.exists, -Prod.forall, ↓bb_gf, ↓bb_gr, ↓bb_len, ↓bb_ga, ↓bb_gl, ↓bb_go, ↓bb_pf, ↓bb_pz, ↓bb_pr, ↓bb_pa, ↓bb_pb, ↓bb_pl, ↓bb_po, ↓bb_cl, ↓bb_some, ↓bb_RI, ↓bb_RJ, mm_hI, mm_hJ, mm_hR, mm_nI, mm_nJ, mm_nR, mm_sI, mm_sJ, mm_sR, mm_RI, mm_RJ, mm_IJ, mm_IR, mm_JI, mm_JR, mm_II, mm_JJ, mm_RR, h.1.1.1, ↓bS (mo_ww1 h n), ↓bS r])
  (fun S S1 w m e m1 m5 hp _ q h ho r p => by
    subst e
    have ww := mo_ww1 h (nI m)
    rw [q] at ww
    have n0 : nI 0 = (0 : Int32) := rfl
    rw [n0] at ww
    obtain ⟨S', d1, d2, d3⟩ := mo_dbl p ho hp m5
    exact ⟨S', by simp [f_Mo_doubled, -Prod.exists, -Prod.forall, ↓bb_gf, ↓bb_gr, ↓bb_len, ↓bb_ga, ↓bb_gl, ↓bb_go, ↓bb_pf, ↓bb_pz, ↓bb_pr, ↓bb_pa, ↓bb_pb, ↓bb_pl, ↓bb_po, ↓bb_cl, ↓bb_some, ↓bb_RI, ↓bb_RJ, mm_hI, mm_hJ, mm_hR, mm_nI, mm_nJ, mm_nR, mm_sI, mm_sJ, mm_sR, mm_RI, mm_RJ, mm_IJ, mm_IR, mm_JI, mm_JR, mm_II, mm_JJ, mm_RR, h.1.1.1, ↓bS ww, ↓bS r, p.1.1.1, ↓bS d1, zan], d2, d3⟩)
theorem hm_reversible (n : Int32) : zHm (f_Mo_reversible 408 n) (sp_reversible n) := hm_gen
  (fun S S1 w h ho q r => by simp [f_Mo_reversible, -Prod.exists, -Prod.forall, ↓bb_gf, ↓bb_gr, ↓bb_len, ↓bb_ga, ↓bb_gl, ↓bb_go, ↓bb_pf, ↓bb_pz, ↓bb_pr, ↓bb_pa, ↓bb_pb, ↓bb_pl, ↓bb_po, ↓bb_cl, ↓bb_some, ↓bb_RI, ↓bb_RJ, mm_hI, mm_hJ, mm_hR, mm_nI, mm_nJ, mm_nR, mm_sI, mm_sJ, mm_sR, mm_RI, mm_RJ, mm_IJ, mm_IR, mm_JI, mm_JR, mm_II, mm_JJ, mm_RR, h.1.1.1, ↓bS (mo_ww1 h n), ↓bS r])
  (fun S S1 w m e m1 m5 hp _ q h ho r p => by
    subst e
    have ww := mo_ww1 h (nI m)
    rw [q] at ww
    have n0 : nI 0 = (0 : Int32) := rfl
    rw [n0] at ww
    obtain ⟨S', d1, d2, d3⟩ := mo_dbl p ho hp m5
    have dl := dbl_le (zoW w) (zNW w m)
    have nl := nW_le ho hp m5
    by_cases z : zdbl (zoW w) (zNW w m) = 0
    · rw [z, n0] at d1
      exact ⟨S', by simp [f_Mo_reversible, -Prod.exists, -Prod.forall, ↓bb_gf, ↓bb_gr, ↓bb_len, ↓bb_ga, ↓bb_gl, ↓bb_go, ↓bb_pf, ↓bb_pz, ↓bb_pr, ↓bb_pa, ↓bb_pb, ↓bb_pl, ↓bb_po, ↓bb_cl, ↓bb_some, ↓bb_RI, ↓bb_RJ, mm_hI, mm_hJ, mm_hR, mm_nI, mm_nJ, mm_nR, mm_sI, mm_sJ, mm_sR, mm_RI, mm_RJ, mm_IJ, mm_IR, mm_JI, mm_JR, mm_II, mm_JJ, mm_RR, h.1.1.1, ↓bS ww, ↓bS r, p.1.1.1, ↓bS d1, zan, z], d2, d3⟩
    · have nz : ¬ nI (zdbl (zoW w) (zNW w m)) = 0 := fun x => z ((nI_eq (b := 0) (by omega) (by omega)).1 x)
      exact ⟨S', by simp [f_Mo_reversible, -Prod.exists, -Prod.forall, ↓bb_gf, ↓bb_gr, ↓bb_len, ↓bb_ga, ↓bb_gl, ↓bb_go, ↓bb_pf, ↓bb_pz, ↓bb_pr, ↓bb_pa, ↓bb_pb, ↓bb_pl, ↓bb_po, ↓bb_cl, ↓bb_some, ↓bb_RI, ↓bb_RJ, mm_hI, mm_hJ, mm_hR, mm_nI, mm_nJ, mm_nR, mm_sI, mm_sJ, mm_sR, mm_RI, mm_RJ, mm_IJ, mm_IR, mm_JI, mm_JR, mm_II, mm_JJ, mm_RR, h.1.1.1, ↓bS ww, ↓bS r, p.1.1.1, ↓bS d1, nz, zan, z], d2, d3⟩)
/-! longest -/
noncomputable def sp_longest (n : Int32) : zWs → Int32 × zWs := zspW n (fun _ => true) (-1) (fun w m => match zlga (zoW w) (zNW w m) with
  | none => zan w (-2)
  | some b => zan w (nI (zoW w b).2.length))
noncomputable def sp_longestOf (n : Int32) : zWs → Int64 × zWs := zspW n (fun _ => true) (-1) (fun w m => zwA w (zlga (zoW w) (zNW w m)) 5)
theorem hk_longest (n : Int32) : zHk (sp_longest n) := hk_gen (fun w m ho => by
  cases zlga (zoW w) (zNW w m) with
  | none => exact ⟨0, by omega, rfl⟩
  | some b => exact ⟨0, by omega, rfl⟩)
theorem hk_longestOf (n : Int32) : zHk (sp_longestOf n) := hk_gen (fun w m ho => wA_tr _ _ (by omega))
theorem m1L : ((-1 : Int32)).toInt64 = -1 := by decide
theorem hc_longest (n : Int32) : zHc (f_Cl_longest 1 n) (sp_longest n) := hc_gen
  (fun S w T U hm ho q => by simp [f_Cl_longest, -Prod.exists, -Prod.forall, ↓bb_gf, ↓bb_gr, ↓bb_len, ↓bb_ga, ↓bb_gl, ↓bb_go, ↓bb_pf, ↓bb_pz, ↓bb_pr, ↓bb_pa, ↓bb_pb, ↓bb_pl, ↓bb_po, ↓bb_cl, ↓bb_some, ↓bb_RI, ↓bb_RJ, mm_hI, mm_hJ, mm_hR, mm_nI, mm_nJ, mm_nR, mm_sI, mm_sJ, mm_sR, mm_RI, mm_RJ, mm_IJ, mm_IR, mm_JI, mm_JR, mm_II, mm_JJ, mm_RR, hm.1.1, ↓bS (cl_tu1 hm ho n), wT_nz q, ↓bS (cl_refuse hm.1.1 _)])
  (fun S S1 w T U E K B m e m1 m5 hp _ q hm ho c ⟨c2, c3, c4, c5, c6, c7, c8, c9, cq⟩ => by
    subst e
    have tu := cl_tu1 hm ho (nI m)
    rw [q] at tu
    have n0 : nI 0 = (0 : Int32) := rfl
    rw [n0] at tu
    have fd : f_Census_firstLongest E (nI m) S1 = some (zsI (zlga (zoW w) (zNW w m)), S1) := c_firstLongest cq m5 c9
    have nl := nW_le ho hp m5
    obtain ⟨y1, y2⟩ := hc_endE c2 c3 c4 c5 0
    cases e : zlga (zoW w) (zNW w m) with
    | none =>
      rw [e] at fd
      have z : zsI none = -1 := rfl
      rw [z] at fd
      exact ⟨_, by simp [f_Cl_longest, -Prod.exists, -Prod.forall, ↓bb_gf, ↓bb_gr, ↓bb_len, ↓bb_ga, ↓bb_gl, ↓bb_go, ↓bb_pf, ↓bb_pz, ↓bb_pr, ↓bb_pa, ↓bb_pb, ↓bb_pl, ↓bb_po, ↓bb_cl, ↓bb_some, ↓bb_RI, ↓bb_RJ, mm_hI, mm_hJ, mm_hR, mm_nI, mm_nJ, mm_nR, mm_sI, mm_sJ, mm_sR, mm_RI, mm_RJ, mm_IJ, mm_IR, mm_JI, mm_JR, mm_II, mm_JJ, mm_RR, hm.1.1, ↓bS tu, ↓bS c, c7.2.2.1.1, ↓bS fd, c2.1.1, ↓bS (cl_answer c2.1.1 _), zan] <;> rfl, y1, y2⟩
    | some b =>
      rw [e] at fd
      have z : zsI (some b) = nI b := rfl
      rw [z] at fd
      obtain ⟨b1, b2⟩ := lga_lt _ _ e
      have nn : ¬ nI b = -1 := (nn_eqm (i := b) (m := 1) (by omega) (by omega) (by omega)).1
      have le := cen_len c7.2.2.1 (i := b) (by omega)
      have v : zI S1 (E + 2) b = nI (zoW w b).2.length := by
        have bK : b < K := by
          have : zNW w m ≤ K := c9
          omega
        exact ((cq.2.2.2.2.2.1 b bK).2 b2).1
      rw [v] at le
      exact ⟨_, by simp [f_Cl_longest, -Prod.exists, -Prod.forall, ↓bb_gf, ↓bb_gr, ↓bb_len, ↓bb_ga, ↓bb_gl, ↓bb_go, ↓bb_pf, ↓bb_pz, ↓bb_pr, ↓bb_pa, ↓bb_pb, ↓bb_pl, ↓bb_po, ↓bb_cl, ↓bb_some, ↓bb_RI, ↓bb_RJ, mm_hI, mm_hJ, mm_hR, mm_nI, mm_nJ, mm_nR, mm_sI, mm_sJ, mm_sR, mm_RI, mm_RJ, mm_IJ, mm_IR, mm_JI, mm_JR, mm_II, mm_JJ, mm_RR, hm.1.1, ↓bS tu, ↓bS c, c7.2.2.1.1, ↓bS fd, nn, ↓bS le, c2.1.1, ↓bS (cl_answer c2.1.1 _), zan] <;> rfl, y1, y2⟩)
theorem hc_longestOf (n : Int32) : zHc (f_Cl_longestOf 1 n) (sp_longestOf n) := hc_gen
  (fun S w T U hm ho q => by simp [f_Cl_longestOf, -Prod.exists, -Prod.forall, ↓bb_gf, ↓bb_gr, ↓bb_len, ↓bb_ga, ↓bb_gl, ↓bb_go, ↓bb_pf, ↓bb_pz, ↓bb_pr, ↓bb_pa, ↓bb_pb, ↓bb_pl, ↓bb_po, ↓bb_cl, ↓bb_some, ↓bb_RI, ↓bb_RJ, mm_hI, mm_hJ, mm_hR, mm_nI, mm_nJ, mm_nR, mm_sI, mm_sJ, mm_sR, mm_RI, mm_RJ, mm_IJ, mm_IR, mm_JI, mm_JR, mm_II, mm_JJ, mm_RR, hm.1.1, ↓bS (cl_tu1 hm ho n), wT_nz q, ↓bS (cl_refuse hm.1.1 _), m1L])
  (fun S S1 w T U E K B m e m1 m5 hp _ q hm ho c ⟨c2, c3, c4, c5, c6, c7, c8, c9, cq⟩ => by
    subst e
    have tu := cl_tu1 hm ho (nI m)
    rw [q] at tu
    have n0 : nI 0 = (0 : Int32) := rfl
    rw [n0] at tu
    have fd : f_Census_firstLongest E (nI m) S1 = some (zsI (zlga (zoW w) (zNW w m)), S1) := c_firstLongest cq m5 c9
    have nl := nW_le ho hp m5
    obtain ⟨S', t1, t2⟩ := cl_tail c2 c3 ho hp c7 c8 c4 c5 (zlga (zoW w) (zNW w m)) (fun i hi => by have := (lga_lt _ _ hi).1; omega) 5 5 rfl
    refine ⟨S', ?_, t2⟩
    rw [← t1]
    simp only [f_Cl_longestOf, ↓bb_cl, hm.1.1, if_true, ↓bS tu, ↓bS c, c7.2.2.1.1, ↓bS fd, c2.1.1])
theorem mo_lga {S : zM} {w : zWs} {m : Nat} (p : pMo S (sTr w 0)) (ho : okW w) (hp : 0 < (wSc w).2.2.length) (m5 : m ≤ 5) : ∃ S', f_Mo_longestAt 408 (nI m) S = some (zsI (zlga (zoW w) (zNW w m)), S') ∧ pMo S' (sTr w 0) ∧ zfr wMo S S' ∧ mWo S' 408 (zNW w m) (zoW w) := by
  obtain ⟨S', l1, l2, l3, l4, l5, l6, l7⟩ := mo_lays p ho hp m5
  have nl := nW_le ho hp m5
  have ll := m_longest_l l2.1.1 l6 l5 (by omega) l4
  exact ⟨S', by simp [f_Mo_longestAt, -Prod.exists, -Prod.forall, ↓bb_gf, ↓bb_gr, ↓bb_len, ↓bb_ga, ↓bb_gl, ↓bb_go, ↓bb_pf, ↓bb_pz, ↓bb_pr, ↓bb_pa, ↓bb_pb, ↓bb_pl, ↓bb_po, ↓bb_cl, ↓bb_some, ↓bb_RI, ↓bb_RJ, mm_hI, mm_hJ, mm_hR, mm_nI, mm_nJ, mm_nR, mm_sI, mm_sJ, mm_sR, mm_RI, mm_RJ, mm_IJ, mm_IR, mm_JI, mm_JR, mm_II, mm_JJ, mm_RR, p.1.1.1, ↓bS l1, ll], l2, l3, l5⟩
theorem hm_longest (n : Int32) : zHm (f_Mo_longest 408 n) (sp_longest n) := hm_gen
  (fun S S1 w h ho q r => by simp [f_Mo_longest, -Prod.exists, -Prod.forall, ↓bb_gf, ↓bb_gr, ↓bb_len, ↓bb_ga, ↓bb_gl, ↓bb_go, ↓bb_pf, ↓bb_pz, ↓bb_pr, ↓bb_pa, ↓bb_pb, ↓bb_pl, ↓bb_po, ↓bb_cl, ↓bb_some, ↓bb_RI, ↓bb_RJ, mm_hI, mm_hJ, mm_hR, mm_nI, mm_nJ, mm_nR, mm_sI, mm_sJ, mm_sR, mm_RI, mm_RJ, mm_IJ, mm_IR, mm_JI, mm_JR, mm_II, mm_JJ, mm_RR, h.1.1.1, ↓bS (mo_ww1 h n), ↓bS r])
  (fun S S1 w m e m1 m5 hp _ q h ho r p => by
    subst e
    have ww := mo_ww1 h (nI m)
    rw [q] at ww
    have n0 : nI 0 = (0 : Int32) := rfl
    rw [n0] at ww
    obtain ⟨S', d1, d2, d3, d4⟩ := mo_lga p ho hp m5
    have nl := nW_le ho hp m5
    cases e : zlga (zoW w) (zNW w m) with
    | none =>
      rw [e] at d1
      have z : zsI none = -1 := rfl
      rw [z] at d1
      exact ⟨S', by simp [f_Mo_longest, -Prod.exists, -Prod.forall, ↓bb_gf, ↓bb_gr, ↓bb_len, ↓bb_ga, ↓bb_gl, ↓bb_go, ↓bb_pf, ↓bb_pz, ↓bb_pr, ↓bb_pa, ↓bb_pb, ↓bb_pl, ↓bb_po, ↓bb_cl, ↓bb_some, ↓bb_RI, ↓bb_RJ, mm_hI, mm_hJ, mm_hR, mm_nI, mm_nJ, mm_nR, mm_sI, mm_sJ, mm_sR, mm_RI, mm_RJ, mm_IJ, mm_IR, mm_JI, mm_JR, mm_II, mm_JJ, mm_RR, h.1.1.1, ↓bS ww, ↓bS r, p.1.1.1, ↓bS d1, zan], d2, d3⟩
    | some b =>
      rw [e] at d1
      have z : zsI (some b) = nI b := rfl
      rw [z] at d1
      obtain ⟨b1, b2⟩ := lga_lt _ _ e
      have nn : ¬ nI b = -1 := (nn_eqm (i := b) (m := 1) (by omega) (by omega) (by omega)).1
      have zb : zinb (nI b) 1365 = true := (nn_in (by omega)).2 (by omega)
      have cb : (nI b).toNatClampNeg = b := nI_clamp (by omega)
      have v : zI S' (408 + 33) b = nI (zoW w b).2.length := ((d4 b b1).2 b2).1
      exact ⟨S', by simp [f_Mo_longest, -Prod.exists, -Prod.forall, ↓bb_gf, ↓bb_gr, ↓bb_len, ↓bb_ga, ↓bb_gl, ↓bb_go, ↓bb_pf, ↓bb_pz, ↓bb_pr, ↓bb_pa, ↓bb_pb, ↓bb_pl, ↓bb_po, ↓bb_cl, ↓bb_some, ↓bb_RI, ↓bb_RJ, mm_hI, mm_hJ, mm_hR, mm_nI, mm_nJ, mm_nR, mm_sI, mm_sJ, mm_sR, mm_RI, mm_RJ, mm_IJ, mm_IR, mm_JI, mm_JR, mm_II, mm_JJ, mm_RR, h.1.1.1, ↓bS ww, ↓bS r, p.1.1.1, ↓bS d1, nn, d2.1.1.1, ↓bS (mo_cameLong d2.1.1), mh_cameLong d2.1.1, zb, cb, v, zan], d2, d3⟩)
theorem hm_longestOf (n : Int32) : zHm (f_Mo_longestOf 408 n) (sp_longestOf n) := hm_gen
  (fun S S1 w h ho q r => by simp [f_Mo_longestOf, -Prod.exists, -Prod.forall, ↓bb_gf, ↓bb_gr, ↓bb_len, ↓bb_ga, ↓bb_gl, ↓bb_go, ↓bb_pf, ↓bb_pz, ↓bb_pr, ↓bb_pa, ↓bb_pb, ↓bb_pl, ↓bb_po, ↓bb_cl, ↓bb_some, ↓bb_RI, ↓bb_RJ, mm_hI, mm_hJ, mm_hR, mm_nI, mm_nJ, mm_nR, mm_sI, mm_sJ, mm_sR, mm_RI, mm_RJ, mm_IJ, mm_IR, mm_JI, mm_JR, mm_II, mm_JJ, mm_RR, h.1.1.1, ↓bS (mo_ww1 h n), ↓bS r])
  (fun S S1 w m e m1 m5 hp _ q h ho r p => by
    subst e
    have ww := mo_ww1 h (nI m)
    rw [q] at ww
    have n0 : nI 0 = (0 : Int32) := rfl
    rw [n0] at ww
    obtain ⟨S', d1, d2, d3, d4⟩ := mo_lga p ho hp m5
    have nl := nW_le ho hp m5
    obtain ⟨S2, t1, t2, t3⟩ := mo_tail d2 ho hp (zlga (zoW w) (zNW w m)) (fun i hi => by have := (lga_lt _ _ hi).1; omega) (why := 5) (by omega) 5 rfl
    refine ⟨S2, ?_, t2, fr_trans d3 t3⟩
    rw [← t1]
    cases e : zlga (zoW w) (zNW w m) with
    | none =>
      rw [e] at d1
      have z : zsI none = -1 := rfl
      rw [z] at d1
      simp [f_Mo_longestOf, -Prod.exists, -Prod.forall, ↓bb_gf, ↓bb_gr, ↓bb_len, ↓bb_ga, ↓bb_gl, ↓bb_go, ↓bb_pf, ↓bb_pz, ↓bb_pr, ↓bb_pa, ↓bb_pb, ↓bb_pl, ↓bb_po, ↓bb_cl, ↓bb_some, ↓bb_RI, ↓bb_RJ, mm_hI, mm_hJ, mm_hR, mm_nI, mm_nJ, mm_nR, mm_sI, mm_sJ, mm_sR, mm_RI, mm_RJ, mm_IJ, mm_IR, mm_JI, mm_JR, mm_II, mm_JJ, mm_RR, h.1.1.1, ↓bS ww, ↓bS r, p.1.1.1, ↓bS d1, d2.1.1.1, zrW]
    | some b =>
      rw [e] at d1
      have z : zsI (some b) = nI b := rfl
      rw [z] at d1
      obtain ⟨b1, b2⟩ := lga_lt _ _ e
      have nn : ¬ nI b = -1 := (nn_eqm (i := b) (m := 1) (by omega) (by omega) (by omega)).1
      simp [f_Mo_longestOf, -Prod.exists, -Prod.forall, ↓bb_gf, ↓bb_gr, ↓bb_len, ↓bb_ga, ↓bb_gl, ↓bb_go, ↓bb_pf, ↓bb_pz, ↓bb_pr, ↓bb_pa, ↓bb_pb, ↓bb_pl, ↓bb_po, ↓bb_cl, ↓bb_some, ↓bb_RI, ↓bb_RJ, mm_hI, mm_hJ, mm_hR, mm_nI, mm_nJ, mm_nR, mm_sI, mm_sJ, mm_sR, mm_RI, mm_RJ, mm_IJ, mm_IR, mm_JI, mm_JR, mm_II, mm_JJ, mm_RR, h.1.1.1, ↓bS ww, ↓bS r, p.1.1.1, ↓bS d1, nn, d2.1.1.1, zrW])
