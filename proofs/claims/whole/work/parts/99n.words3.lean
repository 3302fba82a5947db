/-! failing, fails -/
def zok2 (a : Int32) : zWs → Bool := fun _ => (zix a 2).isSome
theorem zok2_0 {a : Int32} {w : zWs} (h : zok2 a w = true) : a = 0 ∨ a = 1 := by
  unfold zok2 at h
  obtain ⟨k, e⟩ := Option.isSome_iff_exists.1 h
  obtain ⟨rfl, hk, _⟩ := ix_some e
  have : k = 0 ∨ k = 1 := by omega
  rcases this with rfl | rfl
  · exact Or.inl rfl
  · exact Or.inr rfl
theorem zok2_no {a : Int32} {w : zWs} (h : zok2 a w = false) : ¬ a = 0 ∧ ¬ a = 1 := by
  constructor
  · rintro rfl; exact absurd h (by unfold zok2; decide)
  · rintro rfl; exact absurd h (by unfold zok2; decide)
noncomputable def zWt (a : Int32) : Nat := if a = 0 then 0 else 1
noncomputable def sp_fails (n a : Int32) : zWs → Int32 × zWs := zspW n (zok2 a) (-1) (fun w m => zan w (nI (fb_ct (fun i => decide ((zoW w i).1 = 6 + zWt a)) (zNW w m))))
noncomputable def sp_firstFail (n a : Int32) : zWs → Int64 × zWs := zspW n (zok2 a) (-1) (fun w m => zwA w (zfi (fun i => decide ((zoW w i).1 = 6 + zWt a)) (zNW w m)) 5)
noncomputable def sp_failing (n a : Int32) : zWs → Int64 × zWs := zspW n (zok2 a) (-1) (fun w m => zwA w ((zfi (fun i => (ztwin (zoW w) i).isSome) (zNW w m)).bind (fun i => if zWt a = 0 then some i else ztwin (zoW w) i)) 5)
theorem hk_fails (n a : Int32) : zHk (sp_fails n a) := hk_gen (fun w m ho => ⟨0, by omega, rfl⟩)
theorem hk_firstFail (n a : Int32) : zHk (sp_firstFail n a) := hk_gen (fun w m ho => wA_tr _ _ (by omega))
theorem hk_failing (n a : Int32) : zHk (sp_failing n a) := hk_gen (fun w m ho => wA_tr _ _ (by omega))
theorem cl_tu2 {S : zM} {w : zWs} {T U : Nat} (hm : cMn S w T U) (ho : okW w) (n a : Int32) (h : zok2 a w = true) : f_Cl_troubleUpTo 1 n 1 S = some (nI (zwT n (zok2 a w) w), S) := by rw [h]; exact cl_tu1 hm ho n
theorem hc_fails (n a : Int32) : zHc (f_Cl_fails 1 n a) (sp_fails n a) := hc_gen
  (fun S w T U hm ho q => by
    cases e : zok2 a w with
    | true =>
      have tu := cl_tu2 hm ho n a e
      rw [e] at tu q
      have nz := wT_nz q
      rcases zok2_0 e with rfl | rfl
      · simp [f_Cl_fails, -Prod.exists, -Prod.forall, ↓bb_gf, ↓bb_gr, ↓bb_len, ↓bb_ga, ↓bb_gl, ↓bb_go, ↓bb_pf, ↓bb_pz, ↓bb_pr, ↓bb_pa, ↓bb_pb, ↓bb_pl, ↓bb_po, ↓bb_cl, ↓bb_some, ↓bb_RI, ↓bb_RJ, mm_hI, mm_hJ, mm_hR, mm_nI, mm_nJ, mm_nR, mm_sI, mm_sJ, mm_sR, mm_RI, mm_RJ, mm_IJ, mm_IR, mm_JI, mm_JR, mm_II, mm_JJ, mm_RR, hm.1.1, ↓bS tu, nz, ↓bS (cl_refuse hm.1.1 _)]
      · simp [f_Cl_fails, -Prod.exists, -Prod.forall, ↓bb_gf, ↓bb_gr, ↓bb_len, ↓bb_ga, ↓bb_gl, ↓bb_go, ↓bb_pf, ↓bb_pz, ↓bb_pr, ↓bb_pa, ↓bb_pb, ↓bb_pl, ↓bb_po, ↓bb_cl, ↓bb_some, ↓bb_RI, ↓bb_RJ, mm_hI, mm_hJ, mm_hR, mm_nI, mm_nJ, mm_nR, mm_sI, mm_sJ, mm_sR, mm_RI, mm_RJ, mm_IJ, mm_IR, mm_JI, mm_JR, mm_II, mm_JJ, mm_RR, hm.1.1, ↓bS tu, nz, ↓bS (cl_refuse hm.1.1 _)]
    | false =>
      obtain ⟨x0, x1⟩ := zok2_no e
      rw [e] at q
      have nz := wT_nz q
      simp [f_Cl_fails, -Prod.exists, -Prod.forall, ↓bb_gf, ↓bb_gr, ↓bb_len, ↓bb_ga, ↓bb_gl, ↓bb_go, ↓bb_pf, ↓bb_pz, ↓bb_pr, ↓bb_pa, ↓bb_pb, ↓bb_pl, ↓bb_po, ↓bb_cl, ↓bb_some, ↓bb_RI, ↓bb_RJ, mm_hI, mm_hJ, mm_hR, mm_nI, mm_nJ, mm_nR, mm_sI, mm_sJ, mm_sR, mm_RI, mm_RJ, mm_IJ, mm_IR, mm_JI, mm_JR, mm_II, mm_JJ, mm_RR, x0, x1, hm.1.1, ↓bS (cl_tu0 hm ho n), nz, ↓bS (cl_refuse hm.1.1 _)])
  (fun S S1 w T U E K B m e m1 m5 hp hok q hm ho c ⟨c2, c3, c4, c5, c6, c7, c8, c9, cq⟩ => by
    subst e
    have tu := cl_tu1 hm ho (nI m)
    rw [q] at tu
    have n0 : nI 0 = (0 : Int32) := rfl
    rw [n0] at tu
    obtain ⟨y1, y2⟩ := hc_endE c2 c3 c4 c5 0
    rcases zok2_0 hok with rfl | rfl
    · have fd : f_Census_countFailed E (nI m) 6 S1 = some (nI (fb_ct (fun i => decide ((zoW w i).1 = 6 + zWt 0)) (zNW w m)), S1) := c_countFailed (what := 0) cq m5 c9 (by omega)
      exact ⟨_, by simp [f_Cl_fails, -Prod.exists, -Prod.forall, ↓bb_gf, ↓bb_gr, ↓bb_len, ↓bb_ga, ↓bb_gl, ↓bb_go, ↓bb_pf, ↓bb_pz, ↓bb_pr, ↓bb_pa, ↓bb_pb, ↓bb_pl, ↓bb_po, ↓bb_cl, ↓bb_some, ↓bb_RI, ↓bb_RJ, mm_hI, mm_hJ, mm_hR, mm_nI, mm_nJ, mm_nR, mm_sI, mm_sJ, mm_sR, mm_RI, mm_RJ, mm_IJ, mm_IR, mm_JI, mm_JR, mm_II, mm_JJ, mm_RR, hm.1.1, ↓bS tu, ↓bS c, c7.2.2.1.1, ↓bS fd, c2.1.1, ↓bS (cl_answer c2.1.1 _), zan] <;> rfl, y1, y2⟩
    · have fd : f_Census_countFailed E (nI m) 7 S1 = some (nI (fb_ct (fun i => decide ((zoW w i).1 = 6 + zWt 1)) (zNW w m)), S1) := c_countFailed (what := 1) cq m5 c9 (by omega)
      exact ⟨_, by simp [f_Cl_fails, -Prod.exists, -Prod.forall, ↓bb_gf, ↓bb_gr, ↓bb_len, ↓bb_ga, ↓bb_gl, ↓bb_go, ↓bb_pf, ↓bb_pz, ↓bb_pr, ↓bb_pa, ↓bb_pb, ↓bb_pl, ↓bb_po, ↓bb_cl, ↓bb_some, ↓bb_RI, ↓bb_RJ, mm_hI, mm_hJ, mm_hR, mm_nI, mm_nJ, mm_nR, mm_sI, mm_sJ, mm_sR, mm_RI, mm_RJ, mm_IJ, mm_IR, mm_JI, mm_JR, mm_II, mm_JJ, mm_RR, hm.1.1, ↓bS tu, ↓bS c, c7.2.2.1.1, ↓bS fd, c2.1.1, ↓bS (cl_answer c2.1.1 _), zan] <;> rfl, y1, y2⟩)
theorem hc_firstFail (n a : Int32) : zHc (f_Cl_firstFail 1 n a) (sp_firstFail n a) := hc_gen
  (fun S w T U hm ho q => by
    cases e : zok2 a w with
    | true =>
      have tu := cl_tu2 hm ho n a e
      rw [e] at tu q
      have nz := wT_nz q
      rcases zok2_0 e with rfl | rfl
      · simp [f_Cl_firstFail, -Prod.exists, -Prod.forall, ↓bb_gf, ↓bb_gr, ↓bb_len, ↓bb_ga, ↓bb_gl, ↓bb_go, ↓bb_pf, ↓bb_pz, ↓bb_pr, ↓bb_pa, ↓bb_pb, ↓bb_pl, ↓bb_po, ↓bb_cl, ↓bb_some, ↓bb_RI, ↓bb_RJ, mm_hI, mm_hJ, mm_hR, mm_nI, mm_nJ, mm_nR, mm_sI, mm_sJ, mm_sR, mm_RI, mm_RJ, mm_IJ, mm_IR, mm_JI, mm_JR, mm_II, mm_JJ, mm_RR, hm.1.1, ↓bS tu, nz, ↓bS (cl_refuse hm.1.1 _), m1L]
      · simp [f_Cl_firstFail, -Prod.exists, -Prod.forall, ↓bb_gf, ↓bb_gr, ↓bb_len, ↓bb_ga, ↓bb_gl, ↓bb_go, ↓bb_pf, ↓bb_pz, ↓bb_pr, ↓bb_pa, ↓bb_pb, ↓bb_pl, ↓bb_po, ↓bb_cl, ↓bb_some, ↓bb_RI, ↓bb_RJ, mm_hI, mm_hJ, mm_hR, mm_nI, mm_nJ, mm_nR, mm_sI, mm_sJ, mm_sR, mm_RI, mm_RJ, mm_IJ, mm_IR, mm_JI, mm_JR, mm_II, mm_JJ, mm_RR, hm.1.1, ↓bS tu, nz, ↓bS (cl_refuse hm.1.1 _), m1L]
    | false =>
      obtain ⟨x0, x1⟩ := zok2_no e
      rw [e] at q
      have nz := wT_nz q
      simp [f_Cl_firstFail, -Prod.exists, -Prod.forall, ↓bb_gf, ↓bb_gr, ↓bb_len, ↓bb_ga, ↓bb_gl, ↓bb_go, ↓bb_pf, ↓bb_pz, ↓bb_pr, ↓bb_pa, ↓bb_pb, ↓bb_pl, ↓bb_po, ↓bb_cl, ↓bb_some, ↓bb_RI, ↓bb_RJ, mm_hI, mm_hJ, mm_hR, mm_nI, mm_nJ, mm_nR, mm_sI, mm_sJ, mm_sR, mm_RI, mm_RJ, mm_IJ, mm_IR, mm_JI, mm_JR, mm_II, mm_JJ, mm_RR, x0, x1, hm.1.1, ↓bS (cl_tu0 hm ho n), nz, ↓bS (cl_refuse hm.1.1 _), m1L])
  (fun S S1 w T U E K B m e m1 m5 hp hok q hm ho c ⟨c2, c3, c4, c5, c6, c7, c8, c9, cq⟩ => by
    subst e
    have tu := cl_tu1 hm ho (nI m)
    rw [q] at tu
    have n0 : nI 0 = (0 : Int32) := rfl
    rw [n0] at tu
    have nl := nW_le ho hp m5
    obtain ⟨S', t1, t2⟩ := cl_tail c2 c3 ho hp c7 c8 c4 c5 (zfi (fun i => decide ((zoW w i).1 = 6 + zWt a)) (zNW w m)) (fun i hi => by have := (fi_some hi).1; omega) 5 5 rfl
    refine ⟨S', ?_, t2⟩
    rw [← t1]
    rcases zok2_0 hok with rfl | rfl
    · have fd : f_Census_firstFailed E (nI m) 6 S1 = some (zsI (zfi (fun i => decide ((zoW w i).1 = 6 + zWt 0)) (zNW w m)), S1) := c_firstFailed (what := 0) cq m5 c9 (by omega)
      simp only [f_Cl_firstFail, ↓bb_cl, hm.1.1, if_true, ↓bS tu, ↓bS c, c7.2.2.1.1, ↓bS fd, c2.1.1]
    · have fd : f_Census_firstFailed E (nI m) 7 S1 = some (zsI (zfi (fun i => decide ((zoW w i).1 = 6 + zWt 1)) (zNW w m)), S1) := c_firstFailed (what := 1) cq m5 c9 (by omega)
      have d1 : ¬ (1 : Int32) = 0 := by decide
      simp only [f_Cl_firstFail, d1, if_false, ↓bb_cl, hm.1.1, if_true, ↓bS tu, ↓bS c, c7.2.2.1.1, ↓bS fd, c2.1.1])
theorem hc_failing (n a : Int32) : zHc (f_Cl_failing 1 n a) (sp_failing n a) := hc_gen
  (fun S w T U hm ho q => by
    cases e : zok2 a w with
    | true =>
      have tu := cl_tu2 hm ho n a e
      rw [e] at tu q
      have nz := wT_nz q
      rcases zok2_0 e with rfl | rfl
      · simp [f_Cl_failing, -Prod.exists, -Prod.forall, ↓bb_gf, ↓bb_gr, ↓bb_len, ↓bb_ga, ↓bb_gl, ↓bb_go, ↓bb_pf, ↓bb_pz, ↓bb_pr, ↓bb_pa, ↓bb_pb, ↓bb_pl, ↓bb_po, ↓bb_cl, ↓bb_some, ↓bb_RI, ↓bb_RJ, mm_hI, mm_hJ, mm_hR, mm_nI, mm_nJ, mm_nR, mm_sI, mm_sJ, mm_sR, mm_RI, mm_RJ, mm_IJ, mm_IR, mm_JI, mm_JR, mm_II, mm_JJ, mm_RR, hm.1.1, ↓bS tu, nz, ↓bS (cl_refuse hm.1.1 _), m1L]
      · simp [f_Cl_failing, -Prod.exists, -Prod.forall, ↓bb_gf, ↓bb_gr, ↓bb_len, ↓bb_ga, ↓bb_gl, ↓bb_go, ↓bb_pf, ↓bb_pz, ↓bb_pr, ↓bb_pa, ↓bb_pb, ↓bb_pl, ↓bb_po, ↓bb_cl, ↓bb_some, ↓bb_RI, ↓bb_RJ, mm_hI, mm_hJ, mm_hR, mm_nI, mm_nJ, mm_nR, mm_sI, mm_sJ, mm_sR, mm_RI, mm_RJ, mm_IJ, mm_IR, mm_JI, mm_JR, mm_II, mm_JJ, mm_RR, hm.1.1, ↓bS tu, nz, ↓bS (cl_refuse hm.1.1 _), m1L]
    | false =>
      obtain ⟨x0, x1⟩ := zok2_no e
      rw [e] at q
      have nz := wT_nz q
      simp [f_Cl_failing, -Prod.exists, -Prod.forall, ↓bb_gf, ↓bb_gr, ↓bb_len, ↓bb_ga, ↓bb_gl, ↓bb_go, ↓bb_pf, ↓bb_pz, ↓bb_pr, ↓bb_pa, ↓bb_pb, ↓bb_pl, ↓bb_po, ↓bb_cl, ↓bb_some, ↓bb_RI, ↓bb_RJ, mm_hI, mm_hJ, mm_hR, mm_nI, mm_nJ, mm_nR, mm_sI, mm_sJ, mm_sR, mm_RI, mm_RJ, mm_IJ, mm_IR, mm_JI, mm_JR, mm_II, mm_JJ, mm_RR, x0, x1, hm.1.1, ↓bS (cl_tu0 hm ho n), nz, ↓bS (cl_refuse hm.1.1 _), m1L])
  (fun S S1 w T U E K B m e m1 m5 hp hok q hm ho c ⟨c2, c3, c4, c5, c6, c7, c8, c9, cq⟩ => by
    subst e
    have tu := cl_tu1 hm ho (nI m)
    rw [q] at tu
    have n0 : nI 0 = (0 : Int32) := rfl
    rw [n0] at tu
    have nl := nW_le ho hp m5
    have c9' : zNW w m ≤ K := c9
    have fd : f_Census_firstDoubled E (nI m) S1 = some (zsI (zfi (fun i => (ztwin (zoW w) i).isSome) (zNW w m)), S1) := c_firstDoubled cq m5 c9
    obtain ⟨S', t1, t2⟩ := cl_tail c2 c3 ho hp c7 c8 c4 c5 ((zfi (fun i => (ztwin (zoW w) i).isSome) (zNW w m)).bind (fun i => if zWt a = 0 then some i else ztwin (zoW w) i)) (fun i hi => by
      cases e : zfi (fun i => (ztwin (zoW w) i).isSome) (zNW w m) with
      | none => rw [e] at hi; cases hi
      | some k =>
        rw [e] at hi
        have := (fi_some e).1
        simp only [Option.bind_some] at hi
        split at hi
        · cases hi; omega
        · have := (twin_some hi).1; omega) 5 5 rfl
    refine ⟨S', ?_, t2⟩
    rw [← t1]
    have d1 : ¬ (1 : Int32) = 0 := by decide
    cases e : zfi (fun i => (ztwin (zoW w) i).isSome) (zNW w m) with
    | none =>
      rw [e] at fd
      have z : zsI none = -1 := rfl
      rw [z] at fd
      rcases zok2_0 hok with rfl | rfl
      · simp [f_Cl_failing, -Prod.exists, -Prod.forall, ↓bb_gf, ↓bb_gr, ↓bb_len, ↓bb_ga, ↓bb_gl, ↓bb_go, ↓bb_pf, ↓bb_pz, ↓bb_pr, ↓bb_pa, ↓bb_pb, ↓bb_pl, ↓bb_po, ↓bb_cl, ↓bb_some, ↓bb_RI, ↓bb_RJ, mm_hI, mm_hJ, mm_hR, mm_nI, mm_nJ, mm_nR, mm_sI, mm_sJ, mm_sR, mm_RI, mm_RJ, mm_IJ, mm_IR, mm_JI, mm_JR, mm_II, mm_JJ, mm_RR, hm.1.1, ↓bS tu, ↓bS c, c7.2.2.1.1, ↓bS fd, c2.1.1, z]
      · simp [f_Cl_failing, -Prod.exists, -Prod.forall, ↓bb_gf, ↓bb_gr, ↓bb_len, ↓bb_ga, ↓bb_gl, ↓bb_go, ↓bb_pf, ↓bb_pz, ↓bb_pr, ↓bb_pa, ↓bb_pb, ↓bb_pl, ↓bb_po, ↓bb_cl, ↓bb_some, ↓bb_RI, ↓bb_RJ, mm_hI, mm_hJ, mm_hR, mm_nI, mm_nJ, mm_nR, mm_sI, mm_sJ, mm_sR, mm_RI, mm_RJ, mm_IJ, mm_IR, mm_JI, mm_JR, mm_II, mm_JJ, mm_RR, hm.1.1, ↓bS tu, ↓bS c, c7.2.2.1.1, ↓bS fd, c2.1.1, z]
    | some k =>
      rw [e] at fd
      have z : zsI (some k) = nI k := rfl
      rw [z] at fd
      obtain ⟨f1, f2, _⟩ := fi_some e
      have nn : ¬ nI k = -1 := (nn_eqm (i := k) (m := 1) (by omega) (by omega) (by omega)).1
      rcases zok2_0 hok with rfl | rfl
      · simp [f_Cl_failing, -Prod.exists, -Prod.forall, ↓bb_gf, ↓bb_gr, ↓bb_len, ↓bb_ga, ↓bb_gl, ↓bb_go, ↓bb_pf, ↓bb_pz, ↓bb_pr, ↓bb_pa, ↓bb_pb, ↓bb_pl, ↓bb_po, ↓bb_cl, ↓bb_some, ↓bb_RI, ↓bb_RJ, mm_hI, mm_hJ, mm_hR, mm_nI, mm_nJ, mm_nR, mm_sI, mm_sJ, mm_sR, mm_RI, mm_RJ, mm_IJ, mm_IR, mm_JI, mm_JR, mm_II, mm_JJ, mm_RR, hm.1.1, ↓bS tu, ↓bS c, c7.2.2.1.1, ↓bS fd, nn, c2.1.1, zWt, z]
      · have fa : f_Census_firstAlike E (nI k) S1 = some (zsI (ztwin (zoW w) k), S1) := c_firstAlike cq (by omega)
        obtain ⟨j, hj⟩ := Option.isSome_iff_exists.1 f2
        rw [hj] at fa
        have zj : zsI (some j) = nI j := rfl
        rw [zj] at fa
        have := (twin_some hj).1
        have nj : ¬ nI j = -1 := (nn_eqm (i := j) (m := 1) (by omega) (by omega) (by omega)).1
        simp [f_Cl_failing, -Prod.exists, -Prod.forall, ↓bb_gf, ↓bb_gr, ↓bb_len, ↓bb_ga, ↓bb_gl, ↓bb_go, ↓bb_pf, ↓bb_pz, ↓bb_pr, ↓bb_pa, ↓bb_pb, ↓bb_pl, ↓bb_po, ↓bb_cl, ↓bb_some, ↓bb_RI, ↓bb_RJ, mm_hI, mm_hJ, mm_hR, mm_nI, mm_nJ, mm_nR, mm_sI, mm_sJ, mm_sR, mm_RI, mm_RJ, mm_IJ, mm_IR, mm_JI, mm_JR, mm_II, mm_JJ, mm_RR, hm.1.1, ↓bS tu, ↓bS c, c7.2.2.1.1, ↓bS fd, nn, c2.1.1, ↓bS fa, zWt, zj, nj, hj])
theorem mo_in2 {S : zM} {w : zWs} (a : Int32) : f_Mo_in a 0 1 S = some (if zok2 a w then 1 else 0, S) := m_inK a (k := 1) (by omega)
theorem hm_fails (n a : Int32) : zHm (f_Mo_fails 408 n a) (sp_fails n a) := hm_gen
  (fun S S1 w h ho q r => by
    have i := mo_in2 (S := S) (w := w) a
    have ww := mo_ww h n (zok2 a w)
    cases e : zok2 a w with
    | true => rw [e] at i ww r; simp only [if_true] at i ww; simp [f_Mo_fails, -Prod.exists, -Prod.forall, ↓bb_gf, ↓bb_gr, ↓bb_len, ↓bb_ga, ↓bb_gl, ↓bb_go, ↓bb_pf, ↓bb_pz, ↓bb_pr, ↓bb_pa, ↓bb_pb, ↓bb_pl, ↓bb_po, ↓bb_cl, ↓bb_some, ↓bb_RI, ↓bb_RJ, mm_hI, mm_hJ, mm_hR, mm_nI, mm_nJ, mm_nR, mm_sI, mm_sJ, mm_sR, mm_RI, mm_RJ, mm_IJ, mm_IR, mm_JI, mm_JR, mm_II, mm_JJ, mm_RR, ↓bS i, h.1.1.1, ↓bS ww, ↓bS r]
    | false => rw [e] at i ww r; simp only [Bool.false_eq_true, if_false] at i ww; simp [f_Mo_fails, -Prod.exists, -Prod.forall, ↓bb_gf, ↓bb_gr, ↓bb_len, ↓bb_ga, ↓bb_gl, ↓bb_go, ↓bb_pf, ↓bb_pz, ↓bb_pr, ↓bb_pa, ↓bb_pb, ↓bb_pl, ↓bb_po, ↓bb_cl, ↓bb_some, ↓bb_RI, ↓bb_RJ, mm_hI, mm_hJ, mm_hR, mm_nI, mm_nJ, mm_nR, mm_sI, mm_sJ, mm_sR, mm_RI, mm_RJ, mm_IJ, mm_IR, mm_JI, mm_JR, mm_II, mm_JJ, mm_RR, ↓bS i, h.1.1.1, ↓bS ww, ↓bS r])
  (fun S S1 w m e m1 m5 hp hok q h ho r p => by
    subst e
    have i := mo_in2 (S := S) (w := w) a
    rw [hok] at i
    simp only [if_true] at i
    have ww := mo_ww1 h (nI m)
    rw [q] at ww
    have n0 : nI 0 = (0 : Int32) := rfl
    rw [n0] at ww
    obtain ⟨S', l1, l2, l3, l4, l5, l6, _⟩ := mo_lays p ho hp m5
    have nl := nW_le ho hp m5
    have fl : L_Mo_fails_30 zF 408 a 0 0 S' = some (nI (fb_ct (fun i => decide ((zoW w i).1 = 6 + zWt a)) (zNW w m)), S') := by
      rcases zok2_0 hok with rfl | rfl
      · exact m_fails_l (what := 0) l2.1.1 l6 l5 (by omega) l4 (by omega)
      · exact m_fails_l (what := 1) l2.1.1 l6 l5 (by omega) l4 (by omega)
    exact ⟨S', by simp [f_Mo_fails, -Prod.exists, -Prod.forall, ↓bb_gf, ↓bb_gr, ↓bb_len, ↓bb_ga, ↓bb_gl, ↓bb_go, ↓bb_pf, ↓bb_pz, ↓bb_pr, ↓bb_pa, ↓bb_pb, ↓bb_pl, ↓bb_po, ↓bb_cl, ↓bb_some, ↓bb_RI, ↓bb_RJ, mm_hI, mm_hJ, mm_hR, mm_nI, mm_nJ, mm_nR, mm_sI, mm_sJ, mm_sR, mm_RI, mm_RJ, mm_IJ, mm_IR, mm_JI, mm_JR, mm_II, mm_JJ, mm_RR, ↓bS i, h.1.1.1, ↓bS ww, ↓bS r, p.1.1.1, ↓bS l1, fl, zan], l2, l3⟩)
theorem hm_firstFail (n a : Int32) : zHm (f_Mo_firstFail 408 n a) (sp_firstFail n a) := hm_gen
  (fun S S1 w h ho q r => by
    have i := mo_in2 (S := S) (w := w) a
    have ww := mo_ww h n (zok2 a w)
    cases e : zok2 a w with
    | true => rw [e] at i ww r; simp only [if_true] at i ww; simp [f_Mo_firstFail, -Prod.exists, -Prod.forall, ↓bb_gf, ↓bb_gr, ↓bb_len, ↓bb_ga, ↓bb_gl, ↓bb_go, ↓bb_pf, ↓bb_pz, ↓bb_pr, ↓bb_pa, ↓bb_pb, ↓bb_pl, ↓bb_po, ↓bb_cl, ↓bb_some, ↓bb_RI, ↓bb_RJ, mm_hI, mm_hJ, mm_hR, mm_nI, mm_nJ, mm_nR, mm_sI, mm_sJ, mm_sR, mm_RI, mm_RJ, mm_IJ, mm_IR, mm_JI, mm_JR, mm_II, mm_JJ, mm_RR, ↓bS i, h.1.1.1, ↓bS ww, ↓bS r]
    | false => rw [e] at i ww r; simp only [Bool.false_eq_true, if_false] at i ww; simp [f_Mo_firstFail, -Prod.exists, -Prod.forall, ↓bb_gf, ↓bb_gr, ↓bb_len, ↓bb_ga, ↓bb_gl, ↓bb_go, ↓bb_pf, ↓bb_pz, ↓bb_pr, ↓bb_pa, ↓bb_pb, ↓bb_pl, ↓bb_po, ↓bb_cl, ↓bb_some, ↓bb_RI, ↓bb_RJ, mm_hI, mm_hJ, mm_hR, mm_nI, mm_nJ, mm_nR, mm_sI, mm_sJ, mm_sR, mm_RI, mm_RJ, mm_IJ, mm_IR, mm_JI, mm_JR, mm_II, mm_JJ, mm_RR, ↓bS i, h.1.1.1, ↓bS ww, ↓bS r])
  (fun S S1 w m e m1 m5 hp hok q h ho r p => by
    subst e
    have i := mo_in2 (S := S) (w := w) a
    rw [hok] at i
    simp only [if_true] at i
    have ww := mo_ww1 h (nI m)
    rw [q] at ww
    have n0 : nI 0 = (0 : Int32) := rfl
    rw [n0] at ww
    obtain ⟨S', l1, l2, l3, l4, l5, l6, _⟩ := mo_lays p ho hp m5
    have nl := nW_le ho hp m5
    have fl : L_Mo_firstFail_29 zF 408 a 0 S' = zrW 408 S' 5 (zfi (fun i => decide ((zoW w i).1 = 6 + zWt a)) (zNW w m)) := by
      rcases zok2_0 hok with rfl | rfl
      · exact m_firstFail_l (what := 0) l2.1.1 l6 l5 (by omega) l4 (by omega)
      · exact m_firstFail_l (what := 1) l2.1.1 l6 l5 (by omega) l4 (by omega)
    obtain ⟨S2, t1, t2, t3⟩ := mo_tail l2 ho hp (zfi (fun i => decide ((zoW w i).1 = 6 + zWt a)) (zNW w m)) (fun i hi => by have := (fi_some hi).1; omega) (why := 5) (by omega) 5 rfl
    refine ⟨S2, ?_, t2, fr_trans l3 t3⟩
    rw [← t1, ← fl]
    simp [f_Mo_firstFail, -Prod.exists, -Prod.forall, ↓bb_gf, ↓bb_gr, ↓bb_len, ↓bb_ga, ↓bb_gl, ↓bb_go, ↓bb_pf, ↓bb_pz, ↓bb_pr, ↓bb_pa, ↓bb_pb, ↓bb_pl, ↓bb_po, ↓bb_cl, ↓bb_some, ↓bb_RI, ↓bb_RJ, mm_hI, mm_hJ, mm_hR, mm_nI, mm_nJ, mm_nR, mm_sI, mm_sJ, mm_sR, mm_RI, mm_RJ, mm_IJ, mm_IR, mm_JI, mm_JR, mm_II, mm_JJ, mm_RR, ↓bS i, h.1.1.1, ↓bS ww, ↓bS r, p.1.1.1, ↓bS l1])
theorem hm_failing (n a : Int32) : zHm (f_Mo_failing 408 n a) (sp_failing n a) := hm_gen
  (fun S S1 w h ho q r => by
    have i := mo_in2 (S := S) (w := w) a
    have ww := mo_ww h n (zok2 a w)
    cases e : zok2 a w with
    | true => rw [e] at i ww r; simp only [if_true] at i ww; simp [f_Mo_failing, -Prod.exists, -Prod.forall, ↓bb_gf, ↓bb_gr, ↓bb_len, ↓bb_ga, ↓bb_gl, ↓bb_go, ↓bb_pf, ↓bb_pz, ↓bb_pr, ↓bb_pa, ↓bb_pb, ↓bb_pl, ↓bb_po, ↓bb_cl, ↓bb_some, ↓bb_RI, ↓bb_RJ, mm_hI, mm_hJ, mm_hR, mm_nI, mm_nJ, mm_nR, mm_sI, mm_sJ, mm_sR, mm_RI, mm_RJ, mm_IJ, mm_IR, mm_JI, mm_JR, mm_II, mm_JJ, mm_RR, ↓bS i, h.1.1.1, ↓bS ww, ↓bS r]
    | false => rw [e] at i ww r; simp only [Bool.false_eq_true, if_false] at i ww; simp [f_Mo_failing, -Prod.exists, -Prod.forall, ↓bb_gf, ↓bb_gr, ↓bb_len, ↓bb_ga, ↓bb_gl, ↓bb_go, ↓bb_pf, ↓bb_pz, ↓bb_pr, ↓bb_pa, ↓bb_pb, ↓bb_pl, ↓bb_po, ↓bb_cl, ↓bb_some, ↓bb_RI, ↓bb_RJ, mm_hI, mm_hJ, mm_hR, mm_nI, mm_nJ, mm_nR, mm_sI, mm_sJ, mm_sR, mm_RI, mm_RJ, mm_IJ, mm_IR, mm_JI, mm_JR, mm_II, mm_JJ, mm_RR, ↓bS i, h.1.1.1, ↓bS ww, ↓bS r])
  (fun S S1 w m e m1 m5 hp hok q h ho r p => by
    subst e
    have i := mo_in2 (S := S) (w := w) a
    rw [hok] at i
    simp only [if_true] at i
    have ww := mo_ww1 h (nI m)
    rw [q] at ww
    have n0 : nI 0 = (0 : Int32) := rfl
    rw [n0] at ww
    obtain ⟨S', l1, l2, l3, l4, l5, l6, _⟩ := mo_lays p ho hp m5
    have nl := nW_le ho hp m5
    have fl : L_Mo_failing_29 zF 408 a 0 S' = zrW 408 S' 5 ((zfi (fun i => (ztwin (zoW w) i).isSome) (zNW w m)).bind (fun i => if zWt a = 0 then some i else ztwin (zoW w) i)) := by
      rcases zok2_0 hok with rfl | rfl
      · exact m_failing_l (what := 0) l2.1.1 l6 l5 (by omega) l4 (by omega)
      · exact m_failing_l (what := 1) l2.1.1 l6 l5 (by omega) l4 (by omega)
    obtain ⟨S2, t1, t2, t3⟩ := mo_tail l2 ho hp ((zfi (fun i => (ztwin (zoW w) i).isSome) (zNW w m)).bind (fun i => if zWt a = 0 then some i else ztwin (zoW w) i)) (fun i hi => by
      cases e : zfi (fun i => (ztwin (zoW w) i).isSome) (zNW w m) with
      | none => rw [e] at hi; cases hi
      | some k =>
        rw [e] at hi
        have := (fi_some e).1
        simp only [Option.bind_some] at hi
        split at hi
        · cases hi; omega
        · have := (twin_some hi).1; omega) (why := 5) (by omega) 5 rfl
    refine ⟨S2, ?_, t2, fr_trans l3 t3⟩
    rw [← t1, ← fl]
    simp [f_Mo_failing, -Prod.exists, -Prod.forall, ↓bb_gf, ↓bb_gr, ↓bb_len, ↓bb_ga, ↓bb_gl, ↓bb_go, ↓bb_pf, ↓bb_pz, ↓bb_pr, ↓bb_pa, ↓bb_pb, ↓bb_pl, ↓bb_po, ↓bb_cl, ↓bb_some, ↓bb_RI, ↓bb_RJ, mm_hI, mm_hJ, mm_hR, mm_nI, mm_nJ, mm_nR, mm_sI, mm_sJ, mm_sR, mm_RI, mm_RJ, mm_IJ, mm_IR, mm_JI, mm_JR, mm_II, mm_JJ, mm_RR, ↓bS i, h.1.1.1, ↓bS ww, ↓bS r, p.1.1.1, ↓bS l1])
