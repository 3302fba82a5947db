/-! sources -/
def zsT (n : Int32) (x : Int64) (w : zWs) : Nat := if zwT n true w = 0 then (if (zwl x).isSome then 0 else 2) else zwT n true w
theorem sT_c (n : Int32) (x : Int64) (w : zWs) : zsT n x w = 0 ∨ zsT n x w = 1 ∨ zsT n x w = 2 := by
  have := wT_c n true w
  unfold zsT
  split
  · split <;> omega
  · omega
theorem sT_0 {n : Int32} {x : Int64} {w : zWs} (h : zsT n x w = 0) : zwT n true w = 0 ∧ ∃ xs, zwl x = some xs := by
  unfold zsT at h
  split at h
  · rename_i q
    split at h
    · rename_i q2; exact ⟨q, Option.isSome_iff_exists.1 q2⟩
    · cases h
  · rename_i q; exact absurd h q
theorem sT_nz {n : Int32} {x : Int64} {w : zWs} (h : ¬ zsT n x w = 0) : ¬ nI (zsT n x w) = 0 := by
  have := sT_c n x w
  exact fun q => h ((nI_eq (b := 0) (by omega) (by omega)).1 q)
noncomputable def sp_sources (n : Int32) (x : Int64) (w : zWs) : Int32 × zWs := if zsT n x w = 0 then zan w (nI (fb_ct (zsrc (zoW w) ((zwl x).getD [])) (zNW w n.toNatClampNeg))) else zrf w (zsT n x w)
noncomputable def sp_source (n : Int32) (x : Int64) (k : Int32) (w : zWs) : Int64 × zWs := if zsT n x w = 0 then zwA w (zkt (zsrc (zoW w) ((zwl x).getD [])) (zNW w n.toNatClampNeg) k) 1 else zrfL w (zsT n x w)
theorem hk_sources (n : Int32) (x : Int64) : zHk (sp_sources n x) := hk_tr (fun w ho => by
  have := sT_c n x w
  unfold sp_sources
  split
  · exact ⟨0, by omega, rfl⟩
  · exact ⟨zsT n x w, by omega, rfl⟩)
theorem hk_source (n : Int32) (x : Int64) (k : Int32) : zHk (sp_source n x k) := hk_tr (fun w ho => by
  have := sT_c n x w
  unfold sp_source
  split
  · exact wA_tr _ _ (by omega)
  · exact ⟨zsT n x w, by omega, rfl⟩)
/-- the class: trouble, the word taken -/
theorem cl_st {S : zM} {w : zWs} {T U : Nat} (hm : cMn S w T U) (hs : cSr S) (ho : okW w) (n : Int32) (x : Int64) : ∃ S1, f_Cl_troubleOfSource 1 n x S = some (nI (zsT n x w), S1) ∧ cMn S1 w T U ∧ cSr S1 ∧ zfq wSr vSr S S1 ∧ (zsT n x w = 0 → pRow S1 33 8 ((zwl x).getD [])) := by
  have tu := cl_tu1 hm ho n
  have h1 := hm.1.1
  unfold zsT
  by_cases q : zwT n true w = 0
  · rw [if_pos q]
    rw [q] at tu
    have n0 : nI 0 = (0 : Int32) := rfl
    rw [n0] at tu
    obtain ⟨S2, us, t1, t2, t3, t4, t5, t6⟩ := cl_take hm hs x
    have g := sr_step (fq_refl wSr vSr S) t2 (fun b j q => by unfold rg at q; unfold wSr; omega)
    have h33 : zh S 33 = (8, 0) := by obtain ⟨_, ⟨ws, r⟩, _⟩ := hs; exact r.1
    cases ex : zwl x with
    | none =>
      rw [ex] at t1
      simp only [Option.isSome_none, Bool.false_eq_true, if_false] at t1
      exact ⟨S2, by simp [f_Cl_troubleOfSource, -Prod.exists, -Prod.forall, ↓bb_gf, ↓bb_gr, ↓bb_len, ↓bb_ga, ↓bb_gl, ↓bb_go, ↓bb_pf, ↓bb_pz, ↓bb_pr, ↓bb_pa, ↓bb_pb, ↓bb_pl, ↓bb_po, ↓bb_cl, ↓bb_some, ↓bb_RI, ↓bb_RJ, mm_hI, mm_hJ, mm_hR, mm_nI, mm_nJ, mm_nR, mm_sI, mm_sJ, mm_sR, mm_RI, mm_RJ, mm_IJ, mm_IR, mm_JI, mm_JR, mm_II, mm_JJ, mm_RR, h1, ↓bS tu, ↓bS (r_tak hm), h33, ↓bS t1] <;> rfl, t5, t6, g, fun q => by cases q⟩
    | some xs =>
      rw [ex] at t1
      simp only [Option.isSome_some, if_true] at t1
      have := t4 xs ex
      subst this
      exact ⟨S2, by simp [f_Cl_troubleOfSource, -Prod.exists, -Prod.forall, ↓bb_gf, ↓bb_gr, ↓bb_len, ↓bb_ga, ↓bb_gl, ↓bb_go, ↓bb_pf, ↓bb_pz, ↓bb_pr, ↓bb_pa, ↓bb_pb, ↓bb_pl, ↓bb_po, ↓bb_cl, ↓bb_some, ↓bb_RI, ↓bb_RJ, mm_hI, mm_hJ, mm_hR, mm_nI, mm_nJ, mm_nR, mm_sI, mm_sJ, mm_sR, mm_RI, mm_RJ, mm_IJ, mm_IR, mm_JI, mm_JR, mm_II, mm_JJ, mm_RR, h1, ↓bS tu, ↓bS (r_tak hm), h33, ↓bS t1] <;> rfl, t5, t6, g, fun _ => t3⟩
  · rw [if_neg q]
    exact ⟨S, by simp [f_Cl_troubleOfSource, -Prod.exists, -Prod.forall, ↓bb_gf, ↓bb_gr, ↓bb_len, ↓bb_ga, ↓bb_gl, ↓bb_go, ↓bb_pf, ↓bb_pz, ↓bb_pr, ↓bb_pa, ↓bb_pb, ↓bb_pl, ↓bb_po, ↓bb_cl, ↓bb_some, ↓bb_RI, ↓bb_RJ, mm_hI, mm_hJ, mm_hR, mm_nI, mm_nJ, mm_nR, mm_sI, mm_sJ, mm_sR, mm_RI, mm_RJ, mm_IJ, mm_IR, mm_JI, mm_JR, mm_II, mm_JJ, mm_RR, h1, ↓bS tu, wT_nz q], hm, hs, fq_refl _ _ _, fun x => absurd x q⟩
theorem hc_sources (n : Int32) (x : Int64) : zHc (f_Cl_sources 1 n x) (sp_sources n x) := fun S w h ho => by
  obtain ⟨T, U, hm, hs, ht⟩ := h; have h1 := hm.1.1; have r10 := r_told hm; have hS := hm.2.2.1.1; obtain ⟨e0, e1⟩ := hc_same hm hs 0; obtain ⟨f0, f1⟩ := hc_same hm hs 1; have h3 := ho.2.2.2.2.2.2.2.2.1
  obtain ⟨S1, t1, t2, t3, t4, t5⟩ := cl_st hm hs ho n x
  unfold sp_sources
  by_cases q : zsT n x w = 0
  · rw [if_pos q]
    have n0 : nI 0 = (0 : Int32) := rfl
    rw [q, n0] at t1
    obtain ⟨q1, xs, ex⟩ := sT_0 q
    obtain ⟨m, rfl, m1, m5, hp, _⟩ := wT_0 q1
    rw [nI_clamp (by omega)]
    have hr := t5 q
    obtain ⟨S2, E, K, B, c1, c2, c3, c4, c5, c6, c7, c8, c9, c10⟩ := cl_census t2 t3 ho hp m5
    have cq := eCe_q c2 ho hp c7 c8
    have r8 : ((zwl x).getD []).length ≤ 60 := by rw [ex]; have := (wl_w ex).2.1; show xs.length ≤ 60; omega
    have fd : f_Census_countSources E (nI m) 33 S2 = some (nI (fb_ct (zsrc (zoW w) ((zwl x).getD [])) (zNW w m)), S2) := c_countSources cq m5 c9 (c10 _ hr) r8
    obtain ⟨y1, y2, y3⟩ := hc_endE c2 c3 (ko_trans (ko_sr t4).1 c4) (rm_sr t4 c5) 0
    exact ⟨_, by simp [f_Cl_sources, -Prod.exists, -Prod.forall, ↓bb_gf, ↓bb_gr, ↓bb_len, ↓bb_ga, ↓bb_gl, ↓bb_go, ↓bb_pf, ↓bb_pz, ↓bb_pr, ↓bb_pa, ↓bb_pb, ↓bb_pl, ↓bb_po, ↓bb_cl, ↓bb_some, ↓bb_RI, ↓bb_RJ, mm_hI, mm_hJ, mm_hR, mm_nI, mm_nJ, mm_nR, mm_sI, mm_sJ, mm_sR, mm_RI, mm_RJ, mm_IJ, mm_IR, mm_JI, mm_JR, mm_II, mm_JJ, mm_RR, h1, ↓bS t1, t2.1.1, ↓bS c1, c2.1.1, ↓bS (r_tak c2), c7.2.2.1.1, ↓bS fd, ↓bS (cl_answer c2.1.1 _), zan] <;> rfl, y1, y2, y3⟩
  · rw [if_neg q]
    obtain ⟨y1, y2⟩ := hc_end hm t4 (fun b j q => q) (fun b j q => q) t3 (zsT n x w)
    exact ⟨_, by simp [f_Cl_sources, -Prod.exists, -Prod.forall, ↓bb_gf, ↓bb_gr, ↓bb_len, ↓bb_ga, ↓bb_gl, ↓bb_go, ↓bb_pf, ↓bb_pz, ↓bb_pr, ↓bb_pa, ↓bb_pb, ↓bb_pl, ↓bb_po, ↓bb_cl, ↓bb_some, ↓bb_RI, ↓bb_RJ, mm_hI, mm_hJ, mm_hR, mm_nI, mm_nJ, mm_nR, mm_sI, mm_sJ, mm_sR, mm_RI, mm_RJ, mm_IJ, mm_IR, mm_JI, mm_JR, mm_II, mm_JJ, mm_RR, h1, ↓bS t1, sT_nz q, t2.1.1, ↓bS (cl_refuse t2.1.1 _), zrf] <;> rfl, y1, y2⟩
theorem hc_source (n : Int32) (x : Int64) (k : Int32) : zHc (f_Cl_source 1 n x k) (sp_source n x k) := fun S w h ho => by
  obtain ⟨T, U, hm, hs, ht⟩ := h; have h1 := hm.1.1; have r10 := r_told hm; have hS := hm.2.2.1.1; obtain ⟨e0, e1⟩ := hc_same hm hs 0; obtain ⟨f0, f1⟩ := hc_same hm hs 1; have h3 := ho.2.2.2.2.2.2.2.2.1
  obtain ⟨S1, t1, t2, t3, t4, t5⟩ := cl_st hm hs ho n x
  unfold sp_source
  by_cases q : zsT n x w = 0
  · rw [if_pos q]
    have n0 : nI 0 = (0 : Int32) := rfl
    rw [q, n0] at t1
    obtain ⟨q1, xs, ex⟩ := sT_0 q
    obtain ⟨m, rfl, m1, m5, hp, _⟩ := wT_0 q1
    rw [nI_clamp (by omega)]
    have hr := t5 q
    obtain ⟨S2, E, K, B, c1, c2, c3, c4, c5, c6, c7, c8, c9, c10⟩ := cl_census t2 t3 ho hp m5
    have cq := eCe_q c2 ho hp c7 c8
    have nl := nW_le ho hp m5
    have r8 : ((zwl x).getD []).length ≤ 60 := by rw [ex]; have := (wl_w ex).2.1; show xs.length ≤ 60; omega
    have fd : f_Census_sourceAt E (nI m) 33 k S2 = some (zsI (zkt (zsrc (zoW w) ((zwl x).getD [])) (zNW w m) k), S2) := c_sourceAt cq m5 c9 (c10 _ hr) r8 k
    obtain ⟨S', v1, v2⟩ := cl_tail c2 c3 ho hp c7 c8 (ko_trans (ko_sr t4).1 c4) (rm_sr t4 c5) (zkt (zsrc (zoW w) ((zwl x).getD [])) (zNW w m) k) (fun i hi => by have := (fi_some hi).1; omega) 1 1 rfl
    refine ⟨S', ?_, v2⟩
    rw [← v1]
    simp only [f_Cl_source, ↓bb_cl, ↓bb_gr, h1, if_true, ↓bS t1, t2.1.1, ↓bS c1, c2.1.1, ↓bS (r_tak c2), c7.2.2.1.1, ↓bS fd]
  · rw [if_neg q]
    obtain ⟨y1, y2⟩ := hc_end hm t4 (fun b j q => q) (fun b j q => q) t3 (zsT n x w)
    exact ⟨_, by simp [f_Cl_source, -Prod.exists, -Prod.forall, ↓bb_gf, ↓bb_gr, ↓bb_len, ↓bb_ga, ↓bb_gl, ↓bb_go, ↓bb_pf, ↓bb_pz, ↓bb_pr, ↓bb_pa, ↓bb_pb, ↓bb_pl, ↓bb_po, ↓bb_cl, ↓bb_some, ↓bb_RI, ↓bb_RJ, mm_hI, mm_hJ, mm_hR, mm_nI, mm_nJ, mm_nR, mm_sI, mm_sJ, mm_sR, mm_RI, mm_RJ, mm_IJ, mm_IR, mm_JI, mm_JR, mm_II, mm_JJ, mm_RR, h1, ↓bS t1, sT_nz q, t2.1.1, ↓bS (cl_refuse t2.1.1 _), zrfL, m1L] <;> rfl, y1, y2⟩
/-- the reference: why not, the word sought -/
theorem mo_sw {S : zM} {w : zWs} (h : pMo S w) (n : Int32) (x : Int64) : ∃ S1, f_Mo_sourceWhy 408 n x S = some (nI (zsT n x w), S1) ∧ pMo S1 w ∧ zfr wMo S S1 ∧ (zsT n x w = 0 → mSo S1 408 ((zwl x).getD [])) := by
  have ww := mo_ww1 h n
  have h8 := h.1.1.1
  unfold zsT
  by_cases q : zwT n true w = 0
  · rw [if_pos q]
    rw [q] at ww
    have n0 : nI 0 = (0 : Int32) := rfl
    rw [n0] at ww
    obtain ⟨S1, s1, s2, s3⟩ := m_seeks h.1.1 x
    obtain ⟨k1, k2⟩ := mo_keep h s2 (fun b j q => by unfold wMs; omega) (by omega) (by omega)
    cases ex : zwl x with
    | none =>
      rw [ex] at s1
      simp only [Option.isSome_none, Bool.false_eq_true, if_false] at s1
      exact ⟨S1, by simp [f_Mo_sourceWhy, -Prod.exists, -Prod.forall, ↓bb_gf, ↓bb_gr, ↓bb_len, ↓bb_ga, ↓bb_gl, ↓bb_go, ↓bb_pf, ↓bb_pz, ↓bb_pr, ↓bb_pa, ↓bb_pb, ↓bb_pl, ↓bb_po, ↓bb_cl, ↓bb_some, ↓bb_RI, ↓bb_RJ, mm_hI, mm_hJ, mm_hR, mm_nI, mm_nJ, mm_nR, mm_sI, mm_sJ, mm_sR, mm_RI, mm_RJ, mm_IJ, mm_IR, mm_JI, mm_JR, mm_II, mm_JJ, mm_RR, h8, ↓bS ww, ↓bS s1] <;> rfl, k1, k2, fun q => by cases q⟩
    | some xs =>
      rw [ex] at s1
      simp only [Option.isSome_some, if_true] at s1
      exact ⟨S1, by simp [f_Mo_sourceWhy, -Prod.exists, -Prod.forall, ↓bb_gf, ↓bb_gr, ↓bb_len, ↓bb_ga, ↓bb_gl, ↓bb_go, ↓bb_pf, ↓bb_pz, ↓bb_pr, ↓bb_pa, ↓bb_pb, ↓bb_pl, ↓bb_po, ↓bb_cl, ↓bb_some, ↓bb_RI, ↓bb_RJ, mm_hI, mm_hJ, mm_hR, mm_nI, mm_nJ, mm_nR, mm_sI, mm_sJ, mm_sR, mm_RI, mm_RJ, mm_IJ, mm_IR, mm_JI, mm_JR, mm_II, mm_JJ, mm_RR, h8, ↓bS ww, ↓bS s1] <;> rfl, k1, k2, fun _ => s3 xs ex⟩
  · rw [if_neg q]
    exact ⟨S, by simp [f_Mo_sourceWhy, -Prod.exists, -Prod.forall, ↓bb_gf, ↓bb_gr, ↓bb_len, ↓bb_ga, ↓bb_gl, ↓bb_go, ↓bb_pf, ↓bb_pz, ↓bb_pr, ↓bb_pa, ↓bb_pb, ↓bb_pl, ↓bb_po, ↓bb_cl, ↓bb_some, ↓bb_RI, ↓bb_RJ, mm_hI, mm_hJ, mm_hR, mm_nI, mm_nJ, mm_nR, mm_sI, mm_sJ, mm_sR, mm_RI, mm_RJ, mm_IJ, mm_IR, mm_JI, mm_JR, mm_II, mm_JJ, mm_RR, h8, ↓bS ww, wT_nz q], h, fr_refl _ _, fun x => absurd x q⟩
theorem so_fr {W : Nat → Nat → Prop} {S S' : zM} {xs : List Nat} (h : mSo S 408 xs) (hf : zfr W S S') (hw : ∀ j, ¬ W 443 j) : mSo S' 408 xs := ⟨fun p hp => by rw [fr_J hf (hw p)]; exact h.1 p hp, h.2⟩
theorem mo_ref2 {S : zM} {w : zWs} (h : pMo S w) {t : Nat} (ht : t < 4) : ∃ S', f_Mo_isRefused 408 (nI t) S = some (if t = 0 then 0 else 1, S') ∧ pMo S' (sTr w t) ∧ zfr wMo S S' ∧ zfr (fun b j => b = 408) S S' := by
  obtain ⟨e0, e1, e2⟩ := mo_fresh h
  have f0 : zfr (fun b j => b = 408) S (zfs S) := fr_trans (fr_trans (fr_wI _ _ rfl) (fr_wI _ _ rfl)) (fr_wI _ _ rfl)
  have f1 : zfr (fun b j => b = 408 ∧ j = 1) (zfs S) (zwI (zfs S) 408 1 (nI t)) := fr_wI _ _ ⟨rfl, rfl⟩
  refine ⟨zwI (zfs S) 408 1 (nI t), ?_, ⟨mCo_fr e1.1 f1 (fun b j q => by unfold wMs; omega), by simp [-Prod.exists, -Prod.forall, zgf, zgr, zpf, zpz, zpr, zga, zgl, zgo, zpa, zpb, zpl, zpo, mm_len, zcl, Option.bind_some, Option.bind_none, mm_hI, mm_hJ, mm_hR, mm_nI, mm_nJ, mm_nR, mm_sI, mm_sJ, mm_sR, mm_RI, mm_RJ, mm_IJ, mm_IR, mm_JI, mm_JR, mm_II, mm_JJ, mm_RR]; rfl, fun q => by have : t = 4 := q; omega⟩, fr_trans e2 (fr_mono f1 (fun b j q => by unfold wMo; omega)), fr_trans f0 (fr_mono f1 (fun b j q => q.1))⟩
  by_cases q : t = 0
  · subst q
    have : nI 0 = (0 : Int32) := rfl
    simp [f_Mo_isRefused, -Prod.exists, -Prod.forall, ↓bb_gf, ↓bb_gr, ↓bb_len, ↓bb_ga, ↓bb_gl, ↓bb_go, ↓bb_pf, ↓bb_pz, ↓bb_pr, ↓bb_pa, ↓bb_pb, ↓bb_pl, ↓bb_po, ↓bb_cl, ↓bb_some, ↓bb_RI, ↓bb_RJ, mm_hI, mm_hJ, mm_hR, mm_nI, mm_nJ, mm_nR, mm_sI, mm_sJ, mm_sR, mm_RI, mm_RJ, mm_IJ, mm_IR, mm_JI, mm_JR, mm_II, mm_JJ, mm_RR, h.1.1.1, ↓bS e0, e1.1.1.1, this]
  · have : ¬ nI t = 0 := fun x => q ((nI_eq (b := 0) (by omega) (by omega)).1 x)
    simp [f_Mo_isRefused, -Prod.exists, -Prod.forall, ↓bb_gf, ↓bb_gr, ↓bb_len, ↓bb_ga, ↓bb_gl, ↓bb_go, ↓bb_pf, ↓bb_pz, ↓bb_pr, ↓bb_pa, ↓bb_pb, ↓bb_pl, ↓bb_po, ↓bb_cl, ↓bb_some, ↓bb_RI, ↓bb_RJ, mm_hI, mm_hJ, mm_hR, mm_nI, mm_nJ, mm_nR, mm_sI, mm_sJ, mm_sR, mm_RI, mm_RJ, mm_IJ, mm_IR, mm_JI, mm_JR, mm_II, mm_JJ, mm_RR, h.1.1.1, ↓bS e0, e1.1.1.1, this, q]
theorem hm_sources (n : Int32) (x : Int64) : zHm (f_Mo_sources 408 n x) (sp_sources n x) := fun S w h ho => by
  obtain ⟨S1, s1, s2, s3, s4⟩ := mo_sw h n x
  have c := sT_c n x w
  obtain ⟨S2, r1, r2, r3, r4⟩ := mo_ref2 s2 (t := zsT n x w) (by omega)
  unfold sp_sources
  by_cases q : zsT n x w = 0
  · rw [if_pos q]
    rw [q, if_pos rfl] at r1
    rw [q] at r2 s1
    have n0 : nI 0 = (0 : Int32) := rfl
    rw [n0] at r1 s1
    obtain ⟨q1, xs, ex⟩ := sT_0 q
    obtain ⟨m, rfl, m1, m5, hp, _⟩ := wT_0 q1
    rw [nI_clamp (by omega)]
    obtain ⟨S3, l1, l2, l3, l4, l5, l6, l7⟩ := mo_lays r2 ho hp m5
    have nl := nW_le ho hp m5
    have so := so_fr (so_fr (s4 q) r4 (fun j => by omega)) l7 (fun j => by unfold wLW; omega)
    have fl := m_sources_l l2.1.1 l6 l5 (by omega) l4 so
    exact ⟨S3, by simp [f_Mo_sources, -Prod.exists, -Prod.forall, ↓bb_gf, ↓bb_gr, ↓bb_len, ↓bb_ga, ↓bb_gl, ↓bb_go, ↓bb_pf, ↓bb_pz, ↓bb_pr, ↓bb_pa, ↓bb_pb, ↓bb_pl, ↓bb_po, ↓bb_cl, ↓bb_some, ↓bb_RI, ↓bb_RJ, mm_hI, mm_hJ, mm_hR, mm_nI, mm_nJ, mm_nR, mm_sI, mm_sJ, mm_sR, mm_RI, mm_RJ, mm_IJ, mm_IR, mm_JI, mm_JR, mm_II, mm_JJ, mm_RR, h.1.1.1, ↓bS s1, s2.1.1.1, ↓bS r1, r2.1.1.1, ↓bS l1, fl, zan], l2, fr_trans s3 (fr_trans r3 l3)⟩
  · rw [if_neg q] at r1 ⊢
    exact ⟨S2, by simp [f_Mo_sources, -Prod.exists, -Prod.forall, ↓bb_gf, ↓bb_gr, ↓bb_len, ↓bb_ga, ↓bb_gl, ↓bb_go, ↓bb_pf, ↓bb_pz, ↓bb_pr, ↓bb_pa, ↓bb_pb, ↓bb_pl, ↓bb_po, ↓bb_cl, ↓bb_some, ↓bb_RI, ↓bb_RJ, mm_hI, mm_hJ, mm_hR, mm_nI, mm_nJ, mm_nR, mm_sI, mm_sJ, mm_sR, mm_RI, mm_RJ, mm_IJ, mm_IR, mm_JI, mm_JR, mm_II, mm_JJ, mm_RR, h.1.1.1, ↓bS s1, s2.1.1.1, ↓bS r1, zrf], r2, fr_trans s3 r3⟩
theorem hm_source (n : Int32) (x : Int64) (k : Int32) : zHm (f_Mo_source 408 n x k) (sp_source n x k) := fun S w h ho => by
  obtain ⟨S1, s1, s2, s3, s4⟩ := mo_sw h n x
  have c := sT_c n x w
  obtain ⟨S2, r1, r2, r3, r4⟩ := mo_ref2 s2 (t := zsT n x w) (by omega)
  unfold sp_source
  by_cases q : zsT n x w = 0
  · rw [if_pos q]
    rw [q, if_pos rfl] at r1
    rw [q] at r2 s1
    have n0 : nI 0 = (0 : Int32) := rfl
    rw [n0] at r1 s1
    obtain ⟨q1, xs, ex⟩ := sT_0 q
    obtain ⟨m, rfl, m1, m5, hp, _⟩ := wT_0 q1
    rw [nI_clamp (by omega)]
    obtain ⟨S3, l1, l2, l3, l4, l5, l6, l7⟩ := mo_lays r2 ho hp m5
    have nl := nW_le ho hp m5
    have so := so_fr (so_fr (s4 q) r4 (fun j => by omega)) l7 (fun j => by unfold wLW; omega)
    have fl := m_source_l l2.1.1 l6 l5 (by omega) l4 so k
    obtain ⟨S4, t1, t2, t3⟩ := mo_tail l2 ho hp (zkt (zsrc (zoW w) ((zwl x).getD [])) (zNW w m) k) (fun i hi => by have := (fi_some hi).1; omega) (why := 1) (by omega) 1 rfl
    refine ⟨S4, ?_, t2, fr_trans s3 (fr_trans r3 (fr_trans l3 t3))⟩
    rw [← t1, ← fl]
    simp [f_Mo_source, -Prod.exists, -Prod.forall, ↓bb_gf, ↓bb_gr, ↓bb_len, ↓bb_ga, ↓bb_gl, ↓bb_go, ↓bb_pf, ↓bb_pz, ↓bb_pr, ↓bb_pa, ↓bb_pb, ↓bb_pl, ↓bb_po, ↓bb_cl, ↓bb_some, ↓bb_RI, ↓bb_RJ, mm_hI, mm_hJ, mm_hR, mm_nI, mm_nJ, mm_nR, mm_sI, mm_sJ, mm_sR, mm_RI, mm_RJ, mm_IJ, mm_IR, mm_JI, mm_JR, mm_II, mm_JJ, mm_RR, h.1.1.1, ↓bS s1, s2.1.1.1, ↓bS r1, r2.1.1.1, ↓bS l1]
  · rw [if_neg q] at r1 ⊢
    exact ⟨S2, by simp [f_Mo_source, -Prod.exists, -Prod.forall, ↓bb_gf, ↓bb_gr, ↓bb_len, ↓bb_ga, ↓bb_gl, ↓bb_go, ↓bb_pf, ↓bb_pz, ↓bb_pr, ↓bb_pa, ↓bb_pb, ↓bb_pl, ↓bb_po, ↓bb_cl, ↓bb_some, ↓bb_RI, ↓bb_RJ, mm_hI, mm_hJ, mm_hR, mm_nI, mm_nJ, mm_nR, mm_sI, mm_sJ, mm_sR, mm_RI, mm_RJ, mm_IJ, mm_IR, mm_JI, mm_JR, mm_II, mm_JJ, mm_RR, h.1.1.1, ↓bS s1, s2.1.1.1, ↓bS r1, zrfL], r2, fr_trans s3 r3⟩
