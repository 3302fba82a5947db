/-! all words: what both refuse -/
/-- the trouble with a length n -/
def zwT (n : Int32) (ok : Bool) (w : zWs) : Nat := if (wSc w).2.2.length = 0 then 1 else if ok = false then 1 else if n < 1 then 2 else if n ≤ 5 then 0 else 2
theorem wT_0 {n : Int32} {ok : Bool} {w : zWs} (h : zwT n ok w = 0) : ∃ m, n = nI m ∧ 1 ≤ m ∧ m ≤ 5 ∧ 0 < (wSc w).2.2.length ∧ ok = true := by
  unfold zwT at h
  split at h
  · cases h
  · rename_i q
    split at h
    · cases h
    · rename_i q2
      split at h
      · cases h
      · rename_i q3
        split at h
        · rename_i q4
          have q5 : ¬ n < 0 := fun x => q3 (by
            have : (0 : Int32) < 1 := by decide
            exact Int32.lt_trans x this)
          obtain ⟨m, hm, rfl⟩ := nI_of q5
          have a : ¬ m < 1 := fun x => q3 ((nI_ltI (b := 1) hm (by omega)).2 x)
          have b : m ≤ 5 := (nI_leI (b := 5) hm (by omega)).1 q4
          exact ⟨m, rfl, by omega, b, by omega, by cases ok <;> simp_all⟩
        · cases h
theorem wT_c (n : Int32) (ok : Bool) (w : zWs) : zwT n ok w = 0 ∨ zwT n ok w = 1 ∨ zwT n ok w = 2 := by
  unfold zwT
  split
  · omega
  · split
    · omega
    · split
      · omega
      · split <;> omega
theorem wT_nz {n : Int32} {ok : Bool} {w : zWs} (h : ¬ zwT n ok w = 0) : ¬ nI (zwT n ok w) = 0 := by
  have := wT_c n ok w
  exact fun q => h ((nI_eq (b := 0) (by omega) (by omega)).1 q)
section
variable {S : zM} {w : zWs} {T U : Nat}
theorem cl_tu (hm : cMn S w T U) (ho : okW w) (n : Int32) (ok : Bool) : f_Cl_troubleUpTo 1 n (if ok then 1 else 0) S = some (nI (zwT n ok w), S) := by
  have ns := cl_ns hm ho
  have h1 := hm.1.1
  have n1 : nI 1 = (1 : Int32) := rfl
  have n2 : nI 2 = (2 : Int32) := rfl
  have n0 : nI 0 = (0 : Int32) := rfl
  unfold zwT
  by_cases q : (wSc w).2.2.length = 0
  · rw [if_pos q] at ns ⊢
    simp [f_Cl_troubleUpTo, -Prod.exists, -Prod.forall, ↓bb_gf, ↓bb_gr, ↓bb_len, ↓bb_ga, ↓bb_gl, ↓bb_go, ↓bb_pf, ↓bb_pz, ↓bb_pr, ↓bb_pa, ↓bb_pb, ↓bb_pl, ↓bb_po, ↓bb_cl, ↓bb_some, ↓bb_RI, ↓bb_RJ, mm_hI, mm_hJ, mm_hR, mm_nI, mm_nJ, mm_nR, mm_sI, mm_sJ, mm_sR, mm_RI, mm_RJ, mm_IJ, mm_IR, mm_JI, mm_JR, mm_II, mm_JJ, mm_RR, h1, ↓bS ns, n1]
  · rw [if_neg q] at ns ⊢
    cases ok with
    | false => simp [f_Cl_troubleUpTo, -Prod.exists, -Prod.forall, ↓bb_gf, ↓bb_gr, ↓bb_len, ↓bb_ga, ↓bb_gl, ↓bb_go, ↓bb_pf, ↓bb_pz, ↓bb_pr, ↓bb_pa, ↓bb_pb, ↓bb_pl, ↓bb_po, ↓bb_cl, ↓bb_some, ↓bb_RI, ↓bb_RJ, mm_hI, mm_hJ, mm_hR, mm_nI, mm_nJ, mm_nR, mm_sI, mm_sJ, mm_sR, mm_RI, mm_RJ, mm_IJ, mm_IR, mm_JI, mm_JR, mm_II, mm_JJ, mm_RR, h1, ↓bS ns, n1]
    | true =>
      by_cases q1 : n < 1
      · simp [f_Cl_troubleUpTo, -Prod.exists, -Prod.forall, ↓bb_gf, ↓bb_gr, ↓bb_len, ↓bb_ga, ↓bb_gl, ↓bb_go, ↓bb_pf, ↓bb_pz, ↓bb_pr, ↓bb_pa, ↓bb_pb, ↓bb_pl, ↓bb_po, ↓bb_cl, ↓bb_some, ↓bb_RI, ↓bb_RJ, mm_hI, mm_hJ, mm_hR, mm_nI, mm_nJ, mm_nR, mm_sI, mm_sJ, mm_sR, mm_RI, mm_RJ, mm_IJ, mm_IR, mm_JI, mm_JR, mm_II, mm_JJ, mm_RR, h1, ↓bS ns, q1, n2]
      · by_cases q2 : n ≤ 5
        · simp [f_Cl_troubleUpTo, -Prod.exists, -Prod.forall, ↓bb_gf, ↓bb_gr, ↓bb_len, ↓bb_ga, ↓bb_gl, ↓bb_go, ↓bb_pf, ↓bb_pz, ↓bb_pr, ↓bb_pa, ↓bb_pb, ↓bb_pl, ↓bb_po, ↓bb_cl, ↓bb_some, ↓bb_RI, ↓bb_RJ, mm_hI, mm_hJ, mm_hR, mm_nI, mm_nJ, mm_nR, mm_sI, mm_sJ, mm_sR, mm_RI, mm_RJ, mm_IJ, mm_IR, mm_JI, mm_JR, mm_II, mm_JJ, mm_RR, h1, ↓bS ns, q1, q2, n0]
        · simp [f_Cl_troubleUpTo, -Prod.exists, -Prod.forall, ↓bb_gf, ↓bb_gr, ↓bb_len, ↓bb_ga, ↓bb_gl, ↓bb_go, ↓bb_pf, ↓bb_pz, ↓bb_pr, ↓bb_pa, ↓bb_pb, ↓bb_pl, ↓bb_po, ↓bb_cl, ↓bb_some, ↓bb_RI, ↓bb_RJ, mm_hI, mm_hJ, mm_hR, mm_nI, mm_nJ, mm_nR, mm_sI, mm_sJ, mm_sR, mm_RI, mm_RJ, mm_IJ, mm_IR, mm_JI, mm_JR, mm_II, mm_JJ, mm_RR, h1, ↓bS ns, q1, q2, n2]
theorem cl_tu1 (hm : cMn S w T U) (ho : okW w) (n : Int32) : f_Cl_troubleUpTo 1 n 1 S = some (nI (zwT n true w), S) := cl_tu hm ho n true
theorem cl_tu0 (hm : cMn S w T U) (ho : okW w) (n : Int32) : f_Cl_troubleUpTo 1 n 0 S = some (nI (zwT n false w), S) := cl_tu hm ho n false
theorem m_in15 (n : Int32) : f_Mo_in n 1 5 S = some (if n < 1 then 0 else if n ≤ 5 then 1 else 0, S) := by
  by_cases q1 : n < 1
  · have : ¬ (1 : Int32) ≤ n := fun x => by
      have := Int32.lt_of_lt_of_le q1 x
      exact absurd this (Int32.lt_irrefl)
    simp [f_Mo_in, q1, this]
  · have : (1 : Int32) ≤ n := Int32.not_lt.1 q1
    by_cases q2 : n ≤ 5
    · simp [f_Mo_in, q1, q2, this]
    · simp [f_Mo_in, q1, q2, this]
theorem mo_ww (h : pMo S w) (n : Int32) (ok : Bool) : f_Mo_wordsWhy 408 (if ok then 1 else 0) n S = some (nI (zwT n ok w), S) := by
  have h9 := h.1.2.1.2.2.2.1
  have h8 := h.1.1.1
  have n1 : nI 1 = (1 : Int32) := rfl
  have n2 : nI 2 = (2 : Int32) := rfl
  have n0 : nI 0 = (0 : Int32) := rfl
  have ik := m_in15 (S := S) n
  unfold zwT
  by_cases q : (wSc w).2.2.length = 0
  · rw [if_pos q] at h9 ⊢
    simp [f_Mo_wordsWhy, -Prod.exists, -Prod.forall, ↓bb_gf, ↓bb_gr, ↓bb_len, ↓bb_ga, ↓bb_gl, ↓bb_go, ↓bb_pf, ↓bb_pz, ↓bb_pr, ↓bb_pa, ↓bb_pb, ↓bb_pl, ↓bb_po, ↓bb_cl, ↓bb_some, ↓bb_RI, ↓bb_RJ, mm_hI, mm_hJ, mm_hR, mm_nI, mm_nJ, mm_nR, mm_sI, mm_sJ, mm_sR, mm_RI, mm_RJ, mm_IJ, mm_IR, mm_JI, mm_JR, mm_II, mm_JJ, mm_RR, h8, h9, n1]
  · rw [if_neg q] at h9 ⊢
    cases ok with
    | false => simp [f_Mo_wordsWhy, -Prod.exists, -Prod.forall, ↓bb_gf, ↓bb_gr, ↓bb_len, ↓bb_ga, ↓bb_gl, ↓bb_go, ↓bb_pf, ↓bb_pz, ↓bb_pr, ↓bb_pa, ↓bb_pb, ↓bb_pl, ↓bb_po, ↓bb_cl, ↓bb_some, ↓bb_RI, ↓bb_RJ, mm_hI, mm_hJ, mm_hR, mm_nI, mm_nJ, mm_nR, mm_sI, mm_sJ, mm_sR, mm_RI, mm_RJ, mm_IJ, mm_IR, mm_JI, mm_JR, mm_II, mm_JJ, mm_RR, h8, h9, n1]
    | true =>
      by_cases q1 : n < 1
      · simp [f_Mo_wordsWhy, -Prod.exists, -Prod.forall, ↓bb_gf, ↓bb_gr, ↓bb_len, ↓bb_ga, ↓bb_gl, ↓bb_go, ↓bb_pf, ↓bb_pz, ↓bb_pr, ↓bb_pa, ↓bb_pb, ↓bb_pl, ↓bb_po, ↓bb_cl, ↓bb_some, ↓bb_RI, ↓bb_RJ, mm_hI, mm_hJ, mm_hR, mm_nI, mm_nJ, mm_nR, mm_sI, mm_sJ, mm_sR, mm_RI, mm_RJ, mm_IJ, mm_IR, mm_JI, mm_JR, mm_II, mm_JJ, mm_RR, h8, h9, ↓bS ik, q1, n2]
      · by_cases q2 : n ≤ 5
        · simp [f_Mo_wordsWhy, -Prod.exists, -Prod.forall, ↓bb_gf, ↓bb_gr, ↓bb_len, ↓bb_ga, ↓bb_gl, ↓bb_go, ↓bb_pf, ↓bb_pz, ↓bb_pr, ↓bb_pa, ↓bb_pb, ↓bb_pl, ↓bb_po, ↓bb_cl, ↓bb_some, ↓bb_RI, ↓bb_RJ, mm_hI, mm_hJ, mm_hR, mm_nI, mm_nJ, mm_nR, mm_sI, mm_sJ, mm_sR, mm_RI, mm_RJ, mm_IJ, mm_IR, mm_JI, mm_JR, mm_II, mm_JJ, mm_RR, h8, h9, ↓bS ik, q1, q2, n0]
        · simp [f_Mo_wordsWhy, -Prod.exists, -Prod.forall, ↓bb_gf, ↓bb_gr, ↓bb_len, ↓bb_ga, ↓bb_gl, ↓bb_go, ↓bb_pf, ↓bb_pz, ↓bb_pr, ↓bb_pa, ↓bb_pb, ↓bb_pl, ↓bb_po, ↓bb_cl, ↓bb_some, ↓bb_RI, ↓bb_RJ, mm_hI, mm_hJ, mm_hR, mm_nI, mm_nJ, mm_nR, mm_sI, mm_sJ, mm_sR, mm_RI, mm_RJ, mm_IJ, mm_IR, mm_JI, mm_JR, mm_II, mm_JJ, mm_RR, h8, h9, ↓bS ik, q1, q2, n2]
theorem mo_ww1 (h : pMo S w) (n : Int32) : f_Mo_wordsWhy 408 1 n S = some (nI (zwT n true w), S) := mo_ww h n true
/-- refused, or not -/
theorem mo_ref (h : pMo S w) {t : Nat} (ht : t < 4) : ∃ S', f_Mo_isRefused 408 (nI t) S = some (if t = 0 then 0 else 1, S') ∧ pMo S' (sTr w t) ∧ zfr wMo S S' := by
  obtain ⟨e0, e1, e2⟩ := mo_fresh h
  have f1 : zfr (fun b j => b = 408 ∧ j = 1) (zfs S) (zwI (zfs S) 408 1 (nI t)) := fr_wI _ _ ⟨rfl, rfl⟩
  refine ⟨zwI (zfs S) 408 1 (nI t), ?_, ⟨mCo_fr e1.1 f1 (fun b j q => by unfold wMs; omega), by simp [-Prod.exists, -Prod.forall, zgf, zgr, zpf, zpz, zpr, zga, zgl, zgo, zpa, zpb, zpl, zpo, mm_len, zcl, Option.bind_some, Option.bind_none, mm_hI, mm_hJ, mm_hR, mm_nI, mm_nJ, mm_nR, mm_sI, mm_sJ, mm_sR, mm_RI, mm_RJ, mm_IJ, mm_IR, mm_JI, mm_JR, mm_II, mm_JJ, mm_RR]; rfl, fun q => by have : t = 4 := q; omega⟩, fr_trans e2 (fr_mono f1 (fun b j q => by unfold wMo; omega))⟩
  by_cases q : t = 0
  · subst q
    have : nI 0 = (0 : Int32) := rfl
    simp [f_Mo_isRefused, -Prod.exists, -Prod.forall, ↓bb_gf, ↓bb_gr, ↓bb_len, ↓bb_ga, ↓bb_gl, ↓bb_go, ↓bb_pf, ↓bb_pz, ↓bb_pr, ↓bb_pa, ↓bb_pb, ↓bb_pl, ↓bb_po, ↓bb_cl, ↓bb_some, ↓bb_RI, ↓bb_RJ, mm_hI, mm_hJ, mm_hR, mm_nI, mm_nJ, mm_nR, mm_sI, mm_sJ, mm_sR, mm_RI, mm_RJ, mm_IJ, mm_IR, mm_JI, mm_JR, mm_II, mm_JJ, mm_RR, h.1.1.1, ↓bS e0, e1.1.1.1, this]
  · have : ¬ nI t = 0 := fun x => q ((nI_eq (b := 0) (by omega) (by omega)).1 x)
    simp [f_Mo_isRefused, -Prod.exists, -Prod.forall, ↓bb_gf, ↓bb_gr, ↓bb_len, ↓bb_ga, ↓bb_gl, ↓bb_go, ↓bb_pf, ↓bb_pz, ↓bb_pr, ↓bb_pa, ↓bb_pb, ↓bb_pl, ↓bb_po, ↓bb_cl, ↓bb_some, ↓bb_RI, ↓bb_RJ, mm_hI, mm_hJ, mm_hR, mm_nI, mm_nJ, mm_nR, mm_sI, mm_sJ, mm_sR, mm_RI, mm_RJ, mm_IJ, mm_IR, mm_JI, mm_JR, mm_II, mm_JJ, mm_RR, h.1.1.1, ↓bS e0, e1.1.1.1, this, q]
end
/-! answers that are words -/
def zwA (w : zWs) (o : Option Nat) (why : Nat) : Int64 × zWs := match o with
  | none => zrfL w why
  | some i => zanL w (lN (zval (zword (wSc w).1 i)))
theorem wA_tr (w : zWs) (o : Option Nat) {why : Nat} (h : why < 8) : ∃ t, t < 8 ∧ (zwA w o why).2 = sTr w t := by
  cases o with
  | none => exact ⟨why, h, rfl⟩
  | some i => exact ⟨0, by omega, rfl⟩
section
variable {S S' : zM} {w : zWs} {T U E K B : Nat}
theorem cl_word (hm : cMn S w T U) (ho : okW w) (hp : 0 < (wSc w).2.2.length) (he : eCe S w E K B) (h9 : zR S E 9 = some T) {i : Nat} (hi : i < 1364) : f_Cl_answerWord 1 E (nI i) S = some (lN (zval (zword (wSc w).1 i)), zwI S 1 16 0) := by
  have hTU := wTU hm
  have f1 : zfr (fun b j => b = 1 ∧ j = 16) S (zwI S 1 16 0) := fr_wI _ _ ⟨rfl, rfl⟩
  have sp := c_spelled (S := zwI S 1 16 0) (E := E) (T := T) (L := (wSc w).1) (i := i) (by rw [fr_h f1]; exact he.2.2.1.1) (by rw [fr_R f1]; exact h9) (by rw [fr_h f1]; exact hm.2.2.1.1.1.1) (by rw [fr_I f1 (by omega)]; exact hm.2.2.1.1.2.1) (ho.2.2.1 hp) (by omega)
  simp [f_Cl_answerWord, -Prod.exists, -Prod.forall, ↓bb_gf, ↓bb_gr, ↓bb_len, ↓bb_ga, ↓bb_gl, ↓bb_go, ↓bb_pf, ↓bb_pz, ↓bb_pr, ↓bb_pa, ↓bb_pb, ↓bb_pl, ↓bb_po, ↓bb_cl, ↓bb_some, ↓bb_RI, ↓bb_RJ, mm_hI, mm_hJ, mm_hR, mm_nI, mm_nJ, mm_nR, mm_sI, mm_sJ, mm_sR, mm_RI, mm_RJ, mm_IJ, mm_IR, mm_JI, mm_JR, mm_II, mm_JJ, mm_RR, hm.1.1, he.2.2.1.1, ↓bS sp]
/-- the tail of a call that answers a word -/
theorem cl_tail (hm : cMn S' w T U) (hs : cSr S') (ho : okW w) (hp : 0 < (wSc w).2.2.length) (he : eCe S' w E K B) (h9 : zR S' E 9 = some T) (hk : zko S S') (hr : zrm S S') (o : Option Nat) (hi : ∀ i, o = some i → i < 1364) (why : Nat) (whyI : Int32) (hw : whyI = nI why) : ∃ S'', (if zsI o = (-1 : Int32) then Option.bind (zcl S' 11 1 (f_Cl_refuse 1 whyI S')) (fun p4 => some ((p4.1).toInt64, p4.2)) else Option.bind (zcl S' 11 1 (f_Cl_answerWord 1 E (zsI o) S')) (fun p5 => some (p5.1, p5.2))) = some ((zwA w o why).1, S'') ∧ pCl S'' (zwA w o why).2 ∧ zko S S'' ∧ zrm S S'' := by
  subst hw
  cases o with
  | none =>
    obtain ⟨y1, y2⟩ := hc_endE hm hs hk hr why
    have t : ((-1 : Int32)).toInt64 = -1 := by decide
    have z : zsI none = -1 := rfl
    exact ⟨_, by simp [-Prod.exists, -Prod.forall, ↓bb_gf, ↓bb_gr, ↓bb_len, ↓bb_ga, ↓bb_gl, ↓bb_go, ↓bb_pf, ↓bb_pz, ↓bb_pr, ↓bb_pa, ↓bb_pb, ↓bb_pl, ↓bb_po, ↓bb_cl, ↓bb_some, ↓bb_RI, ↓bb_RJ, mm_hI, mm_hJ, mm_hR, mm_nI, mm_nJ, mm_nR, mm_sI, mm_sJ, mm_sR, mm_RI, mm_RJ, mm_IJ, mm_IR, mm_JI, mm_JR, mm_II, mm_JJ, mm_RR, z, hm.1.1, ↓bS (cl_refuse hm.1.1 (nI why)), t, zwA, zrfL] <;> rfl, y1, y2⟩
  | some i =>
    obtain ⟨y1, y2⟩ := hc_endE hm hs hk hr 0
    have i4 := hi i rfl
    have z : zsI (some i) = nI i := rfl
    have nn : ¬ nI i = -1 := (nn_eqm (i := i) (m := 1) (by omega) (by omega) (by omega)).1
    exact ⟨_, by simp [-Prod.exists, -Prod.forall, ↓bb_gf, ↓bb_gr, ↓bb_len, ↓bb_ga, ↓bb_gl, ↓bb_go, ↓bb_pf, ↓bb_pz, ↓bb_pr, ↓bb_pa, ↓bb_pb, ↓bb_pl, ↓bb_po, ↓bb_cl, ↓bb_some, ↓bb_RI, ↓bb_RJ, mm_hI, mm_hJ, mm_hR, mm_nI, mm_nJ, mm_nR, mm_sI, mm_sJ, mm_sR, mm_RI, mm_RJ, mm_IJ, mm_IR, mm_JI, mm_JR, mm_II, mm_JJ, mm_RR, z, nn, hm.1.1, ↓bS (cl_word hm ho hp he h9 i4), zwA, zanL] <;> rfl, y1, y2⟩
theorem mo_tail (h : pMo S (sTr w 0)) (ho : okW w) (hp : 0 < (wSc w).2.2.length) (o : Option Nat) (hi : ∀ i, o = some i → i < zcnt (wSc w).1 5) {why : Nat} (h4 : why ≠ 4) (whyI : Int32) (hw : whyI = nI why) : ∃ S', zrW 408 S whyI o = some ((zwA w o why).1, S') ∧ pMo S' (zwA w o why).2 ∧ zfr wMo S S' := by
  subst hw
  cases o with
  | none =>
    obtain ⟨m0, m1, m2⟩ := mo_no h h4
    have t : ((-1 : Int32)).toInt64 = -1 := by decide
    exact ⟨_, by simp only [zrW, m0, Option.bind_some, t]; rfl, m1, m2⟩
  | some i =>
    obtain ⟨S', w1, w2⟩ := m_wordOf h.1.1 (show zI S 408 6 = nI (wSc w).1 from h.1.2.1.1) (ho.2.2.1 hp) (hi i rfl)
    obtain ⟨k1, k2⟩ := mo_keep h w2 (fun b j q => by unfold wMs; omega) (by omega) (by omega)
    exact ⟨S', by simp only [zrW, w1, Option.bind_some]; rfl, k1, k2⟩
end
