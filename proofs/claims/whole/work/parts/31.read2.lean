/-! the class's reader: a rule's line, a line, the text -/
section
variable {S : zM} {rd q T : Nat} {tx : List Nat} {t : zTk} {st : zRt}
theorem p_addRule {P : Nat} {ps : zPs} {mask : Nat} (hq : qPass S P ps mask) (hs : sPassA S P) (hm : ps.2.length < 8) : ∃ S', f_Pass_addRule P S = some (some (P + 16 + 5 * ps.2.length), S') ∧ zfr (fun b j => (b = P ∧ j = 3) ∨ (P + 16 + 5 * ps.2.length ≤ b ∧ b < P + 16 + 5 * ps.2.length + 5)) S S' ∧ zI S' P 3 = nI (ps.2.length + 1) ∧ pRule S' (P + 16 + 5 * ps.2.length) ([], [], 511, 511) := by
  obtain ⟨m, hmd⟩ : ∃ m, m = ps.2.length := ⟨_, rfl⟩
  obtain ⟨r, hr⟩ : ∃ r, r = P + 16 + 5 * m := ⟨_, rfl⟩
  rw [← hmd] at hm ⊢
  rw [← hr]
  obtain ⟨⟨b1, b2, b3, b4, b5, b6⟩, a2, a3, a4, a5, a8, a9⟩ := hq
  rw [← hmd] at a2
  obtain ⟨ru, z1, z2, z3, z4, z5, z6, z7⟩ := hs.2.2.2 m hm
  rw [← hr] at z1 z2 z3 z4 z5 z6 z7
  obtain ⟨S1, e1, f1, p1⟩ := row_drop z4
  have z5' : pRow S1 (r + 3) 4 ru.2.1 := row_fr z5 f1 (fun j hb => by have := hb.1; have := hb.2; omega) (fun j hb => by have := hb.1; have := hb.2; omega)
  obtain ⟨S2, e2, f2, p2⟩ := row_drop z5'
  obtain ⟨S3, hS3⟩ : ∃ S3, S3 = zwI (zwI (zwI S2 r 2 511) r 3 511) P 3 (nI (m + 1)) := ⟨_, rfl⟩
  have hh1 : zh S1 = zh S := fr_h f1
  have hr1 : zR S1 = zR S := fr_R f1
  have hh2 : zh S2 = zh S := (fr_h f2).trans hh1
  have hr2 : zR S2 = zR S := (fr_R f2).trans hr1
  have f3 : zfr (fun b j => (b = P ∧ j = 3) ∨ (b = r ∧ (j = 2 ∨ j = 3))) S2 S3 := by
    rw [hS3]
    exact fr_trans (fr_trans (fr_wI _ _ (by omega)) (fr_wI _ _ (by omega))) (fr_wI _ _ (by omega))
  have fA : zfr (fun b j => (b = P ∧ j = 3) ∨ (r ≤ b ∧ b < r + 5)) S S3 := fr_trans (fr_trans (fr_mono f1 (fun b j hb => by have := hb.1; have := hb.2; omega)) (fr_mono f2 (fun b j hb => by have := hb.1; have := hb.2; omega))) (fr_mono f3 (fun b j hb => by omega))
  refine ⟨S3, ?_, fA, by rw [hS3]; simp [mm_II], ⟨by rw [fr_h fA]; exact z1, by rw [fr_R fA]; exact z2, by rw [fr_R fA]; exact z3, ?_, ?_, by rw [hS3]; simp [mm_II, show ¬ r = P by omega]; rfl, by rw [hS3]; simp [mm_II, show ¬ r = P by omega]; rfl⟩⟩
  · have i3 : zI S2 P 3 = nI m := by
      rw [fr_I f2 (fun hb => by have := hb.1; have := hb.2; omega), fr_I f1 (fun hb => by have := hb.1; have := hb.2; omega)]; exact a2
    have b4m := b4 m hm
    rw [← hr] at b4m
    rw [hS3]
    have e1' : f_Row_drop (r + 1) S = some S1 := e1
    have e2' : f_Row_drop (r + 3) S1 = some S2 := e2
    simp (disch := omega) [f_Pass_addRule, f_Rule_drop, -Prod.exists, -Prod.forall, ↓bb_gf, ↓bb_gr, ↓bb_len, ↓bb_ga, ↓bb_gl, ↓bb_go, ↓bb_pf, ↓bb_pz, ↓bb_pr, ↓bb_pa, ↓bb_pb, ↓bb_pl, ↓bb_po, ↓bb_cl, ↓bb_some, ↓bb_RI, ↓bb_RJ, mm_hI, mm_hJ, mm_hR, mm_nI, mm_nJ, mm_nR, mm_sI, mm_sJ, mm_sR, mm_RI, mm_RJ, mm_IJ, mm_IR, mm_JI, mm_JR, mm_II, mm_JJ, mm_RR, nI_ltI, nI_clamp, nn_in, nI_1, b1, a2, ↓bS b2, b3, hm, b4m, z1, ↓bS z2, z4.1, ↓bS e1', hh1, hr1, ↓bS z3, z5'.1, z5.1, ↓bS e2', hh2, i3, show ¬ P = r by omega]
    have lt8 : nI m < 8 := (nI_ltI (b := 8) (by omega) (by omega)).2 hm
    simp [lt8]
  · exact row_fr (row_fr p1 f2 (fun j hb => by have := hb.1; have := hb.2; omega) (fun j hb => by have := hb.1; have := hb.2; omega)) f3 (fun j => by omega) (fun j => by omega)
  · exact row_fr p2 f3 (fun j => by omega) (fun j => by omega)
theorem add_len {ps : List zPs} {ru : zRu} (h : 0 < ps.length) : (zadd ps ru).length = ps.length := by simp [zadd]; omega
theorem add_pa1 {ps : List zPs} {ru : zRu} {p : Nat} (h : p + 1 < ps.length) : zpa_ (zadd ps ru) p = zpa_ ps p := by
  unfold zadd
  rw [pa_app1 (by simp; omega)]
  simp [zpa_, List.getElem?_dropLast, show p < ps.length - 1 by omega, show p < ps.length by omega]
theorem add_pa2 {ps : List zPs} {ru : zRu} (h : 0 < ps.length) : zpa_ (zadd ps ru) (ps.length - 1) = ((zpa_ ps (ps.length - 1)).1, (zpa_ ps (ps.length - 1)).2 ++ [ru]) := by
  unfold zadd
  have : ps.length - 1 = ps.dropLast.length := by simp
  rw [this, pa_app2]
theorem add_w {ps : List zPs} {ru : zRu} (h : wPs ps) (h0 : 0 < ps.length) (hr : wRu ru) (h8 : (zpa_ ps (ps.length - 1)).2.length < 8) : wPs (zadd ps ru) := by
  have wl := ps_w h (show ps.length - 1 < ps.length by omega)
  refine ⟨by rw [add_len h0]; exact h.1, fun p hp => ?_⟩
  unfold zadd at hp
  rcases List.mem_append.1 hp with q | q
  · exact h.2 p (by rw [List.dropLast_eq_take] at q; exact List.mem_of_mem_take q)
  · rw [List.mem_singleton.1 q]
    refine ⟨by simp; omega, fun r hr2 => ?_⟩
    rcases List.mem_append.1 hr2 with z | z
    · exact wl.2 r z
    · rw [List.mem_singleton.1 z]; exact hr
theorem rl_end {S' : zM} {P r : Nat} {ru : zRu} (hd : dRd rd q T) (h : rScr S T st) (h0 : 0 < st.2.2.2.length) (hP : P = aPs T (st.2.2.2.length - 1)) (h8 : (zpa_ st.2.2.2 (st.2.2.2.length - 1)).2.length < 8) (hr : r = P + 16 + 5 * (zpa_ st.2.2.2 (st.2.2.2.length - 1)).2.length) (hf : zfr (fun b j => wRdr rd b j ∨ (b = P ∧ j = 3) ∨ (r ≤ b ∧ b < r + 5)) S S') (e3 : zI S' P 3 = nI ((zpa_ st.2.2.2 (st.2.2.2.length - 1)).2.length + 1)) (hR : pRule S' r ru) : aScr S' T ∧ (wRu ru → rScr S' T (st.1, st.2.1, st.2.2.1, zadd st.2.2.2 ru)) := by
  obtain ⟨⟨bS_, bA⟩, a2, a3, a4, a5, a6, a7, w⟩ := h
  have w3 := w.2.2.2.2.2.1
  have dd := hd
  unfold dRd at dd
  unfold aPs at hP
  obtain ⟨n, hn⟩ : ∃ n, n = st.2.2.2.length := ⟨_, rfl⟩
  rw [← hn] at w3 h0 hP h8 hr e3 a4
  obtain ⟨m, hm⟩ : ∃ m, m = (zpa_ st.2.2.2 (n - 1)).2.length := ⟨_, rfl⟩
  rw [← hm] at h8 hr e3
  have smT : zsm T (T + 4) S S' := sm_fr hf (fun b j q1 q2 => by unfold wRdr; omega)
  have oth : ∀ p, p < 3 → p ≠ n - 1 → zsm (aPs T p) (aPs T p + 56) S S' := fun p hp hne => sm_fr hf (fun b j q1 q2 => by unfold wRdr; unfold aPs at q1 q2; omega)
  have smM : zsm (P + 1) (P + 16) S S' := sm_fr hf (fun b j q1 q2 => by unfold wRdr; omega)
  have smR : ∀ i, i ≠ m → i < 8 → zsm (P + 16 + 5 * i) (P + 16 + 5 * i + 5) S S' := fun i hne hi => sm_fr hf (fun b j q1 q2 => by unfold wRdr; omega)
  have sA := bA (n - 1) (by omega)
  have eP : aPs T (n - 1) = P := by rw [hP]; rfl
  rw [eP] at sA
  have sP : sPass S' P := by
    obtain ⟨z1, z2, z3, z4, z5, z6⟩ := sA.1
    exact ⟨by rw [fr_h hf]; exact z1, by rw [fr_R hf]; exact z2, by rw [fr_h hf]; exact z3, fun i hi => by rw [fr_R hf]; exact z4 i hi, by rw [fr_R hf]; exact z5, by rw [fr_R hf]; exact z6⟩
  have AS : aScr S' T := by
    refine ⟨sScr_sm bS_ smT (by omega) (by omega), fun p hp => ?_⟩
    by_cases e : p = n - 1
    · subst e
      rw [eP]
      refine ⟨sP, sMach_sm sA.2.1 smM (by omega) (by omega), sMach_sm sA.2.2.1 smM (by omega) (by omega), fun i hi => ?_⟩
      by_cases e2 : i = m
      · subst e2; rw [← hr]; exact ⟨ru, hR⟩
      · obtain ⟨ru2, hr2⟩ := sA.2.2.2 i hi
        exact ⟨ru2, rule_sm hr2 (smR i e2 hi) (by omega) (by omega)⟩
    · exact sPassA_sm (bA p hp) (oth p hp e) (by omega) (by omega)
  refine ⟨AS, fun wr => ⟨AS, ?_, ?_, ?_, fun k hk => ?_, fun k hk => ?_, fun p hp => ?_, ⟨w.1, w.2.1, w.2.2.1, w.2.2.2.1, w.2.2.2.2.1, add_w w.2.2.2.2.2 (by omega) wr (by rw [← hn, ← hm]; exact h8)⟩⟩⟩
  · rw [(smT.2 _ _ (by omega) (by omega)).2.1]; exact a2
  · rw [(smT.2 _ _ (by omega) (by omega)).2.1]; exact a3
  · rw [(smT.2 _ _ (by omega) (by omega)).2.1, a4]
    simp only [add_len (show 0 < st.2.2.2.length by omega)]; rw [hn]
  · rw [(smT.2 _ _ (by omega) (by omega)).2.1]; exact a5 k hk
  · rw [(smT.2 _ _ (by omega) (by omega)).2.2]; exact a6 k hk
  · simp only [add_len (show 0 < st.2.2.2.length by omega), ← hn] at hp
    by_cases e : p = n - 1
    · subst e
      have q7 := a7 (n - 1) (by omega)
      rw [eP] at q7 ⊢
      have e2 : zpa_ (zadd st.2.2.2 ru) (n - 1) = ((zpa_ st.2.2.2 (n - 1)).1, (zpa_ st.2.2.2 (n - 1)).2 ++ [ru]) := by rw [hn]; exact add_pa2 (by omega)
      simp only [e2]
      obtain ⟨y1, y2, y3, y4, y5, y6, y7⟩ := q7
      refine ⟨sP, by rw [e3]; simp [hm], ?_, ?_, fun i hi => ?_, ?_, y7⟩
      · rw [fr_I hf (by unfold wRdr; omega)]; exact y3
      · rw [fr_I hf (by unfold wRdr; omega)]; exact y4
      · simp only [List.length_append, List.length_cons, List.length_nil, ← hm] at hi
        by_cases e3 : i = m
        · subst e3
          simp only
          rw [show zru ((zpa_ st.2.2.2 (n - 1)).2 ++ [ru]) i = ru by rw [hm]; exact ru_app2, ← hr]; exact hR
        · simp only
          rw [ru_app1 (by omega)]
          exact rule_sm (y5 i (by omega)) (smR i e3 (by omega)) (by omega) (by omega)
      · refine ⟨by simp [← hm]; omega, fun x hx => ?_⟩
        rcases List.mem_append.1 hx with z | z
        · exact y6.2 x z
        · rw [List.mem_singleton.1 z]; exact wr
    · simp only
      rw [add_pa1 (by omega)]
      exact qPass_sm (a7 p (by omega)) (oth p (by omega) e) (by omega) (by omega)
theorem low_w {cs : List Nat} {t : zTk} {most : Nat} (ht : wTk tx t) (h : zlets tx t most = true) : (zlow (zsl tx t)).length ≤ most ∧ 0 < (zlow (zsl tx t)).length ∧ l8 (zlow (zsl tx t)) := by
  obtain ⟨l1, l2, l3⟩ := lets_is h
  rw [low_len, sl_len ht]
  refine ⟨l2, ?_, l8_iff.2 (fun x hx => ?_)⟩
  · have := ht.2.2.2.1; omega
  · simp only [zlow, List.mem_map] at hx
    obtain ⟨c, hc, e⟩ := hx
    have := l3 c hc; omega
theorem outc_w {t : zTk} (ht : wTk tx t) (h : (zoutc tx t).1 = 0) : (zoutc tx t).2.1.length ≤ 4 ∧ l8 (zoutc tx t).2.1 := by
  unfold zoutc at h ⊢
  split at h
  · rename_i c1
    simp only [c1, if_true] at h ⊢
    split at h
    · rename_i c2; simp only [c2, if_true]; exact ⟨by simp, l8_nil⟩
    · rename_i c2
      split at h
      · rename_i c3
        simp only [c2, c3, if_true, if_false, Bool.false_eq_true]
        have := low_w (cs := []) (next_w (tx := tx) ht.2.1).1 c3
        exact ⟨this.1, this.2.2⟩
      · simp at h
  · simp at h
theorem side_w {t : zTk} (ht : wTk tx t) : wTk tx (zside tx t st).2.2 := by
  unfold zside
  split
  · exact (next_w ht.2.1).1
  · split
    · exact (next_w ht.2.1).1
    · split
      · split
        · exact (next_w ht.2.1).1
        · exact ht
      · exact ht
theorem rule2_w {t : zTk} {ah : Nat} (ht : wTk tx t) (w : wRt st) (ha : ah < 512) (h : (zrule2 tx t st).1 = 0) : wRu ((zrule2 tx t st).2.2.1, (zrule2 tx t st).2.2.2.1, ah, (zrule2 tx t st).2.2.2.2) := by
  have n1 := (next_w (tx := tx) ht.2.1).1
  unfold zrule2 at h ⊢
  cases c1 : zlets tx t 3 with
  | false => simp [c1] at h
  | true =>
    have lw := low_w (cs := []) ht c1
    simp only [c1, if_true] at h ⊢
    cases c2 : zisw tx (znext tx t.2.1) 8 with
    | false =>
      simp only [c2, Bool.false_eq_true, if_false] at h ⊢
      have ow := outc_w n1 h
      exact ⟨lw.2.1, lw.1, ow.1, lw.2.2, ow.2, ha, by simp⟩
    | true =>
      simp only [c2, if_true] at h ⊢
      have n2 := (next_w (tx := tx) n1.2.1).1
      by_cases c3 : (zside tx (znext tx (znext tx t.2.1).2.1) st).1 = 0
      · simp only [c3, if_true] at h ⊢
        have ow := outc_w (side_w n2) h
        exact ⟨lw.2.1, lw.1, ow.1, lw.2.2, ow.2, ha, side_lt w⟩
      · simp only [c3, if_false] at h
end
