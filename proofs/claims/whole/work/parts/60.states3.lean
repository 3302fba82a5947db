/-! the states' queries -/
section
variable {S : zM} {m M : Nat} {rs : List zRu} {tn : Bool} {nd : List (List Nat)}
theorem mach_has (hs : sMach S m) (hn : wNd rs tn nd) (hc : cMach S m rs tn nd) {s : Nat} (h : s < nd.length) : f_Machine_has m (nI s) S = some (1, S) := by
  have n33 := hn.1
  have a0 : ¬ nI s < 0 := fun q => absurd ((nI_ltI (b := 0) (by omega) (by omega)).1 q) (by omega)
  have a33 : nI s < 33 := (nI_ltI (b := 33) (by omega) (by omega)).2 (by omega)
  have a1 : nI s < nI nd.length := (nI_ltI (by omega) (by omega)).2 h
  simp [f_Machine_has, -Prod.exists, -Prod.forall, ↓bb_gf, ↓bb_gr, ↓bb_len, ↓bb_ga, ↓bb_gl, ↓bb_go, ↓bb_pf, ↓bb_pz, ↓bb_pr, ↓bb_pa, ↓bb_pb, ↓bb_pl, ↓bb_po, ↓bb_cl, ↓bb_some, ↓bb_RI, ↓bb_RJ, mm_hI, mm_hJ, mm_hR, mm_nI, mm_nJ, mm_nR, mm_sI, mm_sJ, mm_sR, mm_RI, mm_RJ, mm_IJ, mm_IR, mm_JI, mm_JR, mm_II, mm_JJ, mm_RR, a0, a33, hs.1, hc.1, a1]
theorem mach_hasN (hs : sMach S m) {s : Int32} (h : s < 0) : f_Machine_has m s S = some (0, S) := by
  simp [f_Machine_has, h]
theorem mach_has2 (hs : sMach S m) (hn : wNd rs tn nd) (hc : cMach S m rs tn nd) {s : Nat} (h : nd.length ≤ s) (h2 : s < 2 ^ 31) : f_Machine_has m (nI s) S = some (0, S) := by
  have n33 := hn.1
  have a0 : ¬ nI s < 0 := fun q => absurd ((nI_ltI (b := 0) (by omega) (by omega)).1 q) (by omega)
  have a1 : ¬ nI s < nI nd.length := fun q => absurd ((nI_ltI (by omega) (by omega)).1 q) (by omega)
  simp [f_Machine_has, -Prod.exists, -Prod.forall, ↓bb_gf, ↓bb_gr, ↓bb_len, ↓bb_ga, ↓bb_gl, ↓bb_go, ↓bb_pf, ↓bb_pz, ↓bb_pr, ↓bb_pa, ↓bb_pb, ↓bb_pl, ↓bb_po, ↓bb_cl, ↓bb_some, ↓bb_RI, ↓bb_RJ, mm_hI, mm_hJ, mm_hR, mm_nI, mm_nJ, mm_nR, mm_sI, mm_sJ, mm_sR, mm_RI, mm_RJ, mm_IJ, mm_IR, mm_JI, mm_JR, mm_II, mm_JJ, mm_RR, a0, hs.1, hc.1, a1]
theorem mach_depth (hs : sMach S m) (hn : wNd rs tn nd) (hc : cMach S m rs tn nd) {s : Nat} (h : s < nd.length) : f_Machine_depthOf m (nI s) S = some (nI (ln nd s).length, S) := by
  have n33 := hn.1
  have hh := mach_has hs hn hc h
  have zi : zinb (nI s) 33 = true := (nn_in (by omega)).2 (by omega)
  have ci : (nI s).toNatClampNeg = s := nI_clamp (by omega)
  obtain ⟨s1, s2, s3, s4, s5, s6, s7, s8, s9, s10, s11, s12, s13⟩ := hs
  simp [f_Machine_depthOf, -Prod.exists, -Prod.forall, ↓bb_gf, ↓bb_gr, ↓bb_len, ↓bb_ga, ↓bb_gl, ↓bb_go, ↓bb_pf, ↓bb_pz, ↓bb_pr, ↓bb_pa, ↓bb_pb, ↓bb_pl, ↓bb_po, ↓bb_cl, ↓bb_some, ↓bb_RI, ↓bb_RJ, mm_hI, mm_hJ, mm_hR, mm_nI, mm_nJ, mm_nR, mm_sI, mm_sJ, mm_sR, mm_RI, mm_RJ, mm_IJ, mm_IR, mm_JI, mm_JR, mm_II, mm_JJ, mm_RR, s1, ↓bS hh, ↓bS s4, s4, s5, zi, ci, hc.2.2.1 s h]
theorem mach_ends (hs : sMach S m) (hn : wNd rs tn nd) (hc : cMach S m rs tn nd) {s : Nat} (h : s < nd.length) : f_Machine_endingAt m (nI s) S = some (nI (zend rs tn (ln nd s)), S) := by
  have n33 := hn.1
  have hh := mach_has hs hn hc h
  have zi : zinb (nI s) 33 = true := (nn_in (by omega)).2 (by omega)
  have ci : (nI s).toNatClampNeg = s := nI_clamp (by omega)
  obtain ⟨s1, s2, s3, s4, s5, s6, s7, s8, s9, s10, s11, s12, s13⟩ := hs
  simp [f_Machine_endingAt, -Prod.exists, -Prod.forall, ↓bb_gf, ↓bb_gr, ↓bb_len, ↓bb_ga, ↓bb_gl, ↓bb_go, ↓bb_pf, ↓bb_pz, ↓bb_pr, ↓bb_pa, ↓bb_pb, ↓bb_pl, ↓bb_po, ↓bb_cl, ↓bb_some, ↓bb_RI, ↓bb_RJ, mm_hI, mm_hJ, mm_hR, mm_nI, mm_nJ, mm_nR, mm_sI, mm_sJ, mm_sR, mm_RI, mm_RJ, mm_IJ, mm_IR, mm_JI, mm_JR, mm_II, mm_JJ, mm_RR, s1, ↓bS hh, s6, s7, zi, ci, hc.2.2.2.1 s h]
theorem mach_step (hs : sMach S m) (hn : wNd rs tn nd) (hc : cMach S m rs tn nd) {s l : Nat} (h : s < nd.length) (hl : l < 8) : f_Machine_step m (nI s) (nI l) S = some (zidx nd (ln nd s ++ [l]), S) := by
  have n33 := hn.1
  have hh := mach_has hs hn hc h
  have a0 : ¬ nI l < 0 := fun q => absurd ((nI_ltI (b := 0) (by omega) (by omega)).1 q) (by omega)
  have a8 : nI l < 8 := (nI_ltI (b := 8) (by omega) (by omega)).2 hl
  have e8 : nI s * 8 = nI (s * 8) := pk_mul s 8
  have zi : zinb (nI (s * 8 + l)) 264 = true := (nn_in (by omega)).2 (by omega)
  have ci : (nI (s * 8 + l)).toNatClampNeg = s * 8 + l := nI_clamp (by omega)
  obtain ⟨s1, s2, s3, s4, s5, s6, s7, s8, s9, s10, s11, s12, s13⟩ := hs
  simp [f_Machine_step, -Prod.exists, -Prod.forall, ↓bb_gf, ↓bb_gr, ↓bb_len, ↓bb_ga, ↓bb_gl, ↓bb_go, ↓bb_pf, ↓bb_pz, ↓bb_pr, ↓bb_pa, ↓bb_pb, ↓bb_pl, ↓bb_po, ↓bb_cl, ↓bb_some, ↓bb_RI, ↓bb_RJ, mm_hI, mm_hJ, mm_hR, mm_nI, mm_nJ, mm_nR, mm_sI, mm_sJ, mm_sR, mm_RI, mm_RJ, mm_IJ, mm_IR, mm_JI, mm_JR, mm_II, mm_JJ, mm_RR, s1, ↓bS hh, a0, a8, s2, s3, e8, nI_add, zi, ci, hc.2.1 s l h hl]
theorem goes_l (hm : sMo S M) (hst : mSt S M nd) (hn : nd.length ≤ 33) (hz : ∀ i, i < nd.length → zcd (ln nd i) < 2048) {c : Nat} (hc : c < 2 ^ 20) : ∀ d F i, d + i = nd.length → d < F → ((∃ j, i ≤ j ∧ j < nd.length ∧ zcd (ln nd j) = c ∧ L_Mo_goes_94 F M (nI c) (nI i) S = some (nI j, S)) ∨ ((∀ j, i ≤ j → j < nd.length → zcd (ln nd j) ≠ c) ∧ L_Mo_goes_94 F M (nI c) (nI i) S = some (-2, S))) := by
  obtain ⟨t1, t2⟩ := hst
  intro d
  induction d with
  | zero =>
    intro F i hd hF
    cases F with
    | zero => omega
    | succ F =>
      have hx : ¬ i < nd.length := by omega
      refine Or.inr ⟨fun j a b => by omega, ?_⟩
      simp (disch := omega) [L_Mo_goes_94, -Prod.exists, -Prod.forall, ↓bb_gf, ↓bb_gr, ↓bb_len, ↓bb_ga, ↓bb_gl, ↓bb_go, ↓bb_pf, ↓bb_pz, ↓bb_pr, ↓bb_pa, ↓bb_pb, ↓bb_pl, ↓bb_po, ↓bb_cl, ↓bb_some, ↓bb_RI, ↓bb_RJ, mm_hI, mm_hJ, mm_hR, mm_nI, mm_nJ, mm_nR, mm_sI, mm_sJ, mm_sR, mm_RI, mm_RJ, mm_IJ, mm_IR, mm_JI, mm_JR, mm_II, mm_JJ, mm_RR, nI_ltI, hm.1, t1, hx]
  | succ d ih =>
    intro F i hd hF
    cases F with
    | zero => omega
    | succ F =>
      have hx : i < nd.length := by omega
      have zi : zinb (nI i) 73 = true := (nn_in (by omega)).2 (by omega)
      have ci : (nI i).toNatClampNeg = i := nI_clamp (by omega)
      have e1 : nI i + 1 = nI (i + 1) := nI_add i 1
      have hzi := hz i hx
      by_cases q : zcd (ln nd i) = c
      · refine Or.inl ⟨i, by omega, hx, q, ?_⟩
        simp (disch := omega) [L_Mo_goes_94, -Prod.exists, -Prod.forall, ↓bb_gf, ↓bb_gr, ↓bb_len, ↓bb_ga, ↓bb_gl, ↓bb_go, ↓bb_pf, ↓bb_pz, ↓bb_pr, ↓bb_pa, ↓bb_pb, ↓bb_pl, ↓bb_po, ↓bb_cl, ↓bb_some, ↓bb_RI, ↓bb_RJ, mm_hI, mm_hJ, mm_hR, mm_nI, mm_nJ, mm_nR, mm_sI, mm_sJ, mm_sR, mm_RI, mm_RJ, mm_IJ, mm_IR, mm_JI, mm_JR, mm_II, mm_JJ, mm_RR, nI_ltI, hm.1, t1, hx, ↓bS (mo_states hm), mh_states hm, zi, ci, t2 i hx, q]
      · have hq : ¬ nI (zcd (ln nd i)) = nI c := fun w => q ((nI_eq (by omega) (by omega)).1 w)
        have st : L_Mo_goes_94 (F + 1) M (nI c) (nI i) S = L_Mo_goes_94 F M (nI c) (nI (i + 1)) S := by
          rw [L_Mo_goes_94]
          simp (disch := omega) [-Prod.exists, -Prod.forall, ↓bb_gf, ↓bb_gr, ↓bb_len, ↓bb_ga, ↓bb_gl, ↓bb_go, ↓bb_pf, ↓bb_pz, ↓bb_pr, ↓bb_pa, ↓bb_pb, ↓bb_pl, ↓bb_po, ↓bb_cl, ↓bb_some, ↓bb_RI, ↓bb_RJ, mm_hI, mm_hJ, mm_hR, mm_nI, mm_nJ, mm_nR, mm_sI, mm_sJ, mm_sR, mm_RI, mm_RJ, mm_IJ, mm_IR, mm_JI, mm_JR, mm_II, mm_JJ, mm_RR, nI_ltI, hm.1, t1, hx, ↓bS (mo_states hm), mh_states hm, zi, ci, t2 i hx, hq, e1]
        rw [st]
        rcases ih F (i + 1) (by omega) (by omega) with ⟨j, w1, w2, w3, w4⟩ | ⟨w1, w2⟩
        · exact Or.inl ⟨j, by omega, w2, w3, w4⟩
        · refine Or.inr ⟨fun j a b => ?_, w2⟩
          by_cases e3 : j = i
          · subst e3; exact q
          · exact w1 j (by omega) b
end
theorem cd_div {t : List Nat} (h : zc3 t) : zcd t / 512 = t.length := by
  obtain ⟨h1, h2⟩ := h
  match t, h1, h2 with
  | [], _, _ => simp [zcd]
  | [a], _, h2 => have := h2 a (by simp); simp [zcd]; omega
  | [a, b], _, h2 => have := h2 a (by simp); have := h2 b (by simp); simp [zcd]; omega
  | [a, b, c], _, h2 => have := h2 a (by simp); have := h2 b (by simp); have := h2 c (by simp); simp [zcd]; omega
  | a :: b :: c :: d :: r, h1, _ => simp at h1
def zstp (n : Nat) : Nat := if n = 0 then 64 else if n = 1 then 8 else 1
theorem cd_app {t : List Nat} {l : Nat} (h : t.length < 3) : zcd (t ++ [l]) = zcd t + 512 + zstp t.length * l := by
  match t, h with
  | [], _ => simp [zcd, zstp]; omega
  | [a], _ => simp [zcd, zstp]; omega
  | [a, b], _ => simp [zcd, zstp]; omega
  | a :: b :: c :: r, h => simp at h; omega
theorem cd_inj2 {t u : List Nat} (ht : zc3 t) (hu : zc3 u) (h : zcd t = zcd u) : t = u := by
  have l1 := cd_div ht
  have l2 := cd_div hu
  have el : t.length = u.length := by rw [← l1, ← l2, h]
  obtain ⟨h1, h2⟩ := ht
  obtain ⟨g1, g2⟩ := hu
  match t, u, h1, h2, g1, g2, el with
  | [], [], _, _, _, _, _ => rfl
  | [a], [a'], _, h2, _, g2, _ =>
    have := h2 a (by simp); have := g2 a' (by simp)
    simp [zcd] at h
    have : a = a' := by omega
    rw [this]
  | [a, b], [a', b'], _, h2, _, g2, _ =>
    have := h2 a (by simp); have := g2 a' (by simp); have := h2 b (by simp); have := g2 b' (by simp)
    simp [zcd] at h
    have : a = a' := by omega
    have : b = b' := by omega
    simp [*]
  | [a, b, c], [a', b', c'], _, h2, _, g2, _ =>
    have := h2 a (by simp); have := g2 a' (by simp); have := h2 b (by simp); have := g2 b' (by simp); have := h2 c (by simp); have := g2 c' (by simp)
    simp [zcd] at h
    have : a = a' := by omega
    have : b = b' := by omega
    have : c = c' := by omega
    simp [*]
/-- where the reference goes -/
theorem goes_idx {S : zM} {M : Nat} {rs : List zRu} {nd : List (List Nat)} (hw : wRs rs) (hm : sMo S M) (hst : mSt S M nd) (hn : wNd rs false nd) {s l : Nat} (h : s < nd.length) (hl : l < 8) (h3 : (ln nd s).length < 3) : L_Mo_goes_94 zF M (nI (zcd (ln nd s ++ [l]))) 0 S = some (zidx nd (ln nd s ++ [l]), S) := by
  have ct := nd_c3 hw hn (ln_mem h)
  have c3 : zc3 (ln nd s ++ [l]) := by
    refine ⟨by simp; omega, fun x hx => ?_⟩
    rcases List.mem_append.1 hx with q | q
    · exact ct.2 x q
    · simp at q; omega
  have hlt := cd_lt c3
  rcases goes_l hm hst hn.1 (fun i hi => cd_lt (nd_c3 hw hn (ln_mem hi))) (c := zcd (ln nd s ++ [l])) (by omega) nd.length zF 0 (by omega) (by have := hn.1; rw [zF_eq]; omega) with ⟨j, w1, w2, w3, w4⟩ | ⟨w1, w2⟩
  · have e := cd_inj2 (nd_c3 hw hn (ln_mem w2)) c3 w3
    have hin : ln nd s ++ [l] ∈ nd := by rw [← e]; exact ln_mem w2
    have ei : nd.idxOf (ln nd s ++ [l]) = j := by rw [← e]; exact ln_idx_ hn.2.2.2.1 w2
    rw [zidx, if_pos hin, ei]; exact w4
  · have hin : ¬ ln nd s ++ [l] ∈ nd := fun q => w1 _ (by omega) (List.idxOf_lt_length_of_mem q) (by rw [ln_idx q])
    rw [zidx, if_neg hin]; exact w2
