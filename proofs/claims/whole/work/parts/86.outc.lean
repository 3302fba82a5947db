/-! the class: how words came out, by their places -/
def sOut (S : zM) (O : Nat) : Prop := zh S O = (4, 0) ∧ zR S O 0 = some (O + 1) ∧ zh S (O + 1) = (100, 1364) ∧ zR S O 1 = some (O + 2) ∧ zh S (O + 2) = (101, 4092) ∧ zR S O 2 = some (O + 3) ∧ zh S (O + 3) = (100, 2048)
def c1Out (S : zM) (O i : Nat) (r : Nat × List Nat) : Prop := (r.1 ≠ 0 → zI S (O + 1) i = -nI r.1) ∧ (r.1 = 0 → zI S (O + 1) i = nI r.2.length ∧ ∀ b, b < 3 → zJ S (O + 2) (3 * i + b) = lN (zblk r.2 b))
def cOut (S : zM) (O N : Nat) (oc : Nat → Nat × List Nat) : Prop := ∀ i, i < N → c1Out S O i (oc i)
theorem c1Out_eq {S S' : zM} {O i : Nat} {r : Nat × List Nat} (h : c1Out S O i r) (h1 : zI S' (O + 1) i = zI S (O + 1) i) (h2 : ∀ b, b < 3 → zJ S' (O + 2) (3 * i + b) = zJ S (O + 2) (3 * i + b)) : c1Out S' O i r :=
  ⟨fun q => by rw [h1]; exact h.1 q, fun q => ⟨by rw [h1]; exact (h.2 q).1, fun b hb => by rw [h2 b hb]; exact (h.2 q).2 b hb⟩⟩
noncomputable def zhs (row : List Nat) : Nat := uN (((lN (zblk row 0) * 31 + lN (zblk row 1)) * 31 + lN (zblk row 2)) * (-7046029254386353131)) / 2 ^ 53
theorem hs_lt (row : List Nat) : zhs row < 2048 := by
  have := uN_lt (((lN (zblk row 0) * 31 + lN (zblk row 1)) * 31 + lN (zblk row 2)) * (-7046029254386353131))
  unfold zhs
  omega
theorem hs_x (x : Int64) : ((x.toUInt64 >>> ((53 : Int32).toInt64.toUInt64 &&& Int64.toUInt64 63)).toInt64).toInt32 = nI (uN x / 2 ^ 53) := by
  obtain ⟨n, hn, rfl⟩ := wb_of x
  have e : uN (lN n) = n := lN_nat hn
  rw [e]
  have := wb_shr (n := n) (k := 53) hn (by omega)
  rw [show (53 : Int32) = nI 53 from rfl, this, lN_i]
/-- the table of seats -/
def wTb (Tb : Nat → Nat) (N : Nat) (oc : Nat → Nat × List Nat) : Prop := (∀ s, s < 2048 → Tb s = 0 ∨ ∃ j, j < N ∧ Tb s = j + 1 ∧ (oc j).1 = 0 ∧ ztwin oc j = none) ∧ (∀ j, j < N → (oc j).1 = 0 → ztwin oc j = none → ∃ d, d < 2048 ∧ Tb ((zhs (oc j).2 + d) % 2048) = j + 1 ∧ ∀ d', d' < d → Tb ((zhs (oc j).2 + d') % 2048) ≠ 0) ∧ fb_ct (fun s => decide (Tb s ≠ 0)) 2048 ≤ N
def pTb (S : zM) (O : Nat) (Tb : Nat → Nat) : Prop := ∀ s, s < 2048 → zI S (O + 3) s = nI (Tb s)
def pSt (S : zM) (O N : Nat) (oc : Nat → Nat × List Nat) : Prop := ∃ Tb, pTb S O Tb ∧ wTb Tb N oc
section
variable {oc : Nat → Nat × List Nat} {Tb : Nat → Nat} {i : Nat}
theorem alk_trans {i j k : Nat} (h1 : zalk oc i j = true) (h2 : zalk oc i k = true) : zalk oc j k = true := by
  have a := alk_iff.1 h1
  have b := alk_iff.1 h2
  exact alk_iff.2 ⟨a.2.1, b.2.1, by rw [← a.2.2, b.2.2]⟩
/-- a free seat: no earlier word is alike -/
theorem tb_free (h : wTb Tb i oc) (hg : (oc i).1 = 0) {k : Nat} (hk : Tb ((zhs (oc i).2 + k) % 2048) = 0) (hb : ∀ d, d < k → ∀ j, Tb ((zhs (oc i).2 + d) % 2048) = j + 1 → zalk oc i j = false) : ztwin oc i = none := by
  cases e : ztwin oc i with
  | none => rfl
  | some j =>
    exfalso
    obtain ⟨a, b, c⟩ := twin_some e
    have hj : ztwin oc j = none := twin_no (fun m hm => by
      cases q : zalk oc j m with
      | false => rfl
      | true =>
        have b' := alk_iff.1 b
        have q' := alk_iff.1 q
        have := c m hm
        rw [alk_iff.2 ⟨hg, q'.2.1, by rw [b'.2.2, q'.2.2]⟩] at this
        cases this)
    have b' := alk_iff.1 b
    obtain ⟨d, d1, d2, d3⟩ := h.2.1 j a b'.2.1 hj
    rw [← b'.2.2] at d2 d3
    rcases Nat.lt_trichotomy d k with q | q | q
    · have := hb d q j d2; rw [b] at this; cases this
    · rw [q, hk] at d2; cases d2
    · exact d3 k q hk
theorem tb_found (h : wTb Tb i oc) {s j : Nat} (hs : s < 2048) (hj : Tb s = j + 1) (ha : zalk oc i j = true) : ztwin oc i = some j := by
  rcases h.1 s hs with q | ⟨m, m1, m2, m3, m4⟩
  · rw [hj] at q; cases q
  · have : m = j := by omega
    subst this
    refine twin_is m1 ha (fun k hk => ?_)
    cases q : zalk oc i k with
    | false => rfl
    | true =>
      have := twin_none m4 k hk
      rw [alk_trans ha q] at this
      cases this
theorem tb_put (h : wTb Tb i oc) (hg : (oc i).1 = 0) {k : Nat} (hk2 : k < 2048) (hk : Tb ((zhs (oc i).2 + k) % 2048) = 0) (hn : ∀ d, d < k → Tb ((zhs (oc i).2 + d) % 2048) ≠ 0) (ht : ztwin oc i = none) : wTb (zup Tb ((zhs (oc i).2 + k) % 2048) (i + 1)) (i + 1) oc := by
  refine ⟨fun s hs => ?_, fun j hj gj tj => ?_, ?_⟩
  · unfold zup
    by_cases q : s = (zhs (oc i).2 + k) % 2048
    · rw [if_pos q]; exact Or.inr ⟨i, by omega, rfl, hg, ht⟩
    · rw [if_neg q]
      rcases h.1 s hs with a | ⟨m, m1, m2, m3, m4⟩
      · exact Or.inl a
      · exact Or.inr ⟨m, by omega, m2, m3, m4⟩
  · by_cases q : j = i
    · subst q
      refine ⟨k, hk2, by unfold zup; rw [if_pos rfl], fun d hd => ?_⟩
      unfold zup; split
      · omega
      · exact hn d hd
    · obtain ⟨d, d1, d2, d3⟩ := h.2.1 j (by omega) gj tj
      refine ⟨d, d1, ?_, fun d' hd' => ?_⟩
      · unfold zup; rw [if_neg]
        · exact d2
        · intro w; rw [w, hk] at d2; cases d2
      · unfold zup; split
        · omega
        · exact d3 d' hd'
  · have hlt : (zhs (oc i).2 + k) % 2048 < 2048 := Nat.mod_lt _ (by omega)
    have e : fb_ct (fun s => decide (zup Tb ((zhs (oc i).2 + k) % 2048) (i + 1) s ≠ 0)) 2048 = fb_ct (fun s => if s = (zhs (oc i).2 + k) % 2048 then true else decide (Tb s ≠ 0)) 2048 := fb_ct_cong (fun s _ => by
      unfold zup
      by_cases q : s = (zhs (oc i).2 + k) % 2048
      · simp [q]
      · simp [q])
    have := fb_ct_upd (fun s => decide (Tb s ≠ 0)) true hlt
    rw [hk] at this
    simp only [ne_eq, not_true_eq_false, decide_false, Bool.false_eq_true, if_false, if_true] at this
    rw [e]
    have h3 := h.2.2
    simp only [ne_eq] at h3 ⊢
    omega
theorem tb_same (h : wTb Tb i oc) (ht : (oc i).1 ≠ 0 ∨ ztwin oc i ≠ none) : wTb Tb (i + 1) oc := by
  refine ⟨fun s hs => ?_, fun j hj gj tj => ?_, by have := h.2.2; omega⟩
  · rcases h.1 s hs with a | ⟨m, m1, m2, m3, m4⟩
    · exact Or.inl a
    · exact Or.inr ⟨m, by omega, m2, m3, m4⟩
  · by_cases q : j = i
    · subst q
      rcases ht with x | x
      · exact absurd gj x
      · exact absurd tj x
    · exact h.2.1 j (by omega) gj tj
theorem tb_full (h : wTb Tb i oc) (hi : i < 2048) {r : Nat} : ∃ d, d < 2048 ∧ Tb ((r + d) % 2048) = 0 := by
  have : ¬ ∀ s, s < 2048 → decide (Tb s ≠ 0) = true := fun w => by
    have := (fb_ct_all (p := fun s => decide (Tb s ≠ 0)) (n := 2048)).2 w
    have := h.2.2
    omega
  have : ∃ s, s < 2048 ∧ Tb s = 0 := by
    refine Classical.byContradiction (fun q => this (fun s hs => ?_))
    have : Tb s ≠ 0 := fun w => q ⟨s, hs, w⟩
    simpa using this
  obtain ⟨s, hs, h0⟩ := this
  refine ⟨(s + (2048 - r % 2048)) % 2048, Nat.mod_lt _ (by omega), ?_⟩
  have e : (r + (s + (2048 - r % 2048)) % 2048) % 2048 = s := by omega
  rw [e]; exact h0
end
section
variable {S S0 : zM} {O N : Nat} {oc : Nat → Nat × List Nat}
theorem o_block (hs : sOut S O) {i b : Nat} (hi : i < 1364) (hb : b < 3) : f_Outcomes_blockOf O (nI i) (nI b) S = some (zJ S (O + 2) (3 * i + b), S) := by
  obtain ⟨s1, s2, s3, s4, s5, s6, s7⟩ := hs
  have l1 : ¬ nI i < 0 := nI_pos (by omega)
  have l2 : nI i < 1364 := (nI_ltI (b := 1364) (by omega) (by omega)).2 hi
  have l3 : ¬ nI b < 0 := nI_pos (by omega)
  have l4 : nI b < 3 := (nI_ltI (b := 3) (by omega) (by omega)).2 hb
  have m3 : nI i * 3 = nI (3 * i) := by rw [show (3 : Int32) = nI 3 from rfl, pk_mul, Nat.mul_comm]
  have z : zinb (nI (3 * i + b)) 4092 = true := (nn_in (by omega)).2 (by omega)
  have c : (nI (3 * i + b)).toNatClampNeg = 3 * i + b := nI_clamp (by omega)
  simp [f_Outcomes_blockOf, -Prod.exists, -Prod.forall, ↓bb_gf, ↓bb_gr, ↓bb_len, ↓bb_ga, ↓bb_gl, ↓bb_go, ↓bb_pf, ↓bb_pz, ↓bb_pr, ↓bb_pa, ↓bb_pb, ↓bb_pl, ↓bb_po, ↓bb_cl, ↓bb_some, ↓bb_RI, ↓bb_RJ, mm_hI, mm_hJ, mm_hR, mm_nI, mm_nJ, mm_nR, mm_sI, mm_sJ, mm_sR, mm_RI, mm_RJ, mm_IJ, mm_IR, mm_JI, mm_JR, mm_II, mm_JJ, mm_RR, l1, l2, l3, l4, s1, ↓bS s4, s5, m3, nI_add, z, c]
theorem o_len (hs : sOut S O) {i : Nat} (hi : i < 1364) : f_Outcomes_lengthOf O (nI i) S = some (zI S (O + 1) i, S) := by
  obtain ⟨s1, s2, s3, s4, s5, s6, s7⟩ := hs
  have l1 : ¬ nI i < 0 := nI_pos (by omega)
  have l2 : nI i < 1364 := (nI_ltI (b := 1364) (by omega) (by omega)).2 hi
  have z : zinb (nI i) 1364 = true := (nn_in (by omega)).2 (by omega)
  have c : (nI i).toNatClampNeg = i := nI_clamp (by omega)
  simp [f_Outcomes_lengthOf, -Prod.exists, -Prod.forall, ↓bb_gf, ↓bb_gr, ↓bb_len, ↓bb_ga, ↓bb_gl, ↓bb_go, ↓bb_pf, ↓bb_pz, ↓bb_pr, ↓bb_pa, ↓bb_pb, ↓bb_pl, ↓bb_po, ↓bb_cl, ↓bb_some, ↓bb_RI, ↓bb_RJ, mm_hI, mm_hJ, mm_hR, mm_nI, mm_nJ, mm_nR, mm_sI, mm_sJ, mm_sR, mm_RI, mm_RJ, mm_IJ, mm_IR, mm_JI, mm_JR, mm_II, mm_JJ, mm_RR, l1, l2, s1, ↓bS s2, s3, z, c]
theorem o_same (hs : sOut S O) (hw : wOc oc N) (hN : N ≤ 1364) {i j : Nat} (hi : i < N) (hj : j < N) (gi : (oc i).1 = 0) (gj : (oc j).1 = 0) (ci : c1Out S O i (oc i)) (cj : c1Out S O j (oc j)) : f_Outcomes_sameBlocks O (nI i) (nI j) S = some (if (oc i).2 = (oc j).2 then 1 else 0, S) := by
  obtain ⟨_, i8, i60⟩ := hw i hi
  obtain ⟨_, j8, j60⟩ := hw j hj
  have bi := (ci.2 gi).2
  have bj := (cj.2 gj).2
  have b0 := o_block hs (i := i) (b := 0) (by omega) (by omega)
  have b1 := o_block hs (i := i) (b := 1) (by omega) (by omega)
  have b2 := o_block hs (i := i) (b := 2) (by omega) (by omega)
  have d0 := o_block hs (i := j) (b := 0) (by omega) (by omega)
  have d1 := o_block hs (i := j) (b := 1) (by omega) (by omega)
  have d2 := o_block hs (i := j) (b := 2) (by omega) (by omega)
  rw [bi 0 (by omega)] at b0
  rw [bi 1 (by omega)] at b1
  rw [bi 2 (by omega)] at b2
  rw [bj 0 (by omega)] at d0
  rw [bj 1 (by omega)] at d1
  rw [bj 2 (by omega)] at d2
  have b0' : f_Outcomes_blockOf O (nI i) 0 S = _ := b0
  have b1' : f_Outcomes_blockOf O (nI i) 1 S = _ := b1
  have b2' : f_Outcomes_blockOf O (nI i) 2 S = _ := b2
  have d0' : f_Outcomes_blockOf O (nI j) 0 S = _ := d0
  have d1' : f_Outcomes_blockOf O (nI j) 1 S = _ := d1
  have d2' : f_Outcomes_blockOf O (nI j) 2 S = _ := d2
  have lt : ∀ {xs : List Nat}, l8 xs → ∀ b, zblk xs b < 2 ^ 63 := fun h b => by have := blk_lt h b; omega
  have cm := fun b => lg_cmp0 (lt i8 b) (lt j8 b)
  have e : (if (oc i).2 = (oc j).2 then (1 : Int32) else 0) = if zblk (oc i).2 0 = zblk (oc j).2 0 then if zblk (oc i).2 1 = zblk (oc j).2 1 then if zblk (oc i).2 2 = zblk (oc j).2 2 then 1 else 0 else 0 else 0 := by
    by_cases q : (oc i).2 = (oc j).2
    · rw [q]; simp
    · rw [if_neg q]
      split
      · rename_i h0
        split
        · rename_i h1
          split
          · rename_i h2
            exact absurd (blk_inj i8 j8 i60 j60 h0 h1 h2) q
          · rfl
        · rfl
      · rfl
  rw [e]
  simp [f_Outcomes_sameBlocks, -Prod.exists, -Prod.forall, ↓bb_gf, ↓bb_gr, ↓bb_len, ↓bb_ga, ↓bb_gl, ↓bb_go, ↓bb_pf, ↓bb_pz, ↓bb_pr, ↓bb_pa, ↓bb_pb, ↓bb_pl, ↓bb_po, ↓bb_cl, ↓bb_some, ↓bb_RI, ↓bb_RJ, mm_hI, mm_hJ, mm_hR, mm_nI, mm_nJ, mm_nR, mm_sI, mm_sJ, mm_sR, mm_RI, mm_RJ, mm_IJ, mm_IR, mm_JI, mm_JR, mm_II, mm_JJ, mm_RR, hs.1, ↓bS b0', ↓bS d0', ↓bS b1', ↓bS d1', ↓bS b2', ↓bS d2', cm]
  split
  · split
    · split <;> rfl
    · rfl
  · rfl
theorem sOut_fr {W : Nat → Nat → Prop} {S S' : zM} (h : sOut S O) (hf : zfr W S S') : sOut S' O := by
  unfold sOut; rw [fr_R hf, fr_h hf]; exact h
/-- seating word i, whose blocks are there -/
theorem o_seat (hs : sOut S O) (hO : O ≠ 0) (hw : wOc oc N) (hN : N ≤ 1364) {i : Nat} (hi : i < N) (gi : (oc i).1 = 0) (hc : cOut S O (i + 1) oc) (ht : pSt S O i oc) : ∃ S', f_Outcomes_seat O (nI i) S = some (zsI (ztwin oc i), S') ∧ zfr (fun b _ => b = O + 3) S S' ∧ pSt S' O (i + 1) oc := by
  obtain ⟨Tb, t1, t2⟩ := ht
  have bi := ((hc i (by omega)).2 gi).2
  have b0 := o_block hs (i := i) (b := 0) (by omega) (by omega)
  have b1 := o_block hs (i := i) (b := 1) (by omega) (by omega)
  have b2 := o_block hs (i := i) (b := 2) (by omega) (by omega)
  rw [bi 0 (by omega)] at b0
  rw [bi 1 (by omega)] at b1
  rw [bi 2 (by omega)] at b2
  have b0' : f_Outcomes_blockOf O (nI i) 0 S = _ := b0
  have b1' : f_Outcomes_blockOf O (nI i) 1 S = _ := b1
  have b2' : f_Outcomes_blockOf O (nI i) 2 S = _ := b2
  have hh := hs_lt (oc i).2
  have tbl : ∀ s, s < 2048 → Tb s ≤ i := fun s hs2 => by
    rcases t2.1 s hs2 with a | ⟨m, m1, m2, _⟩
    · omega
    · omega
  have st : f_Outcomes_seat O (nI i) S = L_Outcomes_seat_43 zF O (nI i) (nI (zhs (oc i).2)) (nI 0) S := by
    simp only [f_Outcomes_seat, -Prod.exists, -Prod.forall, ↓bb_gf, ↓bb_gr, ↓bb_len, ↓bb_ga, ↓bb_gl, ↓bb_go, ↓bb_pf, ↓bb_pz, ↓bb_pr, ↓bb_pa, ↓bb_pb, ↓bb_pl, ↓bb_po, ↓bb_cl, ↓bb_some, ↓bb_RI, ↓bb_RJ, mm_hI, mm_hJ, mm_hR, mm_nI, mm_nJ, mm_nR, mm_sI, mm_sJ, mm_sR, mm_RI, mm_RJ, mm_IJ, mm_IR, mm_JI, mm_JR, mm_II, mm_JJ, mm_RR, hs.1, if_true, ↓bS b0', ↓bS b1', ↓bS b2', hs_x]; rfl
  rw [st]
  refine loop_g (α := Unit) (N := 2048) (by omega) (fun F _ k _ => L_Outcomes_seat_43 F O (nI i) (nI (zhs (oc i).2)) (nI k) S) (fun _ k _ => (∀ d, d < k → Tb ((zhs (oc i).2 + d) % 2048) ≠ 0) ∧ ∀ d, d < k → ∀ j, Tb ((zhs (oc i).2 + d) % 2048) = j + 1 → zalk oc i j = false) (fun o => ∃ S', o = some (zsI (ztwin oc i), S') ∧ zfr (fun b _ => b = O + 3) S S' ∧ pSt S' O (i + 1) oc) (fun F a _ h => ?_) (fun F a k T hk h kk => ?_) () 0 S (by omega) ⟨fun d hd => by omega, fun d hd => by omega⟩
  · obtain ⟨d, d1, d2⟩ := tb_full t2 (by omega) (r := zhs (oc i).2)
    exact absurd d2 (h.1 d d1)
  · have hx : nI k < 2048 := (nI_ltI (b := 2048) (by omega) (by omega)).2 hk
    have e1 : nI k + 1 = nI (k + 1) := nI_add k 1
    have ha : nI (zhs (oc i).2 + k) &&& 2047 = nI ((zhs (oc i).2 + k) % 2048) := fa_mask _ 11
    have hlt : (zhs (oc i).2 + k) % 2048 < 2048 := Nat.mod_lt _ (by omega)
    have z : zinb (nI ((zhs (oc i).2 + k) % 2048)) 2048 = true := (nn_in (by omega)).2 hlt
    have c : (nI ((zhs (oc i).2 + k) % 2048)).toNatClampNeg = (zhs (oc i).2 + k) % 2048 := nI_clamp (by omega)
    have v := t1 _ hlt
    have bl := tbl _ hlt
    by_cases q : Tb ((zhs (oc i).2 + k) % 2048) = 0
    · have g : nI (Tb ((zhs (oc i).2 + k) % 2048)) = 0 := by rw [q]; rfl
      have tn := tb_free t2 gi q h.2
      have ei : nI i + 1 = nI (i + 1) := nI_add i 1
      have o3 : ¬ O + 3 = 0 := by omega
      refine ⟨zwI S (O + 3) ((zhs (oc i).2 + k) % 2048) (nI (i + 1)), ?_, fr_wI _ _ rfl, zup Tb ((zhs (oc i).2 + k) % 2048) (i + 1), fun s hs2 => ?_, tb_put t2 gi hk q h.1 tn⟩
      · rw [tn, L_Outcomes_seat_43]
        simp [-Prod.exists, -Prod.forall, ↓bb_gf, ↓bb_gr, ↓bb_len, ↓bb_ga, ↓bb_gl, ↓bb_go, ↓bb_pf, ↓bb_pz, ↓bb_pr, ↓bb_pa, ↓bb_pb, ↓bb_pl, ↓bb_po, ↓bb_cl, ↓bb_some, ↓bb_RI, ↓bb_RJ, mm_hI, mm_hJ, mm_hR, mm_nI, mm_nJ, mm_nR, mm_sI, mm_sJ, mm_sR, mm_RI, mm_RJ, mm_IJ, mm_IR, mm_JI, mm_JR, mm_II, mm_JJ, mm_RR, hx, nI_add, ha, hs.1, ↓bS hs.2.2.2.2.2.1, hs.2.2.2.2.2.2, z, c, v, g, ei, zsI]
      · unfold zup
        by_cases q2 : s = (zhs (oc i).2 + k) % 2048
        · subst q2; simp [-Prod.exists, -Prod.forall, zgf, zgr, zpf, zpz, zpr, zga, zgl, zgo, zpa, zpb, zpl, zpo, mm_len, zcl, Option.bind_some, Option.bind_none, mm_hI, mm_hJ, mm_hR, mm_nI, mm_nJ, mm_nR, mm_sI, mm_sJ, mm_sR, mm_RI, mm_RJ, mm_IJ, mm_IR, mm_JI, mm_JR, mm_II, mm_JJ, mm_RR]
        · rw [if_neg q2, ← t1 s hs2]; simp [-Prod.exists, -Prod.forall, zgf, zgr, zpf, zpz, zpr, zga, zgl, zgo, zpa, zpb, zpl, zpo, mm_len, zcl, Option.bind_some, Option.bind_none, mm_hI, mm_hJ, mm_hR, mm_nI, mm_nJ, mm_nR, mm_sI, mm_sJ, mm_sR, mm_RI, mm_RJ, mm_IJ, mm_IR, mm_JI, mm_JR, mm_II, mm_JJ, mm_RR, q2]
    · have g : ¬ nI (Tb ((zhs (oc i).2 + k) % 2048)) = 0 := fun w => q ((nI_eq (b := 0) (by omega) (by omega)).1 w)
      rcases t2.1 _ hlt with a | ⟨j, j1, j2, j3, j4⟩
      · exact absurd a q
      · have ej : nI (Tb ((zhs (oc i).2 + k) % 2048)) - 1 = nI j := by rw [j2]; exact nI_pred j
        have sm := o_same hs hw hN (i := j) (j := i) (by omega) hi j3 gi (hc j (by omega)) (hc i (by omega))
        by_cases q2 : (oc j).2 = (oc i).2
        · rw [if_pos q2] at sm
          have tw := tb_found t2 hlt j2 (alk_iff.2 ⟨gi, j3, q2.symm⟩)
          refine ⟨S, ?_, fr_refl _ _, Tb, t1, tb_same t2 (Or.inr (by rw [tw]; simp))⟩
          rw [tw, L_Outcomes_seat_43]
          simp [-Prod.exists, -Prod.forall, ↓bb_gf, ↓bb_gr, ↓bb_len, ↓bb_ga, ↓bb_gl, ↓bb_go, ↓bb_pf, ↓bb_pz, ↓bb_pr, ↓bb_pa, ↓bb_pb, ↓bb_pl, ↓bb_po, ↓bb_cl, ↓bb_some, ↓bb_RI, ↓bb_RJ, mm_hI, mm_hJ, mm_hR, mm_nI, mm_nJ, mm_nR, mm_sI, mm_sJ, mm_sR, mm_RI, mm_RJ, mm_IJ, mm_IR, mm_JI, mm_JR, mm_II, mm_JJ, mm_RR, hx, nI_add, ha, hs.1, ↓bS hs.2.2.2.2.2.1, hs.2.2.2.2.2.2, z, c, v, g, ej, ↓bS sm, zsI]
        · rw [if_neg q2] at sm
          have := kk () T ⟨fun d hd => by
            by_cases q3 : d = k
            · subst q3; exact q
            · exact h.1 d (by omega), fun d hd m hm => by
            by_cases q3 : d = k
            · subst q3
              have : m = j := by omega
              subst this
              cases e : zalk oc i m with
              | false => rfl
              | true => exact absurd (alk_iff.1 e).2.2.symm q2
            · exact h.2 d (by omega) m hm⟩
          have st2 : L_Outcomes_seat_43 (F + 1) O (nI i) (nI (zhs (oc i).2)) (nI k) S = L_Outcomes_seat_43 F O (nI i) (nI (zhs (oc i).2)) (nI (k + 1)) S := by
            rw [L_Outcomes_seat_43]
            simp [-Prod.exists, -Prod.forall, ↓bb_gf, ↓bb_gr, ↓bb_len, ↓bb_ga, ↓bb_gl, ↓bb_go, ↓bb_pf, ↓bb_pz, ↓bb_pr, ↓bb_pa, ↓bb_pb, ↓bb_pl, ↓bb_po, ↓bb_cl, ↓bb_some, ↓bb_RI, ↓bb_RJ, mm_hI, mm_hJ, mm_hR, mm_nI, mm_nJ, mm_nR, mm_sI, mm_sJ, mm_sR, mm_RI, mm_RJ, mm_IJ, mm_IR, mm_JI, mm_JR, mm_II, mm_JJ, mm_RR, hx, nI_add, ha, hs.1, ↓bS hs.2.2.2.2.2.1, hs.2.2.2.2.2.2, z, c, v, g, ej, ↓bS sm, e1]
          rw [st2]; exact this
end
