/-! the reference: which rules end in a state -/
theorem div_512 : ∀ c, c < 2048 → nI c / 512 = nI (c / 512) := by decide +kernel
section
variable {S : zM} {M : Nat} {sc : zSc} {asd : Nat → Nat} {p : Nat} {nd : List (List Nat)}
theorem ends_l (hm : sMo S M) (hs : mSc S M sc asd) (hp : p < sc.2.2.length) (hn : wNd (zpa_ sc.2.2 p).2 false nd) (hst : mSt S M nd) {s : Nat} (h : s < nd.length) : ∀ d F i, d + i = (zpa_ sc.2.2 p).2.length → d < F → L_Mo_ends_24 F M (nI p) (nI s) (nI (zbits i (fun i => decide (ruT false (zru (zpa_ sc.2.2 p).2 i) = ln nd s) && decide (ln nd s ≠ [])))) (nI i) S = some (nI (zend (zpa_ sc.2.2 p).2 false (ln nd s)), S) := by
  obtain ⟨x1, x2, x3, x4, x5, x6, x7, x8, x9, x10, x11, x12, x13⟩ := hs
  have hp3 : p < 3 := by have := x13.1; omega
  have wr := ps_w x13 hp
  have hr8 := wr.1
  have n33 := hn.1
  have zp : zinb (nI p) 3 = true := (nn_in (by omega)).2 (by omega)
  have cp : (nI p).toNatClampNeg = p := nI_clamp (by omega)
  have zs' : zinb (nI s) 73 = true := (nn_in (by omega)).2 (by omega)
  have cs : (nI s).toNatClampNeg = s := nI_clamp (by omega)
  have y6 := x6 p hp3
  have t2 := hst.2 s h
  have ct := nd_c3 wr hn (ln_mem h)
  have ro : ∀ b : Nat, f_Mo_rowOf (nI p) (nI b) S = some (nI (aRu p b), S) := fun b => by
    unfold f_Mo_rowOf
    rw [show (8 : Int32) = nI 8 from rfl, show (11 : Int32) = nI 11 from rfl, pk_mul, nI_add, pk_mul]; rfl
  intro d
  induction d with
  | zero =>
    intro F i hd hF
    cases F with
    | zero => omega
    | succ F =>
      have hx : ¬ i < (zpa_ sc.2.2 p).2.length := by omega
      have ei : i = (zpa_ sc.2.2 p).2.length := by omega
      simp (disch := omega) only [L_Mo_ends_24, -Prod.exists, -Prod.forall, ↓bb_gf, ↓bb_gr, ↓bb_len, ↓bb_ga, ↓bb_gl, ↓bb_go, ↓bb_pf, ↓bb_pz, ↓bb_pr, ↓bb_pa, ↓bb_pb, ↓bb_pl, ↓bb_po, ↓bb_cl, ↓bb_some, ↓bb_RI, ↓bb_RJ, mm_hI, mm_hJ, mm_hR, mm_nI, mm_nJ, mm_nR, mm_sI, mm_sJ, mm_sR, mm_RI, mm_RJ, mm_IJ, mm_IR, mm_JI, mm_JR, mm_II, mm_JJ, mm_RR, nI_ltI, hm.1, ↓bS (mo_ruleMany hm), mh_ruleMany hm, zp, cp, y6, hx, if_true, if_false]
      rw [ei]; rfl
  | succ d ih =>
    intro F i hd hF
    cases F with
    | zero => omega
    | succ F =>
      have hi : i < (zpa_ sc.2.2 p).2.length := by omega
      have har : aRu p i + 11 ≤ 264 := by unfold aRu; omega
      have hw := ru_w wr hi
      have hru := x8 p i hp hi
      have za : zinb (nI (aRu p i)) 264 = true := (nn_in (by omega)).2 (by omega)
      have ca : (nI (aRu p i)).toNatClampNeg = aRu p i := nI_clamp (by omega)
      have e1 : nI i + 1 = nI (i + 1) := nI_add i 1
      have a0 : nI (aRu p i) + 0 = nI (aRu p i) := nI_add _ 0
      have bg := m_begin hm hru har (Nat.le_refl _) hw.2.1
      rw [List.take_length] at bg
      have cr := c3_pre hw (List.prefix_refl (zru (zpa_ sc.2.2 p).2 i).1)
      have l1 := cd_lt cr
      have l2 := cd_lt ct
      have pw : (1 : Int32) <<< (nI i &&& 31) = nI (2 ^ i) := nn_pow2 (by omega)
      have nxt := ih F (i + 1) (by omega) (by omega)
      rw [bits_or] at nxt
      rw [← fa_or] at nxt
      by_cases q : (zru (zpa_ sc.2.2 p).2 i).1 = ln nd s
      · have ne : ln nd s ≠ [] := by rw [← q]; exact List.length_pos_iff.1 hw.1
        have qf : (decide (ruT false (zru (zpa_ sc.2.2 p).2 i) = ln nd s) && decide (ln nd s ≠ [])) = true := by
          have : ruT false (zru (zpa_ sc.2.2 p).2 i) = ln nd s := q
          simp [this, ne]
        simp only [qf, if_true] at nxt
        rw [← nxt, L_Mo_ends_24]
        have eq2 : nI (zcd (zru (zpa_ sc.2.2 p).2 i).1) = nI (zcd (ln nd s)) := by rw [q]
        simp (disch := omega) only [-Prod.exists, -Prod.forall, ↓bb_gf, ↓bb_gr, ↓bb_len, ↓bb_ga, ↓bb_gl, ↓bb_go, ↓bb_pf, ↓bb_pz, ↓bb_pr, ↓bb_pa, ↓bb_pb, ↓bb_pl, ↓bb_po, ↓bb_cl, ↓bb_some, ↓bb_RI, ↓bb_RJ, mm_hI, mm_hJ, mm_hR, mm_nI, mm_nJ, mm_nR, mm_sI, mm_sJ, mm_sR, mm_RI, mm_RJ, mm_IJ, mm_IR, mm_JI, mm_JR, mm_II, mm_JJ, mm_RR, nI_ltI, hm.1, ↓bS (mo_ruleMany hm), mh_ruleMany hm, zp, cp, y6, hi, if_true, ↓bS (ro i), ↓bS (mo_rules hm), mh_rules hm, a0, za, ca, hru.1, ↓bS bg, ↓bS (mo_states hm), mh_states hm, zs', cs, t2, eq2, pw, e1, and_self]
      · have qf : (decide (ruT false (zru (zpa_ sc.2.2 p).2 i) = ln nd s) && decide (ln nd s ≠ [])) = false := by
          have : ¬ ruT false (zru (zpa_ sc.2.2 p).2 i) = ln nd s := q
          simp [this]
        simp only [qf, Bool.false_eq_true, if_false] at nxt
        rw [← nxt, L_Mo_ends_24]
        have eq2 : ¬ nI (zcd (zru (zpa_ sc.2.2 p).2 i).1) = nI (zcd (ln nd s)) := fun w => q (cd_inj2 cr ct ((nI_eq (by omega) (by omega)).1 w))
        simp (disch := omega) only [-Prod.exists, -Prod.forall, ↓bb_gf, ↓bb_gr, ↓bb_len, ↓bb_ga, ↓bb_gl, ↓bb_go, ↓bb_pf, ↓bb_pz, ↓bb_pr, ↓bb_pa, ↓bb_pb, ↓bb_pl, ↓bb_po, ↓bb_cl, ↓bb_some, ↓bb_RI, ↓bb_RJ, mm_hI, mm_hJ, mm_hR, mm_nI, mm_nJ, mm_nR, mm_sI, mm_sJ, mm_sR, mm_RI, mm_RJ, mm_IJ, mm_IR, mm_JI, mm_JR, mm_II, mm_JJ, mm_RR, nI_ltI, hm.1, ↓bS (mo_ruleMany hm), mh_ruleMany hm, zp, cp, y6, hi, if_true, if_false, ↓bS (ro i), ↓bS (mo_rules hm), mh_rules hm, a0, za, ca, hru.1, ↓bS bg, ↓bS (mo_states hm), mh_states hm, zs', cs, t2, eq2, e1]
        rfl
end
