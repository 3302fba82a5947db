/-! empty, the class; what holds between two calls of the law -/
theorem emp_serv {w : zWs} {j : Nat} : (zserving (zpa_ (wSc w).2.2 j).2 (wAs w j) = 0) ↔ zemp w j = true := by
  unfold zserving
  rw [bits_0, emp_iff]
  constructor
  · intro h i hi
    have := h i hi
    simpa using this
  · intro h i hi
    rw [h i hi]; rfl
theorem c_empty {S : zM} {w : zWs} {T U : Nat} (hm : cMn S w T U) (a : Int32) : f_Cl_empty 1 a S = (match zkt (zemp w) (wSc w).2.2.length a with | some j => some (some (nI j), S) | none => some (none, zalloc S 13 0 6)) := by
  have h1 := hm.1.1
  have r10 := r_told hm
  have hS := hm.2.2.1.1
  obtain ⟨s1, s2, s3, s4, s5, s6, s7, s8, s9, s10⟩ := hS
  have h3 := s10.1
  have hT := s1.1
  unfold f_Cl_empty
  refine loop_kt (N := (wSc w).2.2.length) (by omega) (fun F x i => L_Cl_empty_4 F_Cl_empty_54 F 1 a x (nI i) S) a (fun o => match o with | some j => some (some (nI j), S) | none => some (none, zalloc S 13 0 6)) (fun F x => ?_) (fun F i hi e => ?_) (fun F x i hi e q => ?_) (fun F x i hi e => ?_)
  · show L_Cl_empty_4 _ (F + 1) _ _ _ _ _ = _
    have lt : ¬ nI (wSc w).2.2.length < nI (wSc w).2.2.length := by rw [nI_ltI (by omega) (by omega)]; omega
    rw [L_Cl_empty_4]
    simp only [↓bb_gr, h1, if_true, ↓bS r10, ↓bb_gf, hT, s4, lt, if_false, F_Cl_empty_54]
  all_goals
    have lt : nI i < nI (wSc w).2.2.length := (nI_ltI (by omega) (by omega)).2 hi
    have e1 : nI i + 1 = nI (i + 1) := nI_add i 1
    have pa : f_Script_passAt T (nI i) S = some (some (aPs T i), S) := passAt_g s1 s4 h3 hi
    have pp := s6 i hi
    have sv := pass_serving pp
    have hP : zh S (aPs T i) = (5, 0) := pp.1.1
    have r8 := pp.2.2.2.2.2.2.2.1.1
    have lt8 : zserving (zpa_ (wSc w).2.2 i).2 (wAs w i) < 2 ^ (zpa_ (wSc w).2.2 i).2.length := bits_lt _ _
    have l256 : zserving (zpa_ (wSc w).2.2 i).2 (wAs w i) < 2 ^ 31 := Nat.lt_of_lt_of_le lt8 (Nat.pow_le_pow_right (by omega) (by omega))
  · have z0 : nI (zserving (zpa_ (wSc w).2.2 i).2 (wAs w i)) = 0 := by rw [emp_serv.2 e]; rfl
    show L_Cl_empty_4 _ (F + 1) _ _ _ _ _ = _
    rw [L_Cl_empty_4]
    simp only [↓bb_gr, h1, if_true, ↓bS r10, ↓bb_gf, hT, s4, lt, ↓bb_cl, ↓bS pa, hP, ↓bS sv, z0]
  · have z0 : nI (zserving (zpa_ (wSc w).2.2 i).2 (wAs w i)) = 0 := by rw [emp_serv.2 e]; rfl
    show L_Cl_empty_4 _ (F + 1) _ _ _ _ _ = _
    rw [L_Cl_empty_4]
    simp only [↓bb_gr, h1, if_true, ↓bS r10, ↓bb_gf, hT, s4, lt, ↓bb_cl, ↓bS pa, hP, ↓bS sv, z0, q, if_false, e1]
  · have z0 : ¬ nI (zserving (zpa_ (wSc w).2.2 i).2 (wAs w i)) = 0 := nI_ne0 (Nat.pos_of_ne_zero (fun x => by rw [emp_serv.1 x] at e; cases e)) l256
    show L_Cl_empty_4 _ (F + 1) _ _ _ _ _ = _
    rw [L_Cl_empty_4]
    simp only [↓bb_gr, h1, if_true, ↓bS r10, ↓bb_gf, hT, s4, lt, ↓bb_cl, ↓bS pa, hP, ↓bS sv, z0, if_false, e1]
/-- a new cell changes nothing of the class -/
theorem pCl_al {S : zM} {w : zWs} (h : pCl S w) (kd len sl : Nat) : pCl (zalloc S kd len sl) w := by
  obtain ⟨T, U, ⟨a1, a2, a3, a4, a5⟩, b1, b2⟩ := h
  have n4 : 446 ≤ zn S := a1.2.2.2.2.2.2.2.2.2.2.2.2.2.2.2.2.2.2.2.2
  have hTU := a1.2.2.2.2.2.2.2.2.2.2.2.2.2.2.2.2.2.2.2.1
  have e : zalloc S kd len sl = zrh S (fun b => if b = zn S + 1 then (kd, len) else zh S b) (zn S + 1) (zs S + sl) := rfl
  have hh : ∀ b, b < zn S + 1 → (fun b => if b = zn S + 1 then (kd, len) else zh S b) b = zh S b := fun b hb => if_neg (by omega)
  have h4 : ∀ b, b < 447 → (fun b => if b = zn S + 1 then (kd, len) else zh S b) b = zh S b := fun b hb => hh b (by omega)
  rw [e]
  refine ⟨T, U, ⟨cRf_rh a1 h4 (by omega), a2, ⟨rh_scr h4 a3.1 (by omega), rh_aScr h4 a3.2.1 (by omega), rh_aScr h4 a3.2.2 (by omega)⟩, cLt_rh a4 h4, ?_⟩, cSr_rh b1 h4, b2⟩
  rcases a5 with ⟨q, z⟩ | ⟨E, K, B, q, e1, e2, e3, e4, e5, e6, e7, e8, e9, e10, e11⟩
  · exact Or.inl ⟨q, fun b j hb => z b j (Nat.lt_of_succ_lt hb)⟩
  · exact Or.inr ⟨E, K, B, q, e1, by show E + 31 ≤ zn S + 1 + 1; omega, rh_kCen hh e3 (by omega), rh_rCen hh e4 (by omega), e5, e6, e7, e8, e9, e10, e11⟩
theorem ko_al {S : zM} (h4 : 446 ≤ zn S) (kd len sl : Nat) : zko S (zalloc S kd len sl) := fun b hb => ⟨if_neg (by show ¬ b = zn S + 1; omega), fun j => ⟨rfl, rfl, rfl⟩⟩
/-- the script lies there, and the law's row -/
def zQs (L : Nat) (sc : Nat → Int32) (S : zM) : Prop := zh S 0 = (100, L) ∧ (∀ k, zI S 0 k = sc k) ∧ zh S 446 = (101, 1) ∧ zh S 1 = (11, 0) ∧ zh S 408 = (12, 0)
def zRm (S : zM) (i : Nat) : Prop := zn S ≤ 446 + i + (if (zR S 1 12).isSome then 31 else 0) ∧ zs S ≤ 30000 + 6 * i + (if (zR S 1 12).isSome then 30000 else 0)
def zIv (L : Nat) (sc : Nat → Int32) (S : zM) (w : zWs) (i : Nat) : Prop := pCl S w ∧ pMo S w ∧ okW w ∧ zBl S ∧ zQs L sc S ∧ zRm S i
theorem qs_ko {L : Nat} {sc : Nat → Int32} {S S' : zM} {w : zWs} (h : zQs L sc S) (k : zko S S') (p : pCl S' w) : zQs L sc S' := by
  obtain ⟨a1, a2, a3, a4, a5⟩ := h
  obtain ⟨T, U, hm, _, _⟩ := p
  exact ⟨by rw [(k 0 (by omega)).1]; exact a1, fun j => by rw [((k 0 (by omega)).2 j).2.1]; exact a2 j, by rw [(k 446 (by omega)).1]; exact a3, hm.1.1, by rw [(k 408 (by omega)).1]; exact a5⟩
theorem bl_ko {S S' : zM} (h : zBl S) (k : zko S S') : zBl S' := ⟨by rw [(k 417 (by omega)).1]; exact h.1, fun j => by rw [((k 417 (by omega)).2 j).2.1]; exact h.2 j⟩
theorem qs_fr {L : Nat} {sc : Nat → Int32} {S S' : zM} (h : zQs L sc S) (hf : zfr wMoS S S') : zQs L sc S' := by
  obtain ⟨a1, a2, a3, a4, a5⟩ := h
  exact ⟨by rw [fr_h hf]; exact a1, fun j => by rw [fr_I hf (by unfold wMoS; omega)]; exact a2 j, by rw [fr_h hf]; exact a3, by rw [fr_h hf]; exact a4, by rw [fr_h hf]; exact a5⟩
theorem rm_rm {S S' : zM} {i : Nat} (h : zRm S i) (q : zrm S S') : zRm S' i := by
  obtain ⟨a1, a2⟩ := h
  rcases q with ⟨q1, q2, q3⟩ | ⟨q1, q2, q3, q4⟩
  · unfold zRm; rw [q1, q2, q3]; exact ⟨a1, a2⟩
  · rw [q1] at a1 a2
    have s : (zR S' 1 12).isSome = true := by
      cases e : zR S' 1 12 with
      | none => exact absurd e q2
      | some x => rfl
    unfold zRm
    rw [s]
    simp only [Option.isSome_none, Bool.false_eq_true, if_false] at a1 a2
    simp only [if_true]
    omega
theorem rm_fr {S S' : zM} {i j : Nat} (h : zRm S i) (hf : zfr wMoS S S') (hj : i ≤ j) : zRm S' j := by
  unfold zRm at h ⊢
  rw [fr_n hf, fr_s hf, fr_R hf]
  omega
theorem pCl_446 {S S' : zM} {w : zWs} (h : pCl S w) (hf : zfr (fun b j => b = 446 ∧ j = 0) S S') : pCl S' w := by
  obtain ⟨T, U, ⟨a1, a2, a3, a4, a5⟩, b1, b2⟩ := h
  have hq : zfq (fun b j => b = 446 ∧ j = 0) (fun _ _ => False) S S' := fq_fr hf
  have hTU := a1.2.2.2.2.2.2.2.2.2.2.2.2.2.2.2.2.2.2.2.1
  exact ⟨T, U, ⟨cRf_fq a1 hq (fun j _ x => x) (fun x => x), cDt_fq a2 hq ⟨by omega, by omega, by omega, by omega⟩ (fun b j q => by omega), cSp_fq a3 hq hTU (fun b j q r => ⟨by omega, fun x => x⟩), cLt_fq a4 hq (fun b j q r => ⟨by omega, fun x => x⟩), cCe_fq a5 hq (fun b j r => by
    rcases r with r | r
    · omega
    · exact absurd r (fun x => x)) (fun x => x) a1.2.2.2.2.2.2.2.2.2.2.2.2.2.2.2.2.2.2.2.2⟩, cSr_fq b1 hq (fun b j q r => ⟨by omega, fun x => x⟩), by rw [fr_I hf (by omega)]; exact b2⟩
/-- two calls, one of the class and one of the reference -/
theorem law_2 {β : Type} {f g : zM → Option (β × zM)} {sp : zWs → β × zWs} (hc : zHc f sp) (hm : zHm g sp) (hk : zHk sp) {L : Nat} {sc : Nat → Int32} {S : zM} {w : zWs} {i : Nat} (h : zIv L sc S w i) : ∃ S1 S2 v w', f S = some (v, S1) ∧ zQs L sc S1 ∧ g S1 = some (v, S2) ∧ zIv L sc S2 w' (i + 6) := by
  obtain ⟨p1, p2, p3, p4, p5, p6⟩ := h
  obtain ⟨S1, a1, a2, a3, a4⟩ := hc S w p1 p3
  obtain ⟨S2, b1, b2, b3⟩ := hm S1 w (pMo_ko p2 a3) p3
  have b3' : zfr wMoS S1 S2 := fr_mono b3 (fun b j q => ⟨q.1, q.2.1⟩)
  have q1 := qs_ko p5 a3 a2
  exact ⟨S1, S2, (sp w).1, (sp w).2, a1, q1, b1, pCl_moS a2 b3', b2, hk S1 w p3 a2, bl_fr (bl_ko p4 a3) b3 (fun j => by unfold wMo; omega), qs_fr q1 b3', rm_fr (rm_rm p6 a4) b3' (by omega)⟩
theorem law_script {L : Nat} {sc : Nat → Int32} {S : zM} {w : zWs} {i : Nat} (a : Int32) (h : zIv L sc S w i) : ∃ S1 S2 v w', f_Cl_script 1 a S = some (v, S1) ∧ zQs L sc S1 ∧ f_Mo_script 408 a S1 = some (v, S2) ∧ zIv L sc S2 w' (i + 6) := by
  obtain ⟨p1, p2, p3, p4, p5, p6⟩ := h
  obtain ⟨S1, a1, a2, a3, a4⟩ := hc_script a S w p1 p3
  obtain ⟨S2, b1, b2, b3, b4⟩ := hm_script a (pMo_ko p2 a3) p3 (bl_ko p4 a3)
  have q1 := qs_ko p5 a3 a2
  exact ⟨S1, S2, (sp_script a w).1, (sp_script a w).2, a1, q1, b1, pCl_moS a2 b3, b2, hk_script a S1 w p3 a2, b4, qs_fr q1 b3, rm_fr (rm_rm p6 a4) b3 (by omega)⟩
theorem hk_fault : zHk sp_fault := hk_id (fun w => rfl)
theorem hk_where : zHk sp_where := hk_id (fun w => rfl)
theorem hk_trouble : zHk sp_trouble := hk_id (fun w => rfl)
theorem hk_size (a : Int32) : zHk (sp_size a) := hk_id (fun w => by unfold sp_size; repeat' (first | rfl | split))
theorem law_empty {L : Nat} {sc : Nat → Int32} {S : zM} {w : zWs} {i : Nat} (a : Int32) (h : zIv L sc S w i) : ∃ S1 S2 k v w', f_Law_empty 1 a 446 S = some (k, S1) ∧ zQs L sc S1 ∧ f_Mo_empty 408 a S1 = some (v, S2) ∧ zI S2 408 0 = k ∧ (k = 0 → zJ S2 446 0 = v.toInt64) ∧ zIv L sc S2 w' (i + 6) := by
  obtain ⟨p1, p2, p3, p4, p5, p6⟩ := h
  obtain ⟨T, U, hm, hs, ht⟩ := p1
  have n4 : 446 ≤ zn S := hm.1.2.2.2.2.2.2.2.2.2.2.2.2.2.2.2.2.2.2.2.2
  have ce := c_empty hm a
  obtain ⟨a1, a2, a3, a4, a5⟩ := p5
  cases e : zkt (zemp w) (wSc w).2.2.length a with
  | some j =>
    rw [e] at ce
    simp only at ce
    obtain ⟨S1, hS1⟩ : ∃ S1, S1 = zwJ S 446 0 (nI j).toInt64 := ⟨_, rfl⟩
    have g : f_Law_empty 1 a 446 S = some (0, S1) := by
      have z : zinb 0 1 = true := by decide
      have c : (0 : Int32).toNatClampNeg = 0 := by decide
      simp only [f_Law_empty, ↓bb_cl, a4, if_true, ↓bS ce, ↓bb_pl, a3, z, and_self, c, hS1]
    have f1 : zfr (fun b j => b = 446 ∧ j = 0) S S1 := by rw [hS1]; exact fr_wJ _ _ ⟨rfl, rfl⟩
    have f1q : zfq (fun b j => b = 446 ∧ j = 0) (fun _ _ => False) S S1 := fq_fr f1
    have pI : ∀ b j, zI S1 b j = zI S b j := fun b j => by rw [hS1]; rfl
    have pM : pMo S1 w := by rw [hS1]; exact p2
    have pC : pCl S1 w := pCl_446 ⟨T, U, hm, hs, ht⟩ f1
    obtain ⟨S2, b1, b2, b3, b4⟩ := m_empty pM a
    rw [e] at b1 b4
    simp only at b1 b4
    have b3' : zfr wMoS S1 S2 := fr_mono b3 (fun b j q => ⟨q.1, q.2.1⟩)
    have q1 : zQs L sc S1 := by rw [hS1]; exact ⟨a1, a2, a3, a4, a5⟩
    refine ⟨S1, S2, 0, nI j, w, g, q1, b1, b4, fun _ => ?_, pCl_moS pC b3', b2, p3, bl_fr (bl_fr p4 f1 (fun j => by omega)) b3 (fun j => by unfold wMo; omega), qs_fr q1 b3', ?_⟩
    · rw [fr_J b3 (by unfold wMo; omega), hS1]; simp [-Prod.exists, -Prod.forall, zgf, zgr, zpf, zpz, zpr, zga, zgl, zgo, zpa, zpb, zpl, zpo, mm_len, zcl, Option.bind_some, Option.bind_none, mm_hI, mm_hJ, mm_hR, mm_nI, mm_nJ, mm_nR, mm_sI, mm_sJ, mm_sR, mm_RI, mm_RJ, mm_IJ, mm_IR, mm_JI, mm_JR, mm_II, mm_JJ, mm_RR]
    · have : zRm S1 i := by rw [hS1]; exact p6
      exact rm_fr this b3' (by omega)
  | none =>
    rw [e] at ce
    simp only at ce
    have g : f_Law_empty 1 a 446 S = some (1, zalloc S 13 0 6) := by
      simp only [f_Law_empty, ↓bb_cl, a4, if_true, ↓bS ce]
    have ko := ko_al (S := S) n4 13 0 6
    have pC := pCl_al ⟨T, U, hm, hs, ht⟩ 13 0 6
    have pM := pMo_ko p2 ko
    obtain ⟨S2, b1, b2, b3, b4⟩ := m_empty pM a
    rw [e] at b1 b4
    simp only at b1 b4
    have b3' : zfr wMoS (zalloc S 13 0 6) S2 := fr_mono b3 (fun b j q => ⟨q.1, q.2.1⟩)
    have q1 : zQs L sc (zalloc S 13 0 6) := qs_ko ⟨a1, a2, a3, a4, a5⟩ ko pC
    refine ⟨zalloc S 13 0 6, S2, 1, 0, w, g, q1, b1, b4, (fun q => absurd q (by decide)), pCl_moS pC b3', b2, p3, bl_fr (bl_ko p4 ko) b3 (fun j => by unfold wMo; omega), qs_fr q1 b3', ?_⟩
    have r1 : zRm (zalloc S 13 0 6) (i + 6) := by
      obtain ⟨x1, x2⟩ := p6
      refine ⟨?_, ?_⟩
      · show zn S + 1 ≤ 446 + (i + 6) + (if (zR S 1 12).isSome then 31 else 0); omega
      · show zs S + 6 ≤ 30000 + 6 * (i + 6) + (if (zR S 1 12).isSome then 30000 else 0); omega
    exact rm_fr r1 b3' (by omega)
