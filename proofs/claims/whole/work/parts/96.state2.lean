/-! the reference's state; how a call goes -/
theorem cl_refuse {S : zM} (h : zh S 1 = (11, 0)) (n : Int32) : f_Cl_refuse 1 n S = some (-1, zwI S 1 16 n) := by simp [f_Cl_refuse, -Prod.exists, -Prod.forall, ↓bb_gf, ↓bb_gr, ↓bb_len, ↓bb_ga, ↓bb_gl, ↓bb_go, ↓bb_pf, ↓bb_pz, ↓bb_pr, ↓bb_pa, ↓bb_pb, ↓bb_pl, ↓bb_po, ↓bb_cl, ↓bb_some, ↓bb_RI, ↓bb_RJ, mm_hI, mm_hJ, mm_hR, mm_nI, mm_nJ, mm_nR, mm_sI, mm_sJ, mm_sR, mm_RI, mm_RJ, mm_IJ, mm_IR, mm_JI, mm_JR, mm_II, mm_JJ, mm_RR, h]
theorem cl_answer {S : zM} (h : zh S 1 = (11, 0)) (v : Int32) : f_Cl_answer 1 v S = some (v, zwI S 1 16 0) := by simp [f_Cl_answer, -Prod.exists, -Prod.forall, ↓bb_gf, ↓bb_gr, ↓bb_len, ↓bb_ga, ↓bb_gl, ↓bb_go, ↓bb_pf, ↓bb_pz, ↓bb_pr, ↓bb_pa, ↓bb_pb, ↓bb_pl, ↓bb_po, ↓bb_cl, ↓bb_some, ↓bb_RI, ↓bb_RJ, mm_hI, mm_hJ, mm_hR, mm_nI, mm_nJ, mm_nR, mm_sI, mm_sJ, mm_sR, mm_RI, mm_RJ, mm_IJ, mm_IR, mm_JI, mm_JR, mm_II, mm_JJ, mm_RR, h]
theorem cl_end {S : zM} {w : zWs} {T U : Nat} (h : cMn S w T U) (hs : cSr S) (t : Nat) : pCl (zwI S 1 16 (nI t)) (sTr w t) := by
  have f1 : zfr (fun b j => b = 1 ∧ j = 16) S (zwI S 1 16 (nI t)) := fr_wI _ _ ⟨rfl, rfl⟩
  refine ⟨T, U, cMn_sr h (fq_fr (V := fun _ _ => False) f1) (fun b j q => Or.inl q) (fun b j q => absurd q (fun x => x)), cSr_fq hs (fq_fr (V := fun _ _ => False) f1) (fun b j a c => ⟨by omega, fun x => x⟩), by simp [-Prod.exists, -Prod.forall, zgf, zgr, zpf, zpz, zpr, zga, zgl, zgo, zpa, zpb, zpl, zpo, mm_len, zcl, Option.bind_some, Option.bind_none, mm_hI, mm_hJ, mm_hR, mm_nI, mm_nJ, mm_nR, mm_sI, mm_sJ, mm_sR, mm_RI, mm_RJ, mm_IJ, mm_IR, mm_JI, mm_JR, mm_II, mm_JJ, mm_RR]; rfl⟩
def mCo (S : zM) (w : zWs) : Prop := sMo S 408 ∧ mSc S 408 (wSc w) (wAs w) ∧ zI S 408 5 = nI (wTp w).length ∧ (∀ k, k < (wTp w).length → zI S 409 k = nI (lg (wTp w) k)) ∧ zI S 408 2 = nI (wFa w) ∧ zI S 408 66 = nI (wAc w).length ∧ (∀ k, k < (wAc w).length → zI S 445 k = nI (lg (wAc w) k)) ∧ zI S 408 48 = (if (wCa w).isSome then 1 else 0) ∧ ∀ c, wCa w = some c → zI S 408 49 = nI c.1.length ∧ (∀ k, k < c.1.length → zI S 433 k = nI (lg c.1 k)) ∧ (∀ k, k < 24 → zI S 434 k = nI (c.2.2.2.count k)) ∧ ∀ q, q < 3 → q < (wSc w).2.2.length → zI S 435 q = nI (c.2.2.1 q) ∧ zI S 436 q = nI (c.2.1 q).length ∧ ∀ k, k < (c.2.1 q).length → zI S 437 (60 * q + k) = nI (lg (c.2.1 q) k)
def mTr (S : zM) (w : zWs) : Prop := zI S 408 1 = nI (wTr w) ∧ (wTr w = 4 → zI S 408 3 = nI (wPl w))
def pMo (S : zM) (w : zWs) : Prop := mCo S w ∧ mTr S w
/-- what is scratch in the reference -/
def wMs (b j : Nat) : Prop := (b = 408 ∧ ¬ (j = 2 ∨ j = 5 ∨ (6 ≤ j ∧ j ≤ 9) ∨ j = 48 ∨ j = 49 ∨ j = 66)) ∨ (414 ≤ b ∧ b ≤ 425 ∧ b ≠ 417) ∨ (427 ≤ b ∧ b ≤ 432) ∨ (438 ≤ b ∧ b ≤ 444)
theorem mCo_fr {W : Nat → Nat → Prop} {S S' : zM} {w : zWs} (h : mCo S w) (hf : zfr W S S') (hw : ∀ b j, W b j → wMs b j) : mCo S' w := by
  obtain ⟨a1, a2, a3, a4, a5, a6, a7, a8, a9⟩ := h
  have hf' : zfr wMs S S' := fr_mono hf hw
  have e : ∀ b j, ¬ wMs b j → zI S' b j = zI S b j := fun b j q => fr_I hf' q
  refine ⟨mo_fr a1 hf, mSc_fr a2 hf' (fun j a b => by unfold wMs; omega) (fun b j a => by unfold wMs; omega), by rw [e _ _ (by unfold wMs; omega)]; exact a3, fun k hk => by rw [e _ _ (by unfold wMs; omega)]; exact a4 k hk, by rw [e _ _ (by unfold wMs; omega)]; exact a5, by rw [e _ _ (by unfold wMs; omega)]; exact a6, fun k hk => by rw [e _ _ (by unfold wMs; omega)]; exact a7 k hk, by rw [e _ _ (by unfold wMs; omega)]; exact a8, fun c hc => ?_⟩
  obtain ⟨b1, b2, b3, b4⟩ := a9 c hc
  refine ⟨by rw [e _ _ (by unfold wMs; omega)]; exact b1, fun k hk => by rw [e _ _ (by unfold wMs; omega)]; exact b2 k hk, fun k hk => by rw [e _ _ (by unfold wMs; omega)]; exact b3 k hk, fun q q3 hq => ?_⟩
  obtain ⟨c1, c2, c3⟩ := b4 q q3 hq
  exact ⟨by rw [e _ _ (by unfold wMs; omega)]; exact c1, by rw [e _ _ (by unfold wMs; omega)]; exact c2, fun k hk => by rw [e _ _ (by unfold wMs; omega)]; exact c3 k hk⟩
/-- the script, the reference and the law's row stay -/
def zko (S S' : zM) : Prop := ∀ b, (b = 0 ∨ (408 ≤ b ∧ b < 447)) → zh S' b = zh S b ∧ ∀ j, zR S' b j = zR S b j ∧ zI S' b j = zI S b j ∧ zJ S' b j = zJ S b j
theorem ko_fq {W V : Nat → Nat → Prop} {S S' : zM} (hf : zfq W V S S') (h : ∀ b j, W b j ∨ V b j → 1 ≤ b ∧ (b < 408 ∨ 447 ≤ b)) : zko S S' :=
  fun b hb => ⟨by rw [fq_h hf], fun j => ⟨fq_R hf (fun q => by have := h b j (Or.inr q); omega), fq_I hf (fun q => by have := h b j (Or.inl q); omega), fq_J hf (fun q => by have := h b j (Or.inl q); omega)⟩⟩
theorem ko_trans {S S' S'' : zM} (h : zko S S') (h2 : zko S' S'') : zko S S'' :=
  fun b hb => ⟨(h2 b hb).1.trans (h b hb).1, fun j => ⟨((h2 b hb).2 j).1.trans ((h b hb).2 j).1, ((h2 b hb).2 j).2.1.trans ((h b hb).2 j).2.1, ((h2 b hb).2 j).2.2.trans ((h b hb).2 j).2.2⟩⟩
theorem mSc_eq {S S' : zM} {M : Nat} {sc : zSc} {asd : Nat → Nat} (h : mSc S M sc asd) (e : ∀ b j, M ≤ b → b ≤ M + 18 → zI S' b j = zI S b j) : mSc S' M sc asd := by
  obtain ⟨x1, x2, x3, x4, x5, x6, x7, x8, x9, x10, x11, x12, x13⟩ := h
  refine ⟨by rw [e _ _ (by omega) (by omega)]; exact x1, by rw [e _ _ (by omega) (by omega)]; exact x2, by rw [e _ _ (by omega) (by omega)]; exact x3, by rw [e _ _ (by omega) (by omega)]; exact x4, fun k hk => by rw [e _ _ (by omega) (by omega)]; exact x5 k hk, fun q hq => by rw [e _ _ (by omega) (by omega)]; exact x6 q hq, fun q hq => by rw [e _ _ (by omega) (by omega)]; exact x7 q hq, fun q j hq hj => ?_, fun q j hq hj => by rw [e _ _ (by omega) (by omega)]; exact x9 q j hq hj, x10, x11, x12, x13⟩
  have hru := ru_w (ps_w x13 hq) hj
  exact mRu_eq (x8 q j hq hj) ⟨hru.2.1, hru.2.2.1⟩ (fun k _ _ => e _ _ (by omega) (by omega))
theorem pMo_ko {S S' : zM} {w : zWs} (h : pMo S w) (q : zko S S') : pMo S' w := by
  obtain ⟨⟨a1, a2, a3, a4, a5, a6, a7, a8, a9⟩, t1, t2⟩ := h
  have e : ∀ b j, 408 ≤ b → b < 447 → zI S' b j = zI S b j := fun b j h1 h2 => ((q b (Or.inr ⟨h1, h2⟩)).2 j).2.1
  refine ⟨⟨⟨by rw [(q 408 (by omega)).1]; exact a1.1, fun x hx => ?_⟩, mSc_eq a2 (fun b j h1 h2 => e b j (by omega) (by omega)), by rw [e _ _ (by omega) (by omega)]; exact a3, fun k hk => by rw [e _ _ (by omega) (by omega)]; exact a4 k hk, by rw [e _ _ (by omega) (by omega)]; exact a5, by rw [e _ _ (by omega) (by omega)]; exact a6, fun k hk => by rw [e _ _ (by omega) (by omega)]; exact a7 k hk, by rw [e _ _ (by omega) (by omega)]; exact a8, fun c hc => ?_⟩, by rw [e _ _ (by omega) (by omega)]; exact t1, fun h4 => by rw [e _ _ (by omega) (by omega)]; exact t2 h4⟩
  · have hb : ∀ e ∈ moT, e.2.1 ≤ 37 := by decide
    have := hb x hx
    rw [((q 408 (by omega)).2 _).1, (q (408 + x.2.1) (by omega)).1]
    exact a1.2 x hx
  · obtain ⟨b1, b2, b3, b4⟩ := a9 c hc
    refine ⟨by rw [e _ _ (by omega) (by omega)]; exact b1, fun k hk => by rw [e _ _ (by omega) (by omega)]; exact b2 k hk, fun k hk => by rw [e _ _ (by omega) (by omega)]; exact b3 k hk, fun q q3 hq => ?_⟩
    obtain ⟨c1, c2, c3⟩ := b4 q q3 hq
    exact ⟨by rw [e _ _ (by omega) (by omega)]; exact c1, by rw [e _ _ (by omega) (by omega)]; exact c2, fun k hk => by rw [e _ _ (by omega) (by omega)]; exact c3 k hk⟩
def wMo (b j : Nat) : Prop := 408 ≤ b ∧ b < 446 ∧ b ≠ 417
/-- the class isn't touched by the reference -/
theorem pCl_mo {S S' : zM} {w : zWs} (h : pCl S w) (hf : zfr wMo S S') : pCl S' w := by
  obtain ⟨T, U, ⟨a1, a2, a3, a4, a5⟩, b1, b2⟩ := h
  have hq : zfq wMo (fun _ _ => False) S S' := fq_fr hf
  have hTU := a1.2.2.2.2.2.2.2.2.2.2.2.2.2.2.2.2.2.2.2.1
  refine ⟨T, U, ⟨cRf_fq a1 hq (fun j _ x => x) (fun x => x), cDt_fq a2 hq ⟨by unfold wMo; omega, by unfold wMo; omega, by unfold wMo; omega, by unfold wMo; omega⟩ (fun b j q => by unfold wMo; omega), cSp_fq a3 hq hTU (fun b j q r => ⟨by unfold wMo; omega, fun x => x⟩), cLt_fq a4 hq (fun b j q r => ⟨by unfold wMo; omega, fun x => x⟩), ?_⟩, cSr_fq b1 hq (fun b j q r => ⟨by unfold wMo; omega, fun x => x⟩), by rw [fr_I hf (by unfold wMo; omega)]; exact b2⟩
  rcases a5 with q | ⟨E, K, B, q, e⟩
  · left; exact ⟨by rw [fr_R hf]; exact q.1, fz_fq q.2 hq (fun b j r => by
      rcases r with r | r
      · unfold wMo at r; omega
      · exact absurd r (fun x => x)) a1.2.2.2.2.2.2.2.2.2.2.2.2.2.2.2.2.2.2.2.2⟩
  · right
    refine ⟨E, K, B, by rw [fr_R hf]; exact q, eCe_low e hq (fun b j h => ?_)⟩
    rcases h with h | h
    · unfold wMo at h; omega
    · exact absurd h (fun x => x)
/-- room: nothing new, or the census -/
def zrm (S S' : zM) : Prop := (zR S' 1 12 = zR S 1 12 ∧ zn S' = zn S ∧ zs S' = zs S) ∨ (zR S 1 12 = none ∧ zR S' 1 12 ≠ none ∧ zn S' = zn S + 31 ∧ zs S' ≤ zs S + 30000)
/-- a call of the class, of the reference: what it answers, what it leaves -/
def zHc {β : Type} (f : zM → Option (β × zM)) (sp : zWs → β × zWs) : Prop := ∀ S w, pCl S w → okW w → ∃ S', f S = some ((sp w).1, S') ∧ pCl S' (sp w).2 ∧ zko S S' ∧ zrm S S'
def zHm {β : Type} (f : zM → Option (β × zM)) (sp : zWs → β × zWs) : Prop := ∀ S w, pMo S w → okW w → ∃ S', f S = some ((sp w).1, S') ∧ pMo S' (sp w).2 ∧ zfr wMo S S'
def zHk {β : Type} (sp : zWs → β × zWs) : Prop := ∀ S w, okW w → pCl S (sp w).2 → okW (sp w).2
def zrf (w : zWs) (n : Nat) : Int32 × zWs := (-1, sTr w n)
def zan (w : zWs) (v : Int32) : Int32 × zWs := (v, sTr w 0)
def zrfL (w : zWs) (n : Nat) : Int64 × zWs := (-1, sTr w n)
def zanL (w : zWs) (v : Int64) : Int64 × zWs := (v, sTr w 0)
/-- a class's call that only told something: behind it the scratch may differ -/
theorem hc_end {S S1 : zM} {w : zWs} {T U : Nat} {W V : Nat → Nat → Prop} (h : cMn S w T U) (hf : zfq W V S S1) (hw : ∀ b j, W b j → wSr b j) (hv : ∀ b j, V b j → vSr b j) (hs : cSr S1) (t : Nat) : pCl (zwI S1 1 16 (nI t)) (sTr w t) ∧ zko S (zwI S1 1 16 (nI t)) ∧ zrm S (zwI S1 1 16 (nI t)) := by
  have g : zfq wSr vSr S (zwI S1 1 16 (nI t)) := fq_trans (fq_mono hf hw hv) (fq_fr (fr_wI _ _ (Or.inl ⟨rfl, rfl⟩)))
  refine ⟨cl_end (cMn_sr h hf hw hv) hs t, ko_fq g (fun b j q => ?_), Or.inl ⟨fq_R g (by unfold vSr; omega), fq_n g, fq_s g⟩⟩
  rcases q with q | q
  · unfold wSr at q; omega
  · unfold vSr at q; omega
theorem hc_same {S : zM} {w : zWs} {T U : Nat} (h : cMn S w T U) (hs : cSr S) (t : Nat) : pCl (zwI S 1 16 (nI t)) (sTr w t) ∧ zko S (zwI S 1 16 (nI t)) ∧ zrm S (zwI S 1 16 (nI t)) :=
  hc_end h (fq_refl (fun _ _ => False) (fun _ _ => False) S) (fun b j q => absurd q (fun x => x)) (fun b j q => absurd q (fun x => x)) hs t
/-- the reference: fresh, and what a call leaves -/
def zfs (S : zM) : zM := zwI (zwI (zwI S 408 0 0) 408 1 0) 408 3 (-1)
theorem mo_fresh {S : zM} {w : zWs} (h : pMo S w) : f_Mo_fresh 408 S = some (zfs S) ∧ pMo (zfs S) (sTr w 0) ∧ zfr wMo S (zfs S) := by
  have f1 : zfr (fun b j => b = 408 ∧ (j = 0 ∨ j = 1 ∨ j = 3)) S (zfs S) := fr_trans (fr_trans (fr_wI _ _ ⟨rfl, Or.inl rfl⟩) (fr_wI _ _ ⟨rfl, Or.inr (Or.inl rfl)⟩)) (fr_wI _ _ ⟨rfl, Or.inr (Or.inr rfl)⟩)
  refine ⟨by simp [f_Mo_fresh, -Prod.exists, -Prod.forall, ↓bb_gf, ↓bb_gr, ↓bb_len, ↓bb_ga, ↓bb_gl, ↓bb_go, ↓bb_pf, ↓bb_pz, ↓bb_pr, ↓bb_pa, ↓bb_pb, ↓bb_pl, ↓bb_po, ↓bb_cl, ↓bb_some, ↓bb_RI, ↓bb_RJ, mm_hI, mm_hJ, mm_hR, mm_nI, mm_nJ, mm_nR, mm_sI, mm_sJ, mm_sR, mm_RI, mm_RJ, mm_IJ, mm_IR, mm_JI, mm_JR, mm_II, mm_JJ, mm_RR, h.1.1.1, zfs], ⟨mCo_fr h.1 f1 (fun b j q => by unfold wMs; omega), ?_, fun q => by cases q⟩, fr_mono f1 (fun b j q => by unfold wMo; omega)⟩
  simp [zfs, -Prod.exists, -Prod.forall, zgf, zgr, zpf, zpz, zpr, zga, zgl, zgo, zpa, zpb, zpl, zpo, mm_len, zcl, Option.bind_some, Option.bind_none, mm_hI, mm_hJ, mm_hR, mm_nI, mm_nJ, mm_nR, mm_sI, mm_sJ, mm_sR, mm_RI, mm_RJ, mm_IJ, mm_IR, mm_JI, mm_JR, mm_II, mm_JJ, mm_RR]; rfl
theorem mo_no {S : zM} {w : zWs} (h : pMo S w) {n : Nat} (h4 : n ≠ 4) : f_Mo_no 408 (nI n) S = some (-1, zwI S 408 1 (nI n)) ∧ pMo (zwI S 408 1 (nI n)) (sTr w n) ∧ zfr wMo S (zwI S 408 1 (nI n)) := by
  have f1 : zfr (fun b j => b = 408 ∧ j = 1) S (zwI S 408 1 (nI n)) := fr_wI _ _ ⟨rfl, rfl⟩
  refine ⟨by simp [f_Mo_no, -Prod.exists, -Prod.forall, ↓bb_gf, ↓bb_gr, ↓bb_len, ↓bb_ga, ↓bb_gl, ↓bb_go, ↓bb_pf, ↓bb_pz, ↓bb_pr, ↓bb_pa, ↓bb_pb, ↓bb_pl, ↓bb_po, ↓bb_cl, ↓bb_some, ↓bb_RI, ↓bb_RJ, mm_hI, mm_hJ, mm_hR, mm_nI, mm_nJ, mm_nR, mm_sI, mm_sJ, mm_sR, mm_RI, mm_RJ, mm_IJ, mm_IR, mm_JI, mm_JR, mm_II, mm_JJ, mm_RR, h.1.1.1], ⟨mCo_fr h.1 f1 (fun b j q => by unfold wMs; omega), by simp [-Prod.exists, -Prod.forall, zgf, zgr, zpf, zpz, zpr, zga, zgl, zgo, zpa, zpb, zpl, zpo, mm_len, zcl, Option.bind_some, Option.bind_none, mm_hI, mm_hJ, mm_hR, mm_nI, mm_nJ, mm_nR, mm_sI, mm_sJ, mm_sR, mm_RI, mm_RJ, mm_IJ, mm_IR, mm_JI, mm_JR, mm_II, mm_JJ, mm_RR]; rfl, fun q => absurd q h4⟩, fr_mono f1 (fun b j q => by unfold wMo; omega)⟩
theorem mo_keep {W : Nat → Nat → Prop} {S S' : zM} {w : zWs} (h : pMo S w) (hf : zfr W S S') (hw : ∀ b j, W b j → wMs b j) (h1 : ¬ W 408 1) (h3 : ¬ W 408 3) : pMo S' w ∧ zfr wMo S S' :=
  ⟨⟨mCo_fr h.1 hf hw, by rw [fr_I hf h1]; exact h.2.1, fun q => by rw [fr_I hf h3]; exact h.2.2 q⟩, fr_mono hf (fun b j q => by have := hw b j q; unfold wMs at this; unfold wMo; omega)⟩
