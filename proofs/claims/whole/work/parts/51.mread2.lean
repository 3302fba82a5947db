/-! the reference's reader: all lines -/
section
variable {S : zM} {M : Nat} {tx : List Nat} {t : zTk} {st : zRt}
theorem lines_stop {f : Nat} {r : Nat × zTk × zRt} (h : ¬ (r.1 = 0 ∧ r.2.1.2.2 = 3)) : zlines tx f r = r := by
  cases f with
  | zero => rfl
  | succ f => rw [zlines, if_neg h]
/-- how the lines end -/
def eMA (S S' : zM) (M : Nat) (tx : List Nat) (r : Nat × zTk × zRt) : Prop := zfr (wML M) S S' ∧ mAll S' M tx r.2.1 r.2.2
theorem mra_38 {S0 : zM} (Q : Option (Int32 × zM) → Prop) {k60 : Nat → zM → Option (Int32 × zM)} : ∀ f F (S : zM) (r : Nat × zTk × zRt), f < F → r.1 = 0 → 0 < r.2.2.1 → zfr (wML M) S0 S → mAll S M tx r.2.1 r.2.2 → (r.2.1.2.2 = 3 → tx.length + 1 ≤ f + r.2.1.2.1) → (∀ S', (zlines tx f r).1 = 0 → (zlines tx f r).2.1.2.2 ≠ 3 → zfr (wML M) S0 S' → mAll S' M tx (zlines tx f r).2.1 (zlines tx f r).2.2 → Q (k60 M S')) → (∀ S', (zlines tx f r).1 ≠ 0 → zfr (wML M) S0 S' → zI S' M 27 = nI (zlines tx f r).1 → zI S' M 28 = nI (zlines tx f r).2.1.1 → Q (some (0, S'))) → Q (L_Mo_readAll_38 k60 F M S) := by
  intro f
  induction f with
  | zero =>
    intro F S r hF h0 hpos hf hA hb HK HE
    cases F with
    | zero => omega
    | succ F =>
      have ht := hA.1.2.2.2.2.1
      have tk := tk_1 ht.2.2.1
      have e3 : r.2.1.2.2 ≠ 3 := fun z => by have := hb z; have := ht.2.1; omega
      have n59 : ¬ zI S M 25 = 59 := by
        rw [hA.1.2.2.2.1]; intro z
        exact e3 (tk.2.2.1.1 ((nI_eq (b := 59) (by omega) (by omega)).1 z))
      have := HK S h0 e3 hf hA
      simp [L_Mo_readAll_38, -Prod.exists, -Prod.forall, ↓bb_gf, ↓bb_gr, ↓bb_len, ↓bb_ga, ↓bb_gl, ↓bb_go, ↓bb_pf, ↓bb_pz, ↓bb_pr, ↓bb_pa, ↓bb_pb, ↓bb_pl, ↓bb_po, ↓bb_cl, ↓bb_some, ↓bb_RI, ↓bb_RJ, mm_hI, mm_hJ, mm_hR, mm_nI, mm_nJ, mm_nR, mm_sI, mm_sJ, mm_sR, mm_RI, mm_RJ, mm_IJ, mm_IR, mm_JI, mm_JR, mm_II, mm_JJ, mm_RR, hA.1.1.1.1, n59]
      exact this
  | succ f ih =>
    intro F S r hF h0 hpos hf hA hb HK HE
    cases F with
    | zero => omega
    | succ F =>
      have ht := hA.1.2.2.2.2.1
      have tk := tk_1 ht.2.2.1
      by_cases e3 : r.2.1.2.2 = 3
      · have n59 : zI S M 25 = 59 := by rw [hA.1.2.2.2.1, tk.2.2.1.2 e3]; rfl
        obtain ⟨S1, e1, f1, p1⟩ := m_next hA.1
        have A1 := m_all hA.2 p1 f1
        obtain ⟨S2, e2, l2⟩ := ml_line (st := r.2.2) false (fun q => by cases q) (fun _ => hpos) A1
        have er : zlines tx (f + 1) r = zlines tx f (zline tx false (znext tx r.2.1.2.1) r.2.2) := by rw [zlines, if_pos ⟨h0, e3⟩]
        rw [er] at HK HE
        have f12 : zfr (wML M) S0 S2 := fr_trans hf (fr_trans (fr_mono f1 (fun b j hb => wMr_ML hb)) l2.1)
        by_cases c : (zline tx false (znext tx r.2.1.2.1) r.2.2).1 = 0
        · rw [if_pos c] at e2
          have adv := adv_line p1.2.2.2.2.1 c
          have := ih F S2 _ (by omega) c (line_pos (fun _ => hpos) c) f12 (l2.2.1 c) (fun z => by
            obtain ⟨x, x1, x2, x3⟩ := adv
            have a1 := adv_next (tx := tx) (x := r.2.1.2.1) ht.2.1
            have a2 := (next_w (tx := tx) x2)
            rw [x3] at z ⊢
            have a3 := a2.1.2.2.2.1
            have := hb e3
            have := a2.2
            rcases a3 with q | q
            · omega
            · omega) HK HE
          simp [L_Mo_readAll_38, -Prod.exists, -Prod.forall, ↓bb_gf, ↓bb_gr, ↓bb_len, ↓bb_ga, ↓bb_gl, ↓bb_go, ↓bb_pf, ↓bb_pz, ↓bb_pr, ↓bb_pa, ↓bb_pb, ↓bb_pl, ↓bb_po, ↓bb_cl, ↓bb_some, ↓bb_RI, ↓bb_RJ, mm_hI, mm_hJ, mm_hR, mm_nI, mm_nJ, mm_nR, mm_sI, mm_sJ, mm_sR, mm_RI, mm_RJ, mm_IJ, mm_IR, mm_JI, mm_JR, mm_II, mm_JJ, mm_RR, hA.1.1.1.1, n59, ↓bS e1, p1.1.1.1, ↓bS e2]
          exact this
        · rw [if_neg c] at e2
          have ls : zlines tx f (zline tx false (znext tx r.2.1.2.1) r.2.2) = zline tx false (znext tx r.2.1.2.1) r.2.2 := lines_stop (fun q => c q.1)
          rw [ls] at HE
          obtain ⟨x1, x2⟩ := l2.2.2 c
          have := HE S2 c f12 x1 x2
          simp [L_Mo_readAll_38, -Prod.exists, -Prod.forall, ↓bb_gf, ↓bb_gr, ↓bb_len, ↓bb_ga, ↓bb_gl, ↓bb_go, ↓bb_pf, ↓bb_pz, ↓bb_pr, ↓bb_pa, ↓bb_pb, ↓bb_pl, ↓bb_po, ↓bb_cl, ↓bb_some, ↓bb_RI, ↓bb_RJ, mm_hI, mm_hJ, mm_hR, mm_nI, mm_nJ, mm_nR, mm_sI, mm_sJ, mm_sR, mm_RI, mm_RJ, mm_IJ, mm_IR, mm_JI, mm_JR, mm_II, mm_JJ, mm_RR, hA.1.1.1.1, n59, ↓bS e1, p1.1.1.1, ↓bS e2]
          exact this
      · have n59 : ¬ zI S M 25 = 59 := by
          rw [hA.1.2.2.2.1]; intro z
          exact e3 (tk.2.2.1.1 ((nI_eq (b := 59) (by omega) (by omega)).1 z))
        have ls : zlines tx (f + 1) r = r := lines_stop (fun q => e3 q.2)
        rw [ls] at HK
        have := HK S h0 e3 hf hA
        simp [L_Mo_readAll_38, -Prod.exists, -Prod.forall, ↓bb_gf, ↓bb_gr, ↓bb_len, ↓bb_ga, ↓bb_gl, ↓bb_go, ↓bb_pf, ↓bb_pz, ↓bb_pr, ↓bb_pa, ↓bb_pb, ↓bb_pl, ↓bb_po, ↓bb_cl, ↓bb_some, ↓bb_RI, ↓bb_RJ, mm_hI, mm_hJ, mm_hR, mm_nI, mm_nJ, mm_nR, mm_sI, mm_sJ, mm_sR, mm_RI, mm_RJ, mm_IJ, mm_IR, mm_JI, mm_JR, mm_II, mm_JJ, mm_RR, hA.1.1.1.1, n59]
        exact this
theorem many_0 {ps : List zPs} : zmany ps = 0 ↔ ∀ p, p < ps.length → (zpa_ ps p).2.length = 0 := by
  unfold zmany
  constructor
  · intro h p hp
    have : ∀ l : List zPs, (l.map (fun p => p.2.length)).sum = 0 → ∀ x ∈ l, x.2.length = 0 := by
      intro l
      induction l with
      | nil => intro _ x hx; simp at hx
      | cons a l ih =>
        intro h x hx
        simp only [List.map_cons, List.sum_cons] at h
        rcases List.mem_cons.1 hx with q | q
        · subst q; omega
        · exact ih (by omega) x q
    have e : zpa_ ps p = ps[p] := by simp [zpa_, hp]
    rw [e]; exact this ps h _ (List.getElem_mem hp)
  · intro h
    have : ∀ l : List zPs, (∀ x ∈ l, x.2.length = 0) → (l.map (fun p => p.2.length)).sum = 0 := by
      intro l
      induction l with
      | nil => intro _; rfl
      | cons a l ih =>
        intro h
        simp only [List.map_cons, List.sum_cons]
        rw [h a (by simp), ih (fun x hx => h x (List.mem_cons_of_mem _ hx))]
    refine this ps (fun x hx => ?_)
    obtain ⟨k, hk, e⟩ := List.getElem_of_mem hx
    have e2 : zpa_ ps k = ps[k] := by simp [zpa_, hk]
    have := h k hk
    rw [e2, e] at this; exact this
theorem mra_75 (hA : mAll S M tx t st) : ∀ d F p, d + p = st.2.2.2.length → d < F → (∀ q, q < p → (zpa_ st.2.2.2 q).2.length = 0) → (zmany st.2.2.2 ≠ 0 → L_Mo_readAll_75 F M (nI p) S = some (1, S)) ∧ (zmany st.2.2.2 = 0 → ∃ S', L_Mo_readAll_75 F M (nI p) S = some (0, S') ∧ zfr (fun b j => b = M ∧ (j = 27 ∨ j = 28)) S S' ∧ zI S' M 27 = nI 6 ∧ zI S' M 28 = nI t.1) := by
  have hm := hA.1.1.1
  have hh := hm.1
  have h16 := hA.2.2.2.1
  have w := hA.2.2.2.2.2.2.2
  have w3 := w.2.2.2.2.2.1
  intro d
  induction d with
  | zero =>
    intro F p hd hF hz
    cases F with
    | zero => omega
    | succ F =>
      have m0 : zmany st.2.2.2 = 0 := many_0.2 (fun q hq => hz q (by omega))
      refine ⟨fun q => absurd m0 q, fun _ => ?_⟩
      obtain ⟨S3, e3, f3, x1, x2⟩ := m_errs hA.1 6
      have e3' : f_Mo_errs M 6 S = some (0, S3) := e3
      refine ⟨S3, ?_, f3, x1, x2⟩
      simp (disch := omega) [L_Mo_readAll_75, -Prod.exists, -Prod.forall, ↓bb_gf, ↓bb_gr, ↓bb_len, ↓bb_ga, ↓bb_gl, ↓bb_go, ↓bb_pf, ↓bb_pz, ↓bb_pr, ↓bb_pa, ↓bb_pb, ↓bb_pl, ↓bb_po, ↓bb_cl, ↓bb_some, ↓bb_RI, ↓bb_RJ, mm_hI, mm_hJ, mm_hR, mm_nI, mm_nJ, mm_nR, mm_sI, mm_sJ, mm_sR, mm_RI, mm_RJ, mm_IJ, mm_IR, mm_JI, mm_JR, mm_II, mm_JJ, mm_RR, nI_ltI, hh, h16, show ¬ p < st.2.2.2.length by omega, ↓bS e3']
  | succ d ih =>
    intro F p hd hF hz
    cases F with
    | zero => omega
    | succ F =>
      have hp : p < st.2.2.2.length := by omega
      obtain ⟨x8, x9, x10⟩ := hA.2.2.2.2.2.2.1 p hp
      have w8 := (ps_w w.2.2.2.2.2 hp).1
      have zin : zinb (nI p) 3 = true := (nn_in (by omega)).2 (by omega)
      have ncl : (nI p).toNatClampNeg = p := nI_clamp (by omega)
      by_cases c : (zpa_ st.2.2.2 p).2.length = 0
      · have st1 : L_Mo_readAll_75 (F + 1) M (nI p) S = L_Mo_readAll_75 F M (nI (p + 1)) S := by
          have le0 : zI S (M + 8) p ≤ 0 := by rw [x8, c]; decide
          simp (disch := omega) [L_Mo_readAll_75, -Prod.exists, -Prod.forall, ↓bb_gf, ↓bb_gr, ↓bb_len, ↓bb_ga, ↓bb_gl, ↓bb_go, ↓bb_pf, ↓bb_pz, ↓bb_pr, ↓bb_pa, ↓bb_pb, ↓bb_pl, ↓bb_po, ↓bb_cl, ↓bb_some, ↓bb_RI, ↓bb_RJ, mm_hI, mm_hJ, mm_hR, mm_nI, mm_nJ, mm_nR, mm_sI, mm_sJ, mm_sR, mm_RI, mm_RJ, mm_IJ, mm_IR, mm_JI, mm_JR, mm_II, mm_JJ, mm_RR, nI_ltI, nI_1, hh, h16, hp, ↓bS (mo_newRuleMany hm), mh_newRuleMany hm, zin, ncl, le0]
        rw [st1]
        exact ih F (p + 1) (by omega) (by omega) (fun q hq => by
          by_cases e : q = p
          · subst e; exact c
          · exact hz q (by omega))
      · have le0 : ¬ zI S (M + 8) p ≤ 0 := by rw [x8]; exact nI_nle (by omega) (by omega)
        refine ⟨fun _ => ?_, fun q => absurd (many_0.1 q p hp) c⟩
        simp (disch := omega) [L_Mo_readAll_75, -Prod.exists, -Prod.forall, ↓bb_gf, ↓bb_gr, ↓bb_len, ↓bb_ga, ↓bb_gl, ↓bb_go, ↓bb_pf, ↓bb_pz, ↓bb_pr, ↓bb_pa, ↓bb_pb, ↓bb_pl, ↓bb_po, ↓bb_cl, ↓bb_some, ↓bb_RI, ↓bb_RJ, mm_hI, mm_hJ, mm_hR, mm_nI, mm_nJ, mm_nR, mm_sI, mm_sJ, mm_sR, mm_RI, mm_RJ, mm_IJ, mm_IR, mm_JI, mm_JR, mm_II, mm_JJ, mm_RR, nI_ltI, nI_1, hh, h16, hp, ↓bS (mo_newRuleMany hm), mh_newRuleMany hm, zin, ncl, le0]
/-- what the reading of a text changes -/
def wMA (M : Nat) : Nat → Nat → Prop := fun b j => (b = M ∧ ((14 ≤ j ∧ j ≤ 16) ∨ (22 ≤ j ∧ j ≤ 29))) ∨ (M + 6 ≤ b ∧ b ≤ M + 10)
theorem m_read {n : Nat} (hm : sMo S M) (htx : ∀ k, k < tx.length → zI S (M + 1) k = nI (lg tx k)) (hn : tx.length = n) (h900 : n ≤ 900) (h256 : ∀ k, lg tx k < 256) : ∃ S', f_Mo_readAll M (nI n) S = some (if (zparse tx).1 = 0 then 1 else 0, S') ∧ zfr (wMA M) S S' ∧ ((zparse tx).1 = 0 → mScr S' M (zparse tx).2.2) ∧ ((zparse tx).1 ≠ 0 → zI S' M 27 = nI (zparse tx).1 ∧ zI S' M 28 = nI (zparse tx).2.1) := by
  have hh := hm.1
  obtain ⟨S1, hS1⟩ : ∃ S1, S1 = zwI (zwI (zwI (zwI (zwI S M 22 (nI n)) M 24 0) M 14 0) M 15 0) M 16 0 := ⟨_, rfl⟩
  have f1 : zfr (fun b j => b = M ∧ ((14 ≤ j ∧ j ≤ 16) ∨ j = 22 ∨ j = 24)) S S1 := by
    rw [hS1]
    exact fr_trans (fr_trans (fr_trans (fr_trans (fr_wI _ _ (by omega)) (fr_wI _ _ (by omega))) (fr_wI _ _ (by omega))) (fr_wI _ _ (by omega))) (fr_wI _ _ (by omega))
  have hb : bMr S1 M tx := ⟨mo_fr hm f1, fun k hk => by rw [fr_I f1 (by omega)]; exact htx k hk, by rw [hS1, hn]; simp [mm_II], by omega, h256⟩
  have i24 : zI S1 M 24 = nI 0 := by rw [hS1]; simp [mm_II]; rfl
  have ms1 : mScr S1 M (0, [], [], []) := ⟨by rw [hS1]; simp [mm_II]; rfl, by rw [hS1]; simp [mm_II]; rfl, by rw [hS1]; simp [mm_II]; rfl, fun k hk => by simp at hk, fun k hk => by simp at hk, fun p hp => by simp at hp, ⟨by simp, rfl, by simp, fun k => by rw [lg_nil]; omega, fun n hn => by simp at hn, by simp, fun p hp => by simp at hp⟩⟩
  obtain ⟨S2, e2, f2, p2⟩ := m_next0 hb i24 (by omega)
  have A2 := m_all ms1 p2 f2
  obtain ⟨S3, e3, l3⟩ := ml_line (st := (0, [], [], [])) true (fun _ => rfl) (fun q => by cases q) A2
  have f3 : zfr (wMA M) S S3 := fr_trans (fr_mono f1 (fun b j hb => by unfold wMA; omega)) (fr_trans (fr_mono f2 (fun b j hb => by unfold wMr at hb; unfold wMA; omega)) (fr_mono l3.1 (fun b j hb => by unfold wML at hb; unfold wMA; omega)))
  have hh1 := hb.1.1
  have hh2 := p2.1.1.1
  have hh3 : zh S3 M = (12, 0) := by rw [fr_h f3]; exact hh
  obtain ⟨r0, hr0⟩ : ∃ r0, r0 = zline tx true (znext tx 0) (0, [], [], []) := ⟨_, rfl⟩
  rw [← hr0] at e3 l3
  have zp : zparse tx = (if (zlines tx tx.length r0).1 = 0 then (if (zlines tx tx.length r0).2.1.2.2 = 0 then (if zmany (zlines tx tx.length r0).2.2.2.2.2 = 0 then 6 else 0) else 1) else (zlines tx tx.length r0).1, (zlines tx tx.length r0).2.1.1, (zlines tx tx.length r0).2.2) := by
    rw [hr0]; rfl
  have pre : ∀ R : Option (Int32 × zM), (if (if r0.1 = 0 then (1 : Int32) else 0) = (0 : Int32) then some ((0 : Int32), S3) else L_Mo_readAll_38 (F_Mo_readAll_60 (L_Mo_readAll_75 zF)) zF M S3) = R → f_Mo_readAll M (nI n) S = R := by
    intro R hR
    rw [← hR]
    rw [hS1] at e2 hh1
    simp [f_Mo_readAll, -Prod.exists, -Prod.forall, ↓bb_gf, ↓bb_gr, ↓bb_len, ↓bb_ga, ↓bb_gl, ↓bb_go, ↓bb_pf, ↓bb_pz, ↓bb_pr, ↓bb_pa, ↓bb_pb, ↓bb_pl, ↓bb_po, ↓bb_cl, ↓bb_some, ↓bb_RI, ↓bb_RJ, mm_hI, mm_hJ, mm_hR, mm_nI, mm_nJ, mm_nR, mm_sI, mm_sJ, mm_sR, mm_RI, mm_RJ, mm_IJ, mm_IR, mm_JI, mm_JR, mm_II, mm_JJ, mm_RR, hh, ↓bS e2, hh2, ↓bS e3]
  by_cases c0 : r0.1 = 0
  · have A3 := l3.2.1 c0
    have ht3 := A3.1.2.2.2.2.1
    have key := mra_38 (S0 := S3) (tx := tx) (M := M) (fun o => ∃ S', o = some (if (zparse tx).1 = 0 then 1 else 0, S') ∧ zfr (wMA M) S3 S' ∧ ((zparse tx).1 = 0 → mScr S' M (zparse tx).2.2) ∧ ((zparse tx).1 ≠ 0 → zI S' M 27 = nI (zparse tx).1 ∧ zI S' M 28 = nI (zparse tx).2.1)) (k60 := F_Mo_readAll_60 (L_Mo_readAll_75 zF)) tx.length zF S3 r0 (by rw [zF_eq]; omega) c0 (by rw [hr0] at c0 ⊢; exact line_pos (fun q => by cases q) c0) (fr_refl _ _) A3 (fun z => by
        have := ht3.2.2.2.1; omega) (fun S4 g0 g3 gf gA => by
        have hm4 := gA.1.1.1
        have tk := tk_1 gA.1.2.2.2.2.1.2.2.1
        have gf' : zfr (wMA M) S3 S4 := fr_mono gf (fun b j hb => by unfold wML at hb; unfold wMA; omega)
        by_cases d0 : (zlines tx tx.length r0).2.1.2.2 = 0
        · have n25 : zI S4 M 25 = 0 := by rw [gA.1.2.2.2.1, tk.2.2.2.1.2 d0]; rfl
          obtain ⟨y1, y2⟩ := mra_75 gA (zlines tx tx.length r0).2.2.2.2.2.length zF 0 (by omega) (by rw [zF_eq]; have := gA.2.2.2.2.2.2.2.2.2.2.2.2.1; omega) (fun q hq => by omega)
          by_cases d1 : zmany (zlines tx tx.length r0).2.2.2.2.2 = 0
          · obtain ⟨S5, e5, f5, x1, x2⟩ := y2 d1
            have z1 : (zparse tx).1 = 6 := by rw [zp]; simp [g0, d0, d1]
            have z2 : (zparse tx).2.1 = (zlines tx tx.length r0).2.1.1 := by rw [zp]
            rw [z1, z2]
            refine ⟨S5, ?_, fr_trans gf' (fr_mono f5 (fun b j hb => by unfold wMA; omega)), fun q => by omega, fun _ => ⟨x1, x2⟩⟩
            simp [F_Mo_readAll_60, -Prod.exists, -Prod.forall, ↓bb_gf, ↓bb_gr, ↓bb_len, ↓bb_ga, ↓bb_gl, ↓bb_go, ↓bb_pf, ↓bb_pz, ↓bb_pr, ↓bb_pa, ↓bb_pb, ↓bb_pl, ↓bb_po, ↓bb_cl, ↓bb_some, ↓bb_RI, ↓bb_RJ, mm_hI, mm_hJ, mm_hR, mm_nI, mm_nJ, mm_nR, mm_sI, mm_sJ, mm_sR, mm_RI, mm_RJ, mm_IJ, mm_IR, mm_JI, mm_JR, mm_II, mm_JJ, mm_RR, hm4.1, n25]
            exact e5
          · have z1 : (zparse tx).1 = 0 := by rw [zp]; simp [g0, d0, d1]
            have z2 : (zparse tx).2.2 = (zlines tx tx.length r0).2.2 := by rw [zp]
            rw [z1, z2]
            refine ⟨S4, ?_, gf', fun _ => gA.2, fun q => absurd rfl q⟩
            simp [F_Mo_readAll_60, -Prod.exists, -Prod.forall, ↓bb_gf, ↓bb_gr, ↓bb_len, ↓bb_ga, ↓bb_gl, ↓bb_go, ↓bb_pf, ↓bb_pz, ↓bb_pr, ↓bb_pa, ↓bb_pb, ↓bb_pl, ↓bb_po, ↓bb_cl, ↓bb_some, ↓bb_RI, ↓bb_RJ, mm_hI, mm_hJ, mm_hR, mm_nI, mm_nJ, mm_nR, mm_sI, mm_sJ, mm_sR, mm_RI, mm_RJ, mm_IJ, mm_IR, mm_JI, mm_JR, mm_II, mm_JJ, mm_RR, hm4.1, n25]
            exact y1 d1
        · have n25 : ¬ zI S4 M 25 = 0 := by
            rw [gA.1.2.2.2.1]; intro z
            exact d0 (tk.2.2.2.1.1 ((nI_eq (b := 0) (by omega) (by omega)).1 z))
          obtain ⟨S5, e5, f5, x1, x2⟩ := m_errs gA.1 1
          have e5' : f_Mo_errs M 1 S4 = some (0, S5) := e5
          have z1 : (zparse tx).1 = 1 := by rw [zp]; simp [g0, d0]
          have z2 : (zparse tx).2.1 = (zlines tx tx.length r0).2.1.1 := by rw [zp]
          rw [z1, z2]
          refine ⟨S5, ?_, fr_trans gf' (fr_mono f5 (fun b j hb => by unfold wMA; omega)), fun q => by omega, fun _ => ⟨x1, x2⟩⟩
          simp [F_Mo_readAll_60, -Prod.exists, -Prod.forall, ↓bb_gf, ↓bb_gr, ↓bb_len, ↓bb_ga, ↓bb_gl, ↓bb_go, ↓bb_pf, ↓bb_pz, ↓bb_pr, ↓bb_pa, ↓bb_pb, ↓bb_pl, ↓bb_po, ↓bb_cl, ↓bb_some, ↓bb_RI, ↓bb_RJ, mm_hI, mm_hJ, mm_hR, mm_nI, mm_nJ, mm_nR, mm_sI, mm_sJ, mm_sR, mm_RI, mm_RJ, mm_IJ, mm_IR, mm_JI, mm_JR, mm_II, mm_JJ, mm_RR, hm4.1, n25, ↓bS e5']) (fun S4 g0 gf x1 x2 => by
        have z1 : (zparse tx).1 = (zlines tx tx.length r0).1 := by rw [zp]; simp [g0]
        have z2 : (zparse tx).2.1 = (zlines tx tx.length r0).2.1.1 := by rw [zp]
        rw [z1, z2, if_neg g0]
        exact ⟨S4, rfl, fr_mono gf (fun b j hb => by unfold wML at hb; unfold wMA; omega), fun q => absurd q g0, fun _ => ⟨x1, x2⟩⟩)
    obtain ⟨S', k1, k2, k3, k4⟩ := key
    refine ⟨S', pre _ ?_, fr_trans f3 k2, k3, k4⟩
    rw [if_pos c0, if_neg (by decide)]
    exact k1
  · have ls : zlines tx tx.length r0 = r0 := lines_stop (fun q => c0 q.1)
    rw [ls] at zp
    have z1 : (zparse tx).1 = r0.1 := by rw [zp]; simp [c0]
    have z2 : (zparse tx).2.1 = r0.2.1.1 := by rw [zp]
    obtain ⟨x1, x2⟩ := l3.2.2 c0
    rw [z1, z2, if_neg c0]
    refine ⟨S3, pre _ ?_, f3, fun q => absurd q c0, fun _ => ⟨x1, x2⟩⟩
    rw [if_neg c0, if_pos rfl]
end
