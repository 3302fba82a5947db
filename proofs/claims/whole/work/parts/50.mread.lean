/-! the reference's reader: the text -/
section
variable {S : zM} {M : Nat} {tx : List Nat} {t : zTk} {st : zRt}
theorem ml_line (first : Bool) (h1 : first = true → st = (0, [], [], [])) (h2 : first = false → 0 < st.1) (h : mAll S M tx t st) : ∃ S', f_Mo_readLine M S = some (if (zline tx first t st).1 = 0 then 1 else 0, S') ∧ eML S S' M tx (zline tx first t st) := by
  have hh := h.1.1.1.1
  have hs := m_has h
  have i0 := m_is h.1 (show 0 < 13 by omega)
  have i1 := m_is h.1 (show 1 < 13 by omega)
  have i2 := m_is h.1 (show 2 < 13 by omega)
  have i3 := m_is h.1 (show 3 < 13 by omega)
  have er : ∀ f : Nat, f ≠ 0 → ∃ S', f_Mo_errs M (nI f) S = some (0, S') ∧ eML S S' M tx (f, t, st) := fun f hf => by
    obtain ⟨S3, e3, f3, x1, x2⟩ := m_errs h.1 f
    exact ⟨S3, e3, m_stop hf (fr_refl _ _) f3 x1 x2⟩
  have b01 : ∀ c : Prop, [Decidable c] → ((if c then (1 : Int32) else 0) = 0 ∨ (if c then (1 : Int32) else 0) = 1) := by
    intro c _; by_cases q : c <;> simp [q]
  cases c0 : zisw tx t 0 with
  | true =>
    rw [c0] at i0
    simp only [if_true] at i0
    obtain ⟨y1, y2⟩ := ml_script h
    cases first
    · obtain ⟨S', e, l⟩ := y2 (h2 rfl)
      have ez : zline tx false t st = (3, t, st) := by simp [zline, c0]
      rw [ez]
      refine ⟨S', ?_, l⟩
      simp [f_Mo_readLine, -Prod.exists, -Prod.forall, ↓bb_gf, ↓bb_gr, ↓bb_len, ↓bb_ga, ↓bb_gl, ↓bb_go, ↓bb_pf, ↓bb_pz, ↓bb_pr, ↓bb_pa, ↓bb_pb, ↓bb_pl, ↓bb_po, ↓bb_cl, ↓bb_some, ↓bb_RI, ↓bb_RJ, mm_hI, mm_hJ, mm_hR, mm_nI, mm_nJ, mm_nR, mm_sI, mm_sJ, mm_sR, mm_RI, mm_RJ, mm_IJ, mm_IR, mm_JI, mm_JR, mm_II, mm_JJ, mm_RR, hh, ↓bS i0, ↓bS e]
    · obtain ⟨S', e, l⟩ := y1 (by rw [h1 rfl])
      have ez : zline tx true t st = zscriptLine tx t st := by simp [zline, c0]
      rw [ez]
      refine ⟨S', ?_, l⟩
      simp [f_Mo_readLine, -Prod.exists, -Prod.forall, ↓bb_gf, ↓bb_gr, ↓bb_len, ↓bb_ga, ↓bb_gl, ↓bb_go, ↓bb_pf, ↓bb_pz, ↓bb_pr, ↓bb_pa, ↓bb_pb, ↓bb_pl, ↓bb_po, ↓bb_cl, ↓bb_some, ↓bb_RI, ↓bb_RJ, mm_hI, mm_hJ, mm_hR, mm_nI, mm_nJ, mm_nR, mm_sI, mm_sJ, mm_sR, mm_RI, mm_RJ, mm_IJ, mm_IR, mm_JI, mm_JR, mm_II, mm_JJ, mm_RR, hh, ↓bS i0, ↓bS e]
  | false =>
    rw [c0] at i0
    simp only [Bool.false_eq_true, if_false] at i0
    cases c1 : zisw tx t 1 with
    | true =>
      rw [c1] at i1
      simp only [if_true] at i1
      cases first
      · obtain ⟨S', e, l⟩ := ml_kind h (h2 rfl)
        have ez : zline tx false t st = zkindLine tx t st := by simp [zline, c0, c1]
        rw [ez]
        refine ⟨S', ?_, l⟩
        simp [f_Mo_readLine, -Prod.exists, -Prod.forall, ↓bb_gf, ↓bb_gr, ↓bb_len, ↓bb_ga, ↓bb_gl, ↓bb_go, ↓bb_pf, ↓bb_pz, ↓bb_pr, ↓bb_pa, ↓bb_pb, ↓bb_pl, ↓bb_po, ↓bb_cl, ↓bb_some, ↓bb_RI, ↓bb_RJ, mm_hI, mm_hJ, mm_hR, mm_nI, mm_nJ, mm_nR, mm_sI, mm_sJ, mm_sR, mm_RI, mm_RJ, mm_IJ, mm_IR, mm_JI, mm_JR, mm_II, mm_JJ, mm_RR, hh, ↓bS i0, ↓bS i1, ↓bS e]
      · have ez : zline tx true t st = (6, t, st) := by simp [zline, c0, c1]
        rw [ez]
        obtain ⟨S', e, l⟩ := er 6 (by omega)
        have e' : f_Mo_errs M 6 S = some (0, S') := e
        have hst := h1 rfl
        have i15 := h.2.2.1
        rw [hst] at i15 hs
        have hs' : f_Mo_hasScript M S = some (0, S) := hs
        have n4 : ¬ (nI 0 = 4) := by decide
        have ek : f_Mo_readKind M S = some (0, S') := by
          simp at i15
          simp [f_Mo_readKind, -Prod.exists, -Prod.forall, ↓bb_gf, ↓bb_gr, ↓bb_len, ↓bb_ga, ↓bb_gl, ↓bb_go, ↓bb_pf, ↓bb_pz, ↓bb_pr, ↓bb_pa, ↓bb_pb, ↓bb_pl, ↓bb_po, ↓bb_cl, ↓bb_some, ↓bb_RI, ↓bb_RJ, mm_hI, mm_hJ, mm_hR, mm_nI, mm_nJ, mm_nR, mm_sI, mm_sJ, mm_sR, mm_RI, mm_RJ, mm_IJ, mm_IR, mm_JI, mm_JR, mm_II, mm_JJ, mm_RR, hh, i15, n4, ↓bS hs', ↓bS e']
        refine ⟨S', ?_, l⟩
        simp [f_Mo_readLine, -Prod.exists, -Prod.forall, ↓bb_gf, ↓bb_gr, ↓bb_len, ↓bb_ga, ↓bb_gl, ↓bb_go, ↓bb_pf, ↓bb_pz, ↓bb_pr, ↓bb_pa, ↓bb_pb, ↓bb_pl, ↓bb_po, ↓bb_cl, ↓bb_some, ↓bb_RI, ↓bb_RJ, mm_hI, mm_hJ, mm_hR, mm_nI, mm_nJ, mm_nR, mm_sI, mm_sJ, mm_sR, mm_RI, mm_RJ, mm_IJ, mm_IR, mm_JI, mm_JR, mm_II, mm_JJ, mm_RR, hh, ↓bS i0, ↓bS i1, ↓bS ek]
    | false =>
      rw [c1] at i1
      simp only [Bool.false_eq_true, if_false] at i1
      cases c2 : zisw tx t 2 with
      | true =>
        rw [c2] at i2
        simp only [if_true] at i2
        cases first
        · obtain ⟨S', e, l⟩ := ml_pass h (h2 rfl)
          have ez : zline tx false t st = zpassLine tx t st := by simp [zline, c0, c1, c2]
          rw [ez]
          refine ⟨S', ?_, l⟩
          simp [f_Mo_readLine, -Prod.exists, -Prod.forall, ↓bb_gf, ↓bb_gr, ↓bb_len, ↓bb_ga, ↓bb_gl, ↓bb_go, ↓bb_pf, ↓bb_pz, ↓bb_pr, ↓bb_pa, ↓bb_pb, ↓bb_pl, ↓bb_po, ↓bb_cl, ↓bb_some, ↓bb_RI, ↓bb_RJ, mm_hI, mm_hJ, mm_hR, mm_nI, mm_nJ, mm_nR, mm_sI, mm_sJ, mm_sR, mm_RI, mm_RJ, mm_IJ, mm_IR, mm_JI, mm_JR, mm_II, mm_JJ, mm_RR, hh, ↓bS i0, ↓bS i1, ↓bS i2, ↓bS e]
        · have ez : zline tx true t st = (6, t, st) := by simp [zline, c0, c1, c2]
          rw [ez]
          obtain ⟨S', e, l⟩ := er 6 (by omega)
          have e' : f_Mo_errs M 6 S = some (0, S') := e
          have hst := h1 rfl
          have i16 := h.2.2.2.1
          rw [hst] at i16 hs
          have hs' : f_Mo_hasScript M S = some (0, S) := hs
          have n4 : ¬ (nI 0 = 3) := by decide
          have ek : f_Mo_readPass M S = some (0, S') := by
            simp at i16
            simp [f_Mo_readPass, -Prod.exists, -Prod.forall, ↓bb_gf, ↓bb_gr, ↓bb_len, ↓bb_ga, ↓bb_gl, ↓bb_go, ↓bb_pf, ↓bb_pz, ↓bb_pr, ↓bb_pa, ↓bb_pb, ↓bb_pl, ↓bb_po, ↓bb_cl, ↓bb_some, ↓bb_RI, ↓bb_RJ, mm_hI, mm_hJ, mm_hR, mm_nI, mm_nJ, mm_nR, mm_sI, mm_sJ, mm_sR, mm_RI, mm_RJ, mm_IJ, mm_IR, mm_JI, mm_JR, mm_II, mm_JJ, mm_RR, hh, i16, n4, ↓bS hs', ↓bS e']
          refine ⟨S', ?_, l⟩
          simp [f_Mo_readLine, -Prod.exists, -Prod.forall, ↓bb_gf, ↓bb_gr, ↓bb_len, ↓bb_ga, ↓bb_gl, ↓bb_go, ↓bb_pf, ↓bb_pz, ↓bb_pr, ↓bb_pa, ↓bb_pb, ↓bb_pl, ↓bb_po, ↓bb_cl, ↓bb_some, ↓bb_RI, ↓bb_RJ, mm_hI, mm_hJ, mm_hR, mm_nI, mm_nJ, mm_nR, mm_sI, mm_sJ, mm_sR, mm_RI, mm_RJ, mm_IJ, mm_IR, mm_JI, mm_JR, mm_II, mm_JJ, mm_RR, hh, ↓bS i0, ↓bS i1, ↓bS i2, ↓bS ek]
      | false =>
        rw [c2] at i2
        simp only [Bool.false_eq_true, if_false] at i2
        cases c3 : zisw tx t 3 with
        | true =>
          rw [c3] at i3
          simp only [if_true] at i3
          cases first
          · obtain ⟨S', e, l⟩ := ml_rule h (h2 rfl)
            have ez : zline tx false t st = zruleLine tx t st := by simp [zline, c0, c1, c2, c3]
            rw [ez]
            refine ⟨S', ?_, l⟩
            simp [f_Mo_readLine, -Prod.exists, -Prod.forall, ↓bb_gf, ↓bb_gr, ↓bb_len, ↓bb_ga, ↓bb_gl, ↓bb_go, ↓bb_pf, ↓bb_pz, ↓bb_pr, ↓bb_pa, ↓bb_pb, ↓bb_pl, ↓bb_po, ↓bb_cl, ↓bb_some, ↓bb_RI, ↓bb_RJ, mm_hI, mm_hJ, mm_hR, mm_nI, mm_nJ, mm_nR, mm_sI, mm_sJ, mm_sR, mm_RI, mm_RJ, mm_IJ, mm_IR, mm_JI, mm_JR, mm_II, mm_JJ, mm_RR, hh, ↓bS i0, ↓bS i1, ↓bS i2, ↓bS i3, ↓bS e]
          · have ez : zline tx true t st = (6, t, st) := by simp [zline, c0, c1, c2, c3]
            rw [ez]
            obtain ⟨S', e, l⟩ := er 6 (by omega)
            have e' : f_Mo_errs M 6 S = some (0, S') := e
            have hst := h1 rfl
            have i16 := h.2.2.2.1
            rw [hst] at i16 hs
            have hs' : f_Mo_hasScript M S = some (0, S) := hs
            have n4 : nI 0 - 1 < 0 := by decide
            have ek : f_Mo_readRule M S = some (0, S') := by
              rw [readRule_eq]
              simp at i16
              simp [-Prod.exists, -Prod.forall, ↓bb_gf, ↓bb_gr, ↓bb_len, ↓bb_ga, ↓bb_gl, ↓bb_go, ↓bb_pf, ↓bb_pz, ↓bb_pr, ↓bb_pa, ↓bb_pb, ↓bb_pl, ↓bb_po, ↓bb_cl, ↓bb_some, ↓bb_RI, ↓bb_RJ, mm_hI, mm_hJ, mm_hR, mm_nI, mm_nJ, mm_nR, mm_sI, mm_sJ, mm_sR, mm_RI, mm_RJ, mm_IJ, mm_IR, mm_JI, mm_JR, mm_II, mm_JJ, mm_RR, hh, i16, n4, ↓bS hs', ↓bS e']
            refine ⟨S', ?_, l⟩
            simp [f_Mo_readLine, -Prod.exists, -Prod.forall, ↓bb_gf, ↓bb_gr, ↓bb_len, ↓bb_ga, ↓bb_gl, ↓bb_go, ↓bb_pf, ↓bb_pz, ↓bb_pr, ↓bb_pa, ↓bb_pb, ↓bb_pl, ↓bb_po, ↓bb_cl, ↓bb_some, ↓bb_RI, ↓bb_RJ, mm_hI, mm_hJ, mm_hR, mm_nI, mm_nJ, mm_nR, mm_sI, mm_sJ, mm_sR, mm_RI, mm_RJ, mm_IJ, mm_IR, mm_JI, mm_JR, mm_II, mm_JJ, mm_RR, hh, ↓bS i0, ↓bS i1, ↓bS i2, ↓bS i3, ↓bS ek]
        | false =>
          rw [c3] at i3
          simp only [Bool.false_eq_true, if_false] at i3
          have ez : zline tx first t st = (1, t, st) := by simp [zline, c0, c1, c2, c3]
          rw [ez]
          obtain ⟨S', e, l⟩ := er 1 (by omega)
          have e' : f_Mo_errs M 1 S = some (0, S') := e
          refine ⟨S', ?_, l⟩
          simp [f_Mo_readLine, -Prod.exists, -Prod.forall, ↓bb_gf, ↓bb_gr, ↓bb_len, ↓bb_ga, ↓bb_gl, ↓bb_go, ↓bb_pf, ↓bb_pz, ↓bb_pr, ↓bb_pa, ↓bb_pb, ↓bb_pl, ↓bb_po, ↓bb_cl, ↓bb_some, ↓bb_RI, ↓bb_RJ, mm_hI, mm_hJ, mm_hR, mm_nI, mm_nJ, mm_nR, mm_sI, mm_sJ, mm_sR, mm_RI, mm_RJ, mm_IJ, mm_IR, mm_JI, mm_JR, mm_II, mm_JJ, mm_RR, hh, ↓bS i0, ↓bS i1, ↓bS i2, ↓bS i3, ↓bS e']
/-! a line goes on -/
def zadv (tx : List Nat) (t t' : zTk) : Prop := ∃ x, t.2.1 ≤ x ∧ x ≤ tx.length ∧ t' = znext tx x
theorem adv_next {x : Nat} (hx : x ≤ tx.length) : x ≤ (znext tx x).2.1 ∧ (znext tx x).2.1 ≤ tx.length := by
  have := next_w (tx := tx) hx
  exact ⟨Nat.le_trans this.2 this.1.1, this.1.2.1⟩
theorem adv_side (ht : wTk tx t) (h : (zside tx t st).1 = 0) : zadv tx t (zside tx t st).2.2 := by
  have hx := ht.2.1
  unfold zside at h ⊢
  split
  · exact ⟨_, Nat.le_refl _, hx, rfl⟩
  · rename_i c1
    simp only [c1, if_false] at h
    split
    · exact ⟨_, Nat.le_refl _, hx, rfl⟩
    · rename_i c2
      simp only [c2, if_false] at h
      split
      · rename_i c3
        simp only [c3, if_true] at h
        split
        · exact ⟨_, Nat.le_refl _, hx, rfl⟩
        · rename_i c4
          simp only [c4, if_false] at h
          simp at h
          split at h <;> simp at h
      · rename_i c3
        simp only [c3, if_false] at h
        simp at h
theorem adv_outc (ht : wTk tx t) (h : (zoutc tx t).1 = 0) : zadv tx t (zoutc tx t).2.2 := by
  have hx := ht.2.1
  have n1 := adv_next hx
  unfold zoutc at h ⊢
  cases c1 : zisw tx t 9 with
  | false => simp [c1] at h
  | true =>
    simp only [c1, if_true] at h ⊢
    cases c2 : zisw tx (znext tx t.2.1) 10 with
    | true => simp only [if_true]; exact ⟨_, n1.1, n1.2, rfl⟩
    | false =>
      simp only [c2, Bool.false_eq_true, if_false] at h ⊢
      cases c3 : zlets tx (znext tx t.2.1) 4 with
      | true => simp only [if_true]; exact ⟨_, n1.1, n1.2, rfl⟩
      | false => simp [c3] at h
theorem adv_w {t' : zTk} (h : zadv tx t t') : wTk tx t' ∧ t.2.1 ≤ t'.2.1 := by
  obtain ⟨x, h1, h2, rfl⟩ := h
  exact ⟨(next_w h2).1, Nat.le_trans h1 (adv_next h2).1⟩
theorem adv_trans {t1 t2 t3 : zTk} (h1 : t1.2.1 ≤ t2.2.1) (h2 : zadv tx t2 t3) : zadv tx t1 t3 := by
  obtain ⟨x, a, b, c⟩ := h2
  exact ⟨x, by omega, b, c⟩
theorem adv_rule2 (ht : wTk tx t) (h : (zrule2 tx t st).1 = 0) : zadv tx t (zrule2 tx t st).2.1 := by
  have hx := ht.2.1
  have n1 := adv_next hx
  have w1 := (next_w (tx := tx) hx).1
  unfold zrule2 at h ⊢
  cases c1 : zlets tx t 3 with
  | false => simp [c1] at h
  | true =>
    simp only [c1, if_true] at h ⊢
    cases c2 : zisw tx (znext tx t.2.1) 8 with
    | false =>
      simp only [c2, Bool.false_eq_true, if_false] at h ⊢
      exact adv_trans n1.1 (adv_outc w1 h)
    | true =>
      simp only [c2, if_true] at h ⊢
      have n2 := adv_next n1.2
      have w2 := (next_w (tx := tx) n1.2).1
      by_cases c3 : (zside tx (znext tx (znext tx t.2.1).2.1) st).1 = 0
      · simp only [c3, if_true] at h ⊢
        have s := adv_side w2 c3
        have sw := adv_w s
        exact adv_trans (show t.2.1 ≤ (zside tx (znext tx (znext tx t.2.1).2.1) st).2.2.2.1 by have := sw.2; omega) (adv_outc sw.1 h)
      · simp only [c3, if_false] at h
theorem adv_line {first : Bool} (ht : wTk tx t) (h : (zline tx first t st).1 = 0) : zadv tx t (zline tx first t st).2.1 := by
  have hx := ht.2.1
  have n1 := adv_next hx
  have w1 := (next_w (tx := tx) hx).1
  have n2 := adv_next n1.2
  have w2 := (next_w (tx := tx) n1.2).1
  have n3 := adv_next n2.2
  unfold zline at h ⊢
  cases c0 : zisw tx t 0 with
  | true =>
    simp only [c0, if_true] at h ⊢
    cases first
    · simp at h
    · simp only [if_true] at h ⊢
      unfold zscriptLine at h ⊢
      cases c1 : zisw tx (znext tx t.2.1) 4 with
      | false => simp [c1] at h
      | true =>
        simp only [c1, if_true] at h ⊢
        by_cases c2 : (znext tx (znext tx t.2.1).2.1).2.2 = 2
        · simp only [c2, if_true] at h ⊢
          by_cases c3 : lg tx (znext tx (znext tx t.2.1).2.1).1 < 50 ∨ 52 < lg tx (znext tx (znext tx t.2.1).2.1).1
          · simp [c3] at h
          · simp only [c3, if_false]
            exact ⟨_, by omega, n2.2, rfl⟩
        · simp [c2] at h
  | false =>
    simp only [c0, Bool.false_eq_true, if_false] at h ⊢
    cases c1 : zisw tx t 1 with
    | true =>
      simp only [c1, if_true] at h ⊢
      cases first
      · simp only [Bool.false_eq_true, if_false] at h ⊢
        unfold zkindLine at h ⊢
        split at h
        · simp at h
        · rename_i d0
          simp only [d0, if_false] at h ⊢
          split at h
          · rename_i d1
            simp only [d1, if_true, and_self] at h ⊢
            split at h
            · simp at h
            · rename_i d2
              simp only [d2, if_false] at h ⊢
              split at h
              · rename_i d3
                simp only [d3, if_true] at h ⊢
                split at h
                · rename_i d4
                  simp only [d4, if_true] at h ⊢
                  split at h
                  · rename_i d5
                    simp only [d5, if_true]
                    exact ⟨_, by omega, n3.2, rfl⟩
                  · simp at h
                · simp at h
              · simp at h
          · simp at h
      · simp at h
    | false =>
      simp only [c1, Bool.false_eq_true, if_false] at h ⊢
      cases c2 : zisw tx t 2 with
      | true =>
        simp only [c2, if_true] at h ⊢
        cases first
        · simp only [Bool.false_eq_true, if_false] at h ⊢
          unfold zpassLine at h ⊢
          split at h
          · simp at h
          · rename_i d0
            simp only [d0, if_false]
            cases d1 : zisw tx (znext tx t.2.1) 6 with
            | true => simp only [if_true]; exact ⟨_, n1.1, n1.2, rfl⟩
            | false => simp only [Bool.false_eq_true, if_false]; exact ⟨_, Nat.le_refl _, hx, rfl⟩
        · simp at h
      | false =>
        simp only [c2, Bool.false_eq_true, if_false] at h ⊢
        cases c3 : zisw tx t 3 with
        | true =>
          simp only [c3, if_true] at h ⊢
          cases first
          · simp only [Bool.false_eq_true, if_false] at h ⊢
            unfold zruleLine at h ⊢
            split at h
            · simp at h
            · rename_i d0
              simp only [d0, if_false] at h ⊢
              split at h
              · simp at h
              · rename_i d1
                simp only [d1, if_false] at h ⊢
                cases d2 : zisw tx (znext tx t.2.1) 7 with
                | false =>
                  simp only [d2, Bool.false_eq_true, if_false] at h ⊢
                  exact adv_trans n1.1 (adv_rule2 w1 h)
                | true =>
                  simp only [d2, if_true] at h ⊢
                  by_cases d3 : (zside tx (znext tx (znext tx t.2.1).2.1) st).1 = 0
                  · simp only [d3, if_true] at h ⊢
                    have sw := adv_w (adv_side w2 d3)
                    exact adv_trans (show t.2.1 ≤ (zside tx (znext tx (znext tx t.2.1).2.1) st).2.2.2.1 by have := sw.2; omega) (adv_rule2 sw.1 h)
                  · simp only [d3, if_false] at h
          · simp at h
        | false => simp [c3] at h
theorem line_pos {first : Bool} (h1 : first = false → 0 < st.1) (h : (zline tx first t st).1 = 0) : 0 < (zline tx first t st).2.2.1 := by
  unfold zline at h ⊢
  cases c0 : zisw tx t 0 with
  | true =>
    simp only [c0, if_true] at h ⊢
    cases first
    · simp at h
    · simp only [if_true] at h ⊢
      unfold zscriptLine at h ⊢
      simp only at h ⊢
      split at h
      · rename_i d1
        split at h
        · rename_i d2
          split at h
          · simp at h
          · rename_i d3
            simp only [d1, d2, d3, if_true, if_false]; omega
        · simp at h
      · simp at h
  | false =>
    simp only [c0, Bool.false_eq_true, if_false] at h ⊢
    cases c1 : zisw tx t 1 with
    | true =>
      simp only [c1, if_true] at h ⊢
      cases first
      · have := h1 rfl
        simp only [Bool.false_eq_true, if_false]
        unfold zkindLine
        split
        · exact this
        · simp only
          split
          · split
            · exact this
            · split
              · split
                · split <;> exact this
                · exact this
              · exact this
          · exact this
      · simp at h
    | false =>
      simp only [c1, Bool.false_eq_true, if_false] at h ⊢
      cases c2 : zisw tx t 2 with
      | true =>
        simp only [c2, if_true] at h ⊢
        cases first
        · have := h1 rfl
          simp only [Bool.false_eq_true, if_false]
          unfold zpassLine
          split
          · exact this
          · simp only
            split <;> exact this
        · simp at h
      | false =>
        simp only [c2, Bool.false_eq_true, if_false] at h ⊢
        cases c3 : zisw tx t 3 with
        | true =>
          simp only [c3, if_true] at h ⊢
          cases first
          · have := h1 rfl
            simp only [Bool.false_eq_true, if_false]
            unfold zruleLine
            split
            · exact this
            · split
              · exact this
              · simp only
                split
                · split <;> exact this
                · exact this
          · simp at h
        | false => simp [c3] at h
end
