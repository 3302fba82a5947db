/-! a script is told -/
theorem line_keep {tx : List Nat} {t : zTk} {st : zRt} : (zline tx false t st).2.2.1 = st.1 := by
  unfold zline zkindLine zpassLine zruleLine
  simp only [Bool.false_eq_true, if_false]
  repeat' split
  all_goals rfl
theorem line_first {tx : List Nat} {t : zTk} {st : zRt} (h : (zline tx true t st).1 = 0) : 2 ≤ (zline tx true t st).2.2.1 := by
  unfold zline zscriptLine at h ⊢
  simp only [if_true] at h ⊢
  by_cases c0 : zisw tx t 0 = true
  · rw [if_pos c0] at h ⊢
    by_cases c1 : zisw tx (znext tx t.2.1) 4 = true
    · rw [if_pos c1] at h ⊢
      by_cases c2 : (znext tx (znext tx t.2.1).2.1).2.2 = 2
      · rw [if_pos c2] at h ⊢
        by_cases c3 : lg tx (znext tx (znext tx t.2.1).2.1).1 < 50 ∨ 52 < lg tx (znext tx (znext tx t.2.1).2.1).1
        · rw [if_pos c3] at h; cases h
        · rw [if_neg c3]
          show 2 ≤ lg tx (znext tx (znext tx t.2.1).2.1).1 - 48
          omega
      · rw [if_neg c2] at h; cases h
    · rw [if_neg c1] at h; cases h
  · rw [if_neg c0] at h
    split at h
    · cases h
    · split at h
      · cases h
      · split at h
        · cases h
        · cases h
theorem lines_keep {tx : List Nat} : ∀ f r, (zlines tx f r).2.2.1 = r.2.2.1 ∧ ((zlines tx f r).1 = 0 → r.1 = 0) := by
  intro f
  induction f with
  | zero => intro r; exact ⟨rfl, fun h => h⟩
  | succ f ih =>
    intro r
    rw [zlines]
    split
    · rename_i q
      exact ⟨(ih _).1.trans line_keep, fun _ => q.1⟩
    · exact ⟨rfl, fun h => h⟩
theorem parse_two {tx : List Nat} (h : (zparse tx).1 = 0) : 2 ≤ (zparse tx).2.2.1 := by
  obtain ⟨r, hr⟩ : ∃ r, r = zline tx true (znext tx 0) (0, [], [], []) := ⟨_, rfl⟩
  obtain ⟨a1, a2⟩ := lines_keep (tx := tx) tx.length r
  have z1 : (zparse tx).1 = if (zlines tx tx.length r).1 = 0 then (if (zlines tx tx.length r).2.1.2.2 = 0 then (if zmany (zlines tx tx.length r).2.2.2.2.2 = 0 then 6 else 0) else 1) else (zlines tx tx.length r).1 := by rw [hr]; rfl
  have z2 : (zparse tx).2.2.1 = (zlines tx tx.length r).2.2.1 := by rw [hr]; rfl
  have r0 : (zlines tx tx.length r).1 = 0 := by
    by_cases q : (zlines tx tx.length r).1 = 0
    · exact q
    · rw [z1, if_neg q] at h; exact h
  rw [z2, a1, hr]
  have := a2 r0
  rw [hr] at this
  exact line_first this
def sNew (z : Nat × Nat × zRt) : zWs := ([], (z.2.2.1, z.2.2.2.2.1, z.2.2.2.2.2), (fun _ => 0), [], none, 0, z.2.1, 0)
def sBad (w : zWs) (z : Nat × Nat × zRt) : zWs := ([], w.2.1, w.2.2.1, w.2.2.2.1, w.2.2.2.2.1, z.1, z.2.1, 4)
def sp_script (a : Int32) (w : zWs) : Int32 × zWs := match zix a ((wTp w).length + 1) with
  | none => zrf w 2
  | some n => if (zparse ((wTp w).take n)).1 = 0 then (nI (zparse ((wTp w).take n)).2.2.2.2.2.length, sNew (zparse ((wTp w).take n))) else (-1, sBad w (zparse ((wTp w).take n)))
theorem okW_new {S : zM} {z : Nat × Nat × zRt} (h2 : 2 ≤ z.2.2.1) (hp : pCl S (sNew z)) (h0 : 0 < z.2.2.2.2.2.length) : okW (sNew z) := by
  obtain ⟨T, U, hm, _, _⟩ := hp
  have hs : pScr S T (z.2.2.1, z.2.2.2.2.1, z.2.2.2.2.2) (fun _ => 0) := hm.2.2.1.1
  obtain ⟨s1, s2, s3, s4, s5, s6, s7, s8, s9, s10⟩ := hs
  refine ⟨Nat.zero_le _, fun k => ?_, fun _ => ⟨h2, s7⟩, Nat.zero_le _, fun a ha => ?_, fun c hc => ?_, by show 0 < 8; omega, fun q => ?_, s10.1, fun p hp => ⟨?_, ?_⟩⟩
  · show lg [] k < 256; rw [lg_nil]; omega
  · exact absurd ha (List.not_mem_nil)
  · cases hc
  · have : z.2.2.2.2.2.length = 0 := q; omega
  · obtain ⟨nd, hn, _⟩ := (s6 p hp).2.2.2.2.2.1.2
    exact ⟨nd, hn⟩
  · show 0 < 2 ^ _; exact Nat.two_pow_pos _
theorem okW_bad {w : zWs} {z : Nat × Nat × zRt} (ho : okW w) : okW (sBad w z) := by
  obtain ⟨a1, a2, a3, a4, a5, a6, a7, a8⟩ := ho
  exact ⟨Nat.zero_le _, fun k => by show lg [] k < 256; rw [lg_nil]; omega, a3, a4, a5, a6, by show 4 < 8; omega, a8⟩
theorem jCe_fq {W V : Nat → Nat → Prop} {S S' : zM} (h : jCe S) (hf : zfq W V S S') (hw : ∀ b j, W b j ∨ V b j → b < 447) (hv : ¬ V 1 12) (h4 : 446 ≤ zn S) : jCe S' := by
  rcases h with ⟨q, z⟩ | ⟨E, q, e1, e2, e3, e4⟩
  · exact Or.inl ⟨by rw [fq_R hf hv]; exact q, fz_fq z hf hw h4⟩
  · exact Or.inr ⟨E, by rw [fq_R hf hv]; exact q, e1, by rw [fq_n hf]; exact e2, kCen_fq e3 hf (fun j _ x => by have := hw _ _ (Or.inr x); omega) (fun j x => by have := hw _ _ (Or.inr x); omega) (fun j x => by have := hw _ _ (Or.inr x); omega), rCen_sm e4 (sm_fq hf (fun b j h1 h2 => ⟨fun q => by have := hw b j (Or.inl q); omega, fun q => by have := hw b j (Or.inr q); omega⟩))⟩
theorem cCe_fq {W V : Nat → Nat → Prop} {S S' : zM} {w : zWs} (h : cCe S w) (hf : zfq W V S S') (hw : ∀ b j, W b j ∨ V b j → b < 447) (hv : ¬ V 1 12) (h4 : 446 ≤ zn S) : cCe S' w := by
  rcases h with ⟨q, z⟩ | ⟨E, K, B, q, e⟩
  · exact Or.inl ⟨by rw [fq_R hf hv]; exact q, fz_fq z hf hw h4⟩
  · exact Or.inr ⟨E, K, B, by rw [fq_R hf hv]; exact q, eCe_low e hf hw⟩
/-- behind the reading -/
def wRe (U : Nat) (b j : Nat) : Prop := (b = 1 ∧ (j = 13 ∨ j = 14 ∨ j = 15)) ∨ b = 3 ∨ (U ≤ b ∧ b < U + 172)
theorem cl_read {S : zM} {w : zWs} {T U n : Nat} (hm : cMn S w T U) (ho : okW w) (hn : n ≤ (wTp w).length) : ∃ S4, f_Reader_read 3 2 (nI n) U (zwI S 1 13 0) = some (nI (zparse ((wTp w).take n)).1, S4) ∧ zfq (wRe U) (fun b _ => b = 3) S (zwI (zwI S4 1 14 (nI (zparse ((wTp w).take n)).1)) 1 15 (nI (zparse ((wTp w).take n)).2.1)) ∧ zfq (wRe U) (fun b _ => b = 3) S S4 ∧ aScr S4 U ∧ zI S4 3 7 = nI (zparse ((wTp w).take n)).2.1 ∧ zI S4 1 13 = 0 ∧ ((zparse ((wTp w).take n)).1 = 0 → pScr S4 U ((zparse ((wTp w).take n)).2.2.1, (zparse ((wTp w).take n)).2.2.2.2.1, (zparse ((wTp w).take n)).2.2.2.2.2) (fun _ => 0) ∧ 0 < (zparse ((wTp w).take n)).2.2.2.2.2.length) := by
  have hTU := wTU hm
  obtain ⟨h1, r0, h2, r1, h3, r2, r3, r4, r5, r6, r7, h39, r8, r9, h62, r62, h63, r10, r11, tu, n4⟩ := hm.1
  obtain ⟨d1, d2, d3, d4, d5, d6, d7⟩ := hm.2.1
  have l9 := ho.1
  have hl : ((wTp w).take n).length = n := by simp; omega
  have f1 : zfr (fun b j => b = 1 ∧ j = 13) S (zwI S 1 13 0) := fr_wI _ _ ⟨rfl, rfl⟩
  have aU : aScr (zwI S 1 13 0) U := aScr_sm hm.2.2.1.2.1 (sm_fr f1 (fun b j q1 q2 => by omega))
  obtain ⟨S4, e4, g4, a4, i7, ok⟩ := read (S := zwI S 1 13 0) (rd := 3) (q := 2) (T := U) (tx := (wTp w).take n) (n := n) (len := 0) (by unfold dRd; omega) h3 h2 (fun k hk => by
    rw [hl] at hk
    rw [fr_I f1 (by omega), lg_take hk]; exact d2 k (by omega)) hl (by omega) (fun k => by
    by_cases q : k < n
    · rw [lg_take q]; exact ho.2.1 k
    · rw [lg_out (by omega)]; omega) aU
  have g5 : zfq (wRe U) (fun b _ => b = 3) S S4 := fq_trans (fq_fr (fr_mono f1 (fun b j q => by unfold wRe; omega))) (fq_mono g4 (fun b j q => by unfold wLn at q; unfold wRe; omega) (fun b j q => q.1))
  refine ⟨S4, e4, fq_trans g5 (fq_fr (fr_trans (fr_wI _ _ (by unfold wRe; omega)) (fr_wI _ _ (by unfold wRe; omega)))), g5, a4, i7, ?_, ok⟩
  rw [fq_I g4 (by unfold wLn; omega)]; simp [-Prod.exists, -Prod.forall, zgf, zgr, zpf, zpz, zpr, zga, zgl, zgo, zpa, zpb, zpl, zpo, mm_len, zcl, Option.bind_some, Option.bind_none, mm_hI, mm_hJ, mm_hR, mm_nI, mm_nJ, mm_nR, mm_sI, mm_sJ, mm_sR, mm_RI, mm_RJ, mm_IJ, mm_IR, mm_JI, mm_JR, mm_II, mm_JJ, mm_RR]
