/-! both objects as they lie there -/
def cRf (S : zM) (T U : Nat) : Prop := zh S 1 = (11, 0) ∧ zR S 1 0 = some 2 ∧ zh S 2 = (100, 900) ∧ zR S 1 1 = some 3 ∧ zh S 3 = (7, 0) ∧ zR S 1 2 = some 5 ∧ zR S 1 3 = some 19 ∧ zR S 1 4 = some 33 ∧ zR S 1 5 = some 35 ∧ zR S 1 6 = some 37 ∧ zR S 1 7 = some 39 ∧ zh S 39 = (100, 61) ∧ zR S 1 8 = some 40 ∧ zR S 1 9 = some 62 ∧ zh S 62 = (0, 0) ∧ zR S 62 0 = some 63 ∧ zh S 63 = (100, 12) ∧ zR S 1 10 = some T ∧ zR S 1 11 = some U ∧ ((T = 64 ∧ U = 236) ∨ (T = 236 ∧ U = 64)) ∧ 446 ≤ zn S
def cDt (S : zM) (w : zWs) : Prop := zI S 1 13 = nI (wTp w).length ∧ (∀ k, k < (wTp w).length → zI S 2 k = nI (lg (wTp w) k)) ∧ zI S 62 1 = nI (wAc w).length ∧ (∀ k, k < (wAc w).length → zI S 63 k = nI (lg (wAc w) k)) ∧ zI S 1 14 = nI (wFa w) ∧ zI S 1 15 = nI (wPl w) ∧ zI S 1 17 = (if (wCa w).isSome then 1 else 0)
def cSp (S : zM) (w : zWs) (T U : Nat) : Prop := pScr S T (wSc w) (wAs w) ∧ aScr S U ∧ aScr S T
def cLt (S : zM) (w : zWs) : Prop := ∃ x y, aCar S 5 x y ∧ ∀ c, wCa w = some c → pRow S x 60 c.1 ∧ pSv S 5 c.2.2.2 ∧ ∀ q, q < 3 → q < (wSc w).2.2.length → pRow S (13 + 2 * q) 60 (c.2.1 q) ∧ zI S 7 q = nI (c.2.2.1 q)
def cSr (S : zM) : Prop := (∃ x y, aCar S 19 x y) ∧ (∃ ws, pRow S 33 8 ws) ∧ (∃ ws, pRow S 35 8 ws) ∧ (∃ ws, pRow S 37 60 ws) ∧ sPcs S 40
/-- the census at E, and what it knows -/
def eCe (S : zM) (w : zWs) (E K B : Nat) : Prop := 447 ≤ E ∧ E + 31 ≤ zn S + 1 ∧ kCen S E ∧ rCen S E ∧ zI S E 10 = nI K ∧ zI S E 11 = nI B ∧ B ≤ K ∧ (K = 0 ∨ (0 < (wSc w).2.2.length ∧ K ≤ zcnt (wSc w).1 5)) ∧ dCen S E (wSc w).1 (wSc w).2.2 (wAs w) K ∧ bCen S E (wSc w).1 (wSc w).2.2 (wAs w) B ∧ wCen S E (wSc w).1 (wSc w).2.2 (wAs w)
/-- cells that aren't there yet are empty -/
def zfz (S : zM) : Prop := ∀ b j, zn S < b → zI S b j = 0 ∧ zJ S b j = 0 ∧ zR S b j = none
theorem fz_fq {W V : Nat → Nat → Prop} {S S' : zM} (h : zfz S) (hf : zfq W V S S') (hw : ∀ b j, W b j ∨ V b j → b < 447) (h4 : 446 ≤ zn S) : zfz S' := fun b j hb => by
  rw [fq_n hf] at hb
  rw [fq_I hf (fun q => by have := hw b j (Or.inl q); omega), fq_J hf (fun q => by have := hw b j (Or.inl q); omega), fq_R hf (fun q => by have := hw b j (Or.inr q); omega)]
  exact h b j hb
def cCe (S : zM) (w : zWs) : Prop := (zR S 1 12 = none ∧ zfz S) ∨ ∃ E K B, zR S 1 12 = some E ∧ eCe S w E K B
def cMn (S : zM) (w : zWs) (T U : Nat) : Prop := cRf S T U ∧ cDt S w ∧ cSp S w T U ∧ cLt S w ∧ cCe S w
def pCl (S : zM) (w : zWs) : Prop := ∃ T U, cMn S w T U ∧ cSr S ∧ zI S 1 16 = nI (wTr w)
/-! frames -/
def wSr (b j : Nat) : Prop := (b = 1 ∧ j = 16) ∨ (19 ≤ b ∧ b < 62)
def vSr (b j : Nat) : Prop := 19 ≤ b ∧ b < 62
theorem dCen_fq {W V : Nat → Nat → Prop} {S S' : zM} {E L K : Nat} {ps : List zPs} {asd : Nat → Nat} (h : dCen S E L ps asd K) (hf : zfq W V S S') (h1 : ∀ b j, W b j ∨ V b j → b < E + 2 ∨ E + 29 ≤ b ∨ (E + 5 ≤ b ∧ b < E + 27)) : dCen S' E L ps asd K :=
  dCen_sm h (sm_fq hf (fun b j a c => ⟨fun w => by have := h1 b j (Or.inl w); omega, fun w => by have := h1 b j (Or.inr w); omega⟩)) (sm_fq hf (fun b j a c => ⟨fun w => by have := h1 b j (Or.inl w); omega, fun w => by have := h1 b j (Or.inr w); omega⟩))
theorem eCe_low {W V : Nat → Nat → Prop} {S S' : zM} {w : zWs} {E K B : Nat} (h : eCe S w E K B) (hf : zfq W V S S') (hw : ∀ b j, W b j ∨ V b j → b < 447) : eCe S' w E K B := by
  obtain ⟨a1, a2, a3, a4, a5, a6, a7, a8, a9, a10, a11⟩ := h
  have nW : ∀ b j, 447 ≤ b → ¬ W b j := fun b j q r => by have := hw b j (Or.inl r); omega
  have nV : ∀ b j, 447 ≤ b → ¬ V b j := fun b j q r => by have := hw b j (Or.inr r); omega
  refine ⟨a1, by rw [fq_n hf]; exact a2, kCen_fq a3 hf (fun j _ => nV _ _ (by omega)) (fun j => nV _ _ (by omega)) (fun j => nV _ _ (by omega)), rCen_sm a4 (sm_fq hf (fun b j h1 h2 => ⟨nW _ _ (by omega), nV _ _ (by omega)⟩)), by rw [fq_I hf (nW _ _ (by omega))]; exact a5, by rw [fq_I hf (nW _ _ (by omega))]; exact a6, a7, a8, dCen_fq a9 hf (fun b j h => by have := hw b j h; omega), fun i hi => by rw [fq_I hf (nW _ _ (by omega))]; exact a10 i hi, fun n hn => by rw [fq_I hf (nW _ _ (by omega))]; exact a11 n hn⟩
theorem cRf_fq {W V : Nat → Nat → Prop} {S S' : zM} {T U : Nat} (h : cRf S T U) (hf : zfq W V S S') (h1 : ∀ j, j < 12 → ¬ V 1 j) (h2 : ¬ V 62 0) : cRf S' T U := by
  unfold cRf at h ⊢
  rw [fq_h hf, fq_n hf, fq_R hf (h1 0 (by omega)), fq_R hf (h1 1 (by omega)), fq_R hf (h1 2 (by omega)), fq_R hf (h1 3 (by omega)), fq_R hf (h1 4 (by omega)), fq_R hf (h1 5 (by omega)), fq_R hf (h1 6 (by omega)), fq_R hf (h1 7 (by omega)), fq_R hf (h1 8 (by omega)), fq_R hf (h1 9 (by omega)), fq_R hf (h1 10 (by omega)), fq_R hf (h1 11 (by omega)), fq_R hf h2]
  exact h
theorem cDt_fq {W V : Nat → Nat → Prop} {S S' : zM} {w : zWs} (h : cDt S w) (hf : zfq W V S S') (h1 : ¬ W 1 13 ∧ ¬ W 1 14 ∧ ¬ W 1 15 ∧ ¬ W 1 17) (h2 : ∀ b j, b = 2 ∨ b = 62 ∨ b = 63 → ¬ W b j) : cDt S' w := by
  obtain ⟨a1, a2, a3, a4, a5, a6, a7⟩ := h
  exact ⟨by rw [fq_I hf h1.1]; exact a1, fun k hk => by rw [fq_I hf (h2 _ _ (by omega))]; exact a2 k hk, by rw [fq_I hf (h2 _ _ (by omega))]; exact a3, fun k hk => by rw [fq_I hf (h2 _ _ (by omega))]; exact a4 k hk, by rw [fq_I hf h1.2.1]; exact a5, by rw [fq_I hf h1.2.2.1]; exact a6, by rw [fq_I hf h1.2.2.2]; exact a7⟩
theorem aScr_as {W V : Nat → Nat → Prop} {S S' : zM} {T : Nat} (h : aScr S T) (hf : zfq W V S S') (hW : ∀ b j, T ≤ b → b < T + 172 → W b j → j = 5 ∧ (b = T + 4 ∨ b = T + 60 ∨ b = T + 116)) (hV : ∀ b j, T ≤ b → b < T + 172 → ¬ V b j) : aScr S' T := by
  obtain ⟨⟨b1, b2, b3, b4, b5, b6, b7, b8⟩, bA⟩ := h
  have rr : ∀ b j, T ≤ b → b < T + 172 → zR S' b j = zR S b j := fun b j q1 q2 => fq_R hf (hV b j q1 q2)
  refine ⟨⟨by rw [fq_h hf]; exact b1, by rw [rr _ _ (by omega) (by omega)]; exact b2, by rw [fq_h hf]; exact b3, by rw [rr _ _ (by omega) (by omega)]; exact b4, by rw [fq_h hf]; exact b5, by rw [rr _ _ (by omega) (by omega)]; exact b6, by rw [fq_h hf]; exact b7, fun p hp => by rw [rr _ _ (by omega) (by omega)]; exact b8 p hp⟩, fun p hp => ?_⟩
  obtain ⟨⟨a1, a2, a3, a4, a5, a6⟩, c1, c2, c3⟩ := bA p hp
  have aT : T + 4 ≤ aPs T p ∧ aPs T p + 56 ≤ T + 172 := by unfold aPs; omega
  have sm : zsm (aPs T p + 1) (aPs T p + 56) S S' := sm_fq hf (fun b j h1 h2 => ⟨fun q => by have := hW b j (by omega) (by omega) q; unfold aPs at h1 h2; omega, hV b j (by omega) (by omega)⟩)
  refine ⟨⟨by rw [fq_h hf]; exact a1, by rw [rr _ _ (by omega) (by omega)]; exact a2, by rw [fq_h hf]; exact a3, fun i hi => by rw [rr _ _ (by omega) (by omega)]; exact a4 i hi, by rw [rr _ _ (by omega) (by omega)]; exact a5, by rw [rr _ _ (by omega) (by omega)]; exact a6⟩, sMach_sm c1 sm (by omega) (by omega), sMach_sm c2 sm (by omega) (by omega), fun i hi => ?_⟩
  obtain ⟨ru, hr⟩ := c3 i hi
  exact ⟨ru, rule_sm hr sm (by omega) (by omega)⟩
theorem cSp_fq {W V : Nat → Nat → Prop} {S S' : zM} {w : zWs} {T U : Nat} (h : cSp S w T U) (hf : zfq W V S S') (hTU : (T = 64 ∧ U = 236) ∨ (T = 236 ∧ U = 64)) (h2 : ∀ b j, 64 ≤ b → b < 408 → ¬ W b j ∧ ¬ V b j) : cSp S' w T U :=
  ⟨scr_sm h.1 (sm_fq (lo := T) (hi := T + 172) hf (fun b j a c => h2 b j (by omega) (by omega))) (by omega) (by omega), aScr_sm h.2.1 (sm_fq hf (fun b j a c => h2 b j (by omega) (by omega))), aScr_sm h.2.2 (sm_fq hf (fun b j a c => h2 b j (by omega) (by omega)))⟩
theorem cLt_fq {W V : Nat → Nat → Prop} {S S' : zM} {w : zWs} (h : cLt S w) (hf : zfq W V S S') (h2 : ∀ b j, 5 ≤ b → b < 19 → ¬ W b j ∧ ¬ V b j) : cLt S' w := by
  obtain ⟨x, y, a, b⟩ := h
  have sm : zsm 5 19 S S' := sm_fq hf (fun b j a c => h2 b j a c)
  have hx : (x = 5 + 4 ∧ y = 5 + 6) ∨ (x = 5 + 6 ∧ y = 5 + 4) := a.1.2.2.2.2.2.2.2.2.2.2
  refine ⟨x, y, aCar_sm a sm (by omega) (by omega), fun c hc => ?_⟩
  obtain ⟨b1, b2, b3⟩ := b c hc
  refine ⟨row_sm b1 sm (by omega) (by omega), ⟨fun k hk => by rw [fq_I hf (h2 _ _ (by omega) (by omega)).1]; exact b2.1 k hk, by rw [fq_I hf (h2 _ _ (by omega) (by omega)).1]; exact b2.2⟩, fun q q3 hq => ?_⟩
  obtain ⟨z1, z2⟩ := b3 q q3 hq
  exact ⟨row_sm z1 sm (by omega) (by omega), by rw [fq_I hf (h2 _ _ (by omega) (by omega)).1]; exact z2⟩
theorem cSr_fq {W V : Nat → Nat → Prop} {S S' : zM} (h : cSr S) (hf : zfq W V S S') (h2 : ∀ b j, 19 ≤ b → b < 62 → ¬ W b j ∧ ¬ V b j) : cSr S' := by
  obtain ⟨⟨x, y, a⟩, ⟨w1, r1⟩, ⟨w2, r2⟩, ⟨w3, r3⟩, s1, s2, s3, s4, s5, s6, s7, s8, s9, s10, s11, s12⟩ := h
  have sm : zsm 19 62 S S' := sm_fq hf (fun b j a c => h2 b j a c)
  have eR : ∀ b j, 19 ≤ b → b < 62 → zR S' b j = zR S b j := fun b j a c => (sm.2 b j a c).1
  refine ⟨⟨x, y, aCar_sm a sm (by omega) (by omega)⟩, ⟨w1, row_sm r1 sm (by omega) (by omega)⟩, ⟨w2, row_sm r2 sm (by omega) (by omega)⟩, ⟨w3, row_sm r3 sm (by omega) (by omega)⟩, by rw [sm.1]; exact s1, by rw [eR _ _ (by omega) (by omega)]; exact s2, by rw [sm.1]; exact s3, by rw [eR _ _ (by omega) (by omega)]; exact s4, by rw [sm.1]; exact s5, by rw [eR _ _ (by omega) (by omega)]; exact s6, by rw [sm.1]; exact s7, by rw [eR _ _ (by omega) (by omega)]; exact s8, by rw [sm.1]; exact s9, by rw [eR _ _ (by omega) (by omega)]; exact s10, by rw [sm.1]; exact s11, fun l hl => ⟨by rw [eR _ _ (by omega) (by omega)]; exact (s12 l hl).1, row_sm (s12 l hl).2 sm (by omega) (by omega)⟩⟩
theorem cMn_sr {W V : Nat → Nat → Prop} {S S' : zM} {w : zWs} {T U : Nat} (h : cMn S w T U) (hf : zfq W V S S') (hw : ∀ b j, W b j → wSr b j) (hv : ∀ b j, V b j → vSr b j) : cMn S' w T U := by
  obtain ⟨a1, a2, a3, a4, a5⟩ := h
  have hTU := a1.2.2.2.2.2.2.2.2.2.2.2.2.2.2.2.2.2.2.2.1
  have nV : ∀ b j, b < 19 ∨ 62 ≤ b → ¬ V b j := fun b j q r => by have := hv b j r; unfold vSr at this; omega
  have nW : ∀ b j, (b = 1 ∧ j ≠ 16) ∨ (b ≠ 1 ∧ (b < 19 ∨ 62 ≤ b)) → ¬ W b j := fun b j q r => by have := hw b j r; unfold wSr at this; omega
  refine ⟨cRf_fq a1 hf (fun j _ => nV _ _ (by omega)) (nV _ _ (by omega)), cDt_fq a2 hf ⟨nW _ _ (by omega), nW _ _ (by omega), nW _ _ (by omega), nW _ _ (by omega)⟩ (fun b j q => nW _ _ (by omega)), cSp_fq a3 hf hTU (fun b j q r => ⟨nW _ _ (by omega), nV _ _ (by omega)⟩), cLt_fq a4 hf (fun b j q r => ⟨nW _ _ (by omega), nV _ _ (by omega)⟩), ?_⟩
  rcases a5 with q | ⟨E, K, B, q, e⟩
  · left; exact ⟨by rw [fq_R hf (nV _ _ (by omega))]; exact q.1, fz_fq q.2 hf (fun b j r => by
      rcases r with r | r
      · have := hw b j r; unfold wSr at this; omega
      · have := hv b j r; unfold vSr at this; omega) a1.2.2.2.2.2.2.2.2.2.2.2.2.2.2.2.2.2.2.2.2⟩
  · right
    refine ⟨E, K, B, by rw [fq_R hf (nV _ _ (by omega))]; exact q, eCe_low e hf (fun b j h => ?_)⟩
    rcases h with h | h
    · have := hw b j h; unfold wSr at this; omega
    · have := hv b j h; unfold vSr at this; omega
