/-! the census, there or made -/
theorem cRf_rh {S : zM} {T U : Nat} {h : Nat → Nat × Nat} {n s : Nat} (q : cRf S T U) (hh : ∀ b, b < 447 → h b = zh S b) (hn : 446 ≤ n) : cRf (zrh S h n s) T U := by
  obtain ⟨h1, r0, h2, r1, h3, r2, r3, r4, r5, r6, r7, h39, r8, r9, h62, r62, h63, r10, r11, tu, _⟩ := q
  exact ⟨by rw [rh_h, hh _ (by omega)]; exact h1, r0, by rw [rh_h, hh _ (by omega)]; exact h2, r1, by rw [rh_h, hh _ (by omega)]; exact h3, r2, r3, r4, r5, r6, r7, by rw [rh_h, hh _ (by omega)]; exact h39, r8, r9, by rw [rh_h, hh _ (by omega)]; exact h62, r62, by rw [rh_h, hh _ (by omega)]; exact h63, r10, r11, tu, hn⟩
theorem cLt_rh {S : zM} {w : zWs} {h : Nat → Nat × Nat} {n s : Nat} (q : cLt S w) (hh : ∀ b, b < 447 → h b = zh S b) : cLt (zrh S h n s) w := by
  obtain ⟨x, y, a, b⟩ := q
  have hx : (x = 5 + 4 ∧ y = 5 + 6) ∨ (x = 5 + 6 ∧ y = 5 + 4) := a.1.2.2.2.2.2.2.2.2.2.2
  refine ⟨x, y, rh_car hh a (by omega), fun c hc => ?_⟩
  obtain ⟨b1, b2, b3⟩ := b c hc
  exact ⟨rh_row hh b1 (by omega), b2, fun q q3 hq => ⟨rh_row hh (b3 q q3 hq).1 (by omega), (b3 q q3 hq).2⟩⟩
theorem cSr_rh {S : zM} {h : Nat → Nat × Nat} {n s : Nat} (q : cSr S) (hh : ∀ b, b < 447 → h b = zh S b) : cSr (zrh S h n s) := by
  obtain ⟨⟨x, y, a⟩, ⟨w1, r1⟩, ⟨w2, r2⟩, ⟨w3, r3⟩, hp⟩ := q
  exact ⟨⟨x, y, rh_car hh a (by omega)⟩, ⟨w1, rh_row hh r1 (by omega)⟩, ⟨w2, rh_row hh r2 (by omega)⟩, ⟨w3, rh_row hh r3 (by omega)⟩, rh_pcs hh hp (by omega)⟩
theorem ct_no (N : Nat) : fb_ct (fun s => decide ((fun _ : Nat => (0 : Nat)) s ≠ 0)) N = 0 := by
  induction N with
  | zero => rfl
  | succ N ih => rw [fb_ct, ih]; simp
section
variable {S : zM} {w : zWs} {T U : Nat}
theorem wTU (hm : cMn S w T U) : (T = 64 ∧ U = 236) ∨ (T = 236 ∧ U = 64) := hm.1.2.2.2.2.2.2.2.2.2.2.2.2.2.2.2.2.2.2.2.1
theorem wzn (hm : cMn S w T U) : 446 ≤ zn S := hm.1.2.2.2.2.2.2.2.2.2.2.2.2.2.2.2.2.2.2.2.2
/-- the census made -/
theorem cl_made (hm : cMn S w T U) (hs : cSr S) (hr : zR S 1 12 = none) (hz : zfz S) : ∃ S1, f_Census_init (zn S + 1) (zalloc S 2 0 12) = some S1 ∧ (zh S1 1).1 = 11 ∧ cMn (zwR S1 1 12 (some (zn S + 1))) w T U ∧ cSr (zwR S1 1 12 (some (zn S + 1))) ∧ eCe (zwR S1 1 12 (some (zn S + 1))) w (zn S + 1) 0 0 ∧ zR (zwR S1 1 12 (some (zn S + 1))) 1 12 = some (zn S + 1) ∧ zko S (zwR S1 1 12 (some (zn S + 1))) ∧ zn S1 = zn S + 31 ∧ zs S1 ≤ zs S + 30000 ∧ ∀ xs, pRow S 33 8 xs → pRow (zwR S1 1 12 (some (zn S + 1))) 33 8 xs := by
  obtain ⟨S1, a1, a2, a3, a4, a5, a6, a7, a8, a9⟩ := cen_new hz
  have n4 := wzn hm
  have hTU := wTU hm
  have hh : ∀ b, b < 447 → zh S1 b = zh S b := fun b hb => (a4 b (by omega)).1
  have fq : zfq (fun b _ => zn S < b) (fun b j => zn S < b ∨ (b = 1 ∧ j = 12)) (zrh S (zh S1) (zn S1) (zs S1)) (zwR S1 1 12 (some (zn S + 1))) := by
    refine ⟨rfl, fun b j q => ?_, fun b j q => ?_⟩
    · rw [rh_R]
      have q1 : ¬ zn S < b := fun x => q (Or.inl x)
      have q2 : ¬ (b = 1 ∧ j = 12) := fun x => q (Or.inr x)
      have := ((a4 b (by omega)).2 j).2.2
      simp [-Prod.exists, -Prod.forall, zgf, zgr, zpf, zpz, zpr, zga, zgl, zgo, zpa, zpb, zpl, zpo, mm_len, zcl, Option.bind_some, Option.bind_none, mm_hI, mm_hJ, mm_hR, mm_nI, mm_nJ, mm_nR, mm_sI, mm_sJ, mm_sR, mm_RI, mm_RJ, mm_IJ, mm_IR, mm_JI, mm_JR, mm_II, mm_JJ, mm_RR, q2, this]
    · have q1 : b ≤ zn S := by omega
      exact ⟨((a4 b q1).2 j).1, ((a4 b q1).2 j).2.1⟩
  have nV : ∀ b j, b < 447 → ¬ (b = 1 ∧ j = 12) → ¬ (zn S < b ∨ (b = 1 ∧ j = 12)) := fun b j h1 h2 => by omega
  have s7 : cSr (zwR S1 1 12 (some (zn S + 1))) := cSr_fq (cSr_rh hs hh) fq (fun b j h1 h2 => ⟨by omega, by omega⟩)
  have k7 : kCen (zwR S1 1 12 (some (zn S + 1))) (zn S + 1) := kCen_fq a6 (fq_wR (V := fun b j => b = 1 ∧ j = 12) (W := fun _ _ => False) _ _ ⟨rfl, rfl⟩) (fun j _ => by omega) (fun j => by omega) (fun j => by omega)
  have r7 : rCen (zwR S1 1 12 (some (zn S + 1))) (zn S + 1) := rCen_sm a7 (sm_fq (fq_wR (V := fun b j => b = 1 ∧ j = 12) (W := fun _ _ => False) _ _ ⟨rfl, rfl⟩) (fun b j h1 h2 => ⟨fun x => x, by omega⟩))
  have e7 : eCe (zwR S1 1 12 (some (zn S + 1))) w (zn S + 1) 0 0 := by
    refine ⟨by omega, by show zn S + 1 + 31 ≤ zn S1 + 1; omega, k7, r7, ?_, ?_, by omega, Or.inl rfl, ⟨fun i hi => by omega, ⟨fun _ => 0, fun s hs => ?_, ⟨fun s hs => Or.inl rfl, fun j hj => by omega, Nat.le_of_eq (ct_no _)⟩⟩, fun i hi => by omega⟩, fun i hi => by omega, fun n hn => Or.inl (a9 n hn)⟩
    · exact a8 (zn S + 1) 10 (by omega) (by omega)
    · exact a8 (zn S + 1) 11 (by omega) (by omega)
    · exact a8 (zn S + 1 + 1 + 3) s (by omega) (by omega)
  have m7 : cMn (zwR S1 1 12 (some (zn S + 1))) w T U := by
    refine ⟨cRf_fq (cRf_rh hm.1 hh (by omega)) fq (fun j hj => nV _ _ (by omega) (by omega)) (nV _ _ (by omega) (by omega)), cDt_fq (S := zrh S (zh S1) (zn S1) (zs S1)) hm.2.1 fq ⟨by omega, by omega, by omega, by omega⟩ (fun b j q => by omega), cSp_fq (S := zrh S (zh S1) (zn S1) (zs S1)) ⟨rh_scr hh hm.2.2.1.1 (by omega), rh_aScr hh hm.2.2.1.2.1 (by omega), rh_aScr hh hm.2.2.1.2.2 (by omega)⟩ fq hTU (fun b j q r => ⟨by omega, nV _ _ (by omega) (by omega)⟩), cLt_fq (cLt_rh hm.2.2.2.1 hh) fq (fun b j q r => ⟨by omega, nV _ _ (by omega) (by omega)⟩), Or.inr ⟨_, 0, 0, by simp [-Prod.exists, -Prod.forall, zgf, zgr, zpf, zpz, zpr, zga, zgl, zgo, zpa, zpb, zpl, zpo, mm_len, zcl, Option.bind_some, Option.bind_none, mm_hI, mm_hJ, mm_hR, mm_nI, mm_nJ, mm_nR, mm_sI, mm_sJ, mm_sR, mm_RI, mm_RJ, mm_IJ, mm_IR, mm_JI, mm_JR, mm_II, mm_JJ, mm_RR], e7⟩⟩
  refine ⟨S1, a1, by rw [hh 1 (by omega), hm.1.1], m7, s7, e7, by simp [-Prod.exists, -Prod.forall, zgf, zgr, zpf, zpz, zpr, zga, zgl, zgo, zpa, zpb, zpl, zpo, mm_len, zcl, Option.bind_some, Option.bind_none, mm_hI, mm_hJ, mm_hR, mm_nI, mm_nJ, mm_nR, mm_sI, mm_sJ, mm_sR, mm_RI, mm_RJ, mm_IJ, mm_IR, mm_JI, mm_JR, mm_II, mm_JJ, mm_RR], fun b hb => ⟨hh b (by omega), fun j => ?_⟩, a2, a3, fun xs hx => ?_⟩
  · have x := (a4 b (by omega)).2 j
    have : ¬ (b = 1 ∧ j = 12) := by omega
    refine ⟨?_, x.1, x.2.1⟩
    simp [-Prod.exists, -Prod.forall, zgf, zgr, zpf, zpz, zpr, zga, zgl, zgo, zpa, zpb, zpl, zpo, mm_len, zcl, Option.bind_some, Option.bind_none, mm_hI, mm_hJ, mm_hR, mm_nI, mm_nJ, mm_nR, mm_sI, mm_sJ, mm_sR, mm_RI, mm_RJ, mm_IJ, mm_IR, mm_JI, mm_JR, mm_II, mm_JJ, mm_RR, this, x.2.2]
  · exact row_sm (rh_row (n := zn S1) (s := zs S1) hh hx (by omega)) (sm_fq (lo := 33) (hi := 35) fq (fun b j h1 h2 => ⟨by omega, by omega⟩)) (by omega) (by omega)
/-- behind what was done to the census alone -/
theorem cMn_ce {S' : zM} {E K B : Nat} {W V : Nat → Nat → Prop} (hm : cMn S w T U) (hs : cSr S) (hf : zfq W V S S') (hW : ∀ b j, W b j → 447 ≤ b ∨ (j = 5 ∧ (b = T + 4 ∨ b = T + 60 ∨ b = T + 116))) (hV : ∀ b j, V b j → 447 ≤ b) (hS : pScr S' T (wSc w) (wAs w)) (hE : zR S 1 12 = some E) (he : eCe S' w E K B) : cMn S' w T U ∧ cSr S' ∧ zko S S' ∧ zrm S S' ∧ zR S' 1 12 = some E ∧ ∀ xs, pRow S 33 8 xs → pRow S' 33 8 xs := by
  have hTU := wTU hm
  obtain ⟨a1, a2, a3, a4, a5⟩ := hm
  have nW : ∀ b j, b < 447 → ¬ (T ≤ b ∧ b < T + 172) → ¬ W b j := fun b j q1 q2 q => by have := hW b j q; omega
  have nV : ∀ b j, b < 447 → ¬ V b j := fun b j q1 q => by have := hV b j q; omega
  have e : zR S' 1 12 = some E := by rw [fq_R hf (nV _ _ (by omega))]; exact hE
  refine ⟨⟨cRf_fq a1 hf (fun j _ => nV _ _ (by omega)) (nV _ _ (by omega)), cDt_fq a2 hf ⟨nW _ _ (by omega) (by omega), nW _ _ (by omega) (by omega), nW _ _ (by omega) (by omega), nW _ _ (by omega) (by omega)⟩ (fun b j q => nW _ _ (by omega) (by omega)), ⟨hS, aScr_sm a3.2.1 (sm_fq hf (fun b j a c => ⟨nW _ _ (by omega) (by omega), nV _ _ (by omega)⟩)), aScr_as a3.2.2 hf (fun b j a c q => by have := hW b j q; omega) (fun b j a c => nV _ _ (by omega))⟩, cLt_fq a4 hf (fun b j q r => ⟨nW _ _ (by omega) (by omega), nV _ _ (by omega)⟩), Or.inr ⟨E, K, B, e, he⟩⟩, cSr_fq hs hf (fun b j q r => ⟨nW _ _ (by omega) (by omega), nV _ _ (by omega)⟩), ko_fq hf (fun b j q => ?_), Or.inl ⟨by rw [e, hE], fq_n hf, fq_s hf⟩, e, fun xs hx => row_sm hx (sm_fq (lo := 33) (hi := 35) hf (fun b j h1 h2 => ⟨nW _ _ (by omega) (by omega), nV _ _ (by omega)⟩)) (by omega) (by omega)⟩
  rcases q with q | q
  · have := hW b j q; omega
  · have := hV b j q; omega
theorem eCe_q {E K B : Nat} (hm : cMn S w T U) (ho : okW w) (hp : 0 < (wSc w).2.2.length) (he : eCe S w E K B) (h9 : zR S E 9 = some T) : qCen S E T (wSc w) (wAs w) K := by
  obtain ⟨a1, a2, a3, a4, a5, a6, a7, a8, a9, a10, a11⟩ := he
  exact ⟨a3, hm.2.2.1.1, h9, ho.2.2.1 hp, by rcases a8 with q | q <;> omega, a9⟩
/-- it learns -/
theorem cl_learn {E K B n : Nat} (hm : cMn S w T U) (hs : cSr S) (ho : okW w) (hp : 0 < (wSc w).2.2.length) (hn : n ≤ 5) (hE : zR S 1 12 = some E) (he : eCe S w E K B) : ∃ S', f_Census_learn E T (nI n) S = some S' ∧ cMn S' w T U ∧ cSr S' ∧ zko S S' ∧ zrm S S' ∧ zR S' 1 12 = some E ∧ eCe S' w E (max K (zcnt (wSc w).1 n)) B ∧ zR S' E 9 = some T ∧ ∀ xs, pRow S 33 8 xs → pRow S' 33 8 xs := by
  have hTU := wTU hm
  have hL := ho.2.2.1 hp
  have he0 := he
  obtain ⟨a1, a2, a3, a4, a5, a6, a7, a8, a9, a10, a11⟩ := he
  have c5 := cnt_le (n := n) hL hn
  obtain ⟨S', l1, l2, l3, l4, l5, l6⟩ := cen_learn (by omega) a3 a4 hm.2.2.1.1 (by omega) hL hn (by rcases a8 with q | q <;> omega) a5 a9
  have he' : eCe S' w E (max K (zcnt (wSc w).1 n)) B := by
    refine ⟨a1, by rw [fq_n l2]; exact a2, kCen_fq a3 l2 (fun j _ => by unfold vCen; omega) (fun j => by unfold vCen; omega) (fun j => by unfold vCen; omega), l4, l5, by rw [fq_I l2 (by unfold wLn1; omega)]; exact a6, by omega, Or.inr ⟨hp, by rcases a8 with q | q <;> omega⟩, l6, fun i hi => by rw [fq_I l2 (by unfold wLn1; omega)]; exact a10 i hi, fun n hn => by rw [fq_I l2 (by unfold wLn1; omega)]; exact a11 n hn⟩
  have hS' : pScr S' T (wSc w) (wAs w) := scr_sm hm.2.2.1.1 (sm_fq (lo := T) (hi := T + 172) l2 (fun b j h1 h2 => ⟨by unfold wLn1; omega, by unfold vCen; omega⟩)) (by omega) (by omega)
  obtain ⟨b1, b2, b3, b4, b5, b6⟩ := cMn_ce hm hs l2 (fun b j q => by unfold wLn1 at q; omega) (fun b j q => by unfold vCen at q; omega) hS' hE he'
  exact ⟨S', l1, b1, b2, b3, b4, b5, he', l3, b6⟩
theorem cl_census {n : Nat} (hm : cMn S w T U) (hs : cSr S) (ho : okW w) (hp : 0 < (wSc w).2.2.length) (hn : n ≤ 5) : ∃ S' E K B, f_Cl_censusUpTo 1 (nI n) S = some (E, S') ∧ cMn S' w T U ∧ cSr S' ∧ zko S S' ∧ zrm S S' ∧ zR S' 1 12 = some E ∧ eCe S' w E K B ∧ zR S' E 9 = some T ∧ zcnt (wSc w).1 n ≤ K ∧ ∀ xs, pRow S 33 8 xs → pRow S' 33 8 xs := by
  have h1 := hm.1.1
  rcases hm.2.2.2.2 with ⟨q, hz⟩ | ⟨E, K, B, q, he⟩
  · obtain ⟨S1, a1, a2, a3, a4, a5, a6, a7, a8, a9, a10⟩ := cl_made hm hs q hz
    obtain ⟨S', l1, l2, l3, l4, l5, l6, l7, l8, l9⟩ := cl_learn a3 a4 ho hp hn a6 a5
    refine ⟨S', _, _, _, ?_, l2, l3, ko_trans a7 l4, ?_, l6, l7, l8, by omega, fun xs hx => l9 xs (a10 xs hx)⟩
    · have v : (zh (zalloc S 2 0 12) (zn S + 1)).1 = 2 := by rw [al_h, if_pos rfl]
      have h2 : (zh (zwR S1 1 12 (some (zn S + 1))) (zn S + 1)).1 = 2 := by rw [a5.2.2.1.1]
      have r12 : zR (zwR S1 1 12 (some (zn S + 1))) 1 12 = some (zn S + 1) := a6
      have r10 := r_told a3
      have ppr : zpr S1 11 1 12 (some (zn S + 1)) = some (zwR S1 1 12 (some (zn S + 1))) := by rw [zpr, if_pos a2]
      have h11 : (zh (zwR S1 1 12 (some (zn S + 1))) 1).1 = 11 := a2
      have h11' : (zh S' 1).1 = 11 := by rw [l2.1.1]
      simp only [f_Cl_censusUpTo, h1, if_true, q, zcl, v, a1, Option.bind_some, ppr, zgr, h11, r12, r10, h2, l1, h11', l6]
    · right
      refine ⟨q, by rw [l6]; simp, ?_, ?_⟩
      · rcases l5 with x | x
        · rw [x.2.1]; exact a8
        · rw [a6] at x; exact absurd x.1 (by simp)
      · rcases l5 with x | x
        · rw [x.2.2]; exact a9
        · rw [a6] at x; exact absurd x.1 (by simp)
  · obtain ⟨S', l1, l2, l3, l4, l5, l6, l7, l8, l9⟩ := cl_learn hm hs ho hp hn q he
    have h2 : (zh S E).1 = 2 := by rw [he.2.2.1.1]
    have h11' : (zh S' 1).1 = 11 := by rw [l2.1.1]
    exact ⟨S', E, _, B, by simp only [f_Cl_censusUpTo, h1, if_true, q, zcl, zgr, Option.bind_some, r_told hm, h2, l1, h11', l6], l2, l3, l4, l5, l6, l7, l8, by omega, l9⟩
/-- behind it -/
theorem hc_endE {S' : zM} (hm : cMn S' w T U) (hs : cSr S') (hk : zko S S') (hr : zrm S S') (t : Nat) : pCl (zwI S' 1 16 (nI t)) (sTr w t) ∧ zko S (zwI S' 1 16 (nI t)) ∧ zrm S (zwI S' 1 16 (nI t)) := by
  have g : zfr (fun b j => b = 1 ∧ j = 16) S' (zwI S' 1 16 (nI t)) := fr_wI _ _ ⟨rfl, rfl⟩
  exact ⟨cl_end hm hs t, ko_trans hk (ko_fq (fq_fr (V := fun _ _ => False) g) (fun b j q => by
    rcases q with q | q
    · omega
    · exact absurd q (fun x => x))), hr⟩
end
