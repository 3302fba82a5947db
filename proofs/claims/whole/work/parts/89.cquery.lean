/-! the class: what is asked of the census -/
section
variable {S : zM} {E T K : Nat} {sc : zSc} {asd : Nat → Nat}
theorem cen_learn (hE : E ≠ 0) (hk : kCen S E) (hr : rCen S E) (hS : pScr S T sc asd) (hT : T + 172 ≤ E) (hL : 2 ≤ sc.1 ∧ sc.1 ≤ 4) {n : Nat} (hn : n ≤ 5) (hK5 : K ≤ zcnt sc.1 5) (h10 : zI S E 10 = nI K) (hd : dCen S E sc.1 sc.2.2 asd K) : ∃ S', f_Census_learn E T (nI n) S = some S' ∧ zfq (wLn1 E) (vCen E) S S' ∧ zR S' E 9 = some T ∧ rCen S' E ∧ zI S' E 10 = nI (max K (zcnt sc.1 n)) ∧ dCen S' E sc.1 sc.2.2 asd (max K (zcnt sc.1 n)) := by
  have f1 : zfq (fun _ _ => False) (fun b j => b = E ∧ j = 9) S (zwR S E 9 (some T)) := fq_wR _ _ ⟨rfl, rfl⟩
  have hk1 := kCen_fq hk f1 (fun j hj => by omega) (fun j => by omega) (fun j => by omega)
  have sm : ∀ lo hi, E < lo → zsm lo hi S (zwR S E 9 (some T)) := fun lo hi h => sm_fq f1 (fun b j h1 h2 => ⟨fun w => w, by omega⟩)
  have hr1 := rCen_sm hr (sm (E + 9) (E + 27) (by omega))
  have hS1 := scr_sm hS (sm_fq (lo := T) (hi := T + 172) f1 (fun b j h1 h2 => ⟨fun w => w, by omega⟩)) (by omega) (by omega)
  have hd1 := dCen_sm hd (sm (E + 2) (E + 5) (by omega)) (sm (E + 27) (E + 29) (by omega))
  have h91 : zR (zwR S E 9 (some T)) E 9 = some T := by simp [-Prod.exists, -Prod.forall, zgf, zgr, zpf, zpz, zpr, zga, zgl, zgo, zpa, zpb, zpl, zpo, mm_len, zcl, Option.bind_some, Option.bind_none, mm_hI, mm_hJ, mm_hR, mm_nI, mm_nJ, mm_nR, mm_sI, mm_sJ, mm_sR, mm_RI, mm_RJ, mm_IJ, mm_IR, mm_JI, mm_JR, mm_II, mm_JJ, mm_RR]
  have h101 : zI (zwR S E 9 (some T)) E 10 = nI K := h10
  have ct := cen_count hk1 hS1 h91 hL hn
  obtain ⟨S', r1, r2, r3, r4, r5⟩ := cen_learn17 hE hk1 hr1 hS1 hT h91 hL hn hK5 h101 hd1
  refine ⟨S', ?_, fq_trans (fq_mono f1 (fun b j h => absurd h (fun w => w)) (fun b j h => Or.inl h)) (fq_mono r2 (fun b j h => h) (fun b j h => Or.inr h)), by rw [fq_R r2 (by unfold vLn1; omega)]; exact h91, r3, r4, r5⟩
  rw [← r1]
  simp [f_Census_learn, -Prod.exists, -Prod.forall, ↓bb_gf, ↓bb_gr, ↓bb_len, ↓bb_ga, ↓bb_gl, ↓bb_go, ↓bb_pf, ↓bb_pz, ↓bb_pr, ↓bb_pa, ↓bb_pb, ↓bb_pl, ↓bb_po, ↓bb_cl, ↓bb_some, ↓bb_RI, ↓bb_RJ, mm_hI, mm_hJ, mm_hR, mm_nI, mm_nJ, mm_nR, mm_sI, mm_sJ, mm_sR, mm_RI, mm_RJ, mm_IJ, mm_IR, mm_JI, mm_JR, mm_II, mm_JJ, mm_RR, hk.1, ↓bS ct, h10]
/-- where the census stands -/
def qCen (S : zM) (E T : Nat) (sc : zSc) (asd : Nat → Nat) (K : Nat) : Prop := kCen S E ∧ pScr S T sc asd ∧ zR S E 9 = some T ∧ (2 ≤ sc.1 ∧ sc.1 ≤ 4) ∧ K ≤ zcnt sc.1 5 ∧ dCen S E sc.1 sc.2.2 asd K
theorem cen_len (hk : kCen S E) {i : Nat} (hi : i < 1364) : f_Census_lengthOf E (nI i) S = some (zI S (E + 2) i, S) := by
  have ol := o_len hk.2.2.1 (i := i) hi
  simp [f_Census_lengthOf, -Prod.exists, -Prod.forall, ↓bb_gf, ↓bb_gr, ↓bb_len, ↓bb_ga, ↓bb_gl, ↓bb_go, ↓bb_pf, ↓bb_pz, ↓bb_pr, ↓bb_pa, ↓bb_pb, ↓bb_pl, ↓bb_po, ↓bb_cl, ↓bb_some, ↓bb_RI, ↓bb_RJ, mm_hI, mm_hJ, mm_hR, mm_nI, mm_nJ, mm_nR, mm_sI, mm_sJ, mm_sR, mm_RI, mm_RJ, mm_IJ, mm_IR, mm_JI, mm_JR, mm_II, mm_JJ, mm_RR, hk.1, ↓bS hk.2.1, hk.2.2.1.1, ↓bS ol]
theorem len_good {i : Nat} (hq : qCen S E T sc asd K) (hi : i < K) (g : (zoc sc.1 sc.2.2 asd i).1 = 0) : zI S (E + 2) i = nI (zoc sc.1 sc.2.2 asd i).2.length ∧ ¬ zI S (E + 2) i < 0 := by
  have h5 := (cnt_le hq.2.2.2.1 (Nat.le_refl 5)).2
  have := (oc_w (asd := asd) hq.2.2.2.1 hq.2.1.2.2.2.2.2.2.2.2.2) i (by have := hq.2.2.2.2.1; omega)
  have e : zI S (E + 2) i = nI (zoc sc.1 sc.2.2 asd i).2.length := ((hq.2.2.2.2.2.1 i hi).2 g).1
  exact ⟨e, by rw [e]; exact nI_pos (by omega)⟩
theorem len_bad {i : Nat} (hq : qCen S E T sc asd K) (hi : i < K) (g : ¬ (zoc sc.1 sc.2.2 asd i).1 = 0) : zI S (E + 2) i = -nI (zoc sc.1 sc.2.2 asd i).1 ∧ zI S (E + 2) i < 0 := by
  have h5 := (cnt_le hq.2.2.2.1 (Nat.le_refl 5)).2
  have := (oc_w (asd := asd) hq.2.2.2.1 hq.2.1.2.2.2.2.2.2.2.2.2) i (by have := hq.2.2.2.2.1; omega)
  have e : zI S (E + 2) i = -nI (zoc sc.1 sc.2.2 asd i).1 := (hq.2.2.2.2.2.1 i hi).1 g
  exact ⟨e, by rw [e]; exact (neg_lt0 (by omega)).1⟩
theorem c_firstDoubled (hq : qCen S E T sc asd K) {n : Nat} (hn : n ≤ 5) (hnK : zcnt sc.1 n ≤ K) : f_Census_firstDoubled E (nI n) S = some (zsI (zfi (fun i => (ztwin (zoc sc.1 sc.2.2 asd) i).isSome) (zcnt sc.1 n)), S) := by
  obtain ⟨hk, hS, h9, hL, hK5, hd⟩ := hq
  have c5 := cnt_le (n := n) hL hn
  have ct := cen_count hk hS h9 hL hn
  have st : f_Census_firstDoubled E (nI n) S = L_Census_firstDoubled_8 zF E (nI (zcnt sc.1 n)) (nI 0) S := by
    simp [f_Census_firstDoubled, -Prod.exists, -Prod.forall, ↓bb_gf, ↓bb_gr, ↓bb_len, ↓bb_ga, ↓bb_gl, ↓bb_go, ↓bb_pf, ↓bb_pz, ↓bb_pr, ↓bb_pa, ↓bb_pb, ↓bb_pl, ↓bb_po, ↓bb_cl, ↓bb_some, ↓bb_RI, ↓bb_RJ, mm_hI, mm_hJ, mm_hR, mm_nI, mm_nJ, mm_nR, mm_sI, mm_sJ, mm_sR, mm_RI, mm_RJ, mm_IJ, mm_IR, mm_JI, mm_JR, mm_II, mm_JJ, mm_RR, hk.1, ↓bS ct]; rfl
  rw [st]
  refine loop_fi (N := zcnt sc.1 n) (by omega) (fun F i => L_Census_firstDoubled_8 F E (nI (zcnt sc.1 n)) (nI i) S) (fun o => some (zsI o, S)) (fun F => ?_) (fun F i hi e => ?_) (fun F i hi e => ?_)
  · have hx : ¬ nI (zcnt sc.1 n) < nI (zcnt sc.1 n) := by rw [nI_ltI (by omega) (by omega)]; omega
    simp [L_Census_firstDoubled_8, hx, zsI]
  · have hx : nI i < nI (zcnt sc.1 n) := by rw [nI_ltI (by omega) (by omega)]; omega
    have z : zinb (nI i) 1364 = true := (nn_in (by omega)).2 (by omega)
    have c : (nI i).toNatClampNeg = i := nI_clamp (by omega)
    have v := (hd.2.2 i (by omega)).2
    have n1 : ¬ zsI (ztwin (zoc sc.1 sc.2.2 asd) i) = -1 := fun w => by rw [(twin_m1 (by omega)).1 w] at e; cases e
    rw [L_Census_firstDoubled_8]
    simp [-Prod.exists, -Prod.forall, ↓bb_gf, ↓bb_gr, ↓bb_len, ↓bb_ga, ↓bb_gl, ↓bb_go, ↓bb_pf, ↓bb_pz, ↓bb_pr, ↓bb_pa, ↓bb_pb, ↓bb_pl, ↓bb_po, ↓bb_cl, ↓bb_some, ↓bb_RI, ↓bb_RJ, mm_hI, mm_hJ, mm_hR, mm_nI, mm_nJ, mm_nR, mm_sI, mm_sJ, mm_sR, mm_RI, mm_RJ, mm_IJ, mm_IR, mm_JI, mm_JR, mm_II, mm_JJ, mm_RR, hx, hk.1, ↓bS hk.2.2.2.2.2.2.2.2.2.2.1, hk.2.2.2.2.2.2.2.2.2.2.2.1, z, c, v, n1]
    rfl
  · have hx : nI i < nI (zcnt sc.1 n) := by rw [nI_ltI (by omega) (by omega)]; omega
    have e1 : nI i + 1 = nI (i + 1) := nI_add i 1
    have z : zinb (nI i) 1364 = true := (nn_in (by omega)).2 (by omega)
    have c : (nI i).toNatClampNeg = i := nI_clamp (by omega)
    have v := (hd.2.2 i (by omega)).2
    have n1 : zsI (ztwin (zoc sc.1 sc.2.2 asd) i) = -1 := (twin_m1 (by omega)).2 (by cases h : ztwin (zoc sc.1 sc.2.2 asd) i with
      | none => rfl
      | some k => rw [h] at e; cases e)
    rw [L_Census_firstDoubled_8]
    simp [-Prod.exists, -Prod.forall, ↓bb_gf, ↓bb_gr, ↓bb_len, ↓bb_ga, ↓bb_gl, ↓bb_go, ↓bb_pf, ↓bb_pz, ↓bb_pr, ↓bb_pa, ↓bb_pb, ↓bb_pl, ↓bb_po, ↓bb_cl, ↓bb_some, ↓bb_RI, ↓bb_RJ, mm_hI, mm_hJ, mm_hR, mm_nI, mm_nJ, mm_nR, mm_sI, mm_sJ, mm_sR, mm_RI, mm_RJ, mm_IJ, mm_IR, mm_JI, mm_JR, mm_II, mm_JJ, mm_RR, hx, hk.1, ↓bS hk.2.2.2.2.2.2.2.2.2.2.1, hk.2.2.2.2.2.2.2.2.2.2.2.1, z, c, v, n1, e1]
theorem c_firstAlike (hq : qCen S E T sc asd K) {i : Nat} (hi : i < K) : f_Census_firstAlike E (nI i) S = some (zsI (ztwin (zoc sc.1 sc.2.2 asd) i), S) := by
  obtain ⟨hk, hS, h9, hL, hK5, hd⟩ := hq
  have h5 := (cnt_le hL (Nat.le_refl 5)).2
  have l1 : ¬ nI i < 0 := nI_pos (by omega)
  have l2 : nI i < 1364 := (nI_ltI (b := 1364) (by omega) (by omega)).2 (by omega)
  have z : zinb (nI i) 1364 = true := (nn_in (by omega)).2 (by omega)
  have c : (nI i).toNatClampNeg = i := nI_clamp (by omega)
  have v := (hd.2.2 i hi).2
  simp [f_Census_firstAlike, -Prod.exists, -Prod.forall, ↓bb_gf, ↓bb_gr, ↓bb_len, ↓bb_ga, ↓bb_gl, ↓bb_go, ↓bb_pf, ↓bb_pz, ↓bb_pr, ↓bb_pa, ↓bb_pb, ↓bb_pl, ↓bb_po, ↓bb_cl, ↓bb_some, ↓bb_RI, ↓bb_RJ, mm_hI, mm_hJ, mm_hR, mm_nI, mm_nJ, mm_nR, mm_sI, mm_sJ, mm_sR, mm_RI, mm_RJ, mm_IJ, mm_IR, mm_JI, mm_JR, mm_II, mm_JJ, mm_RR, l1, l2, hk.1, ↓bS hk.2.2.2.2.2.2.2.2.2.2.1, hk.2.2.2.2.2.2.2.2.2.2.2.1, z, c, v]
theorem c_countDoubled (hq : qCen S E T sc asd K) {n : Nat} (hn : n ≤ 5) (hnK : zcnt sc.1 n ≤ K) : f_Census_countDoubled E (nI n) S = some (nI (zdbl (zoc sc.1 sc.2.2 asd) (zcnt sc.1 n)), S) := by
  obtain ⟨hk, hS, h9, hL, hK5, hd⟩ := hq
  have c5 := cnt_le (n := n) hL hn
  have ct := cen_count hk hS h9 hL hn
  have st : f_Census_countDoubled E (nI n) S = L_Census_countDoubled_11 zF E (nI (zcnt sc.1 n)) 0 (nI 0) S := by
    simp [f_Census_countDoubled, -Prod.exists, -Prod.forall, ↓bb_gf, ↓bb_gr, ↓bb_len, ↓bb_ga, ↓bb_gl, ↓bb_go, ↓bb_pf, ↓bb_pz, ↓bb_pr, ↓bb_pa, ↓bb_pb, ↓bb_pl, ↓bb_po, ↓bb_cl, ↓bb_some, ↓bb_RI, ↓bb_RJ, mm_hI, mm_hJ, mm_hR, mm_nI, mm_nJ, mm_nR, mm_sI, mm_sJ, mm_sR, mm_RI, mm_RJ, mm_IJ, mm_IR, mm_JI, mm_JR, mm_II, mm_JJ, mm_RR, hk.1, ↓bS ct]; rfl
  rw [st]
  refine loop_ct (N := zcnt sc.1 n) (by omega) (fun F a i => L_Census_countDoubled_11 F E (nI (zcnt sc.1 n)) a (nI i) S) (fun F a => ?_) (fun F a i hi e => ?_) (fun F a i hi e => ?_)
  · have hx : ¬ nI (zcnt sc.1 n) < nI (zcnt sc.1 n) := by rw [nI_ltI (by omega) (by omega)]; omega
    simp [L_Census_countDoubled_11, hx]
  · have hx : nI i < nI (zcnt sc.1 n) := by rw [nI_ltI (by omega) (by omega)]; omega
    have e1 : nI i + 1 = nI (i + 1) := nI_add i 1
    have z : zinb (nI i) 1364 = true := (nn_in (by omega)).2 (by omega)
    have c : (nI i).toNatClampNeg = i := nI_clamp (by omega)
    have v := (hd.2.2 i (by omega)).2
    have n1 : ¬ zsI (ztwin (zoc sc.1 sc.2.2 asd) i) = -1 := fun w => by rw [(twin_m1 (by omega)).1 w] at e; cases e
    rw [L_Census_countDoubled_11]
    simp [-Prod.exists, -Prod.forall, ↓bb_gf, ↓bb_gr, ↓bb_len, ↓bb_ga, ↓bb_gl, ↓bb_go, ↓bb_pf, ↓bb_pz, ↓bb_pr, ↓bb_pa, ↓bb_pb, ↓bb_pl, ↓bb_po, ↓bb_cl, ↓bb_some, ↓bb_RI, ↓bb_RJ, mm_hI, mm_hJ, mm_hR, mm_nI, mm_nJ, mm_nR, mm_sI, mm_sJ, mm_sR, mm_RI, mm_RJ, mm_IJ, mm_IR, mm_JI, mm_JR, mm_II, mm_JJ, mm_RR, hx, hk.1, ↓bS hk.2.2.2.2.2.2.2.2.2.2.1, hk.2.2.2.2.2.2.2.2.2.2.2.1, z, c, v, n1, e1]
  · have hx : nI i < nI (zcnt sc.1 n) := by rw [nI_ltI (by omega) (by omega)]; omega
    have e1 : nI i + 1 = nI (i + 1) := nI_add i 1
    have z : zinb (nI i) 1364 = true := (nn_in (by omega)).2 (by omega)
    have c : (nI i).toNatClampNeg = i := nI_clamp (by omega)
    have v := (hd.2.2 i (by omega)).2
    have n1 : zsI (ztwin (zoc sc.1 sc.2.2 asd) i) = -1 := (twin_m1 (by omega)).2 (by cases h : ztwin (zoc sc.1 sc.2.2 asd) i with
      | none => rfl
      | some k => rw [h] at e; cases e)
    rw [L_Census_countDoubled_11]
    simp [-Prod.exists, -Prod.forall, ↓bb_gf, ↓bb_gr, ↓bb_len, ↓bb_ga, ↓bb_gl, ↓bb_go, ↓bb_pf, ↓bb_pz, ↓bb_pr, ↓bb_pa, ↓bb_pb, ↓bb_pl, ↓bb_po, ↓bb_cl, ↓bb_some, ↓bb_RI, ↓bb_RJ, mm_hI, mm_hJ, mm_hR, mm_nI, mm_nJ, mm_nR, mm_sI, mm_sJ, mm_sR, mm_RI, mm_RJ, mm_IJ, mm_IR, mm_JI, mm_JR, mm_II, mm_JJ, mm_RR, hx, hk.1, ↓bS hk.2.2.2.2.2.2.2.2.2.2.1, hk.2.2.2.2.2.2.2.2.2.2.2.1, z, c, v, n1, e1]
theorem len_is {i what : Nat} (hq : qCen S E T sc asd K) (hi : i < K) (h1 : what ≤ 1) : (zI S (E + 2) i = -nI (6 + what)) ↔ (zoc sc.1 sc.2.2 asd i).1 = 6 + what := by
  have h5 := (cnt_le hq.2.2.2.1 (Nat.le_refl 5)).2
  have := (oc_w (asd := asd) hq.2.2.2.1 hq.2.1.2.2.2.2.2.2.2.2.2) i (by have := hq.2.2.2.2.1; omega)
  by_cases g : (zoc sc.1 sc.2.2 asd i).1 = 0
  · rw [(len_good hq hi g).1]
    have := nn_eqm (i := (zoc sc.1 sc.2.2 asd i).2.length) (m := 6 + what) (by omega) (by omega) (by omega)
    rw [this]
    constructor
    · intro w; exact absurd w (fun x => x)
    · intro w; omega
  · rw [(len_bad hq hi g).1]
    constructor
    · intro w
      have := Int32.neg_inj.1 w
      exact (nI_eq (by omega) (by omega)).1 this
    · intro w; rw [w]
theorem c_countFailed (hq : qCen S E T sc asd K) {n what : Nat} (hn : n ≤ 5) (hnK : zcnt sc.1 n ≤ K) (h1 : what ≤ 1) : f_Census_countFailed E (nI n) (nI (6 + what)) S = some (nI (fb_ct (fun i => decide ((zoc sc.1 sc.2.2 asd i).1 = 6 + what)) (zcnt sc.1 n)), S) := by
  have hq0 := hq
  obtain ⟨hk, hS, h9, hL, hK5, hd⟩ := hq
  have c5 := cnt_le (n := n) hL hn
  have ct := cen_count hk hS h9 hL hn
  have st : f_Census_countFailed E (nI n) (nI (6 + what)) S = L_Census_countFailed_12 zF E (nI (6 + what)) (nI (zcnt sc.1 n)) 0 (nI 0) S := by
    simp [f_Census_countFailed, -Prod.exists, -Prod.forall, ↓bb_gf, ↓bb_gr, ↓bb_len, ↓bb_ga, ↓bb_gl, ↓bb_go, ↓bb_pf, ↓bb_pz, ↓bb_pr, ↓bb_pa, ↓bb_pb, ↓bb_pl, ↓bb_po, ↓bb_cl, ↓bb_some, ↓bb_RI, ↓bb_RJ, mm_hI, mm_hJ, mm_hR, mm_nI, mm_nJ, mm_nR, mm_sI, mm_sJ, mm_sR, mm_RI, mm_RJ, mm_IJ, mm_IR, mm_JI, mm_JR, mm_II, mm_JJ, mm_RR, hk.1, ↓bS ct]; rfl
  rw [st]
  refine loop_ct (N := zcnt sc.1 n) (by omega) (fun F a i => L_Census_countFailed_12 F E (nI (6 + what)) (nI (zcnt sc.1 n)) a (nI i) S) (fun F a => ?_) (fun F a i hi e => ?_) (fun F a i hi e => ?_)
  · have hx : ¬ nI (zcnt sc.1 n) < nI (zcnt sc.1 n) := by rw [nI_ltI (by omega) (by omega)]; omega
    simp [L_Census_countFailed_12, hx]
  · have hx : nI i < nI (zcnt sc.1 n) := by rw [nI_ltI (by omega) (by omega)]; omega
    have e1 : nI i + 1 = nI (i + 1) := nI_add i 1
    have cl := cen_len hk (i := i) (by omega)
    have q := (len_is hq0 (i := i) (by omega) h1).2 (of_decide_eq_true e)
    rw [L_Census_countFailed_12]
    simp [-Prod.exists, -Prod.forall, ↓bb_gf, ↓bb_gr, ↓bb_len, ↓bb_ga, ↓bb_gl, ↓bb_go, ↓bb_pf, ↓bb_pz, ↓bb_pr, ↓bb_pa, ↓bb_pb, ↓bb_pl, ↓bb_po, ↓bb_cl, ↓bb_some, ↓bb_RI, ↓bb_RJ, mm_hI, mm_hJ, mm_hR, mm_nI, mm_nJ, mm_nR, mm_sI, mm_sJ, mm_sR, mm_RI, mm_RJ, mm_IJ, mm_IR, mm_JI, mm_JR, mm_II, mm_JJ, mm_RR, hx, hk.1, ↓bS cl, q, e1]
  · have hx : nI i < nI (zcnt sc.1 n) := by rw [nI_ltI (by omega) (by omega)]; omega
    have e1 : nI i + 1 = nI (i + 1) := nI_add i 1
    have cl := cen_len hk (i := i) (by omega)
    have q : ¬ zI S (E + 2) i = -nI (6 + what) := fun w => (decide_eq_false_iff_not.1 e) ((len_is hq0 (i := i) (by omega) h1).1 w)
    rw [L_Census_countFailed_12]
    simp [-Prod.exists, -Prod.forall, ↓bb_gf, ↓bb_gr, ↓bb_len, ↓bb_ga, ↓bb_gl, ↓bb_go, ↓bb_pf, ↓bb_pz, ↓bb_pr, ↓bb_pa, ↓bb_pb, ↓bb_pl, ↓bb_po, ↓bb_cl, ↓bb_some, ↓bb_RI, ↓bb_RJ, mm_hI, mm_hJ, mm_hR, mm_nI, mm_nJ, mm_nR, mm_sI, mm_sJ, mm_sR, mm_RI, mm_RJ, mm_IJ, mm_IR, mm_JI, mm_JR, mm_II, mm_JJ, mm_RR, hx, hk.1, ↓bS cl, q, e1]
theorem c_firstFailed (hq : qCen S E T sc asd K) {n what : Nat} (hn : n ≤ 5) (hnK : zcnt sc.1 n ≤ K) (h1 : what ≤ 1) : f_Census_firstFailed E (nI n) (nI (6 + what)) S = some (zsI (zfi (fun i => decide ((zoc sc.1 sc.2.2 asd i).1 = 6 + what)) (zcnt sc.1 n)), S) := by
  have hq0 := hq
  obtain ⟨hk, hS, h9, hL, hK5, hd⟩ := hq
  have c5 := cnt_le (n := n) hL hn
  have ct := cen_count hk hS h9 hL hn
  have st : f_Census_firstFailed E (nI n) (nI (6 + what)) S = L_Census_firstFailed_9 zF E (nI (6 + what)) (nI (zcnt sc.1 n)) (nI 0) S := by
    simp [f_Census_firstFailed, -Prod.exists, -Prod.forall, ↓bb_gf, ↓bb_gr, ↓bb_len, ↓bb_ga, ↓bb_gl, ↓bb_go, ↓bb_pf, ↓bb_pz, ↓bb_pr, ↓bb_pa, ↓bb_pb, ↓bb_pl, ↓bb_po, ↓bb_cl, ↓bb_some, ↓bb_RI, ↓bb_RJ, mm_hI, mm_hJ, mm_hR, mm_nI, mm_nJ, mm_nR, mm_sI, mm_sJ, mm_sR, mm_RI, mm_RJ, mm_IJ, mm_IR, mm_JI, mm_JR, mm_II, mm_JJ, mm_RR, hk.1, ↓bS ct]; rfl
  rw [st]
  refine loop_fi (N := zcnt sc.1 n) (by omega) (fun F i => L_Census_firstFailed_9 F E (nI (6 + what)) (nI (zcnt sc.1 n)) (nI i) S) (fun o => some (zsI o, S)) (fun F => ?_) (fun F i hi e => ?_) (fun F i hi e => ?_)
  · have hx : ¬ nI (zcnt sc.1 n) < nI (zcnt sc.1 n) := by rw [nI_ltI (by omega) (by omega)]; omega
    simp [L_Census_firstFailed_9, hx, zsI]
  · have hx : nI i < nI (zcnt sc.1 n) := by rw [nI_ltI (by omega) (by omega)]; omega
    have cl := cen_len hk (i := i) (by omega)
    have q := (len_is hq0 (i := i) (by omega) h1).2 (of_decide_eq_true e)
    rw [L_Census_firstFailed_9]
    simp [-Prod.exists, -Prod.forall, ↓bb_gf, ↓bb_gr, ↓bb_len, ↓bb_ga, ↓bb_gl, ↓bb_go, ↓bb_pf, ↓bb_pz, ↓bb_pr, ↓bb_pa, ↓bb_pb, ↓bb_pl, ↓bb_po, ↓bb_cl, ↓bb_some, ↓bb_RI, ↓bb_RJ, mm_hI, mm_hJ, mm_hR, mm_nI, mm_nJ, mm_nR, mm_sI, mm_sJ, mm_sR, mm_RI, mm_RJ, mm_IJ, mm_IR, mm_JI, mm_JR, mm_II, mm_JJ, mm_RR, hx, hk.1, ↓bS cl, q, zsI]
  · have hx : nI i < nI (zcnt sc.1 n) := by rw [nI_ltI (by omega) (by omega)]; omega
    have e1 : nI i + 1 = nI (i + 1) := nI_add i 1
    have cl := cen_len hk (i := i) (by omega)
    have q : ¬ zI S (E + 2) i = -nI (6 + what) := fun w => (decide_eq_false_iff_not.1 e) ((len_is hq0 (i := i) (by omega) h1).1 w)
    rw [L_Census_firstFailed_9]
    simp [-Prod.exists, -Prod.forall, ↓bb_gf, ↓bb_gr, ↓bb_len, ↓bb_ga, ↓bb_gl, ↓bb_go, ↓bb_pf, ↓bb_pz, ↓bb_pr, ↓bb_pa, ↓bb_pb, ↓bb_pl, ↓bb_po, ↓bb_cl, ↓bb_some, ↓bb_RI, ↓bb_RJ, mm_hI, mm_hJ, mm_hR, mm_nI, mm_nJ, mm_nR, mm_sI, mm_sJ, mm_sR, mm_RI, mm_RJ, mm_IJ, mm_IR, mm_JI, mm_JR, mm_II, mm_JJ, mm_RR, hx, hk.1, ↓bS cl, q, e1]
theorem cen_came {a m i : Nat} {xs : List Nat} (hq : qCen S E T sc asd K) (hi : i < K) (hr : pRow S a m xs) (hl : xs.length ≤ 60) : f_Outcomes_cameAs (E + 1) (nI i) a S = some (if zsrc (zoc sc.1 sc.2.2 asd) xs i then 1 else 0, S) := by
  have h5 := (cnt_le hq.2.2.2.1 (Nat.le_refl 5)).2
  have hw := oc_w (asd := asd) hq.2.2.2.1 hq.2.1.2.2.2.2.2.2.2.2.2
  have hK := hq.2.2.2.2.1
  exact o_cameAs hq.1.2.2.1 hw h5 (by omega) (hq.2.2.2.2.2.1 i hi) hr hl
theorem c_countSources (hq : qCen S E T sc asd K) {n a m : Nat} {xs : List Nat} (hn : n ≤ 5) (hnK : zcnt sc.1 n ≤ K) (hr : pRow S a m xs) (hl : xs.length ≤ 60) : f_Census_countSources E (nI n) a S = some (nI (fb_ct (zsrc (zoc sc.1 sc.2.2 asd) xs) (zcnt sc.1 n)), S) := by
  have hq0 := hq
  obtain ⟨hk, hS, h9, hL, hK5, hd⟩ := hq
  have c5 := cnt_le (n := n) hL hn
  have ct := cen_count hk hS h9 hL hn
  have st : f_Census_countSources E (nI n) a S = L_Census_countSources_12 zF E a (nI (zcnt sc.1 n)) 0 (nI 0) S := by
    simp [f_Census_countSources, -Prod.exists, -Prod.forall, ↓bb_gf, ↓bb_gr, ↓bb_len, ↓bb_ga, ↓bb_gl, ↓bb_go, ↓bb_pf, ↓bb_pz, ↓bb_pr, ↓bb_pa, ↓bb_pb, ↓bb_pl, ↓bb_po, ↓bb_cl, ↓bb_some, ↓bb_RI, ↓bb_RJ, mm_hI, mm_hJ, mm_hR, mm_nI, mm_nJ, mm_nR, mm_sI, mm_sJ, mm_sR, mm_RI, mm_RJ, mm_IJ, mm_IR, mm_JI, mm_JR, mm_II, mm_JJ, mm_RR, hk.1, ↓bS ct]; rfl
  rw [st]
  refine loop_ct (N := zcnt sc.1 n) (by omega) (fun F b i => L_Census_countSources_12 F E a (nI (zcnt sc.1 n)) b (nI i) S) (fun F b => ?_) (fun F b i hi e => ?_) (fun F b i hi e => ?_)
  · have hx : ¬ nI (zcnt sc.1 n) < nI (zcnt sc.1 n) := by rw [nI_ltI (by omega) (by omega)]; omega
    simp [L_Census_countSources_12, hx]
  · have hx : nI i < nI (zcnt sc.1 n) := by rw [nI_ltI (by omega) (by omega)]; omega
    have e1 : nI i + 1 = nI (i + 1) := nI_add i 1
    have ca := cen_came hq0 (i := i) (by omega) hr hl
    rw [e] at ca
    simp only [if_true] at ca
    rw [L_Census_countSources_12]
    simp [-Prod.exists, -Prod.forall, ↓bb_gf, ↓bb_gr, ↓bb_len, ↓bb_ga, ↓bb_gl, ↓bb_go, ↓bb_pf, ↓bb_pz, ↓bb_pr, ↓bb_pa, ↓bb_pb, ↓bb_pl, ↓bb_po, ↓bb_cl, ↓bb_some, ↓bb_RI, ↓bb_RJ, mm_hI, mm_hJ, mm_hR, mm_nI, mm_nJ, mm_nR, mm_sI, mm_sJ, mm_sR, mm_RI, mm_RJ, mm_IJ, mm_IR, mm_JI, mm_JR, mm_II, mm_JJ, mm_RR, hx, hk.1, ↓bS hk.2.1, hk.2.2.1.1, ↓bS ca, e1]
  · have hx : nI i < nI (zcnt sc.1 n) := by rw [nI_ltI (by omega) (by omega)]; omega
    have e1 : nI i + 1 = nI (i + 1) := nI_add i 1
    have ca := cen_came hq0 (i := i) (by omega) hr hl
    rw [e] at ca
    simp only [Bool.false_eq_true, if_false] at ca
    rw [L_Census_countSources_12]
    simp [-Prod.exists, -Prod.forall, ↓bb_gf, ↓bb_gr, ↓bb_len, ↓bb_ga, ↓bb_gl, ↓bb_go, ↓bb_pf, ↓bb_pz, ↓bb_pr, ↓bb_pa, ↓bb_pb, ↓bb_pl, ↓bb_po, ↓bb_cl, ↓bb_some, ↓bb_RI, ↓bb_RJ, mm_hI, mm_hJ, mm_hR, mm_nI, mm_nJ, mm_nR, mm_sI, mm_sJ, mm_sR, mm_RI, mm_RJ, mm_IJ, mm_IR, mm_JI, mm_JR, mm_II, mm_JJ, mm_RR, hx, hk.1, ↓bS hk.2.1, hk.2.2.1.1, ↓bS ca, e1]
theorem c_sourceAt (hq : qCen S E T sc asd K) {n a m : Nat} {xs : List Nat} (hn : n ≤ 5) (hnK : zcnt sc.1 n ≤ K) (hr : pRow S a m xs) (hl : xs.length ≤ 60) (w : Int32) : f_Census_sourceAt E (nI n) a w S = some (zsI (zkt (zsrc (zoc sc.1 sc.2.2 asd) xs) (zcnt sc.1 n) w), S) := by
  have hq0 := hq
  obtain ⟨hk, hS, h9, hL, hK5, hd⟩ := hq
  have c5 := cnt_le (n := n) hL hn
  have ct := cen_count hk hS h9 hL hn
  have st : f_Census_sourceAt E (nI n) a w S = L_Census_sourceAt_13 zF E a w (nI (zcnt sc.1 n)) 0 (nI 0) S := by
    simp [f_Census_sourceAt, -Prod.exists, -Prod.forall, ↓bb_gf, ↓bb_gr, ↓bb_len, ↓bb_ga, ↓bb_gl, ↓bb_go, ↓bb_pf, ↓bb_pz, ↓bb_pr, ↓bb_pa, ↓bb_pb, ↓bb_pl, ↓bb_po, ↓bb_cl, ↓bb_some, ↓bb_RI, ↓bb_RJ, mm_hI, mm_hJ, mm_hR, mm_nI, mm_nJ, mm_nR, mm_sI, mm_sJ, mm_sR, mm_RI, mm_RJ, mm_IJ, mm_IR, mm_JI, mm_JR, mm_II, mm_JJ, mm_RR, hk.1, ↓bS ct]; rfl
  rw [st]
  refine loop_kt (N := zcnt sc.1 n) (by omega) (fun F b i => L_Census_sourceAt_13 F E a w (nI (zcnt sc.1 n)) b (nI i) S) w (fun o => some (zsI o, S)) (fun F b => ?_) (fun F i hi e => ?_) (fun F b i hi e q => ?_) (fun F b i hi e => ?_)
  · have hx : ¬ nI (zcnt sc.1 n) < nI (zcnt sc.1 n) := by rw [nI_ltI (by omega) (by omega)]; omega
    simp [L_Census_sourceAt_13, hx, zsI]
  · have hx : nI i < nI (zcnt sc.1 n) := by rw [nI_ltI (by omega) (by omega)]; omega
    have ca := cen_came hq0 (i := i) (by omega) hr hl
    rw [e] at ca
    simp only [if_true] at ca
    rw [L_Census_sourceAt_13]
    simp [-Prod.exists, -Prod.forall, ↓bb_gf, ↓bb_gr, ↓bb_len, ↓bb_ga, ↓bb_gl, ↓bb_go, ↓bb_pf, ↓bb_pz, ↓bb_pr, ↓bb_pa, ↓bb_pb, ↓bb_pl, ↓bb_po, ↓bb_cl, ↓bb_some, ↓bb_RI, ↓bb_RJ, mm_hI, mm_hJ, mm_hR, mm_nI, mm_nJ, mm_nR, mm_sI, mm_sJ, mm_sR, mm_RI, mm_RJ, mm_IJ, mm_IR, mm_JI, mm_JR, mm_II, mm_JJ, mm_RR, hx, hk.1, ↓bS hk.2.1, hk.2.2.1.1, ↓bS ca, zsI]
  · have hx : nI i < nI (zcnt sc.1 n) := by rw [nI_ltI (by omega) (by omega)]; omega
    have e1 : nI i + 1 = nI (i + 1) := nI_add i 1
    have ca := cen_came hq0 (i := i) (by omega) hr hl
    rw [e] at ca
    simp only [if_true] at ca
    rw [L_Census_sourceAt_13]
    simp [-Prod.exists, -Prod.forall, ↓bb_gf, ↓bb_gr, ↓bb_len, ↓bb_ga, ↓bb_gl, ↓bb_go, ↓bb_pf, ↓bb_pz, ↓bb_pr, ↓bb_pa, ↓bb_pb, ↓bb_pl, ↓bb_po, ↓bb_cl, ↓bb_some, ↓bb_RI, ↓bb_RJ, mm_hI, mm_hJ, mm_hR, mm_nI, mm_nJ, mm_nR, mm_sI, mm_sJ, mm_sR, mm_RI, mm_RJ, mm_IJ, mm_IR, mm_JI, mm_JR, mm_II, mm_JJ, mm_RR, hx, hk.1, ↓bS hk.2.1, hk.2.2.1.1, ↓bS ca, q, e1]
  · have hx : nI i < nI (zcnt sc.1 n) := by rw [nI_ltI (by omega) (by omega)]; omega
    have e1 : nI i + 1 = nI (i + 1) := nI_add i 1
    have ca := cen_came hq0 (i := i) (by omega) hr hl
    rw [e] at ca
    simp only [Bool.false_eq_true, if_false] at ca
    rw [L_Census_sourceAt_13]
    simp [-Prod.exists, -Prod.forall, ↓bb_gf, ↓bb_gr, ↓bb_len, ↓bb_ga, ↓bb_gl, ↓bb_go, ↓bb_pf, ↓bb_pz, ↓bb_pr, ↓bb_pa, ↓bb_pb, ↓bb_pl, ↓bb_po, ↓bb_cl, ↓bb_some, ↓bb_RI, ↓bb_RJ, mm_hI, mm_hJ, mm_hR, mm_nI, mm_nJ, mm_nR, mm_sI, mm_sJ, mm_sR, mm_RI, mm_RJ, mm_IJ, mm_IR, mm_JI, mm_JR, mm_II, mm_JJ, mm_RR, hx, hk.1, ↓bS hk.2.1, hk.2.2.1.1, ↓bS ca, e1]
theorem c_firstLongest (hq : qCen S E T sc asd K) {n : Nat} (hn : n ≤ 5) (hnK : zcnt sc.1 n ≤ K) : f_Census_firstLongest E (nI n) S = some (zsI (zlga (zoc sc.1 sc.2.2 asd) (zcnt sc.1 n)), S) := by
  have hq0 := hq
  obtain ⟨hk, hS, h9, hL, hK5, hd⟩ := hq
  have c5 := cnt_le (n := n) hL hn
  have ct := cen_count hk hS h9 hL hn
  have hw := oc_w (asd := asd) hL hS.2.2.2.2.2.2.2.2.2
  have st : f_Census_firstLongest E (nI n) S = L_Census_firstLongest_11 zF E (nI (zcnt sc.1 n)) (-1) (nI 0) S := by
    simp [f_Census_firstLongest, -Prod.exists, -Prod.forall, ↓bb_gf, ↓bb_gr, ↓bb_len, ↓bb_ga, ↓bb_gl, ↓bb_go, ↓bb_pf, ↓bb_pz, ↓bb_pr, ↓bb_pa, ↓bb_pb, ↓bb_pl, ↓bb_po, ↓bb_cl, ↓bb_some, ↓bb_RI, ↓bb_RJ, mm_hI, mm_hJ, mm_hR, mm_nI, mm_nJ, mm_nR, mm_sI, mm_sJ, mm_sR, mm_RI, mm_RJ, mm_IJ, mm_IR, mm_JI, mm_JR, mm_II, mm_JJ, mm_RR, hk.1, ↓bS ct]; rfl
  rw [st]
  refine loop_g (α := Int32) (N := zcnt sc.1 n) (by omega) (fun F a i _ => L_Census_firstLongest_11 F E (nI (zcnt sc.1 n)) a (nI i) S) (fun a i _ => a = zsI (zlga (zoc sc.1 sc.2.2 asd) i)) (fun o => o = some (zsI (zlga (zoc sc.1 sc.2.2 asd) (zcnt sc.1 n)), S)) (fun F a _ h => ?_) (fun F a i X hi h k => ?_) (-1) 0 S (by omega) rfl
  · have hx : ¬ nI (zcnt sc.1 n) < nI (zcnt sc.1 n) := by rw [nI_ltI (by omega) (by omega)]; omega
    simp [L_Census_firstLongest_11, hx, h]
  · have hx : nI i < nI (zcnt sc.1 n) := by rw [nI_ltI (by omega) (by omega)]; omega
    have e1 : nI i + 1 = nI (i + 1) := nI_add i 1
    have cl := cen_len hk (i := i) (by omega)
    have bi := hw i (by omega)
    subst h
    by_cases gi : (zoc sc.1 sc.2.2 asd i).1 = 0
    · obtain ⟨li, ln⟩ := len_good hq0 (i := i) (by omega) gi
      rw [li] at ln cl
      cases e : zlga (zoc sc.1 sc.2.2 asd) i with
      | none =>
        have := k (nI i) X (by rw [zlga, e]; simp [gi, zsI])
        rw [L_Census_firstLongest_11]
        simpa [-Prod.exists, -Prod.forall, ↓bb_gf, ↓bb_gr, ↓bb_len, ↓bb_ga, ↓bb_gl, ↓bb_go, ↓bb_pf, ↓bb_pz, ↓bb_pr, ↓bb_pa, ↓bb_pb, ↓bb_pl, ↓bb_po, ↓bb_cl, ↓bb_some, ↓bb_RI, ↓bb_RJ, mm_hI, mm_hJ, mm_hR, mm_nI, mm_nJ, mm_nR, mm_sI, mm_sJ, mm_sR, mm_RI, mm_RJ, mm_IJ, mm_IR, mm_JI, mm_JR, mm_II, mm_JJ, mm_RR, hx, hk.1, ↓bS cl, ln, zsI, e1] using this
      | some b =>
        obtain ⟨hb, gb⟩ := lga_lt i b e
        have lb := (len_good hq0 (i := b) (by omega) gb).1
        have bb := hw b (by omega)
        have cb := cen_len hk (i := b) (by omega)
        rw [lb] at cb
        have nb : ¬ nI b = -1 := (nn_eqm (i := b) (m := 1) (by omega) (by omega) (by omega)).1
        by_cases q : (zoc sc.1 sc.2.2 asd i).2.length ≤ (zoc sc.1 sc.2.2 asd b).2.length
        · have l : nI (zoc sc.1 sc.2.2 asd i).2.length ≤ nI (zoc sc.1 sc.2.2 asd b).2.length := (nI_leI (by omega) (by omega)).2 q
          have := k (nI b) X (by rw [zlga, e]; simp only; rw [if_neg (by omega)]; rfl)
          rw [L_Census_firstLongest_11]
          simpa [-Prod.exists, -Prod.forall, ↓bb_gf, ↓bb_gr, ↓bb_len, ↓bb_ga, ↓bb_gl, ↓bb_go, ↓bb_pf, ↓bb_pz, ↓bb_pr, ↓bb_pa, ↓bb_pb, ↓bb_pl, ↓bb_po, ↓bb_cl, ↓bb_some, ↓bb_RI, ↓bb_RJ, mm_hI, mm_hJ, mm_hR, mm_nI, mm_nJ, mm_nR, mm_sI, mm_sJ, mm_sR, mm_RI, mm_RJ, mm_IJ, mm_IR, mm_JI, mm_JR, mm_II, mm_JJ, mm_RR, hx, hk.1, ↓bS cl, ln, zsI, nb, ↓bS cb, l, e1] using this
        · have l : ¬ nI (zoc sc.1 sc.2.2 asd i).2.length ≤ nI (zoc sc.1 sc.2.2 asd b).2.length := by rw [nI_leI (by omega) (by omega)]; exact q
          have := k (nI i) X (by rw [zlga, e]; simp only; rw [if_pos ⟨gi, by omega⟩]; rfl)
          rw [L_Census_firstLongest_11]
          simpa [-Prod.exists, -Prod.forall, ↓bb_gf, ↓bb_gr, ↓bb_len, ↓bb_ga, ↓bb_gl, ↓bb_go, ↓bb_pf, ↓bb_pz, ↓bb_pr, ↓bb_pa, ↓bb_pb, ↓bb_pl, ↓bb_po, ↓bb_cl, ↓bb_some, ↓bb_RI, ↓bb_RJ, mm_hI, mm_hJ, mm_hR, mm_nI, mm_nJ, mm_nR, mm_sI, mm_sJ, mm_sR, mm_RI, mm_RJ, mm_IJ, mm_IR, mm_JI, mm_JR, mm_II, mm_JJ, mm_RR, hx, hk.1, ↓bS cl, ln, zsI, nb, ↓bS cb, l, e1] using this
    · have ln := (len_bad hq0 (i := i) (by omega) gi).2
      have := k (zsI (zlga (zoc sc.1 sc.2.2 asd) i)) X (by
        rw [zlga]
        cases e : zlga (zoc sc.1 sc.2.2 asd) i with
        | none => simp [gi]
        | some b => simp [gi])
      rw [L_Census_firstLongest_11]
      simpa [-Prod.exists, -Prod.forall, ↓bb_gf, ↓bb_gr, ↓bb_len, ↓bb_ga, ↓bb_gl, ↓bb_go, ↓bb_pf, ↓bb_pz, ↓bb_pr, ↓bb_pa, ↓bb_pb, ↓bb_pl, ↓bb_po, ↓bb_cl, ↓bb_some, ↓bb_RI, ↓bb_RJ, mm_hI, mm_hJ, mm_hR, mm_nI, mm_nJ, mm_nR, mm_sI, mm_sJ, mm_sR, mm_RI, mm_RJ, mm_IJ, mm_IR, mm_JI, mm_JR, mm_II, mm_JJ, mm_RR, hx, hk.1, ↓bS cl, ln, e1] using this
end
