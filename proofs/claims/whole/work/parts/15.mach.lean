/-! bits -/
def zbits : Nat → (Nat → Bool) → Nat
  | 0, _ => 0
  | n + 1, f => zbits n f + (if f n then 2 ^ n else 0)
theorem bits_lt (f : Nat → Bool) : ∀ n, zbits n f < 2 ^ n := by
  intro n
  induction n with
  | zero => simp [zbits]
  | succ n ih => simp only [zbits, Nat.pow_succ]; split <;> omega
theorem bits_or (f : Nat → Bool) (n : Nat) : zbits (n + 1) f = zbits n f ||| (if f n then 2 ^ n else 0) := by
  have hl := bits_lt f n
  simp only [zbits]
  cases e : f n
  · simp
  · simp only [if_true]
    have := Nat.two_pow_add_eq_or_of_lt hl 1
    rw [Nat.mul_one] at this
    rw [Nat.add_comm, this, Nat.or_comm]
theorem bits_tb (f : Nat → Bool) : ∀ n i, (zbits n f).testBit i = (decide (i < n) && f i) := by
  intro n
  induction n with
  | zero => intro i; simp [zbits]
  | succ n ih =>
    intro i
    rw [bits_or, Nat.testBit_or, ih]
    cases e : f n
    · simp only [Bool.false_eq_true, if_false, Nat.zero_testBit, Bool.or_false]
      by_cases h : i = n
      · subst h; simp [e]
      · have : (i < n + 1) ↔ (i < n) := by omega
        simp [this]
    · simp only [if_true, Nat.testBit_two_pow]
      by_cases h : i = n
      · subst h; simp [e]
      · have h1 : (i < n + 1) ↔ (i < n) := by omega
        have h2 : ¬ n = i := by omega
        simp [h1, h2]
theorem bits_ext {a b : Nat} (h : ∀ i, a.testBit i = b.testBit i) : a = b := Nat.eq_of_testBit_eq h
theorem tb_ne {h : Nat} (hz : h ≠ 0) : ∃ i, h.testBit i = true := by
  refine Classical.byContradiction (fun q => hz (bits_ext (fun i => ?_)))
  rw [Nat.zero_testBit]
  cases e : h.testBit i
  · rfl
  · exact absurd ⟨i, e⟩ q
theorem tb_lt {h i n : Nat} (hh : h < 2 ^ n) (hb : h.testBit i = true) : i < n := by
  refine Classical.byContradiction (fun q => ?_)
  have h2 : 2 ^ n ≤ 2 ^ i := Nat.pow_le_pow_right (by omega) (by omega)
  have := Nat.testBit_lt_two_pow (x := h) (i := i) (by omega)
  rw [this] at hb; cases hb
/-! bitCount -/
noncomputable def zbc (a0 : Int32) : Int32 := match f_J_bitCount a0 ((fun _ _ => 0), (fun _ _ => 0), (fun _ _ => none), (fun _ => (0, 0)), 0, 0) with
  | some q => q.1
  | none => 0
theorem bc_eq (a0 : Int32) (S : zM) : f_J_bitCount a0 S = some (zbc a0, S) := rfl
def zpop_ (h : Nat) : Nat := ((List.range 8).filter (fun i => h.testBit i)).length
def zctz (h : Nat) : Nat := ((List.range 8).find? (fun i => h.testBit i)).getD 0
theorem bc_pop : ∀ h, h < 256 → zbc (nI h) = nI (zpop_ h) := by decide +kernel
theorem bc_ctz : ∀ h, h < 256 → h ≠ 0 → zbc ((nI h &&& (-nI h)) - 1) = nI (zctz h) ∧ h.testBit (zctz h) = true ∧ ∀ j, j < zctz h → h.testBit j = false := by decide +kernel
/-! the machine of beginnings -/
def zserving (rs : List zRu) (mask : Nat) : Nat := zbits rs.length (fun i => !mask.testBit i)
def zend (rs : List zRu) (tn : Bool) (t : List Nat) : Nat := zbits rs.length (fun i => decide (ruT tn (zru rs i) = t) && decide (t ≠ []))
def zidx (nd : List (List Nat)) (t : List Nat) : Int32 := if t ∈ nd then nI (nd.idxOf t) else -2
def ln (nd : List (List Nat)) (s : Nat) : List Nat := nd.getD s []
def sMach (S : zM) (m : Nat) : Prop := zh S m = (3, 0) ∧ zR S m 0 = some (m + 1) ∧ zh S (m + 1) = (100, 264) ∧ zR S m 1 = some (m + 2) ∧ zh S (m + 2) = (100, 33) ∧ zR S m 2 = some (m + 3) ∧ zh S (m + 3) = (100, 33) ∧ zR S m 3 = some (m + 4) ∧ zh S (m + 4) = (100, 9) ∧ zR S m 4 = some (m + 5) ∧ zh S (m + 5) = (100, 9) ∧ zR S m 5 = some (m + 6) ∧ zh S (m + 6) = (100, 8)
/-- a beginning stands behind the one that it goes on from; beginnings stand in the order of those, and of the letters -/
def wOd (nd : List (List Nat)) : Prop := (∀ t x, t ++ [x] ∈ nd → nd.idxOf t < nd.idxOf (t ++ [x])) ∧ ∀ t x t2 x2, t ++ [x] ∈ nd → t2 ++ [x2] ∈ nd → nd.idxOf t * 8 + x < nd.idxOf t2 * 8 + x2 → nd.idxOf (t ++ [x]) < nd.idxOf (t2 ++ [x2])
/-- the beginnings -/
def wNd (rs : List zRu) (tn : Bool) (nd : List (List Nat)) : Prop := nd.length ≤ 33 ∧ 0 < nd.length ∧ ln nd 0 = [] ∧ nd.Nodup ∧ (∀ t, t ∈ nd ↔ t = [] ∨ ∃ i, i < rs.length ∧ t <+: ruT tn (zru rs i)) ∧ wOd nd
def cMach (S : zM) (m : Nat) (rs : List zRu) (tn : Bool) (nd : List (List Nat)) : Prop := zI S m 6 = nI nd.length ∧
  (∀ s l, s < nd.length → l < 8 → zI S (m + 1) (s * 8 + l) = zidx nd (ln nd s ++ [l])) ∧
  (∀ s, s < nd.length → zI S (m + 2) s = nI (ln nd s).length) ∧
  (∀ s, s < nd.length → zI S (m + 3) s = nI (zend rs tn (ln nd s))) ∧
  (∀ d, d < 9 → zI S (m + 4) d = nI (zbits rs.length (fun i => (zru rs i).2.2.1.testBit d))) ∧
  (∀ d, d < 9 → zI S (m + 5) d = nI (zbits rs.length (fun i => (zru rs i).2.2.2.testBit d)))
def pMach (S : zM) (m : Nat) (rs : List zRu) (tn : Bool) : Prop := sMach S m ∧ ∃ nd, wNd rs tn nd ∧ cMach S m rs tn nd
theorem mach_fr {W : Nat → Nat → Prop} {S S' : zM} {m : Nat} {rs : List zRu} {tn : Bool} (h : pMach S m rs tn) (hR : ∀ j, zR S' m j = zR S m j) (hh : zh S' = zh S) (hI : ∀ b j, m ≤ b → b < m + 7 → zI S' b j = zI S b j) : pMach S' m rs tn := by
  obtain ⟨h1, nd, h2, h3⟩ := h
  refine ⟨?_, nd, h2, ?_⟩
  · unfold sMach; simp only [hR, hh]; exact h1
  · obtain ⟨c1, c2, c3, c4, c5, c6⟩ := h3
    refine ⟨by rw [hI _ _ (by omega) (by omega)]; exact c1, fun s l a b => by rw [hI _ _ (by omega) (by omega)]; exact c2 s l a b, fun s a => by rw [hI _ _ (by omega) (by omega)]; exact c3 s a, fun s a => by rw [hI _ _ (by omega) (by omega)]; exact c4 s a, fun s a => by rw [hI _ _ (by omega) (by omega)]; exact c5 s a, fun s a => by rw [hI _ _ (by omega) (by omega)]; exact c6 s a⟩
theorem ok_iff {rs : List zRu} {mask : Nat} {tn : Bool} {row : List Nat} {at_ i : Nat} : zok rs mask tn row at_ i = true ↔ mask.testBit i = false ∧ ruT tn (zru rs i) ≠ [] ∧ (at_ + zlenT rs tn i ≤ row.length ∧ ∀ k, k < zlenT rs tn i → lg row (at_ + k) = lg (ruT tn (zru rs i)) k) ∧ (zru rs i).2.2.1.testBit (zah row at_) = true ∧ (zru rs i).2.2.2.testBit (zsd row (at_ + zlenT rs tn i)) = true := by
  simp only [zok, zfit, Bool.and_eq_true, Bool.not_eq_true', decide_eq_true_eq, held_iff, zlenT, and_assoc]
/-- the letters from a place on -/
def zcut (row : List Nat) (at_ e : Nat) : List Nat := (row.drop at_).take e
theorem cut_len {row : List Nat} {at_ e : Nat} (h : at_ + e ≤ row.length) : (zcut row at_ e).length = e := by simp [zcut]; omega
theorem cut_lg {row : List Nat} {at_ e k : Nat} (h : k < e) : lg (zcut row at_ e) k = lg row (at_ + k) := by
  rw [zcut, lg_take h, lg_drop]
theorem cut_succ {row : List Nat} {at_ e : Nat} (h : at_ + e < row.length) : zcut row at_ (e + 1) = zcut row at_ e ++ [lg row (at_ + e)] := by
  have hjl : e < (row.drop at_).length := by simp; omega
  rw [zcut, List.take_succ_eq_append_getElem hjl, ← lg_get hjl, lg_drop]; rfl
theorem ok_cut {rs : List zRu} {mask : Nat} {tn : Bool} {row : List Nat} {at_ i e : Nat} (h : zok rs mask tn row at_ i = true) (he : e ≤ zlenT rs tn i) : zcut row at_ e <+: ruT tn (zru rs i) := by
  obtain ⟨_, _, ⟨h1, h2⟩, _⟩ := ok_iff.1 h
  have h3 : zcut row at_ e = (ruT tn (zru rs i)).take e := by
    refine lg_ext ?_ (fun k hk => ?_)
    · rw [cut_len (by omega)]; simp; unfold zlenT at he; omega
    · rw [cut_len (by omega)] at hk
      rw [cut_lg hk, lg_take hk]
      exact h2 k (by omega)
  rw [h3]; exact List.take_prefix _ _
def zsI (o : Option Nat) : Int32 := match o with
  | none => -1
  | some i => nI i
def zfnd (rs : List zRu) (mask : Nat) (tn : Bool) (row : List Nat) (at_ e : Nat) (v : Int32) : Prop := (v = -1 ∧ ∀ j, j < rs.length → zok rs mask tn row at_ j = true → e < zlenT rs tn j) ∨ ∃ i, v = nI i ∧ i < rs.length ∧ zok rs mask tn row at_ i = true ∧ zlenT rs tn i ≤ e ∧ ∀ j, j < rs.length → zok rs mask tn row at_ j = true → zlenT rs tn j ≤ e → zlenT rs tn j < zlenT rs tn i ∨ (zlenT rs tn j = zlenT rs tn i ∧ i ≤ j)
theorem fnd_end {rs : List zRu} {mask : Nat} {tn : Bool} {row : List Nat} {at_ e : Nat} {v : Int32} (h : zfnd rs mask tn row at_ e v) (he : ∀ j, j < rs.length → zok rs mask tn row at_ j = true → zlenT rs tn j ≤ e) : v = zsI (zserve rs mask tn row at_) := by
  rcases h with ⟨h1, h2⟩ | ⟨i, h1, h2, h3, h4, h5⟩
  · rw [serve_none (fun j hj => by
      cases q : zok rs mask tn row at_ j
      · rfl
      · have := he j hj q; have := h2 j hj q; omega)]
    exact h1
  · rw [serve_some (i := i) ⟨h2, h3, fun j hj hk => h5 j hj hk (he j hj hk)⟩]
    exact h1
theorem nn_i2 : (-2 : Int32) < 0 := by decide
theorem ruleFor_l {S : zM} {m a n : Nat} {rs : List zRu} {tn : Bool} {row : List Nat} {nd : List (List Nat)} {mask at_ may : Nat} (hw : wRs rs) (hs : sMach S m) (hn : wNd rs tn nd) (hc : cMach S m rs tn nd) (hr : pRow S a n row) (hm : may = zserving rs mask &&& zbits rs.length (fun i => (zru rs i).2.2.1.testBit (zah row at_))) :
    ∀ d F e v, d + e + at_ = row.length → d < F → zcut row at_ e ∈ nd → zfnd rs mask tn row at_ e v → L_Machine_ruleFor_25 F m a (nI may) v (nI (nd.idxOf (zcut row at_ e))) (nI (at_ + e)) S = some (zsI (zserve rs mask tn row at_), S) := by
  have maytb : ∀ i, may.testBit i = (decide (i < rs.length) && (!mask.testBit i && (zru rs i).2.2.1.testBit (zah row at_))) := by
    intro i
    rw [hm, Nat.testBit_and, zserving, bits_tb, bits_tb]
    cases decide (i < rs.length) <;> simp
  have maylt : may < 256 := by
    have h1 := bits_lt (fun i => !mask.testBit i) rs.length
    have h2 : (2 : Nat) ^ rs.length ≤ 2 ^ 8 := Nat.pow_le_pow_right (by omega) hw.1
    have h3 : may ≤ zserving rs mask := by rw [hm]; exact Nat.and_le_left
    unfold zserving at h3; omega
  obtain ⟨s1, s2, s3, s4, s5, s6, s7, s8, s9, s10, s11, s12, s13⟩ := hs
  obtain ⟨c1, c2, c3, c4, c5, c6⟩ := hc
  obtain ⟨n1, n2, n3, n4, n5⟩ := hn
  have hr0 := hr
  obtain ⟨r1, r2, r3, r4, r5, r6, r7, r8⟩ := hr
  intro d
  induction d with
  | zero =>
    intro F e v hd hF hin hv
    cases F with
    | zero => omega
    | succ F =>
      have hx : ¬ at_ + e < row.length := by omega
      rw [← fnd_end hv (fun j hj hk => by have := (ok_iff.1 hk).2.2.1.1; omega)]
      rw [L_Machine_ruleFor_25]
      simp (disch := omega) only [zgf, r1, r6, if_true, if_false, Option.bind_some, nI_ltI, hx]
  | succ d ih =>
    intro F e v hd hF hin hv
    cases F with
    | zero => omega
    | succ F =>
      have hx : at_ + e < row.length := by omega
      by_cases hm0 : may = 0
      · rw [← fnd_end hv (fun j hj hk => by
          obtain ⟨q1, _, _, q2, _⟩ := ok_iff.1 hk
          have := maytb j
          rw [hm0, q1, q2] at this
          simp at this; omega)]
        have em : nI may = 0 := by rw [hm0]; rfl
        rw [L_Machine_ruleFor_25, em]
        simp (disch := omega) only [zgf, r1, r6, if_true, Option.bind_some, nI_ltI, hx]
      · have l7 := r8 (at_ + e)
        have hsx : nd.idxOf (zcut row at_ e) < nd.length := List.idxOf_lt_length_iff.2 hin
        have hnd : ln nd (nd.idxOf (zcut row at_ e)) = zcut row at_ e := by
          simp [ln, hsx]
        have st := c2 _ (lg row (at_ + e)) hsx l7
        rw [hnd, ← cut_succ hx] at st
        have i2 : nd.idxOf (zcut row at_ e) * 8 + lg row (at_ + e) < 264 := by omega
        by_cases hin2 : zcut row at_ (e + 1) ∈ nd
        · have hsx2 : nd.idxOf (zcut row at_ (e + 1)) < nd.length := List.idxOf_lt_length_iff.2 hin2
          have hnd2 : ln nd (nd.idxOf (zcut row at_ (e + 1))) = zcut row at_ (e + 1) := by simp [ln, hsx2]
          rw [zidx, if_pos hin2] at st
          have en := c4 _ hsx2
          rw [hnd2] at en
          have hz1 : zcut row at_ (e + 1) ≠ [] := by
            intro q; have := cut_len (row := row) (at_ := at_) (e := e + 1) (by omega); rw [q] at this; simp at this
          have sd9 : zsd row (at_ + e + 1) < 9 := by unfold zsd; split
                                                     · have := r8 (at_ + e + 1); omega
                                                     · omega
          have bb := c6 _ sd9
          have hbs : f_Row_beside a (nI (at_ + e + 1)) S = some (nI (zsd row (at_ + e + 1)), S) := by
            rw [row_beside hr0, atD_nI (by omega)]; unfold zsd; split <;> rfl
          have i3 : nd.idxOf (zcut row at_ (e + 1)) < 33 := by omega
          obtain ⟨hr_, hrdef⟩ : ∃ h, h = zend rs tn (zcut row at_ (e + 1)) &&& may &&& zbits rs.length (fun i => (zru rs i).2.2.2.testBit (zsd row (at_ + e + 1))) := ⟨_, rfl⟩
          have hrlt : hr_ < 256 := by
            have : hr_ ≤ may := by rw [hrdef]; exact Nat.le_trans Nat.and_le_left Nat.and_le_right
            omega
          have hrtb : ∀ j, j < rs.length → (hr_.testBit j = true ↔ zok rs mask tn row at_ j = true ∧ zlenT rs tn j = e + 1) := by
            intro j hj
            rw [hrdef, Nat.testBit_and, Nat.testBit_and, maytb, zend, bits_tb, bits_tb]
            simp only [hj, decide_true, Bool.true_and, Bool.and_eq_true, decide_eq_true_eq, Bool.not_eq_true']
            constructor
            · rintro ⟨⟨⟨q1, q2⟩, q3, q4⟩, q5⟩
              have ql : zlenT rs tn j = e + 1 := by rw [zlenT, q1, cut_len (by omega)]
              refine ⟨ok_iff.2 ⟨q3, by rw [q1]; exact q2, ⟨by omega, fun k hk => ?_⟩, q4, by rw [ql]; exact q5⟩, ql⟩
              rw [q1, cut_lg (by omega)]
            · rintro ⟨q1, q2⟩
              have q3 := ok_cut (e := e + 1) q1 (by omega)
              obtain ⟨p1, p2, p3, p4, p5⟩ := ok_iff.1 q1
              rw [q2] at p5
              have : ruT tn (zru rs j) = zcut row at_ (e + 1) := (List.IsPrefix.eq_of_length q3 (by rw [cut_len (by omega)]; exact q2.symm)).symm
              exact ⟨⟨⟨this, hz1⟩, p1, p4⟩, p5⟩
          have hand : nI (zend rs tn (zcut row at_ (e + 1))) &&& nI may &&& nI (zbits rs.length (fun i => (zru rs i).2.2.2.testBit (zsd row (at_ + e + 1)))) = nI hr_ := by
            rw [fa_and, fa_and, hrdef]
          by_cases hr0' : hr_ = 0
          · have hv2 : zfnd rs mask tn row at_ (e + 1) v := by
              have no : ∀ j, j < rs.length → zok rs mask tn row at_ j = true → zlenT rs tn j ≠ e + 1 := by
                intro j hj hk q
                have := (hrtb j hj).2 ⟨hk, q⟩
                rw [hr0', Nat.zero_testBit] at this; cases this
              rcases hv with ⟨h1, h2⟩ | ⟨i, h1, h2, h3, h4, h5⟩
              · exact Or.inl ⟨h1, fun j hj hk => by have := h2 j hj hk; have := no j hj hk; omega⟩
              · exact Or.inr ⟨i, h1, h2, h3, by omega, fun j hj hk hl => h5 j hj hk (by have := no j hj hk; omega)⟩
            have := ih F (e + 1) v (by omega) (by omega) hin2 hv2
            rw [← Nat.add_assoc] at this
            rw [← this]
            simp (disch := omega) [L_Machine_ruleFor_25, -Prod.exists, -Prod.forall, zgf, zgr, zpf, zpz, zpr, zga, zgl, zgo, zpa, zpb, zpl, zpo, mm_len, zcl, Option.bind_some, Option.bind_none, mm_hI, mm_hJ, mm_hR, mm_nI, mm_nJ, mm_nR, mm_sI, mm_sJ, mm_sR, mm_RI, mm_RJ, mm_IJ, mm_IR, mm_JI, mm_JR, mm_II, mm_JJ, mm_RR, nn_lit, nI_add, pk_mul, nI_clamp, nI_ltI, nI_leI, nI_eq, nn_in, nn_eqm, nn_meq, nn_ltm, nn_mlt, nn_lem, nn_mle, nn_in_m, r1, r6, hx, hm0, row_at hr0, atD_nI, i2, s1, s2, s3, st, s6, s7, s10, s11, hbs, i3, en, sd9, bb, hand, hr0']
          · have ⟨g1, g2, g3⟩ := bc_ctz hr_ hrlt hr0'
            have hv2 : zfnd rs mask tn row at_ (e + 1) (nI (zctz hr_)) := by
              have hlt : zctz hr_ < rs.length := by
                refine Classical.byContradiction (fun q => ?_)
                rw [hrdef, Nat.testBit_and, bits_tb] at g2
                have : decide (zctz hr_ < rs.length) = false := by simp; omega
                rw [← hrdef, this] at g2; simp at g2
              have := (hrtb _ hlt).1 g2
              refine Or.inr ⟨_, rfl, hlt, this.1, by omega, fun j hj hk hl => ?_⟩
              by_cases q : zlenT rs tn j = e + 1
              · refine Or.inr ⟨by omega, ?_⟩
                refine Classical.byContradiction (fun q2 => ?_)
                have q3 := g3 j (by omega)
                rw [(hrtb j hj).2 ⟨hk, q⟩] at q3; cases q3
              · exact Or.inl (by omega)
            have := ih F (e + 1) _ (by omega) (by omega) hin2 hv2
            rw [← Nat.add_assoc] at this
            rw [← this]
            rw [show (1 : Int32) = nI 1 from rfl] at g1
            simp (disch := omega) [L_Machine_ruleFor_25, -Prod.exists, -Prod.forall, zgf, zgr, zpf, zpz, zpr, zga, zgl, zgo, zpa, zpb, zpl, zpo, mm_len, zcl, Option.bind_some, Option.bind_none, mm_hI, mm_hJ, mm_hR, mm_nI, mm_nJ, mm_nR, mm_sI, mm_sJ, mm_sR, mm_RI, mm_RJ, mm_IJ, mm_IR, mm_JI, mm_JR, mm_II, mm_JJ, mm_RR, nn_lit, nI_add, pk_mul, nI_clamp, nI_ltI, nI_leI, nI_eq, nn_in, nn_eqm, nn_meq, nn_ltm, nn_mlt, nn_lem, nn_mle, nn_in_m, r1, r6, hx, hm0, row_at hr0, atD_nI, i2, s1, s2, s3, st, s6, s7, s10, s11, hbs, i3, en, sd9, bb, hand, hr0', bc_eq, g1]
        · rw [zidx, if_neg hin2] at st
          rw [← fnd_end hv (fun j hj hk => by
            refine Classical.byContradiction (fun q => hin2 ?_)
            exact (n5.1 _).2 (Or.inr ⟨j, hj, ok_cut hk (by omega)⟩))]
          simp (disch := omega) [L_Machine_ruleFor_25, -Prod.exists, -Prod.forall, zgf, zgr, zpf, zpz, zpr, zga, zgl, zgo, zpa, zpb, zpl, zpo, mm_len, zcl, Option.bind_some, Option.bind_none, mm_hI, mm_hJ, mm_hR, mm_nI, mm_nJ, mm_nR, mm_sI, mm_sJ, mm_sR, mm_RI, mm_RJ, mm_IJ, mm_IR, mm_JI, mm_JR, mm_II, mm_JJ, mm_RR, nn_lit, nI_add, pk_mul, nI_clamp, nI_ltI, nI_leI, nI_eq, nn_in, nn_eqm, nn_meq, nn_ltm, nn_mlt, nn_lem, nn_mle, nn_in_m, r1, r6, hx, hm0, row_at hr0, atD_nI, i2, s1, s2, s3, st]
theorem ruleFor {S : zM} {m a n : Nat} {rs : List zRu} {tn : Bool} {row : List Nat} {mask at_ : Nat} (hw : wRs rs) (h : pMach S m rs tn) (hr : pRow S a n row) (hat : at_ < row.length) : f_Machine_ruleFor m a (nI at_) (nI (zserving rs mask)) S = some (zsI (zserve rs mask tn row at_), S) := by
  obtain ⟨hs, nd, hn, hc⟩ := h
  have b1 := hr.2.2.2.1
  have b2 := hr.2.2.2.2.1
  have b8 := hr.2.2.2.2.2.2.2
  have i0 : nd.idxOf [] = 0 := by
    have q := hn.2.2.1
    have q2 := hn.2.1
    cases nd with
    | nil => simp at q2
    | cons x nd => simp [ln] at q; subst q; simp
  have key := ruleFor_l (mask := mask) (at_ := at_) hw hs hn hc hr rfl (row.length - at_) zF 0 (-1) (by omega) (by rw [zF_eq]; omega) ((hn.2.2.2.2.1 _).2 (Or.inl (by simp [zcut]))) (Or.inl ⟨rfl, fun j hj hk => List.length_pos_iff.2 (ok_iff.1 hk).2.1⟩)
  have ez : zcut row at_ 0 = [] := by simp [zcut]
  rw [ez, i0, Nat.add_zero] at key
  have a9 : zah row at_ < 9 := by
    unfold zah zsd
    split
    · omega
    · split
      · have := b8 (at_ - 1); omega
      · omega
  have hb : f_Row_beside a (nI at_ - 1) S = some (nI (zah row at_), S) := by
    rw [row_beside hr]
    cases at_ with
    | zero => rw [atD_neg (by decide)]; rfl
    | succ k => rw [nI_pred, atD_nI (by omega)]; unfold zah zsd; simp; split <;> rfl
  have c5 := hc.2.2.2.2.1 _ a9
  rw [← key]
  simp (disch := omega) only [f_Machine_ruleFor, zgr, hs.1, hs.2.2.2.2.2.2.2.1, if_true, Option.bind_some, zcl, hr.1, hb, zga, hs.2.2.2.2.2.2.2.2.1, nn_in, a9, true_and, nI_clamp, c5, fa_and]
  rfl
