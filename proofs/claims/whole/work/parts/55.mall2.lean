/-! the reference: all passes -/
def wGA (M : Nat) : Nat → Nat → Prop := fun b j => (b = M ∧ (j = 41 ∨ j = 43)) ∨ (M + 19 ≤ b ∧ b ≤ M + 24)
/-- what was behind a pass -/
def mBh (S : zM) (M q : Nat) (bh : List Nat) (rd : Nat) : Prop := zI S (M + 22) q = nI rd ∧ zI S (M + 23) q = nI bh.length ∧ ∀ k, k < bh.length → zI S (M + 24) (60 * q + k) = nI (lg bh k)
section
variable {S S0 : zM} {M : Nat} {row : List Nat} {sc : zSc} {asd : Nat → Nat}
theorem ga_77 (hm : sMo S0 M) (hn : pNow S0 M row) {p : Nat} (hp : p < 3) {a1 a2 : Int32} {k111 : Nat → Int32 → Int32 → zM → Option (Int32 × zM)} (Q : Option (Int32 × zM) → Prop) (HK : ∀ S', zfr (fun b j => b = M + 24 ∧ 60 * p ≤ j ∧ j < 60 * p + 60) S0 S' → (∀ k, k < row.length → zI S' (M + 24) (60 * p + k) = nI (lg row k)) → Q (k111 M a1 a2 S')) : ∀ d F k (S : zM), d + k = row.length → d < F → zfr (fun b j => b = M + 24 ∧ 60 * p ≤ j ∧ j < 60 * p + 60) S0 S → (∀ j, j < k → zI S (M + 24) (60 * p + j) = nI (lg row j)) → Q (L_Mo_goesAll_77 k111 F M a1 a2 (nI p) (nI k) S) := by
  have n4 := hn.2.2.2
  intro d
  induction d with
  | zero =>
    intro F k S hd hF hf hv
    cases F with
    | zero => omega
    | succ F =>
      have hm' := mo_fr hm hf
      have i41 : zI S M 41 = nI row.length := by rw [fr_I hf (by omega)]; exact hn.1
      have nlt : ¬ nI k < nI row.length := fun z => by have := (nI_ltI (by omega) (by omega)).1 z; omega
      have := HK S hf (fun j hj => hv j (by omega))
      simp [L_Mo_goesAll_77, -Prod.exists, -Prod.forall, ↓bb_gf, ↓bb_gr, ↓bb_len, ↓bb_ga, ↓bb_gl, ↓bb_go, ↓bb_pf, ↓bb_pz, ↓bb_pr, ↓bb_pa, ↓bb_pb, ↓bb_pl, ↓bb_po, ↓bb_cl, ↓bb_some, ↓bb_RI, ↓bb_RJ, mm_hI, mm_hJ, mm_hR, mm_nI, mm_nJ, mm_nR, mm_sI, mm_sJ, mm_sR, mm_RI, mm_RJ, mm_IJ, mm_IR, mm_JI, mm_JR, mm_II, mm_JJ, mm_RR, hm'.1, i41, nlt]
      exact this
  | succ d ih =>
    intro F k S hd hF hf hv
    cases F with
    | zero => omega
    | succ F =>
      have hm' := mo_fr hm hf
      have hk : k < row.length := by omega
      have i41 : zI S M 41 = nI row.length := by rw [fr_I hf (by omega)]; exact hn.1
      have lt : nI k < nI row.length := (nI_ltI (by omega) (by omega)).2 hk
      have zk : zinb (nI k) 64 = true := (nn_in (by omega)).2 (by omega)
      have ck : (nI k).toNatClampNeg = k := nI_clamp (by omega)
      have ex : (60 : Int32) * nI p + nI k = nI (60 * p + k) := by rw [show (60 : Int32) = nI 60 from rfl, pk_mul, nI_add]
      have zx : zinb (nI (60 * p + k)) 180 = true := (nn_in (by omega)).2 (by omega)
      have cx : (nI (60 * p + k)).toNatClampNeg = 60 * p + k := nI_clamp (by omega)
      have v : zI S (M + 19) k = nI (lg row k) := by rw [fr_I hf (by omega)]; exact hn.2.1 k hk
      have := ih F (k + 1) (zwI S (M + 24) (60 * p + k) (nI (lg row k))) (by omega) (by omega) (fr_trans hf (fr_wI _ _ (by omega))) (fun j hj => by
        by_cases q : j = k
        · subst q; simp [mm_II]
        · rw [mm_II, if_neg (by omega)]; exact hv j (by omega))
      simp [L_Mo_goesAll_77, -Prod.exists, -Prod.forall, ↓bb_gf, ↓bb_gr, ↓bb_len, ↓bb_ga, ↓bb_gl, ↓bb_go, ↓bb_pf, ↓bb_pz, ↓bb_pr, ↓bb_pa, ↓bb_pb, ↓bb_pl, ↓bb_po, ↓bb_cl, ↓bb_some, ↓bb_RI, ↓bb_RJ, mm_hI, mm_hJ, mm_hR, mm_nI, mm_nJ, mm_nR, mm_sI, mm_sJ, mm_sR, mm_RI, mm_RJ, mm_IJ, mm_IR, mm_JI, mm_JR, mm_II, mm_JJ, mm_RR, hm'.1, i41, lt, ↓bS (mo_behindAt hm'), mh_behindAt hm', ↓bS (mo_now hm'), mh_now hm', zk, ck, v, ex, zx, cx, nI_1]
      exact this
theorem al_bh {ps : List zPs} (hw : wPs ps) {tn : Bool} (h1 : l8 row) (h2 : row.length ≤ 60) : ∀ k, k ≤ ps.length → ∀ q, l8 ((zal ps asd tn row k).2.2.1 q) ∧ ((zal ps asd tn row k).2.2.1 q).length ≤ 60 := by
  intro k
  induction k with
  | zero => intro _ q; exact ⟨l8_nil, by simp [zal]⟩
  | succ k ih =>
    intro hk q
    have i := ih (by omega) q
    have aw := al_w hw (asd := asd) (tn := tn) h1 h2 k (by omega)
    rw [zal]
    split
    · have hp : (if tn then ps.length - 1 - k else k) < ps.length := by split <;> omega
      have pw := prun_w (ps_w hw hp) (mask := asd (if tn then ps.length - 1 - k else k)) (ag := (zpa_ ps (if tn then ps.length - 1 - k else k)).1) (tn := tn) aw.1 aw.2
      simp only [zup]
      by_cases e : q = (if tn then ps.length - 1 - k else k)
      · rw [if_pos e]; exact ⟨pw.1, pw.2.1⟩
      · rw [if_neg e]; exact i
    · exact i
theorem ga_23 {tn : Bool} (h8r : l8 row) (h60r : row.length ≤ 60) (hm : sMo S0 M) (hsc : mSc S0 M sc asd) : ∀ d F k (S : zM), d + k = sc.2.2.length → d < F → zfr (wGA M) S0 S → (zal sc.2.2 asd tn row k).1 = 0 → pNow S M (zal sc.2.2 asd tn row k).2.1 → mSv S M (zal sc.2.2 asd tn row k).2.2.2.2 → (∀ q, zdone sc.2.2.length tn k q → mBh S M q ((zal sc.2.2 asd tn row k).2.2.1 q) ((zal sc.2.2 asd tn row k).2.2.2.1 q)) → ∃ S' row', L_Mo_goesAll_23 F M (if tn then 1 else 0) (nI k) S = some (nI (zcar sc.2.2 asd tn row).1, S') ∧ zfr (wGA M) S0 S' ∧ pNow S' M row' ∧ ((zcar sc.2.2 asd tn row).1 = 0 → row' = (zcar sc.2.2 asd tn row).2.1 ∧ mSv S' M (zcar sc.2.2 asd tn row).2.2.2.2 ∧ ∀ q, q < sc.2.2.length → mBh S' M q ((zcar sc.2.2 asd tn row).2.2.1 q) ((zcar sc.2.2 asd tn row).2.2.2.1 q)) := by
  have stuck : ∀ k, (zal sc.2.2 asd tn row k).1 ≠ 0 → ∀ d, zal sc.2.2 asd tn row (k + d) = zal sc.2.2 asd tn row k := by
    intro k hk d
    induction d with
    | zero => rfl
    | succ d ih => rw [← Nat.add_assoc, zal, if_neg (by rw [ih]; exact hk), ih]
  have w13 := hsc.2.2.2.2.2.2.2.2.2.2.2.2
  have h3 := w13.1
  intro d
  induction d with
  | zero =>
    intro F k S hdk hF hf h0 hn hs hq
    have ek : k = sc.2.2.length := by omega
    cases F with
    | zero => omega
    | succ F =>
      have hm' := mo_fr hm hf
      have i8 : zI S M 8 = nI sc.2.2.length := by rw [fr_I hf (by unfold wGA; omega)]; exact hsc.2.2.1
      have nlt : ¬ nI k < nI sc.2.2.length := fun z => by have := (nI_ltI (by omega) (by omega)).1 z; omega
      unfold zcar
      rw [← ek]
      refine ⟨S, _, ?_, hf, hn, fun _ => ⟨rfl, hs, fun q hq2 => hq q ?_⟩⟩
      · rw [ek] at nlt
        have n0 : nI 0 = 0 := rfl
        rw [ek] at h0 ⊢
        simp [L_Mo_goesAll_23, -Prod.exists, -Prod.forall, ↓bb_gf, ↓bb_gr, ↓bb_len, ↓bb_ga, ↓bb_gl, ↓bb_go, ↓bb_pf, ↓bb_pz, ↓bb_pr, ↓bb_pa, ↓bb_pb, ↓bb_pl, ↓bb_po, ↓bb_cl, ↓bb_some, ↓bb_RI, ↓bb_RJ, mm_hI, mm_hJ, mm_hR, mm_nI, mm_nJ, mm_nR, mm_sI, mm_sJ, mm_sR, mm_RI, mm_RJ, mm_IJ, mm_IR, mm_JI, mm_JR, mm_II, mm_JJ, mm_RR, hm'.1, i8, nlt, h0, n0]
      · unfold zdone zkp
        cases tn
        · exact ⟨q, by omega, rfl⟩
        · exact ⟨sc.2.2.length - 1 - q, by omega, by simp; omega⟩
  | succ d ih =>
    intro F k S hdk hF hf h0 hn hs hq
    cases F with
    | zero => omega
    | succ F =>
      have hm' := mo_fr hm hf
      have hsc' : mSc S M sc asd := mSc_fr hsc hf (fun j _ _ => by unfold wGA; omega) (fun b j _ => by unfold wGA; omega)
      have i8 := hsc'.2.2.1
      have hk : k < sc.2.2.length := by omega
      have lt : nI k < nI sc.2.2.length := (nI_ltI (by omega) (by omega)).2 hk
      obtain ⟨p, hpd⟩ : ∃ p, p = zkp sc.2.2.length tn k := ⟨_, rfl⟩
      have hpd' : p = if tn then sc.2.2.length - 1 - k else k := hpd
      have hp : p < sc.2.2.length := by rw [hpd']; split <;> omega
      have zp : zinb (nI p) 3 = true := (nn_in (by omega)).2 (by omega)
      have cp : (nI p).toNatClampNeg = p := nI_clamp (by omega)
      obtain ⟨S1, row1, g1, g2, g3, g4⟩ := m_pass tn hm' hsc' hp hn hs
      have g2' : zfr (wGA M) S S1 := fr_mono g2 (fun b j hb => by unfold wGP at hb; unfold wGA; omega)
      have hm1 := mo_fr hm' g2
      have ea : zal sc.2.2 asd tn row (k + 1) = ((zprun (zpa_ sc.2.2 p).2 (asd p) (zpa_ sc.2.2 p).1 tn (zal sc.2.2 asd tn row k).2.1).1, (zprun (zpa_ sc.2.2 p).2 (asd p) (zpa_ sc.2.2 p).1 tn (zal sc.2.2 asd tn row k).2.1).2.1, zup (zal sc.2.2 asd tn row k).2.2.1 p (zprun (zpa_ sc.2.2 p).2 (asd p) (zpa_ sc.2.2 p).1 tn (zal sc.2.2 asd tn row k).2.1).2.1, zup (zal sc.2.2 asd tn row k).2.2.2.1 p (zprun (zpa_ sc.2.2 p).2 (asd p) (zpa_ sc.2.2 p).1 tn (zal sc.2.2 asd tn row k).2.1).2.2.1, (zal sc.2.2 asd tn row k).2.2.2.2 ++ (zprun (zpa_ sc.2.2 p).2 (asd p) (zpa_ sc.2.2 p).1 tn (zal sc.2.2 asd tn row k).2.1).2.2.2.map (fun i => 8 * p + i)) := by
        rw [zal, if_pos h0, hpd']
      obtain ⟨Qr, hQr⟩ : ∃ Qr, Qr = zprun (zpa_ sc.2.2 p).2 (asd p) (zpa_ sc.2.2 p).1 tn (zal sc.2.2 asd tn row k).2.1 := ⟨_, rfl⟩
      rw [← hQr] at g1 g4 ea
      have body : ∀ R : Option (Int32 × zM), (if nI Qr.1 = (0 : Int32) then Option.bind (zgr S1 12 M 46) (fun q3 => Option.bind (zgf S1 12 M 41) (fun x4 => Option.bind (zpa S1 q3 (nI p) x4) (fun S5 => (L_Mo_goesAll_77 (F_Mo_goesAll_111 (L_Mo_goesAll_23 F)) zF) M (if tn then 1 else 0) (nI k) (nI p) (0 : Int32) S5))) else some (nI Qr.1, S1)) = R → L_Mo_goesAll_23 (F + 1) M (if tn then 1 else 0) (nI k) S = R := by
        intro R hR
        rw [← hR, L_Mo_goesAll_23]
        cases tn
        · simp only [Bool.false_eq_true, if_false] at hpd' g1 ⊢
          subst hpd'
          simp only [↓bb_gf, ↓bb_cl, hm'.1, if_true, i8, lt, ↓bS g1]
        · simp only [if_true] at hpd' g1 ⊢
          have e1 : nI sc.2.2.length - 1 - nI k = nI p := by
            rw [show (1 : Int32) = nI 1 from rfl, pk_sub (by omega), pk_sub (by omega), hpd']
          simp only [↓bb_gf, ↓bb_cl, hm'.1, if_true, i8, lt, e1, ↓bS g1, show ¬ (1 : Int32) = 0 by decide, if_false]
      by_cases hz : Qr.1 = 0
      · obtain ⟨er, sv1, rd1⟩ := g4 hz
        obtain ⟨S2, hS2⟩ : ∃ S2, S2 = zwI S1 (M + 23) p (nI row1.length) := ⟨_, rfl⟩
        have f2 : zfr (fun b j => b = M + 23 ∧ j = p) S1 S2 := by rw [hS2]; exact fr_wI _ _ ⟨rfl, rfl⟩
        have hm2 := mo_fr hm1 f2
        have n2 : pNow S2 M row1 := now_fr g3 f2 (by omega) (fun j => by omega)
        have key := ga_77 (S0 := S2) hm2 n2 (show p < 3 by omega) (a1 := if tn then 1 else 0) (a2 := nI k) (k111 := F_Mo_goesAll_111 (L_Mo_goesAll_23 F)) (fun o => ∃ S' row', o = some (nI (zcar sc.2.2 asd tn row).1, S') ∧ zfr (wGA M) S0 S' ∧ pNow S' M row' ∧ ((zcar sc.2.2 asd tn row).1 = 0 → row' = (zcar sc.2.2 asd tn row).2.1 ∧ mSv S' M (zcar sc.2.2 asd tn row).2.2.2.2 ∧ ∀ q, q < sc.2.2.length → mBh S' M q ((zcar sc.2.2 asd tn row).2.2.1 q) ((zcar sc.2.2 asd tn row).2.2.2.1 q))) (fun S3 f3 v3 => by
          have f13 : zfr (wGA M) S S3 := fr_trans g2' (fr_trans (fr_mono f2 (fun b j hb => by unfold wGA; omega)) (fr_mono f3 (fun b j hb => by unfold wGA; omega)))
          have n3 : pNow S3 M row1 := now_fr n2 f3 (by omega) (fun j => by omega)
          simp only [F_Mo_goesAll_111, nI_1]
          refine ih F (k + 1) S3 (by omega) (by omega) (fr_trans hf f13) (by rw [ea]; exact hz) (by rw [ea]; exact er ▸ n3) (by
            rw [ea]
            intro j hj
            rw [fr_I f3 (by omega), fr_I f2 (by omega)]; exact sv1 j hj) (fun q hqd => ?_)
          rw [ea]
          simp only [zup]
          by_cases e : q = p
          · rw [if_pos e, if_pos e, e]
            refine ⟨by rw [fr_I f3 (by omega), fr_I f2 (by omega)]; exact rd1, ?_, fun j hj => ?_⟩
            · rw [fr_I f3 (by omega), hS2]; simp [mm_II, er]
            · rw [← er] at hj ⊢; exact v3 j hj
          · rw [if_neg e, if_neg e]
            have hqd2 : zdone sc.2.2.length tn k q := by
              obtain ⟨k', h1, h2⟩ := hqd
              by_cases e2 : k' = k
              · subst e2; exact absurd (h2.trans hpd.symm) e
              · exact ⟨k', by omega, h2⟩
            have hq3 : q < sc.2.2.length := by
              obtain ⟨k', h1, h2⟩ := hqd2
              unfold zkp at h2; split at h2 <;> omega
            obtain ⟨b1, b2, b3⟩ := hq q hqd2
            have bl : ((zal sc.2.2 asd tn row k).2.2.1 q).length ≤ 60 := (al_bh w13 h8r h60r k (by omega) q).2
            refine ⟨by rw [fr_I f3 (by omega), fr_I f2 (by omega), fr_I g2 (by unfold wGP; omega)]; exact b1, by rw [fr_I f3 (by omega), fr_I f2 (by omega), fr_I g2 (by unfold wGP; omega)]; exact b2, fun j hj => ?_⟩
            rw [fr_I f3 (by omega), fr_I f2 (by omega), fr_I g2 (by unfold wGP; omega)]; exact b3 j hj) row1.length zF 0 S2 (by omega) (by rw [zF_eq]; have := g3.2.2.2; omega) (fr_refl _ _) (fun j hj => by omega)
        obtain ⟨S', row', k1, k2⟩ := key
        refine ⟨S', row', body _ ?_, k2⟩
        have z0 : nI Qr.1 = 0 := by rw [hz]; rfl
        rw [if_pos z0, ← k1, hS2]
        simp [-Prod.exists, -Prod.forall, ↓bb_gf, ↓bb_gr, ↓bb_len, ↓bb_ga, ↓bb_gl, ↓bb_go, ↓bb_pf, ↓bb_pz, ↓bb_pr, ↓bb_pa, ↓bb_pb, ↓bb_pl, ↓bb_po, ↓bb_cl, ↓bb_some, ↓bb_RI, ↓bb_RJ, mm_hI, mm_hJ, mm_hR, mm_nI, mm_nJ, mm_nR, mm_sI, mm_sJ, mm_sR, mm_RI, mm_RJ, mm_IJ, mm_IR, mm_JI, mm_JR, mm_II, mm_JJ, mm_RR, hm1.1, ↓bS (mo_behindLong hm1), mh_behindLong hm1, g3.1, zp, cp]
        rfl
      · have st := stuck (k + 1) (by rw [ea]; exact hz) (sc.2.2.length - (k + 1))
        rw [show k + 1 + (sc.2.2.length - (k + 1)) = sc.2.2.length by omega] at st
        have hc8 : Qr.1 < 8 := by
          rw [hQr]
          rcases prun_code (rs := (zpa_ sc.2.2 p).2) (mask := asd p) (ag := (zpa_ sc.2.2 p).1) (tn := tn) (zal sc.2.2 asd tn row k).2.1 with q | q | q <;> omega
        have nz : ¬ nI Qr.1 = 0 := nI_ne0 (by omega) (by omega)
        refine ⟨S1, row1, body _ ?_, fr_trans hf g2', g3, fun q => ?_⟩
        · unfold zcar; rw [st, ea, if_neg nz]
        · unfold zcar at q; rw [st, ea] at q; exact absurd q hz
theorem ga_2 (hm : sMo S0 M) {a1 : Int32} {k21 : Nat → Int32 → zM → Option (Int32 × zM)} (Q : Option (Int32 × zM) → Prop) (HK : ∀ S', zfr (fun b j => b = M + 21) S0 S' → (∀ k, k < 24 → zI S' (M + 21) k = 0) → Q (k21 M a1 S')) : ∀ d F k (S : zM), d + k = 24 → d < F → zfr (fun b j => b = M + 21) S0 S → (∀ j, j < k → zI S (M + 21) j = 0) → Q (L_Mo_goesAll_2 k21 F M a1 (nI k) S) := by
  intro d
  induction d with
  | zero =>
    intro F k S hd hF hf hv
    cases F with
    | zero => omega
    | succ F =>
      have ek : k = 24 := by omega
      subst ek
      rw [L_Mo_goesAll_2, if_neg (by decide)]
      exact HK S hf hv
  | succ d ih =>
    intro F k S hd hF hf hv
    cases F with
    | zero => omega
    | succ F =>
      have hm' := mo_fr hm hf
      have lt : nI k < 24 := (nI_ltI (b := 24) (by omega) (by omega)).2 (by omega)
      have zk : zinb (nI k) 24 = true := (nn_in (by omega)).2 (by omega)
      have ck : (nI k).toNatClampNeg = k := nI_clamp (by omega)
      have := ih F (k + 1) (zwI S (M + 21) k 0) (by omega) (by omega) (fr_trans hf (fr_wI _ _ (by omega))) (fun j hj => by
        by_cases q : j = k
        · subst q; simp [mm_II]
        · rw [mm_II, if_neg (by omega)]; exact hv j (by omega))
      simp [L_Mo_goesAll_2, -Prod.exists, -Prod.forall, ↓bb_gf, ↓bb_gr, ↓bb_len, ↓bb_ga, ↓bb_gl, ↓bb_go, ↓bb_pf, ↓bb_pz, ↓bb_pr, ↓bb_pa, ↓bb_pb, ↓bb_pl, ↓bb_po, ↓bb_cl, ↓bb_some, ↓bb_RI, ↓bb_RJ, mm_hI, mm_hJ, mm_hR, mm_nI, mm_nJ, mm_nR, mm_sI, mm_sJ, mm_sR, mm_RI, mm_RJ, mm_IJ, mm_IR, mm_JI, mm_JR, mm_II, mm_JJ, mm_RR, hm'.1, lt, ↓bS (mo_servedBy hm'), mh_servedBy hm', zk, ck, nI_1]
      exact this
theorem m_all_ (tn : Bool) (hm : sMo S M) (hsc : mSc S M sc asd) (hn : pNow S M row) : ∃ S' row', f_Mo_goesAll M (if tn then 1 else 0) S = some (nI (zcar sc.2.2 asd tn row).1, S') ∧ zfr (wGA M) S S' ∧ pNow S' M row' ∧ ((zcar sc.2.2 asd tn row).1 = 0 → row' = (zcar sc.2.2 asd tn row).2.1 ∧ mSv S' M (zcar sc.2.2 asd tn row).2.2.2.2 ∧ ∀ q, q < sc.2.2.length → mBh S' M q ((zcar sc.2.2 asd tn row).2.2.1 q) ((zcar sc.2.2 asd tn row).2.2.2.1 q)) := by
  have w13 := hsc.2.2.2.2.2.2.2.2.2.2.2.2
  exact ga_2 hm (fun o => ∃ S' row', o = some (nI (zcar sc.2.2 asd tn row).1, S') ∧ zfr (wGA M) S S' ∧ pNow S' M row' ∧ ((zcar sc.2.2 asd tn row).1 = 0 → row' = (zcar sc.2.2 asd tn row).2.1 ∧ mSv S' M (zcar sc.2.2 asd tn row).2.2.2.2 ∧ ∀ q, q < sc.2.2.length → mBh S' M q ((zcar sc.2.2 asd tn row).2.2.1 q) ((zcar sc.2.2 asd tn row).2.2.2.1 q))) (fun S1 f1 v1 => by
    have hm1 := mo_fr hm f1
    have hsc1 : mSc S1 M sc asd := mSc_fr hsc f1 (fun j _ _ => by omega) (fun b j _ => by omega)
    have n1 : pNow S1 M row := now_fr hn f1 (by omega) (fun j => by omega)
    obtain ⟨S', row', k1, k2, k3⟩ := ga_23 (S0 := S1) (tn := tn) hn.2.2.1 hn.2.2.2 hm1 hsc1 sc.2.2.length zF 0 S1 (by omega) (by rw [zF_eq]; have := w13.1; omega) (fr_refl _ _) rfl n1 (fun k hk => by rw [v1 k hk]; simp [zal]; rfl) (fun q hq => by obtain ⟨k', h, _⟩ := hq; omega)
    exact ⟨S', row', k1, fr_trans (fr_mono f1 (fun b j hb => by unfold wGA; omega)) k2, k3⟩) 24 zF 0 S (by omega) (by rw [zF_eq]; omega) (fr_refl _ _) (fun j hj => by omega)
end
