/-! the reference: a round -/
def pNext (S : zM) (M : Nat) (out : List Nat) : Prop := zI S M 43 = nI out.length ∧ ∀ k, k < out.length → zI S (M + 20) k = nI (lg out k)
def mSv (S : zM) (M : Nat) (sv : List Nat) : Prop := ∀ k, k < 24 → zI S (M + 21) k = nI (sv.count k)
def wGR (M : Nat) : Nat → Nat → Prop := fun b j => (b = M ∧ j = 43) ∨ b = M + 20 ∨ b = M + 21
def gaN (tn : Bool) : Nat := if tn then 4 else 7
def glN (tn : Bool) : Nat := if tn then 0 else 1
theorem mRu_G {S : zM} {q b : Nat} {ru : zRu} (h : mRu S q b ru) (tn : Bool) : zI S q (b + glN tn) = nI (ruG tn ru).length ∧ ∀ k, k < (ruG tn ru).length → zI S q (b + gaN tn + k) = nI (lg (ruG tn ru) k) := by
  cases tn
  · exact ⟨h.2.1, h.2.2.2.2.2⟩
  · exact ⟨h.1, h.2.2.2.2.1⟩
section
variable {S S0 : zM} {M : Nat} {row : List Nat} {sc : zSc} {asd : Nat → Nat}
/-- where the letters that are put come from -/
def gSrc (S : zM) (M : Nat) (row : List Nat) (at_ : Nat) (tn : Bool) (a6 a7 : Int32) (G : List Nat) : Prop := (a6 = -1 ∧ G = [lg row at_] ∧ at_ < row.length) ∨ (¬ a6 = -1 ∧ ∃ b ru, a7 = nI b ∧ b + 11 ≤ 264 ∧ mRu S (M + 5) b ru ∧ wRu ru ∧ G = ruG tn ru)
theorem gr_115 (hm : sMo S0 M) (hn : pNow S0 M row) {at_ o : Nat} {tn : Bool} {a1 a3 a4 a6 a7 : Int32} {G : List Nat} (hs : gSrc S0 M row at_ tn a6 a7 G) (ho : zI S0 M 43 = nI o) (hoG : o + G.length ≤ 60) {k177 : Nat → Int32 → Int32 → Int32 → Int32 → Int32 → Int32 → Int32 → Int32 → zM → Option (Int32 × zM)} (Q : Option (Int32 × zM) → Prop) (HK : ∀ S', zfr (fun b j => b = M + 20 ∧ o ≤ j) S0 S' → (∀ k, k < G.length → zI S' (M + 20) (o + k) = nI (lg G k)) → Q (k177 M a1 (if tn then 1 else 0) a3 a4 (nI at_) a6 a7 (nI G.length) S')) : ∀ d F k (S : zM), d + k = G.length → d < F → zfr (fun b j => b = M + 20 ∧ o ≤ j) S0 S → (∀ j, j < k → zI S (M + 20) (o + j) = nI (lg G j)) → Q (L_Mo_goesRound_115 k177 F M a1 (if tn then 1 else 0) a3 a4 (nI at_) a6 a7 (nI G.length) (nI k) S) := by
  have n4 := hn.2.2.2
  intro d
  induction d with
  | zero =>
    intro F k S hd hF hf hv
    cases F with
    | zero => omega
    | succ F =>
      have hx : ¬ nI k < nI G.length := fun z => by have := (nI_ltI (by omega) (by omega)).1 z; omega
      rw [L_Mo_goesRound_115, if_neg hx]
      exact HK S hf (fun j hj => hv j (by omega))
  | succ d ih =>
    intro F k S hd hF hf hv
    cases F with
    | zero => omega
    | succ F =>
      have hk : k < G.length := by omega
      have hx : nI k < nI G.length := (nI_ltI (by omega) (by omega)).2 hk
      have hm' := mo_fr hm hf
      have ho' : zI S M 43 = nI o := by rw [fr_I hf (by omega)]; exact ho
      have zo : zinb (nI (o + k)) 64 = true := (nn_in (by omega)).2 (by omega)
      have co : (nI (o + k)).toNatClampNeg = o + k := nI_clamp (by omega)
      have step : ∀ v : Int32, v = nI (lg G k) → Q (L_Mo_goesRound_115 k177 F M a1 (if tn then 1 else 0) a3 a4 (nI at_) a6 a7 (nI G.length) (nI (k + 1)) (zwI S (M + 20) (o + k) v)) := by
        intro v ev
        refine ih F (k + 1) _ (by omega) (by omega) (fr_trans hf (fr_wI _ _ (by omega))) (fun j hj => ?_)
        by_cases e : j = k
        · subst e; rw [mm_II, if_pos ⟨rfl, rfl⟩, ev]
        · rw [mm_II, if_neg (by omega)]; exact hv j (by omega)
      rcases hs with ⟨s1, s2, s3⟩ | ⟨s1, b, ru, s2, s3, s4, s5, s6⟩
      · have ek : k = 0 := by rw [s2] at hk; simpa using hk
        have za : zinb (nI at_) 64 = true := (nn_in (by omega)).2 (by omega)
        have ca : (nI at_).toNatClampNeg = at_ := nI_clamp (by omega)
        have v1 : zI S (M + 19) at_ = nI (lg row at_) := by rw [fr_I hf (by omega)]; exact hn.2.1 at_ s3
        have := step (nI (lg row at_)) (by rw [ek, s2, lg_cons0])
        rw [L_Mo_goesRound_115, if_pos hx]
        simp (disch := omega) [-Prod.exists, -Prod.forall, ↓bb_gf, ↓bb_gr, ↓bb_len, ↓bb_ga, ↓bb_gl, ↓bb_go, ↓bb_pf, ↓bb_pz, ↓bb_pr, ↓bb_pa, ↓bb_pb, ↓bb_pl, ↓bb_po, ↓bb_cl, ↓bb_some, ↓bb_RI, ↓bb_RJ, mm_hI, mm_hJ, mm_hR, mm_nI, mm_nJ, mm_nR, mm_sI, mm_sJ, mm_sR, mm_RI, mm_RJ, mm_IJ, mm_IR, mm_JI, mm_JR, mm_II, mm_JJ, mm_RR, hm'.1, ↓bS (mo_next hm'), ho', s1, ↓bS (mo_now hm'), mh_now hm', za, ca, v1, mh_next hm', nI_add, zo, co, nI_1]
        rw [s1] at this
        exact this
      · have gg := (mRu_G s4 tn).2 k (by rw [← s6]; exact hk)
        rw [← s6] at gg
        have g4 := (ruG_le s5 tn).1
        rw [← s6] at g4
        have g7 : gaN tn + G.length ≤ 11 := by
          obtain ⟨_, w2, w3, _⟩ := s5
          rw [s6]
          cases tn
          · simp [gaN, ruG]; omega
          · simp [gaN, ruG]; omega
        have zb : zinb (nI (b + gaN tn + k)) 264 = true := (nn_in (by omega)).2 (by omega)
        have cb : (nI (b + gaN tn + k)).toNatClampNeg = b + gaN tn + k := nI_clamp (by omega)
        have v1 : zI S (M + 5) (b + gaN tn + k) = nI (lg G k) := by rw [fr_I hf (by omega)]; exact gg
        have := step _ rfl
        rw [L_Mo_goesRound_115, if_pos hx]
        cases tn
        · have e7 : nI b + 7 + nI k = nI (b + gaN false + k) := by rw [show (7 : Int32) = nI 7 from rfl, nI_add, nI_add]; rfl
          simp (disch := omega) [-Prod.exists, -Prod.forall, ↓bb_gf, ↓bb_gr, ↓bb_len, ↓bb_ga, ↓bb_gl, ↓bb_go, ↓bb_pf, ↓bb_pz, ↓bb_pr, ↓bb_pa, ↓bb_pb, ↓bb_pl, ↓bb_po, ↓bb_cl, ↓bb_some, ↓bb_RI, ↓bb_RJ, mm_hI, mm_hJ, mm_hR, mm_nI, mm_nJ, mm_nR, mm_sI, mm_sJ, mm_sR, mm_RI, mm_RJ, mm_IJ, mm_IR, mm_JI, mm_JR, mm_II, mm_JJ, mm_RR, hm'.1, ↓bS (mo_next hm'), ho', s1, ↓bS (mo_rules hm'), mh_rules hm', s2, e7, zb, cb, v1, mh_next hm', nI_add, zo, co, nI_1]
          rw [s2] at this
          exact this
        · have e7 : nI b + 4 + nI k = nI (b + gaN true + k) := by rw [show (4 : Int32) = nI 4 from rfl, nI_add, nI_add]; rfl
          simp (disch := omega) [-Prod.exists, -Prod.forall, ↓bb_gf, ↓bb_gr, ↓bb_len, ↓bb_ga, ↓bb_gl, ↓bb_go, ↓bb_pf, ↓bb_pz, ↓bb_pr, ↓bb_pa, ↓bb_pb, ↓bb_pl, ↓bb_po, ↓bb_cl, ↓bb_some, ↓bb_RI, ↓bb_RJ, mm_hI, mm_hJ, mm_hR, mm_nI, mm_nJ, mm_nR, mm_sI, mm_sJ, mm_sR, mm_RI, mm_RJ, mm_IJ, mm_IR, mm_JI, mm_JR, mm_II, mm_JJ, mm_RR, hm'.1, ↓bS (mo_next hm'), ho', s1, ↓bS (mo_rules hm'), mh_rules hm', s2, e7, zb, cb, v1, mh_next hm', nI_add, zo, co, nI_1]
          rw [s2] at this
          exact this
theorem m_round_l {p : Nat} {tn : Bool} {sv0 : List Nat} (hm : sMo S0 M) (hsc : mSc S0 M sc asd) (hp : p < sc.2.2.length) (hn : pNow S0 M row) :
    ∀ d F (S : zM) at_ (out sv : List Nat) Fz, d + at_ = row.length → d < F → d < Fz → zfr (wGR M) S0 S → pNext S M out → out.length ≤ 60 → mSv S M (sv0 ++ sv.map (fun i => 8 * p + i)) → ∃ S', L_Mo_goesRound_30 F M (nI p) (if tn then 1 else 0) (nI (loN tn)) (nI (laN tn)) (nI at_) S = some (if (zrnd (zpa_ sc.2.2 p).2 (asd p) tn row Fz at_ out sv).1 then 1 else 0, S') ∧ zfr (wGR M) S0 S' ∧ ((zrnd (zpa_ sc.2.2 p).2 (asd p) tn row Fz at_ out sv).1 = true → pNext S' M (zrnd (zpa_ sc.2.2 p).2 (asd p) tn row Fz at_ out sv).2.1 ∧ mSv S' M (sv0 ++ (zrnd (zpa_ sc.2.2 p).2 (asd p) tn row Fz at_ out sv).2.2.map (fun i => 8 * p + i))) := by
  have n4 := hn.2.2.2
  have w13 := hsc.2.2.2.2.2.2.2.2.2.2.2.2
  have wr := ps_w w13 hp
  have w8 := wr.1
  have p3 := w13.1
  intro d
  induction d using Nat.strongRecOn with
  | _ d ih =>
    intro F S at_ out sv Fz hda hF hFz hf ho h60 hsv
    have hm' := mo_fr hm hf
    have hsc' : mSc S M sc asd := mSc_fr hsc hf (fun j _ _ => by unfold wGR; omega) (fun b j _ => by unfold wGR; omega)
    have hn' : pNow S M row := now_fr hn hf (by unfold wGR; omega) (fun j => by unfold wGR; omega)
    cases F with
    | zero => omega
    | succ F =>
      cases Fz with
      | zero => omega
      | succ Fz =>
        by_cases hlt : at_ < row.length
        · have hnle : ¬ row.length ≤ at_ := by omega
          have sv1 := m_serving (tn := tn) hm' hsc' hp hn' hlt
          have ltI : nI at_ < nI row.length := (nI_ltI (by omega) (by omega)).2 hlt
          have ro : ∀ b : Nat, f_Mo_rowOf (nI p) (nI b) S = some (nI (aRu p b), S) := fun b => by
            unfold f_Mo_rowOf
            rw [show (8 : Int32) = nI 8 from rfl, show (11 : Int32) = nI 11 from rfl, pk_mul, nI_add, pk_mul]; rfl
          have ro0 : f_Mo_rowOf (nI p) 0 S = some (nI (aRu p 0), S) := ro 0
          rw [zrnd, if_neg hnle]
          cases e : zserve (zpa_ sc.2.2 p).2 (asd p) tn row at_ with
          | none =>
            rw [e] at sv1
            simp only [zsI] at sv1
            simp only
            by_cases hfit : out.length + 1 ≤ 60
            · rw [if_pos hfit]
              have le60 : nI out.length + 1 ≤ 60 := by rw [nI_1]; exact (nI_leI (b := 60) (by omega) (by omega)).2 hfit
              have key := gr_115 (S0 := S) (at_ := at_) (o := out.length) (tn := tn) (a1 := nI p) (a3 := nI (loN tn)) (a4 := nI (laN tn)) (a6 := -1) (a7 := nI (aRu p 0)) (G := [lg row at_]) hm' hn' (Or.inl ⟨rfl, rfl, hlt⟩) ho.1 (by simpa using hfit) (k177 := F_Mo_goesRound_177 (L_Mo_goesRound_30 F)) (fun o => ∃ S', o = some (if (zrnd (zpa_ sc.2.2 p).2 (asd p) tn row Fz (at_ + 1) (out ++ [lg row at_]) sv).1 then 1 else 0, S') ∧ zfr (wGR M) S0 S' ∧ ((zrnd (zpa_ sc.2.2 p).2 (asd p) tn row Fz (at_ + 1) (out ++ [lg row at_]) sv).1 = true → pNext S' M (zrnd (zpa_ sc.2.2 p).2 (asd p) tn row Fz (at_ + 1) (out ++ [lg row at_]) sv).2.1 ∧ mSv S' M (sv0 ++ (zrnd (zpa_ sc.2.2 p).2 (asd p) tn row Fz (at_ + 1) (out ++ [lg row at_]) sv).2.2.map (fun i => 8 * p + i)))) (fun S1 f1 v1 => by
                have hm1 := mo_fr hm' f1
                have i43 : zI S1 M 43 = nI out.length := by rw [fr_I f1 (by omega)]; exact ho.1
                obtain ⟨S', g1, g2⟩ := ih (d - 1) (by omega) F (zwI S1 M 43 (nI (out.length + 1))) (at_ + 1) (out ++ [lg row at_]) sv Fz (by omega) (by omega) (by omega) (fr_trans hf (fr_trans (fr_mono f1 (fun b j hb => by unfold wGR; omega)) (fr_wI _ _ (by unfold wGR; omega)))) ⟨by simp [mm_II], fun k hk => by
                  simp only [List.length_append, List.length_cons, List.length_nil] at hk
                  rw [mm_II, if_neg (by omega)]
                  by_cases q : k = out.length
                  · subst q
                    have := v1 0 (by simp)
                    rw [Nat.add_zero, lg_cons0] at this
                    rw [lg_end]; exact this
                  · rw [fr_I f1 (by omega), lg_app1 (by omega)]; exact ho.2 k (by omega)⟩ (by simp; omega) (fun k hk => by rw [mm_II, if_neg (by omega), fr_I f1 (by omega)]; exact hsv k hk)
                refine ⟨S', ?_, g2⟩
                rw [← g1]
                have n1 : nI ([lg row at_] : List Nat).length = 1 := rfl
                simp [F_Mo_goesRound_177, -Prod.exists, -Prod.forall, ↓bb_gf, ↓bb_gr, ↓bb_len, ↓bb_ga, ↓bb_gl, ↓bb_go, ↓bb_pf, ↓bb_pz, ↓bb_pr, ↓bb_pa, ↓bb_pb, ↓bb_pl, ↓bb_po, ↓bb_cl, ↓bb_some, ↓bb_RI, ↓bb_RJ, mm_hI, mm_hJ, mm_hR, mm_nI, mm_nJ, mm_nR, mm_sI, mm_sJ, mm_sR, mm_RI, mm_RJ, mm_IJ, mm_IR, mm_JI, mm_JR, mm_II, mm_JJ, mm_RR, hm1.1, i43, n1, nI_1, nI_add]) ([lg row at_] : List Nat).length zF 0 S (by omega) (by rw [zF_eq]; simp) (fr_refl _ _) (fun j hj => by omega)
              obtain ⟨S', g1, g2⟩ := key
              refine ⟨S', ?_, g2⟩
              rw [← g1, L_Mo_goesRound_30]
              simp (disch := omega) [-Prod.exists, -Prod.forall, ↓bb_gf, ↓bb_gr, ↓bb_len, ↓bb_ga, ↓bb_gl, ↓bb_go, ↓bb_pf, ↓bb_pz, ↓bb_pr, ↓bb_pa, ↓bb_pb, ↓bb_pl, ↓bb_po, ↓bb_cl, ↓bb_some, ↓bb_RI, ↓bb_RJ, mm_hI, mm_hJ, mm_hR, mm_nI, mm_nJ, mm_nR, mm_sI, mm_sJ, mm_sR, mm_RI, mm_RJ, mm_IJ, mm_IR, mm_JI, mm_JR, mm_II, mm_JJ, mm_RR, hm'.1, hn'.1, ltI, ↓bS sv1, ↓bS ro0, ho.1, le60]
              rfl
            · rw [if_neg hfit]
              have nle60 : ¬ nI out.length + 1 ≤ 60 := by rw [nI_1]; intro z; have := (nI_leI (b := 60) (by omega) (by omega)).1 z; omega
              refine ⟨S, ?_, hf, fun q => by simp at q⟩
              rw [L_Mo_goesRound_30]
              simp (disch := omega) [-Prod.exists, -Prod.forall, ↓bb_gf, ↓bb_gr, ↓bb_len, ↓bb_ga, ↓bb_gl, ↓bb_go, ↓bb_pf, ↓bb_pz, ↓bb_pr, ↓bb_pa, ↓bb_pb, ↓bb_pl, ↓bb_po, ↓bb_cl, ↓bb_some, ↓bb_RI, ↓bb_RJ, mm_hI, mm_hJ, mm_hR, mm_nI, mm_nJ, mm_nR, mm_sI, mm_sJ, mm_sR, mm_RI, mm_RJ, mm_IJ, mm_IR, mm_JI, mm_JR, mm_II, mm_JJ, mm_RR, hm'.1, hn'.1, ltI, ↓bS sv1, ↓bS ro0, ho.1, nle60]
          | some i =>
            rw [e] at sv1
            simp only [zsI] at sv1
            obtain ⟨hi, hl0, hll⟩ := serve_len e
            have ni1 : ¬ nI i = -1 := fun z => (nn_eqm (m := 1) (by omega) (by omega) (by omega)).1 z
            have hru := hsc'.2.2.2.2.2.2.2.1 p i hp hi
            have hwu := ru_w wr hi
            have har : aRu p i + 11 ≤ 264 := by unfold aRu; omega
            have gl := (mRu_G hru tn).1
            have tl := (mRu_T hru tn).1
            have g4 := (ruG_le hwu tn).1
            have t4 := (ruT_le hwu tn).1
            have lo1 : loN tn ≤ 1 := by cases tn <;> simp [loN]
            have gl1 : glN tn ≤ 1 := by cases tn <;> simp [glN]
            obtain ⟨G, hG⟩ : ∃ G, G = ruG tn (zru (zpa_ sc.2.2 p).2 i) := ⟨_, rfl⟩
            simp only
            rw [← hG] at gl g4
            have z1 : zinb (nI (aRu p i + glN tn)) 264 = true := (nn_in (by omega)).2 (by omega)
            have c1 : (nI (aRu p i + glN tn)).toNatClampNeg = aRu p i + glN tn := nI_clamp (by omega)
            have z2 : zinb (nI (aRu p i + loN tn)) 264 = true := (nn_in (by omega)).2 (by omega)
            have c2 : (nI (aRu p i + loN tn)).toNatClampNeg = aRu p i + loN tn := nI_clamp (by omega)
            have h8i : (8 : Int32) * nI p + nI i = nI (8 * p + i) := by rw [show (8 : Int32) = nI 8 from rfl, pk_mul, nI_add]
            have z3 : zinb (nI (8 * p + i)) 24 = true := (nn_in (by omega)).2 (by omega)
            have c3 : (nI (8 * p + i)).toNatClampNeg = 8 * p + i := nI_clamp (by omega)
            have many : ∀ R : Option (Int32 × zM), (if nI out.length + nI G.length ≤ 60 then (L_Mo_goesRound_115 (F_Mo_goesRound_177 (L_Mo_goesRound_30 F)) zF) M (nI p) (if tn then 1 else 0) (nI (loN tn)) (nI (laN tn)) (nI at_) (nI i) (nI (aRu p i)) (nI G.length) (0 : Int32) S else some ((0 : Int32), S)) = R → L_Mo_goesRound_30 (F + 1) M (nI p) (if tn then 1 else 0) (nI (loN tn)) (nI (laN tn)) (nI at_) S = R := by
              intro R hR
              rw [← hR, L_Mo_goesRound_30]
              cases tn
              · have e1 : nI (aRu p i) + 1 = nI (aRu p i + glN false) := nI_add _ 1
                simp (disch := omega) [-Prod.exists, -Prod.forall, ↓bb_gf, ↓bb_gr, ↓bb_len, ↓bb_ga, ↓bb_gl, ↓bb_go, ↓bb_pf, ↓bb_pz, ↓bb_pr, ↓bb_pa, ↓bb_pb, ↓bb_pl, ↓bb_po, ↓bb_cl, ↓bb_some, ↓bb_RI, ↓bb_RJ, mm_hI, mm_hJ, mm_hR, mm_nI, mm_nJ, mm_nR, mm_sI, mm_sJ, mm_sR, mm_RI, mm_RJ, mm_IJ, mm_IR, mm_JI, mm_JR, mm_II, mm_JJ, mm_RR, hm'.1, hn'.1, ltI, ↓bS sv1, ↓bS (ro i), ni1, ↓bS (mo_rules hm'), mh_rules hm', e1, z1, c1, gl, ho.1]
              · have e1 : nI (aRu p i) + 0 = nI (aRu p i + glN true) := nI_add _ 0
                simp (disch := omega) only [↓bb_gf, ↓bb_gr, ↓bb_cl, ↓bb_ga, hm'.1, hn'.1, if_true, ltI, ↓bS sv1, ↓bS (ro i), ni1, if_false, ↓bS (mo_rules hm'), mh_rules hm', e1, z1, c1, gl, ho.1, true_and, show ¬ (1 : Int32) = 0 by decide]
                rfl
            by_cases hfit : out.length + G.length ≤ 60
            · have hfit' : out.length + (ruG tn (zru (zpa_ sc.2.2 p).2 i)).length ≤ 60 := by rw [← hG]; exact hfit
              simp only [hfit', if_true]
              simp only [← hG]
              have le60 : nI out.length + nI G.length ≤ 60 := by rw [nI_add]; exact (nI_leI (b := 60) (by omega) (by omega)).2 hfit
              have key := gr_115 (S0 := S) (at_ := at_) (o := out.length) (tn := tn) (a1 := nI p) (a3 := nI (loN tn)) (a4 := nI (laN tn)) (a6 := nI i) (a7 := nI (aRu p i)) (G := G) hm' hn' (Or.inr ⟨ni1, _, _, rfl, har, hru, hwu, hG⟩) ho.1 hfit (k177 := F_Mo_goesRound_177 (L_Mo_goesRound_30 F)) (fun o => ∃ S', o = some (if (zrnd (zpa_ sc.2.2 p).2 (asd p) tn row Fz (at_ + zlenT (zpa_ sc.2.2 p).2 tn i) (out ++ G) (sv ++ [i])).1 then 1 else 0, S') ∧ zfr (wGR M) S0 S' ∧ ((zrnd (zpa_ sc.2.2 p).2 (asd p) tn row Fz (at_ + zlenT (zpa_ sc.2.2 p).2 tn i) (out ++ G) (sv ++ [i])).1 = true → pNext S' M (zrnd (zpa_ sc.2.2 p).2 (asd p) tn row Fz (at_ + zlenT (zpa_ sc.2.2 p).2 tn i) (out ++ G) (sv ++ [i])).2.1 ∧ mSv S' M (sv0 ++ (zrnd (zpa_ sc.2.2 p).2 (asd p) tn row Fz (at_ + zlenT (zpa_ sc.2.2 p).2 tn i) (out ++ G) (sv ++ [i])).2.2.map (fun i => 8 * p + i)))) (fun S1 f1 v1 => by
                have hm1 := mo_fr hm' f1
                have i43 : zI S1 M 43 = nI out.length := by rw [fr_I f1 (by omega)]; exact ho.1
                have sv3 : zI S1 (M + 21) (8 * p + i) = nI ((sv0 ++ sv.map (fun i => 8 * p + i)).count (8 * p + i)) := by rw [fr_I f1 (by omega)]; exact hsv _ (by omega)
                have tl1 : zI S1 (M + 5) (aRu p i + loN tn) = nI (zlenT (zpa_ sc.2.2 p).2 tn i) := by rw [fr_I f1 (by omega)]; exact tl
                obtain ⟨S2, hS2⟩ : ∃ S2, S2 = zwI (zwI S1 M 43 (nI (out.length + G.length))) (M + 21) (8 * p + i) (nI ((sv0 ++ sv.map (fun i => 8 * p + i)).count (8 * p + i) + 1)) := ⟨_, rfl⟩
                obtain ⟨S', g1, g2⟩ := ih (d - zlenT (zpa_ sc.2.2 p).2 tn i) (by omega) F S2 (at_ + zlenT (zpa_ sc.2.2 p).2 tn i) (out ++ G) (sv ++ [i]) Fz (by omega) (by omega) (by omega) (by rw [hS2]; exact fr_trans hf (fr_trans (fr_mono f1 (fun b j hb => by unfold wGR; omega)) (fr_trans (fr_wI _ _ (by unfold wGR; omega)) (fr_wI _ _ (by unfold wGR; omega))))) ⟨by rw [hS2]; simp [mm_II], fun k hk => by
                  simp only [List.length_append] at hk
                  rw [hS2, mm_II, if_neg (by omega), mm_II, if_neg (by omega)]
                  by_cases q : k < out.length
                  · rw [fr_I f1 (by omega), lg_app1 q]; exact ho.2 k q
                  · rw [lg_app2 (by omega)]
                    have := v1 (k - out.length) (by omega)
                    rw [show out.length + (k - out.length) = k by omega] at this
                    exact this⟩ (by simp; omega) (fun k hk => by
                  have ea : sv0 ++ (sv ++ [i]).map (fun i => 8 * p + i) = (sv0 ++ sv.map (fun i => 8 * p + i)) ++ [8 * p + i] := by simp
                  rw [ea, List.count_append, hS2, mm_II]
                  by_cases q : k = 8 * p + i
                  · subst q; rw [if_pos ⟨rfl, rfl⟩, List.count_singleton_self]
                  · rw [if_neg (by omega), mm_II, if_neg (by omega), fr_I f1 (by omega), hsv k hk, List.count_singleton]
                    have : ¬ 8 * p + i = k := by omega
                    simp [this])
                refine ⟨S', ?_, g2⟩
                rw [← g1, hS2]
                simp (disch := omega) [F_Mo_goesRound_177, -Prod.exists, -Prod.forall, ↓bb_gf, ↓bb_gr, ↓bb_len, ↓bb_ga, ↓bb_gl, ↓bb_go, ↓bb_pf, ↓bb_pz, ↓bb_pr, ↓bb_pa, ↓bb_pb, ↓bb_pl, ↓bb_po, ↓bb_cl, ↓bb_some, ↓bb_RI, ↓bb_RJ, mm_hI, mm_hJ, mm_hR, mm_nI, mm_nJ, mm_nR, mm_sI, mm_sJ, mm_sR, mm_RI, mm_RJ, mm_IJ, mm_IR, mm_JI, mm_JR, mm_II, mm_JJ, mm_RR, hm1.1, i43, ni1, ↓bS (mo_rules hm1), mh_rules hm1, nI_add, z2, c2, tl1, ↓bS (mo_servedBy hm1), mh_servedBy hm1, h8i, z3, c3, sv3, nI_1]) G.length zF 0 S (by omega) (by rw [zF_eq]; omega) (fr_refl _ _) (fun j hj => by omega)
              obtain ⟨S', g1, g2⟩ := key
              refine ⟨S', many _ ?_, g2⟩
              rw [if_pos le60]
              exact g1
            · have hfit' : ¬ out.length + (ruG tn (zru (zpa_ sc.2.2 p).2 i)).length ≤ 60 := by rw [← hG]; exact hfit
              simp only [hfit', if_false]
              have nle60 : ¬ nI out.length + nI G.length ≤ 60 := by rw [nI_add]; intro z; have := (nI_leI (b := 60) (by omega) (by omega)).1 z; omega
              refine ⟨S, many _ ?_, hf, fun q => by simp at q⟩
              rw [if_neg nle60]; rfl
        · have hle : row.length ≤ at_ := by omega
          have nlt : ¬ nI at_ < nI row.length := fun z => by have := (nI_ltI (by omega) (by omega)).1 z; omega
          rw [zrnd, if_pos hle]
          refine ⟨S, ?_, hf, fun _ => ⟨ho, hsv⟩⟩
          rw [L_Mo_goesRound_30]
          simp (disch := omega) [-Prod.exists, -Prod.forall, ↓bb_gf, ↓bb_gr, ↓bb_len, ↓bb_ga, ↓bb_gl, ↓bb_go, ↓bb_pf, ↓bb_pz, ↓bb_pr, ↓bb_pa, ↓bb_pb, ↓bb_pl, ↓bb_po, ↓bb_cl, ↓bb_some, ↓bb_RI, ↓bb_RJ, mm_hI, mm_hJ, mm_hR, mm_nI, mm_nJ, mm_nR, mm_sI, mm_sJ, mm_sR, mm_RI, mm_RJ, mm_IJ, mm_IR, mm_JI, mm_JR, mm_II, mm_JJ, mm_RR, hm'.1, hn'.1, nlt]
end
