/-! the reference: pieces laid out -/
def wMPc (M : Nat) : Nat → Nat → Prop := fun b j => (b = M ∧ j = 35) ∨ b = M + 12 ∨ b = M + 13 ∨ b = M + 14
def mPcs (S : zM) (M : Nat) (pcs : List (Nat × List Nat)) : Prop := zI S M 35 = nI pcs.length ∧ ∀ k, k < pcs.length → zI S (M + 12) k = nI (pcN pcs k) ∧ zI S (M + 13) k = nI (pcL pcs k).length ∧ ∀ j, j < (pcL pcs k).length → zI S (M + 14) (4 * k + j) = nI (lg (pcL pcs k) j)
theorem pc_app1 {pcs : List (Nat × List Nat)} {q : Nat × List Nat} {k : Nat} (h : k < pcs.length) : pcN (pcs ++ [q]) k = pcN pcs k ∧ pcL (pcs ++ [q]) k = pcL pcs k := by
  unfold pcN pcL
  rw [List.getD_eq_getElem?_getD, List.getD_eq_getElem?_getD, List.getElem?_append_left h]; exact ⟨rfl, rfl⟩
theorem pc_app2 {pcs : List (Nat × List Nat)} {q : Nat × List Nat} : pcN (pcs ++ [q]) pcs.length = q.1 ∧ pcL (pcs ++ [q]) pcs.length = q.2 := by
  unfold pcN pcL; simp
/-- one piece more -/
theorem mPcs_app {S S' : zM} {M v : Nat} {pcs : List (Nat × List Nat)} {t : List Nat} (h : mPcs S M pcs) (hl : ∀ k, k < pcs.length → (pcL pcs k).length ≤ 4) (e35 : zI S' M 35 = nI (pcs.length + 1)) (e12 : ∀ k, zI S' (M + 12) k = if k = pcs.length then nI v else zI S (M + 12) k) (e13 : ∀ k, zI S' (M + 13) k = if k = pcs.length then nI t.length else zI S (M + 13) k) (e14 : ∀ j, j < 4 * pcs.length → zI S' (M + 14) j = zI S (M + 14) j) (e15 : ∀ j, j < t.length → zI S' (M + 14) (4 * pcs.length + j) = nI (lg t j)) : mPcs S' M (pcs ++ [(v, t)]) := by
  refine ⟨by rw [e35]; simp, fun k hk => ?_⟩
  rw [List.length_append, List.length_singleton] at hk
  by_cases q : k = pcs.length
  · subst q
    rw [pc_app2.1, pc_app2.2, e12, e13, if_pos rfl, if_pos rfl]
    exact ⟨rfl, rfl, e15⟩
  · have hk2 : k < pcs.length := by omega
    rw [(pc_app1 hk2).1, (pc_app1 hk2).2, e12, e13, if_neg q, if_neg q]
    refine ⟨(h.2 k hk2).1, (h.2 k hk2).2.1, fun j hj => ?_⟩
    have := hl k hk2
    rw [e14 _ (by omega)]; exact (h.2 k hk2).2.2 j hj
section
variable {S0 : zM} {M p : Nat} {sc : zSc} {asd : Nat → Nat}
theorem pc1_l4 {rs : List zRu} {mask n : Nat} (hw : wRs rs) (hn : n ≤ rs.length) : ∀ q, q ∈ zpc1 rs mask n → q.2.length ≤ 4 := by
  intro q hq
  unfold zpc1 at hq
  obtain ⟨i, i1, rfl⟩ := List.mem_map.1 hq
  exact (ru_w hw (by have := List.mem_range.1 (List.mem_filter.1 i1).1; omega)).2.2.1
theorem pcL_mem {pcs : List (Nat × List Nat)} {k : Nat} (h : k < pcs.length) : (pcN pcs k, pcL pcs k) ∈ pcs := by
  have : (pcN pcs k, pcL pcs k) = pcs[k] := by simp [pcN, pcL, h]
  rw [this]; exact List.getElem_mem h
theorem pc2_l4 {rs : List zRu} {mask n : Nat} : ∀ q, q ∈ zpc2 rs mask n → q.2.length ≤ 4 := by
  intro q hq
  unfold zpc2 at hq
  obtain ⟨i, i1, rfl⟩ := List.mem_map.1 hq
  simp
theorem mpc_121 (hm0 : sMo S0 M) (hs0 : mSc S0 M sc asd) (hp : p < sc.2.2.length) {as0 : List (Nat × List Nat)} (h8 : as0.length ≤ 8) (h4 : ∀ q, q ∈ as0 → q.2.length ≤ 4) : ∀ d F (S : zM) l, d + l = 8 → d < F → zfr (wMPc M) S0 S → mPcs S M (as0 ++ zpc2 (zpa_ sc.2.2 p).2 (asd p) l) → ∃ S', L_Mo_laysPieces_121 F M (nI p) (nI l) S = some S' ∧ zfr (wMPc M) S0 S' ∧ mPcs S' M (as0 ++ zpc2 (zpa_ sc.2.2 p).2 (asd p) 8) := by
  intro d
  induction d with
  | zero =>
    intro F S l hd hF hf ha
    cases F with
    | zero => omega
    | succ F =>
      have el : l = 8 := by omega
      subst el
      have hx : ¬ nI 8 < (8 : Int32) := by decide
      exact ⟨S, by simp [L_Mo_laysPieces_121, hx], hf, ha⟩
  | succ d ih =>
    intro F S l hd hF hf ha
    cases F with
    | zero => omega
    | succ F =>
      have hm := mo_fr hm0 hf
      have hs := mSc_fr hs0 hf (fun j a b => by unfold wMPc; omega) (fun b j a => by unfold wMPc; omega)
      have hl : nI l < (8 : Int32) := (nI_ltI (b := 8) (by omega) (by omega)).2 (by omega)
      have e1 : nI l + 1 = nI (l + 1) := nI_add l 1
      have e8 : (8 : Int32) + nI l = nI (8 + l) := nI_add 8 l
      have hlen := pc2_len (rs := (zpa_ sc.2.2 p).2) (mask := asd p) (n := l)
      have wr := ps_w hs.2.2.2.2.2.2.2.2.2.2.2.2 hp
      have r8 := wr.1
      have tk : f_Mo_isTurned M (nI p) (nI l) S = some (if ztkB (zpa_ sc.2.2 p).2 (asd p) l then 1 else 0, S) := by
        rcases turned_l hm hs hp (l := l) (by omega) (zpa_ sc.2.2 p).2.length zF 0 (by omega) (by rw [zF_eq]; omega) with ⟨⟨j, w1, w2, w3⟩, w4⟩ | ⟨w1, w2⟩
        · rw [if_pos (tk_iff.2 ⟨j, w2, w3⟩)]; exact w4
        · rw [if_neg (fun q => by obtain ⟨j, v1, v2⟩ := tk_iff.1 q; exact w1 j (by omega) v1 v2)]; exact w2
      cases b1 : ztkB (zpa_ sc.2.2 p).2 (asd p) l with
      | true =>
        rw [b1] at tk
        simp only [if_true] at tk
        obtain ⟨S', r1, r2⟩ := ih F S (l + 1) (by omega) (by omega) hf (by rw [pc2_succ, b1]; simpa using ha)
        refine ⟨S', ?_, r2⟩
        rw [← r1, L_Mo_laysPieces_121]
        simp (disch := omega) [-Prod.exists, -Prod.forall, ↓bb_gf, ↓bb_gr, ↓bb_len, ↓bb_ga, ↓bb_gl, ↓bb_go, ↓bb_pf, ↓bb_pz, ↓bb_pr, ↓bb_pa, ↓bb_pb, ↓bb_pl, ↓bb_po, ↓bb_cl, ↓bb_some, ↓bb_RI, ↓bb_RJ, mm_hI, mm_hJ, mm_hR, mm_nI, mm_nJ, mm_nR, mm_sI, mm_sJ, mm_sR, mm_RI, mm_RJ, mm_IJ, mm_IR, mm_JI, mm_JR, mm_II, mm_JJ, mm_RR, hl, hm.1, ↓bS tk, e1]
      | false =>
        rw [b1] at tk
        simp only [Bool.false_eq_true, if_false] at tk
        have hn16 : (as0 ++ zpc2 (zpa_ sc.2.2 p).2 (asd p) l).length < 16 := by rw [List.length_append]; omega
        have ha1 := ha.1
        have h4' : ∀ k, k < (as0 ++ zpc2 (zpa_ sc.2.2 p).2 (asd p) l).length → (pcL (as0 ++ zpc2 (zpa_ sc.2.2 p).2 (asd p) l) k).length ≤ 4 := by
          intro k hk
          have := pcL_mem hk
          rcases List.mem_append.1 this with q | q
          · exact h4 _ q
          · exact pc2_l4 _ q
        have eap : as0 ++ zpc2 (zpa_ sc.2.2 p).2 (asd p) (l + 1) = (as0 ++ zpc2 (zpa_ sc.2.2 p).2 (asd p) l) ++ [(8 + l, [l])] := by rw [pc2_succ, b1, List.append_assoc]; simp
        revert ha ha1 hn16 h4' eap
        generalize as0 ++ zpc2 (zpa_ sc.2.2 p).2 (asd p) l = pcs
        intro ha hn16 ha1 h4' eap
        have zi : zinb (nI pcs.length) 16 = true := (nn_in (by omega)).2 hn16
        have ci : (nI pcs.length).toNatClampNeg = pcs.length := nI_clamp (by omega)
        have z4 : zinb (nI (4 * pcs.length)) 64 = true := (nn_in (by omega)).2 (by omega)
        have c4 : (nI (4 * pcs.length)).toNatClampNeg = 4 * pcs.length := nI_clamp (by omega)
        have m4 : (4 : Int32) * nI pcs.length = nI (4 * pcs.length) := pk_mul 4 _
        have ee : nI pcs.length + 1 = nI (pcs.length + 1) := nI_add _ 1
        obtain ⟨S', r1, r2⟩ := ih F (zwI (zwI (zwI (zwI S (M + 12) pcs.length (nI (8 + l))) (M + 13) pcs.length 1) (M + 14) (4 * pcs.length) (nI l)) M 35 (nI (pcs.length + 1))) (l + 1) (by omega) (by omega)
          (fr_trans hf (fr_trans (fr_trans (fr_trans (fr_wI _ _ (Or.inr (Or.inl rfl))) (fr_wI _ _ (Or.inr (Or.inr (Or.inl rfl))))) (fr_wI _ _ (Or.inr (Or.inr (Or.inr rfl))))) (fr_wI _ _ (Or.inl ⟨rfl, rfl⟩))))
          (by
            rw [eap]
            refine mPcs_app ha h4' (by simp [-Prod.exists, -Prod.forall, zgf, zgr, zpf, zpz, zpr, zga, zgl, zgo, zpa, zpb, zpl, zpo, mm_len, zcl, Option.bind_some, Option.bind_none, mm_hI, mm_hJ, mm_hR, mm_nI, mm_nJ, mm_nR, mm_sI, mm_sJ, mm_sR, mm_RI, mm_RJ, mm_IJ, mm_IR, mm_JI, mm_JR, mm_II, mm_JJ, mm_RR]) (fun k => by simp [-Prod.exists, -Prod.forall, zgf, zgr, zpf, zpz, zpr, zga, zgl, zgo, zpa, zpb, zpl, zpo, mm_len, zcl, Option.bind_some, Option.bind_none, mm_hI, mm_hJ, mm_hR, mm_nI, mm_nJ, mm_nR, mm_sI, mm_sJ, mm_sR, mm_RI, mm_RJ, mm_IJ, mm_IR, mm_JI, mm_JR, mm_II, mm_JJ, mm_RR]) (fun k => by simp [-Prod.exists, -Prod.forall, zgf, zgr, zpf, zpz, zpr, zga, zgl, zgo, zpa, zpb, zpl, zpo, mm_len, zcl, Option.bind_some, Option.bind_none, mm_hI, mm_hJ, mm_hR, mm_nI, mm_nJ, mm_nR, mm_sI, mm_sJ, mm_sR, mm_RI, mm_RJ, mm_IJ, mm_IR, mm_JI, mm_JR, mm_II, mm_JJ, mm_RR]; rfl) (fun j hj => ?_) (fun j hj => ?_)
            · have : ¬ j = 4 * pcs.length := by omega
              simp [-Prod.exists, -Prod.forall, zgf, zgr, zpf, zpz, zpr, zga, zgl, zgo, zpa, zpb, zpl, zpo, mm_len, zcl, Option.bind_some, Option.bind_none, mm_hI, mm_hJ, mm_hR, mm_nI, mm_nJ, mm_nR, mm_sI, mm_sJ, mm_sR, mm_RI, mm_RJ, mm_IJ, mm_IR, mm_JI, mm_JR, mm_II, mm_JJ, mm_RR, this]
            · have : j = 0 := by simpa using hj
              subst this
              simp [-Prod.exists, -Prod.forall, zgf, zgr, zpf, zpz, zpr, zga, zgl, zgo, zpa, zpb, zpl, zpo, mm_len, zcl, Option.bind_some, Option.bind_none, mm_hI, mm_hJ, mm_hR, mm_nI, mm_nJ, mm_nR, mm_sI, mm_sJ, mm_sR, mm_RI, mm_RJ, mm_IJ, mm_IR, mm_JI, mm_JR, mm_II, mm_JJ, mm_RR, lg_cons0])
        refine ⟨S', ?_, r2⟩
        rw [← r1, L_Mo_laysPieces_121]
        simp (disch := omega) [-Prod.exists, -Prod.forall, ↓bb_gf, ↓bb_gr, ↓bb_len, ↓bb_ga, ↓bb_gl, ↓bb_go, ↓bb_pf, ↓bb_pz, ↓bb_pr, ↓bb_pa, ↓bb_pb, ↓bb_pl, ↓bb_po, ↓bb_cl, ↓bb_some, ↓bb_RI, ↓bb_RJ, mm_hI, mm_hJ, mm_hR, mm_nI, mm_nJ, mm_nR, mm_sI, mm_sJ, mm_sR, mm_RI, mm_RJ, mm_IJ, mm_IR, mm_JI, mm_JR, mm_II, mm_JJ, mm_RR, hl, hm.1, ↓bS tk, mo_pieceOf hm, mh_pieceOf hm, mo_pieceLong hm, mh_pieceLong hm, mo_pieceAt hm, mh_pieceAt hm, ha1, zi, ci, z4, c4, m4, ee, e8, e1]
theorem mpc_64 (hm0 : sMo S0 M) {i n : Nat} (hp : p < 3) (hi : i < 8) (h35 : zI S0 M 35 = nI n) (hn : n < 16) {K : Nat → Int32 → Int32 → zM → Option zM} (Q : Option zM → Prop) (HK : ∀ S', zfr (fun b j => b = M + 14 ∧ 4 * n ≤ j) S0 S' → (∀ k, k < 4 → zI S' (M + 14) (4 * n + k) = zI S0 (M + 5) (aRu p i + 7 + k)) → Q (K M (nI p) (nI i) S')) : ∀ d F (S : zM) k, d + k = 4 → d < F → zfr (fun b j => b = M + 14 ∧ 4 * n ≤ j) S0 S → (∀ j, j < k → zI S (M + 14) (4 * n + j) = zI S0 (M + 5) (aRu p i + 7 + j)) → Q (L_Mo_laysPieces_64 K F M (nI p) (nI i) (nI k) S) := by
  have har : aRu p i + 11 ≤ 264 := by unfold aRu; omega
  intro d
  induction d with
  | zero =>
    intro F S k hd hF hf ha
    cases F with
    | zero => omega
    | succ F =>
      have el : k = 4 := by omega
      subst el
      have hx : ¬ nI 4 < (4 : Int32) := by decide
      have : L_Mo_laysPieces_64 K (F + 1) M (nI p) (nI i) (nI 4) S = K M (nI p) (nI i) S := by simp [L_Mo_laysPieces_64, hx]
      rw [this]; exact HK S hf ha
  | succ d ih =>
    intro F S k hd hF hf ha
    cases F with
    | zero => omega
    | succ F =>
      have hm := mo_fr hm0 hf
      have hk : nI k < (4 : Int32) := (nI_ltI (b := 4) (by omega) (by omega)).2 (by omega)
      have e1 : nI k + 1 = nI (k + 1) := nI_add k 1
      have ro : f_Mo_rowOf (nI p) (nI i) S = some (nI (aRu p i), S) := by
        unfold f_Mo_rowOf
        rw [show (8 : Int32) = nI 8 from rfl, show (11 : Int32) = nI 11 from rfl, pk_mul, nI_add, pk_mul]; rfl
      have h35' : zI S M 35 = nI n := by rw [fr_I hf (by omega)]; exact h35
      have m4 : (4 : Int32) * nI n = nI (4 * n) := pk_mul 4 _
      have z1 : zinb (nI (aRu p i + 7 + k)) 264 = true := (nn_in (by omega)).2 (by omega)
      have c1 : (nI (aRu p i + 7 + k)).toNatClampNeg = aRu p i + 7 + k := nI_clamp (by omega)
      have z2 : zinb (nI (4 * n + k)) 64 = true := (nn_in (by omega)).2 (by omega)
      have c2 : (nI (4 * n + k)).toNatClampNeg = 4 * n + k := nI_clamp (by omega)
      have a7 : nI (aRu p i) + 7 = nI (aRu p i + 7) := nI_add _ 7
      have ev : zI S (M + 5) (aRu p i + 7 + k) = zI S0 (M + 5) (aRu p i + 7 + k) := fr_I hf (by omega)
      have st : L_Mo_laysPieces_64 K (F + 1) M (nI p) (nI i) (nI k) S = L_Mo_laysPieces_64 K F M (nI p) (nI i) (nI (k + 1)) (zwI S (M + 14) (4 * n + k) (zI S0 (M + 5) (aRu p i + 7 + k))) := by
        rw [L_Mo_laysPieces_64]
        simp (disch := omega) [-Prod.exists, -Prod.forall, ↓bb_gf, ↓bb_gr, ↓bb_len, ↓bb_ga, ↓bb_gl, ↓bb_go, ↓bb_pf, ↓bb_pz, ↓bb_pr, ↓bb_pa, ↓bb_pb, ↓bb_pl, ↓bb_po, ↓bb_cl, ↓bb_some, ↓bb_RI, ↓bb_RJ, mm_hI, mm_hJ, mm_hR, mm_nI, mm_nJ, mm_nR, mm_sI, mm_sJ, mm_sR, mm_RI, mm_RJ, mm_IJ, mm_IR, mm_JI, mm_JR, mm_II, mm_JJ, mm_RR, hk, hm.1, mo_pieceAt hm, mh_pieceAt hm, h35', ↓bS (mo_rules hm), mh_rules hm, ↓bS ro, a7, nI_add, z1, c1, m4, z2, c2, e1, ev]
      rw [st]
      refine ih F _ (k + 1) (by omega) (by omega) (fr_trans hf (fr_wI _ _ ⟨rfl, by omega⟩)) (fun j hj => ?_)
      by_cases q : j = k
      · subst q; simp [-Prod.exists, -Prod.forall, zgf, zgr, zpf, zpz, zpr, zga, zgl, zgo, zpa, zpb, zpl, zpo, mm_len, zcl, Option.bind_some, Option.bind_none, mm_hI, mm_hJ, mm_hR, mm_nI, mm_nJ, mm_nR, mm_sI, mm_sJ, mm_sR, mm_RI, mm_RJ, mm_IJ, mm_IR, mm_JI, mm_JR, mm_II, mm_JJ, mm_RR]
      · rw [← ha j (by omega)]; simp [-Prod.exists, -Prod.forall, zgf, zgr, zpf, zpz, zpr, zga, zgl, zgo, zpa, zpb, zpl, zpo, mm_len, zcl, Option.bind_some, Option.bind_none, mm_hI, mm_hJ, mm_hR, mm_nI, mm_nJ, mm_nR, mm_sI, mm_sJ, mm_sR, mm_RI, mm_RJ, mm_IJ, mm_IR, mm_JI, mm_JR, mm_II, mm_JJ, mm_RR, q]
theorem mpc_7 (hm0 : sMo S0 M) (hs0 : mSc S0 M sc asd) (hp : p < sc.2.2.length) : ∀ d F (S : zM) i, d + i = (zpa_ sc.2.2 p).2.length → d < F → zfr (wMPc M) S0 S → mPcs S M (zpc1 (zpa_ sc.2.2 p).2 (asd p) i) → ∃ S', L_Mo_laysPieces_7 (F_Mo_laysPieces_119 (L_Mo_laysPieces_121 zF)) F M (nI p) (nI i) S = some S' ∧ zfr (wMPc M) S0 S' ∧ mPcs S' M (zpcs (zpa_ sc.2.2 p).2 (asd p)) := by
  have wr := ps_w hs0.2.2.2.2.2.2.2.2.2.2.2.2 hp
  have r8 := wr.1
  have hp3 : p < 3 := by have := hs0.2.2.2.2.2.2.2.2.2.2.2.2.1; omega
  have zp : zinb (nI p) 3 = true := (nn_in (by omega)).2 (by omega)
  have cp : (nI p).toNatClampNeg = p := nI_clamp (by omega)
  intro d
  induction d with
  | zero =>
    intro F S i hd hF hf ha
    cases F with
    | zero => omega
    | succ F =>
      have el : i = (zpa_ sc.2.2 p).2.length := by omega
      subst el
      have hm := mo_fr hm0 hf
      have hs := mSc_fr hs0 hf (fun j a b => by unfold wMPc; omega) (fun b j a => by unfold wMPc; omega)
      have y6 := hs.2.2.2.2.2.1 p hp3
      have hx : ¬ nI (zpa_ sc.2.2 p).2.length < nI (zpa_ sc.2.2 p).2.length := by rw [nI_ltI (by omega) (by omega)]; omega
      have hl1 := pc1_len (rs := (zpa_ sc.2.2 p).2) (mask := asd p) (n := (zpa_ sc.2.2 p).2.length)
      obtain ⟨S', r1, r2, r3⟩ := mpc_121 hm0 hs0 hp (as0 := zpc1 (zpa_ sc.2.2 p).2 (asd p) (zpa_ sc.2.2 p).2.length) (by omega) (pc1_l4 wr (by omega)) 8 zF S 0 (by omega) (by rw [zF_eq]; omega) hf (by simpa [zpc2] using ha)
      refine ⟨S', ?_, r2, r3⟩
      rw [L_Mo_laysPieces_7]
      simp (disch := omega) [-Prod.exists, -Prod.forall, ↓bb_gf, ↓bb_gr, ↓bb_len, ↓bb_ga, ↓bb_gl, ↓bb_go, ↓bb_pf, ↓bb_pz, ↓bb_pr, ↓bb_pa, ↓bb_pb, ↓bb_pl, ↓bb_po, ↓bb_cl, ↓bb_some, ↓bb_RI, ↓bb_RJ, mm_hI, mm_hJ, mm_hR, mm_nI, mm_nJ, mm_nR, mm_sI, mm_sJ, mm_sR, mm_RI, mm_RJ, mm_IJ, mm_IR, mm_JI, mm_JR, mm_II, mm_JJ, mm_RR, hm.1, ↓bS (mo_ruleMany hm), mh_ruleMany hm, zp, cp, y6, hx, F_Mo_laysPieces_119]
      exact r1
  | succ d ih =>
    intro F S i hd hF hf ha
    cases F with
    | zero => omega
    | succ F =>
      have hm := mo_fr hm0 hf
      have hs := mSc_fr hs0 hf (fun j a b => by unfold wMPc; omega) (fun b j a => by unfold wMPc; omega)
      have y6 := hs.2.2.2.2.2.1 p hp3
      have hi : i < (zpa_ sc.2.2 p).2.length := by omega
      have hx : nI i < nI (zpa_ sc.2.2 p).2.length := by rw [nI_ltI (by omega) (by omega)]; omega
      have e1 : nI i + 1 = nI (i + 1) := nI_add i 1
      have h8 : (8 : Int32) * nI p = nI (8 * p) := pk_mul 8 p
      have z8 : zinb (nI (8 * p + i)) 24 = true := (nn_in (by omega)).2 (by omega)
      have c8 : (nI (8 * p + i)).toNatClampNeg = 8 * p + i := nI_clamp (by omega)
      have y9 := hs.2.2.2.2.2.2.2.2.1 p i hp3 (by omega)
      have hru := hs.2.2.2.2.2.2.2.1 p i hp hi
      have hlen := pc1_len (rs := (zpa_ sc.2.2 p).2) (mask := asd p) (n := i)
      cases b1 : (asd p).testBit i with
      | true =>
        rw [b1] at y9
        simp only [if_true] at y9
        obtain ⟨S', q1, q2⟩ := ih F S (i + 1) (by omega) (by omega) hf (by rw [pc1_succ, b1]; simpa using ha)
        refine ⟨S', ?_, q2⟩
        rw [← q1, L_Mo_laysPieces_7]
        simp (disch := omega) [-Prod.exists, -Prod.forall, ↓bb_gf, ↓bb_gr, ↓bb_len, ↓bb_ga, ↓bb_gl, ↓bb_go, ↓bb_pf, ↓bb_pz, ↓bb_pr, ↓bb_pa, ↓bb_pb, ↓bb_pl, ↓bb_po, ↓bb_cl, ↓bb_some, ↓bb_RI, ↓bb_RJ, mm_hI, mm_hJ, mm_hR, mm_nI, mm_nJ, mm_nR, mm_sI, mm_sJ, mm_sR, mm_RI, mm_RJ, mm_IJ, mm_IR, mm_JI, mm_JR, mm_II, mm_JJ, mm_RR, hm.1, ↓bS (mo_ruleMany hm), mh_ruleMany hm, zp, cp, y6, hx, ↓bS (mo_isAside hm), mh_isAside hm, h8, nI_add, z8, c8, y9, e1]
      | false =>
        rw [b1] at y9
        simp only [Bool.false_eq_true, if_false] at y9
        have ha1 := ha.1
        have h4' : ∀ k, k < (zpc1 (zpa_ sc.2.2 p).2 (asd p) i).length → (pcL (zpc1 (zpa_ sc.2.2 p).2 (asd p) i) k).length ≤ 4 := fun k hk => pc1_l4 wr (by omega) _ (pcL_mem hk)
        have eap : zpc1 (zpa_ sc.2.2 p).2 (asd p) (i + 1) = zpc1 (zpa_ sc.2.2 p).2 (asd p) i ++ [(i, (zru (zpa_ sc.2.2 p).2 i).2.1)] := by rw [pc1_succ, b1]; simp
        revert ha ha1 hlen h4' eap
        generalize zpc1 (zpa_ sc.2.2 p).2 (asd p) i = pcs
        intro ha hlen ha1 h4' eap
        have ro : ∀ S : zM, f_Mo_rowOf (nI p) (nI i) S = some (nI (aRu p i), S) := fun S => by
          unfold f_Mo_rowOf
          rw [show (8 : Int32) = nI 8 from rfl, show (11 : Int32) = nI 11 from rfl, pk_mul, nI_add, pk_mul]; rfl
        have har : aRu p i + 11 ≤ 264 := by unfold aRu; omega
        have zi : zinb (nI pcs.length) 16 = true := (nn_in (by omega)).2 (by omega)
        have ci : (nI pcs.length).toNatClampNeg = pcs.length := nI_clamp (by omega)
        have a1 : nI (aRu p i) + 1 = nI (aRu p i + 1) := nI_add _ 1
        have z1 : zinb (nI (aRu p i + 1)) 264 = true := (nn_in (by omega)).2 (by omega)
        have c1 : (nI (aRu p i + 1)).toNatClampNeg = aRu p i + 1 := nI_clamp (by omega)
        have v1 := hru.2.1
        have hgl := (ru_w wr hi).2.2.1
        have ee : nI pcs.length + 1 = nI (pcs.length + 1) := nI_add _ 1
        have st : L_Mo_laysPieces_7 (F_Mo_laysPieces_119 (L_Mo_laysPieces_121 zF)) (F + 1) M (nI p) (nI i) S = L_Mo_laysPieces_64 (F_Mo_laysPieces_103 (L_Mo_laysPieces_7 (F_Mo_laysPieces_119 (L_Mo_laysPieces_121 zF)) F)) zF M (nI p) (nI i) 0 (zwI (zwI S (M + 12) pcs.length (nI i)) (M + 13) pcs.length (nI (zru (zpa_ sc.2.2 p).2 i).2.1.length)) := by
          rw [L_Mo_laysPieces_7]
          simp (disch := omega) [-Prod.exists, -Prod.forall, ↓bb_gf, ↓bb_gr, ↓bb_len, ↓bb_ga, ↓bb_gl, ↓bb_go, ↓bb_pf, ↓bb_pz, ↓bb_pr, ↓bb_pa, ↓bb_pb, ↓bb_pl, ↓bb_po, ↓bb_cl, ↓bb_some, ↓bb_RI, ↓bb_RJ, mm_hI, mm_hJ, mm_hR, mm_nI, mm_nJ, mm_nR, mm_sI, mm_sJ, mm_sR, mm_RI, mm_RJ, mm_IJ, mm_IR, mm_JI, mm_JR, mm_II, mm_JJ, mm_RR, hm.1, ↓bS (mo_ruleMany hm), mh_ruleMany hm, zp, cp, y6, hx, ↓bS (mo_isAside hm), mh_isAside hm, h8, nI_add, z8, c8, y9, mo_pieceOf hm, mh_pieceOf hm, mo_pieceLong hm, mh_pieceLong hm, mo_rules hm, mh_rules hm, ha1, zi, ci, ↓bS (ro _), a1, z1, c1, v1]
        have hf1 : zfr (wMPc M) S (zwI (zwI S (M + 12) pcs.length (nI i)) (M + 13) pcs.length (nI (zru (zpa_ sc.2.2 p).2 i).2.1.length)) := fr_trans (fr_wI _ _ (Or.inr (Or.inl rfl))) (fr_wI _ _ (Or.inr (Or.inr (Or.inl rfl))))
        rw [st]
        refine mpc_64 (S0 := zwI (zwI S (M + 12) pcs.length (nI i)) (M + 13) pcs.length (nI (zru (zpa_ sc.2.2 p).2 i).2.1.length)) (mo_fr hm hf1) hp3 (by omega) (n := pcs.length) (by simp [-Prod.exists, -Prod.forall, zgf, zgr, zpf, zpz, zpr, zga, zgl, zgo, zpa, zpb, zpl, zpo, mm_len, zcl, Option.bind_some, Option.bind_none, mm_hI, mm_hJ, mm_hR, mm_nI, mm_nJ, mm_nR, mm_sI, mm_sJ, mm_sR, mm_RI, mm_RJ, mm_IJ, mm_IR, mm_JI, mm_JR, mm_II, mm_JJ, mm_RR, ha1]) (by omega) (fun o => ∃ S', o = some S' ∧ zfr (wMPc M) S0 S' ∧ mPcs S' M (zpcs (zpa_ sc.2.2 p).2 (asd p))) ?_ 4 zF _ 0 (by omega) (by rw [zF_eq]; omega) (fr_refl _ _) (fun j hj => by omega)
        intro S2 f2 c2
        have hm2 := mo_fr (mo_fr hm hf1) f2
        have e35 : zI S2 M 35 = nI pcs.length := by rw [fr_I f2 (by omega)]; simp [-Prod.exists, -Prod.forall, zgf, zgr, zpf, zpz, zpr, zga, zgl, zgo, zpa, zpb, zpl, zpo, mm_len, zcl, Option.bind_some, Option.bind_none, mm_hI, mm_hJ, mm_hR, mm_nI, mm_nJ, mm_nR, mm_sI, mm_sJ, mm_sR, mm_RI, mm_RJ, mm_IJ, mm_IR, mm_JI, mm_JR, mm_II, mm_JJ, mm_RR, ha1]
        obtain ⟨S', q1, q2⟩ := ih F (zwI S2 M 35 (nI (pcs.length + 1))) (i + 1) (by omega) (by omega)
          (fr_trans hf (fr_trans hf1 (fr_trans (fr_mono f2 (fun b j h => Or.inr (Or.inr (Or.inr h.1)))) (fr_wI _ _ (Or.inl ⟨rfl, rfl⟩)))))
          (by
            rw [eap]
            refine mPcs_app ha h4' (by simp [-Prod.exists, -Prod.forall, zgf, zgr, zpf, zpz, zpr, zga, zgl, zgo, zpa, zpb, zpl, zpo, mm_len, zcl, Option.bind_some, Option.bind_none, mm_hI, mm_hJ, mm_hR, mm_nI, mm_nJ, mm_nR, mm_sI, mm_sJ, mm_sR, mm_RI, mm_RJ, mm_IJ, mm_IR, mm_JI, mm_JR, mm_II, mm_JJ, mm_RR]) (fun k => ?_) (fun k => ?_) (fun j hj => ?_) (fun j hj => ?_)
            · have : zI (zwI S2 M 35 (nI (pcs.length + 1))) (M + 12) k = zI S2 (M + 12) k := by simp [-Prod.exists, -Prod.forall, zgf, zgr, zpf, zpz, zpr, zga, zgl, zgo, zpa, zpb, zpl, zpo, mm_len, zcl, Option.bind_some, Option.bind_none, mm_hI, mm_hJ, mm_hR, mm_nI, mm_nJ, mm_nR, mm_sI, mm_sJ, mm_sR, mm_RI, mm_RJ, mm_IJ, mm_IR, mm_JI, mm_JR, mm_II, mm_JJ, mm_RR]
              rw [this, fr_I f2 (by omega)]; simp [-Prod.exists, -Prod.forall, zgf, zgr, zpf, zpz, zpr, zga, zgl, zgo, zpa, zpb, zpl, zpo, mm_len, zcl, Option.bind_some, Option.bind_none, mm_hI, mm_hJ, mm_hR, mm_nI, mm_nJ, mm_nR, mm_sI, mm_sJ, mm_sR, mm_RI, mm_RJ, mm_IJ, mm_IR, mm_JI, mm_JR, mm_II, mm_JJ, mm_RR]
            · have : zI (zwI S2 M 35 (nI (pcs.length + 1))) (M + 13) k = zI S2 (M + 13) k := by simp [-Prod.exists, -Prod.forall, zgf, zgr, zpf, zpz, zpr, zga, zgl, zgo, zpa, zpb, zpl, zpo, mm_len, zcl, Option.bind_some, Option.bind_none, mm_hI, mm_hJ, mm_hR, mm_nI, mm_nJ, mm_nR, mm_sI, mm_sJ, mm_sR, mm_RI, mm_RJ, mm_IJ, mm_IR, mm_JI, mm_JR, mm_II, mm_JJ, mm_RR]
              rw [this, fr_I f2 (by omega)]; simp [-Prod.exists, -Prod.forall, zgf, zgr, zpf, zpz, zpr, zga, zgl, zgo, zpa, zpb, zpl, zpo, mm_len, zcl, Option.bind_some, Option.bind_none, mm_hI, mm_hJ, mm_hR, mm_nI, mm_nJ, mm_nR, mm_sI, mm_sJ, mm_sR, mm_RI, mm_RJ, mm_IJ, mm_IR, mm_JI, mm_JR, mm_II, mm_JJ, mm_RR]
            · have : zI (zwI S2 M 35 (nI (pcs.length + 1))) (M + 14) j = zI S2 (M + 14) j := by simp [-Prod.exists, -Prod.forall, zgf, zgr, zpf, zpz, zpr, zga, zgl, zgo, zpa, zpb, zpl, zpo, mm_len, zcl, Option.bind_some, Option.bind_none, mm_hI, mm_hJ, mm_hR, mm_nI, mm_nJ, mm_nR, mm_sI, mm_sJ, mm_sR, mm_RI, mm_RJ, mm_IJ, mm_IR, mm_JI, mm_JR, mm_II, mm_JJ, mm_RR]
              rw [this, fr_I f2 (by omega)]; simp [-Prod.exists, -Prod.forall, zgf, zgr, zpf, zpz, zpr, zga, zgl, zgo, zpa, zpb, zpl, zpo, mm_len, zcl, Option.bind_some, Option.bind_none, mm_hI, mm_hJ, mm_hR, mm_nI, mm_nJ, mm_nR, mm_sI, mm_sJ, mm_sR, mm_RI, mm_RJ, mm_IJ, mm_IR, mm_JI, mm_JR, mm_II, mm_JJ, mm_RR]
            · have : zI (zwI S2 M 35 (nI (pcs.length + 1))) (M + 14) (4 * pcs.length + j) = zI S2 (M + 14) (4 * pcs.length + j) := by simp [-Prod.exists, -Prod.forall, zgf, zgr, zpf, zpz, zpr, zga, zgl, zgo, zpa, zpb, zpl, zpo, mm_len, zcl, Option.bind_some, Option.bind_none, mm_hI, mm_hJ, mm_hR, mm_nI, mm_nJ, mm_nR, mm_sI, mm_sJ, mm_sR, mm_RI, mm_RJ, mm_IJ, mm_IR, mm_JI, mm_JR, mm_II, mm_JJ, mm_RR]
              rw [this, c2 j (by omega)]
              have := hru.2.2.2.2.2 j hj
              rw [← this]; simp [-Prod.exists, -Prod.forall, zgf, zgr, zpf, zpz, zpr, zga, zgl, zgo, zpa, zpb, zpl, zpo, mm_len, zcl, Option.bind_some, Option.bind_none, mm_hI, mm_hJ, mm_hR, mm_nI, mm_nJ, mm_nR, mm_sI, mm_sJ, mm_sR, mm_RI, mm_RJ, mm_IJ, mm_IR, mm_JI, mm_JR, mm_II, mm_JJ, mm_RR])
        refine ⟨S', ?_, q2⟩
        rw [← q1]
        simp (disch := omega) [F_Mo_laysPieces_103, -Prod.exists, -Prod.forall, ↓bb_gf, ↓bb_gr, ↓bb_len, ↓bb_ga, ↓bb_gl, ↓bb_go, ↓bb_pf, ↓bb_pz, ↓bb_pr, ↓bb_pa, ↓bb_pb, ↓bb_pl, ↓bb_po, ↓bb_cl, ↓bb_some, ↓bb_RI, ↓bb_RJ, mm_hI, mm_hJ, mm_hR, mm_nI, mm_nJ, mm_nR, mm_sI, mm_sJ, mm_sR, mm_RI, mm_RJ, mm_IJ, mm_IR, mm_JI, mm_JR, mm_II, mm_JJ, mm_RR, hm2.1, e35, ee, e1]
theorem m_pieces (hm : sMo S0 M) (hs : mSc S0 M sc asd) (hp : p < sc.2.2.length) : ∃ S', f_Mo_laysPieces M (nI p) S0 = some S' ∧ zfr (wMPc M) S0 S' ∧ mPcs S' M (zpcs (zpa_ sc.2.2 p).2 (asd p)) := by
  have wr := ps_w hs.2.2.2.2.2.2.2.2.2.2.2.2 hp
  have r8 := wr.1
  have f1 : zfr (wMPc M) S0 (zwI S0 M 35 0) := fr_wI _ _ (Or.inl ⟨rfl, rfl⟩)
  obtain ⟨S', r1, r2⟩ := mpc_7 hm hs hp (zpa_ sc.2.2 p).2.length zF (zwI S0 M 35 0) 0 (by omega) (by rw [zF_eq]; omega) f1 ⟨by simp [zpc1, -Prod.exists, -Prod.forall, zgf, zgr, zpf, zpz, zpr, zga, zgl, zgo, zpa, zpb, zpl, zpo, mm_len, zcl, Option.bind_some, Option.bind_none, mm_hI, mm_hJ, mm_hR, mm_nI, mm_nJ, mm_nR, mm_sI, mm_sJ, mm_sR, mm_RI, mm_RJ, mm_IJ, mm_IR, mm_JI, mm_JR, mm_II, mm_JJ, mm_RR]; rfl, fun k hk => by simp [zpc1] at hk⟩
  refine ⟨S', ?_, r2⟩
  rw [← r1]; simp [f_Mo_laysPieces, -Prod.exists, -Prod.forall, ↓bb_gf, ↓bb_gr, ↓bb_len, ↓bb_ga, ↓bb_gl, ↓bb_go, ↓bb_pf, ↓bb_pz, ↓bb_pr, ↓bb_pa, ↓bb_pb, ↓bb_pl, ↓bb_po, ↓bb_cl, ↓bb_some, ↓bb_RI, ↓bb_RJ, mm_hI, mm_hJ, mm_hR, mm_nI, mm_nJ, mm_nR, mm_sI, mm_sJ, mm_sR, mm_RI, mm_RJ, mm_IJ, mm_IR, mm_JI, mm_JR, mm_II, mm_JJ, mm_RR, hm.1]; rfl
end
