/-! feeding -/
def zbJ (x : Int32) (s : Nat) : Nat := zbits 8 (fun i => bt x (s + i))
theorem bJ_lt (x : Int32) (s : Nat) : zbJ x s < 256 := bits_lt _ 8
theorem bJ_c (x : Int32) {s : Nat} (hs : s ≤ 24) : (x.toUInt32 >>> ((nI s).toUInt32 &&& Int32.toUInt32 31)).toInt32 &&& 255 = nI (zbJ x s) := b_ext (fun i hi => by
  rw [b_and, b_ushr s (by omega) x i, b_255]
  show _ = (BitVec.ofNat 32 (zbJ x s)).getLsbD i
  rw [BitVec.getLsbD_ofNat]
  unfold zbJ
  rw [bits_tb]
  simp [hi, Bool.and_comm])
theorem bJ_m (x : Int32) {s : Nat} (hs : s ≤ 24) : (x >>> (nI s &&& 31)) &&& 255 = nI (zbJ x s) := b_ext (fun i hi => by
  rw [b_and, b_sshr s (by omega) x hi, b_255]
  show _ = (BitVec.ofNat 32 (zbJ x s)).getLsbD i
  rw [BitVec.getLsbD_ofNat]
  unfold zbJ
  rw [bits_tb]
  by_cases q : i < 8
  · rw [if_pos (by omega)]; simp [hi, q]
  · simp [hi, q])
def zb4 (x : Int32) : List Nat := [zbJ x 24, zbJ x 16, zbJ x 8, zbJ x 0]
/-- the class's tape -/
def pTp (S : zM) (xs : List Nat) : Prop := zh S 1 = (11, 0) ∧ zR S 1 0 = some 2 ∧ zh S 2 = (100, 900) ∧ zI S 1 13 = nI xs.length ∧ ∀ k, k < xs.length → zI S 2 k = nI (lg xs k)
def wTpe (b j : Nat) : Prop := b = 2 ∨ (b = 1 ∧ j = 13)
theorem tp_1 {S : zM} {xs : List Nat} (h : pTp S xs) (hl : xs.length < 900) (x : Int32) {s : Nat} (hs : s ≤ 24) : ∃ S', (∀ F, L_Cl_putOnTape_3 (F + 1) 1 x (nI s) S = L_Cl_putOnTape_3 F 1 x (nI s + (-8)) S') ∧ zfr wTpe S S' ∧ pTp S' (xs ++ [zbJ x s]) := by
  obtain ⟨h1, r, h2, v, vs⟩ := h
  have n0 : ¬ nI s < 0 := nI_pos (by omega)
  have lt : nI xs.length < (900 : Int32) := (nI_ltI (b := 900) (by omega) (by omega)).2 hl
  have z : zinb (nI xs.length) 900 = true := (nn_in (by omega)).2 hl
  have c : (nI xs.length).toNatClampNeg = xs.length := nI_clamp (by omega)
  have e1 : nI xs.length + 1 = nI (xs.length + 1) := nI_add _ 1
  have b := bJ_c x hs
  refine ⟨zwI (zwI S 2 xs.length (nI (zbJ x s))) 1 13 (nI (xs.length + 1)), fun F => ?_, fr_trans (fr_wI _ _ (Or.inl rfl)) (fr_wI _ _ (Or.inr ⟨rfl, rfl⟩)), h1, r, h2, by simp [-Prod.exists, -Prod.forall, zgf, zgr, zpf, zpz, zpr, zga, zgl, zgo, zpa, zpb, zpl, zpo, mm_len, zcl, Option.bind_some, Option.bind_none, mm_hI, mm_hJ, mm_hR, mm_nI, mm_nJ, mm_nR, mm_sI, mm_sJ, mm_sR, mm_RI, mm_RJ, mm_IJ, mm_IR, mm_JI, mm_JR, mm_II, mm_JJ, mm_RR], fun k hk => ?_⟩
  · rw [L_Cl_putOnTape_3, if_neg n0]
    simp only [↓bb_gf, h1, if_true, v, lt, ↓bb_gr, ↓bS r, ↓bb_pa, h2, z, c, b, ↓bb_pf, mm_hI, mm_II, e1]
    simp [-Prod.exists, -Prod.forall, ↓bb_gf, ↓bb_gr, ↓bb_len, ↓bb_ga, ↓bb_gl, ↓bb_go, ↓bb_pf, ↓bb_pz, ↓bb_pr, ↓bb_pa, ↓bb_pb, ↓bb_pl, ↓bb_po, ↓bb_cl, ↓bb_some, ↓bb_RI, ↓bb_RJ, mm_hI, mm_hJ, mm_hR, mm_nI, mm_nJ, mm_nR, mm_sI, mm_sJ, mm_sR, mm_RI, mm_RJ, mm_IJ, mm_IR, mm_JI, mm_JR, mm_II, mm_JJ, mm_RR, h1, v, e1]
  · simp at hk
    by_cases e : k = xs.length
    · subst e; rw [lg_end]; simp [-Prod.exists, -Prod.forall, zgf, zgr, zpf, zpz, zpr, zga, zgl, zgo, zpa, zpb, zpl, zpo, mm_len, zcl, Option.bind_some, Option.bind_none, mm_hI, mm_hJ, mm_hR, mm_nI, mm_nJ, mm_nR, mm_sI, mm_sJ, mm_sR, mm_RI, mm_RJ, mm_IJ, mm_IR, mm_JI, mm_JR, mm_II, mm_JJ, mm_RR]
    · rw [lg_app1 (by omega)]; simp [-Prod.exists, -Prod.forall, zgf, zgr, zpf, zpz, zpr, zga, zgl, zgo, zpa, zpb, zpl, zpo, mm_len, zcl, Option.bind_some, Option.bind_none, mm_hI, mm_hJ, mm_hR, mm_nI, mm_nJ, mm_nR, mm_sI, mm_sJ, mm_sR, mm_RI, mm_RJ, mm_IJ, mm_IR, mm_JI, mm_JR, mm_II, mm_JJ, mm_RR, e]; exact vs k (by omega)
theorem tp_4 {S : zM} {xs : List Nat} (h : pTp S xs) (hl : xs.length + 4 ≤ 900) (x : Int32) : ∃ S', f_Cl_putOnTape 1 x S = some S' ∧ zfr wTpe S S' ∧ pTp S' (xs ++ zb4 x) := by
  obtain ⟨S1, a1, a2, a3⟩ := tp_1 h (by omega) x (s := 24) (by omega)
  obtain ⟨S2, b1, b2, b3⟩ := tp_1 a3 (by simp; omega) x (s := 16) (by omega)
  obtain ⟨S3, c1, c2, c3⟩ := tp_1 b3 (by simp; omega) x (s := 8) (by omega)
  obtain ⟨S4, d1, d2, d3⟩ := tp_1 c3 (by simp; omega) x (s := 0) (by omega)
  have ee : xs ++ [zbJ x 24] ++ [zbJ x 16] ++ [zbJ x 8] ++ [zbJ x 0] = xs ++ zb4 x := by simp [zb4]
  refine ⟨S4, ?_, fr_trans (fr_trans (fr_trans a2 b2) c2) d2, by rw [← ee]; exact d3⟩
  obtain ⟨F, hF⟩ : ∃ F, zF = F + 5 := ⟨zF - 5, by rw [zF_eq]⟩
  have t1 : nI 24 = (24 : Int32) := rfl
  have t2 : nI 24 + (-8 : Int32) = nI 16 := by decide
  have t3 : nI 16 + (-8 : Int32) = nI 8 := by decide
  have t4 : nI 8 + (-8 : Int32) = nI 0 := by decide
  have t5 : nI 0 + (-8 : Int32) < 0 := by decide
  have g1 := a1 (F + 4)
  have g2 := b1 (F + 3)
  have g3 := c1 (F + 2)
  have g4 := d1 (F + 1)
  rw [f_Cl_putOnTape, hF, ← t1, g1, t2, g2, t3, g3, t4, g4, L_Cl_putOnTape_3, if_pos t5]
def sTp (w : zWs) (t : List Nat) : zWs := (t, w.2)
def zfd (a b c d e : Int32) : List Nat := zb4 a ++ zb4 b ++ zb4 c ++ zb4 d ++ zb4 e
theorem fd_len (a b c d e : Int32) : (zfd a b c d e).length = 20 := rfl
def sp_feed (a b c d e : Int32) (w : zWs) : Int32 × zWs := if (wTp w).length ≤ 880 then (nI ((wTp w).length + 20), sTp w (wTp w ++ zfd a b c d e)) else (-1, w)
theorem fd_lt (a b c d e : Int32) : ∀ y, y ∈ zfd a b c d e → y < 256 := by
  intro y hy
  simp only [zfd, zb4, List.cons_append, List.nil_append, List.mem_cons, List.not_mem_nil, or_false] at hy
  rcases hy with h | h | h | h | h | h | h | h | h | h | h | h | h | h | h | h | h | h | h | h <;> (rw [h]; exact bJ_lt _ _)
theorem hk_feed (a b c d e : Int32) : zHk (sp_feed a b c d e) := fun S w ho _ => by
  unfold sp_feed
  split
  · rename_i q
    obtain ⟨a1, a2, a3⟩ := ho
    refine ⟨by show (wTp w ++ zfd a b c d e).length ≤ 900; rw [List.length_append, fd_len]; omega, fun k => ?_, a3⟩
    show lg (wTp w ++ zfd a b c d e) k < 256
    by_cases q1 : k < (wTp w).length
    · rw [lg_app1 q1]; exact a2 k
    · rw [lg_app2 (by omega)]
      by_cases q2 : k - (wTp w).length < (zfd a b c d e).length
      · exact fd_lt a b c d e _ (lg_in q2)
      · rw [lg_out (by omega)]; omega
  · exact ho
theorem hc_feed (a b c d e : Int32) : zHc (f_Cl_feed 1 a b c d e) (sp_feed a b c d e) := fun S w h ho => by
  obtain ⟨T, U, hm, hs, ht⟩ := h
  have h0 : pTp S (wTp w) := ⟨hm.1.1, hm.1.2.1, hm.1.2.2.1, hm.2.1.1, hm.2.1.2.1⟩
  have l9 := ho.1
  unfold sp_feed
  have ea : nI (wTp w).length + (20 : Int32) = nI ((wTp w).length + 20) := nI_add _ 20
  by_cases q : (wTp w).length ≤ 880
  · rw [if_pos q]
    have le : nI ((wTp w).length + 20) ≤ (900 : Int32) := (nI_leI (b := 900) (by omega) (by omega)).2 (by omega)
    obtain ⟨S1, a1, a2, a3⟩ := tp_4 h0 (by omega) a
    obtain ⟨S2, b1, b2, b3⟩ := tp_4 a3 (by simp [zb4]; omega) b
    obtain ⟨S3, c1, c2, c3⟩ := tp_4 b3 (by simp [zb4]; omega) c
    obtain ⟨S4, d1, d2, d3⟩ := tp_4 c3 (by simp [zb4]; omega) d
    obtain ⟨S5, g1, g2, g3⟩ := tp_4 d3 (by simp [zb4]; omega) e
    have ee : wTp w ++ zb4 a ++ zb4 b ++ zb4 c ++ zb4 d ++ zb4 e = wTp w ++ zfd a b c d e := by simp [zfd]
    rw [ee] at g3
    have f : zfr wTpe S S5 := fr_trans (fr_trans (fr_trans (fr_trans a2 b2) c2) d2) g2
    have fq : zfq wTpe (fun _ _ => False) S S5 := fq_fr f
    have v : zI S5 1 13 = nI ((wTp w).length + 20) := by rw [g3.2.2.2.1, List.length_append, fd_len]
    have hTU := wTU hm
    obtain ⟨m1, m2, m3, m4, m5⟩ := hm
    obtain ⟨y1, y2, y3, y4, y5, y6, y7⟩ := m2
    refine ⟨S5, by simp [f_Cl_feed, -Prod.exists, -Prod.forall, ↓bb_gf, ↓bb_gr, ↓bb_len, ↓bb_ga, ↓bb_gl, ↓bb_go, ↓bb_pf, ↓bb_pz, ↓bb_pr, ↓bb_pa, ↓bb_pb, ↓bb_pl, ↓bb_po, ↓bb_cl, ↓bb_some, ↓bb_RI, ↓bb_RJ, mm_hI, mm_hJ, mm_hR, mm_nI, mm_nJ, mm_nR, mm_sI, mm_sJ, mm_sR, mm_RI, mm_RJ, mm_IJ, mm_IR, mm_JI, mm_JR, mm_II, mm_JJ, mm_RR, m1.1, y1, ea, le, ↓bS a1, a3.1, ↓bS b1, b3.1, ↓bS c1, c3.1, ↓bS d1, d3.1, ↓bS g1, g3.1, v], ⟨T, U, ⟨cRf_fq m1 fq (fun j _ x => x) (fun x => x), ⟨g3.2.2.2.1, g3.2.2.2.2, by rw [fr_I f (by unfold wTpe; omega)]; exact y3, fun k hk => by rw [fr_I f (by unfold wTpe; omega)]; exact y4 k hk, by rw [fr_I f (by unfold wTpe; omega)]; exact y5, by rw [fr_I f (by unfold wTpe; omega)]; exact y6, by rw [fr_I f (by unfold wTpe; omega)]; exact y7⟩, cSp_fq m3 fq hTU (fun b j _ _ => ⟨by unfold wTpe; omega, fun x => x⟩), cLt_fq m4 fq (fun b j _ _ => ⟨by unfold wTpe; omega, fun x => x⟩), ?_⟩, cSr_fq hs fq (fun b j _ _ => ⟨by unfold wTpe; omega, fun x => x⟩), by rw [fr_I f (by unfold wTpe; omega)]; exact ht⟩, ko_fq fq (fun b j r => ?_), Or.inl ⟨by rw [fr_R f], fq_n fq, fq_s fq⟩⟩
    · rcases m5 with ⟨z1, z2⟩ | ⟨E, K, B, z1, z2⟩
      · exact Or.inl ⟨by rw [fr_R f]; exact z1, fz_fq z2 fq (fun b j r => by
          rcases r with r | r
          · unfold wTpe at r; omega
          · exact absurd r (fun x => x)) m1.2.2.2.2.2.2.2.2.2.2.2.2.2.2.2.2.2.2.2.2⟩
      · exact Or.inr ⟨E, K, B, by rw [fr_R f]; exact z1, eCe_low (w := w) z2 fq (fun b j r => by
          rcases r with r | r
          · unfold wTpe at r; omega
          · exact absurd r (fun x => x))⟩
    · rcases r with r | r
      · unfold wTpe at r; omega
      · exact absurd r (fun x => x)
  · rw [if_neg q]
    have le : ¬ nI ((wTp w).length + 20) ≤ (900 : Int32) := fun x => by have := (nI_leI (b := 900) (by omega) (by omega)).1 x; omega
    exact ⟨S, by simp [f_Cl_feed, -Prod.exists, -Prod.forall, ↓bb_gf, ↓bb_gr, ↓bb_len, ↓bb_ga, ↓bb_gl, ↓bb_go, ↓bb_pf, ↓bb_pz, ↓bb_pr, ↓bb_pa, ↓bb_pb, ↓bb_pl, ↓bb_po, ↓bb_cl, ↓bb_some, ↓bb_RI, ↓bb_RJ, mm_hI, mm_hJ, mm_hR, mm_nI, mm_nJ, mm_nR, mm_sI, mm_sJ, mm_sR, mm_RI, mm_RJ, mm_IJ, mm_IR, mm_JI, mm_JR, mm_II, mm_JJ, mm_RR, hm.1.1, hm.2.1.1, ea, le], ⟨T, U, hm, hs, ht⟩, ko_refl S, rm_refl S⟩
