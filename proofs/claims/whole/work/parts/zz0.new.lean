/-! new objects (written by gennew.py) -/
def zKp (n : Nat) (X : Nat → Prop) (S S' : zM) : Prop := (∀ b, b ≤ n → zh S' b = zh S b) ∧ ∀ b j, b ≤ n → ¬ X b → zI S' b j = zI S b j ∧ zJ S' b j = zJ S b j ∧ zR S' b j = zR S b j
theorem kp_refl (n : Nat) (X : Nat → Prop) (S : zM) : zKp n X S S := ⟨fun _ _ => rfl, fun _ _ _ _ => ⟨rfl, rfl, rfl⟩⟩
theorem kp_trans {n n' : Nat} {X X' : Nat → Prop} {S S' S'' : zM} (h : zKp n X S S') (h2 : zKp n' X' S' S'') (hn : n ≤ n') (hX : ∀ b, b ≤ n → X' b → X b) : zKp n X S S'' :=
  ⟨fun b hb => (h2.1 b (by omega)).trans (h.1 b hb), fun b j hb hx => by
    have a := h.2 b j hb hx
    have c := h2.2 b j (by omega) (fun q => hx (hX b hb q))
    exact ⟨c.1.trans a.1, c.2.1.trans a.2.1, c.2.2.trans a.2.2⟩⟩
theorem kp_weak {n : Nat} {X X' : Nat → Prop} {S S' : zM} (h : zKp n X S S') (hX : ∀ b, X b → X' b) : zKp n X' S S' := ⟨h.1, fun b j hb hx => h.2 b j hb (fun q => hx (hX b q))⟩
theorem kp_q {n a : Nat} {S S' : zM} (h : zkq (fun b => b ≤ n ∧ b ≠ a) S S') (e : zh S' a = zh S a) : zKp n (fun b => b = a) S S' :=
  ⟨fun b hb => by
    by_cases q : b = a
    · subst q; exact e
    · exact (h b ⟨hb, q⟩).1, fun b j hb hx => (h b ⟨hb, hx⟩).2 j⟩
theorem kp_q0 {n : Nat} {S S' : zM} (h : zkq (fun b => b ≤ n) S S') : zKp n (fun _ => False) S S' := ⟨fun b hb => (h b hb).1, fun b j hb _ => (h b hb).2 j⟩
theorem kp_sm {n lo hi : Nat} {X : Nat → Prop} {S S' : zM} (k : zKp n X S S') (h : hi ≤ n + 1) (hX : ∀ b, X b → b < lo ∨ hi ≤ b) : zsm lo hi (zrh S (zh S') (zn S') (zs S')) S' :=
  ⟨rfl, fun b j h1 h2 => by
    have := k.2 b j (by omega) (fun q => by have := hX b q; omega)
    exact ⟨this.2.2, this.1, this.2.1⟩⟩
def zSt (len : Nat) (P : zM → Nat → Prop) : Prop := ∀ (S S' : zM) (x n : Nat) (X : Nat → Prop), P S x → zKp n X S S' → x + len ≤ n + 1 → (∀ b, X b → b < x ∨ x + len ≤ b) → P S' x
theorem st_mach : zSt 7 sMach := fun S S' x n X h k hx hX => sMach_sm (rh_sMach (m := n + 1) (n := zn S') (s := zs S') (fun b hb => k.1 b (by omega)) h (by omega)) (kp_sm k hx hX) (Nat.le_refl _) (Nat.le_refl _)
theorem st_rule (ru : zRu) : zSt 5 (fun S x => pRule S x ru) := fun S S' x n X h k hx hX => rule_sm (rh_rule (m := n + 1) (n := zn S') (s := zs S') (fun b hb => k.1 b (by omega)) h (by omega)) (kp_sm k hx hX) (Nat.le_refl _) (Nat.le_refl _)
theorem st_pass : zSt 56 sPassA := fun S S' x n X h k hx hX => sPassA_sm (rh_sPassA (m := n + 1) (n := zn S') (s := zs S') (fun b hb => k.1 b (by omega)) h (by omega)) (kp_sm k hx hX) (Nat.le_refl _) (Nat.le_refl _)
theorem st_row (m : Nat) (xs : List Nat) : zSt 2 (fun S x => pRow S x m xs) := fun S S' x n X h k hx hX => row_sm (rh_row (m := n + 1) (n := zn S') (s := zs S') (fun b hb => k.1 b (by omega)) h (by omega)) (kp_sm k hx hX) (Nat.le_refl _) (Nat.le_refl _)
theorem st_car : zSt 14 (fun S x => aCar S x (x + 4) (x + 6)) := fun S S' x n X h k hx hX => aCar_sm (rh_car (m := n + 1) (n := zn S') (s := zs S') (fun b hb => k.1 b (by omega)) h (by omega)) (kp_sm k hx hX) (Nat.le_refl _) (Nat.le_refl _)
def nScr (S : zM) (T : Nat) : Prop := aScr S T ∧ zI S T 3 = 0 ∧ zI S T 4 = 0 ∧ zI S T 5 = 0
theorem st_scr : zSt 172 nScr := fun S S' x n X h k hx hX => by
  obtain ⟨a, b, c, d⟩ := h
  have e : ∀ j, zI S' x j = zI S x j := fun j => (k.2 x j (by omega) (fun q => by have := hX x q; omega)).1
  exact ⟨aScr_sm (rh_aScr (m := n + 1) (n := zn S') (s := zs S') (fun b hb => k.1 b (by omega)) a (by omega)) (kp_sm k hx hX), by rw [e]; exact b, by rw [e]; exact c, by rw [e]; exact d⟩
theorem st_pcs : zSt 22 sPcs := fun S S' x n X h k hx hX => by
  obtain ⟨s1, s2, s3, s4, s5, s6, s7, s8, s9, s10, s11, s12⟩ := rh_pcs (m := n + 1) (n := zn S') (s := zs S') (fun b hb => k.1 b (by omega)) h (by omega)
  have sm := kp_sm k hx hX
  have eR : ∀ b j, x ≤ b → b < x + 22 → zR S' b j = zR S b j := fun b j a c => (sm.2 b j a c).1
  exact ⟨s1, by rw [eR _ _ (by omega) (by omega)]; exact s2, s3, by rw [eR _ _ (by omega) (by omega)]; exact s4, s5, by rw [eR _ _ (by omega) (by omega)]; exact s6, s7, by rw [eR _ _ (by omega) (by omega)]; exact s8, s9, by rw [eR _ _ (by omega) (by omega)]; exact s10, s11, fun l hl => ⟨by rw [eR _ _ (by omega) (by omega)]; exact (s12 l hl).1, row_sm (s12 l hl).2 sm (by omega) (by omega)⟩⟩
def nAct (S : zM) (a : Nat) : Prop := zh S a = (0, 0) ∧ zR S a 0 = some (a + 1) ∧ zh S (a + 1) = (100, 12) ∧ zI S a 1 = 0
theorem st_act : zSt 2 nAct := fun S S' x n X h k hx hX => by
  obtain ⟨a, b, c, d⟩ := h
  have e := k.2 x
  have nx : ¬ X x := fun q => by have := hX x q; omega
  exact ⟨by rw [k.1 _ (by omega)]; exact a, by rw [(e 0 (by omega) nx).2.2]; exact b, by rw [k.1 _ (by omega)]; exact c, by rw [(e 1 (by omega) nx).1]; exact d⟩
theorem st_rdr : zSt 2 (fun S x => zh S x = (7, 0)) := fun S S' x n X h k hx hX => by
  have h : zh S x = (7, 0) := h
  show zh S' x = (7, 0)
  rw [k.1 _ (by omega)]; exact h
def zNw (k s : Nat) (f : Nat → zM → Option zM) (len sl : Nat) (P : zM → Nat → Prop) : Prop := (∀ S, zfz S → ∃ S', f (zn S + 1) (zalloc S k 0 s) = some S' ∧ zn S' = zn S + len ∧ zs S' = zs S + sl ∧ zKp (zn S) (fun _ => False) S S' ∧ zfz S' ∧ P S' (zn S + 1)) ∧ zSt len P ∧ 0 < len ∧ ∀ S a, P S a → (zh S a).1 = k
theorem nw_put {k s len sl : Nat} {f : Nat → zM → Option zM} {P : zM → Nat → Prop} (nw : zNw k s f len sl P) {S : zM} (hz : zfz S) {a ci : Nat} (fd : Nat) (ha : a ≤ zn S) (hh : (zh S a).1 = ci) : ∃ S1 S', f (zn S + 1) (zalloc S k 0 s) = some S1 ∧ (zh (zalloc S k 0 s) (zn S + 1)).1 = k ∧ zpr S1 ci a fd (some (zn S + 1)) = some S' ∧ zn S' = zn S + len ∧ zs S' = zs S + sl ∧ zfz S' ∧ zKp (zn S) (fun b => b = a) S S' ∧ zR S' a fd = some (zn S + 1) ∧ (∀ j, j ≠ fd → zR S' a j = zR S a j) ∧ (∀ j, zI S' a j = zI S a j) ∧ P S' (zn S + 1) := by
  obtain ⟨S1, r1, r2, r3, r4, r5, r6⟩ := nw.1 S hz
  have l0 := nw.2.2.1
  obtain ⟨S', p1, p2, p3, p4, p5, p6, p7, p8, p9, p10⟩ := put_ex r5 (a := a) (ci := ci) (f := fd) (v := some (zn S + 1)) (by omega) (by rw [r4.1 a ha]; exact hh)
  have kp : zKp (zn S1) (fun b => b = a) S1 S' := ⟨fun b _ => by rw [p6], fun b j _ hx => (p5 b hx).2 j⟩
  exact ⟨S1, S', r1, by rw [al_h, if_pos rfl], p1, by omega, by omega, p4, kp_trans (kp_weak r4 (fun b q => q.elim)) kp (by omega) (fun b _ q => q), p7, fun j hj => (p8 j hj).trans (r4.2 a j ha (fun q => q)).2.2, fun j => by rw [p9]; exact (r4.2 a j ha (fun q => q)).1, nw.2.1 S1 S' (zn S + 1) (zn S1) _ r6 kp (by omega) (fun b hb => by omega)⟩
def zAr (ci a : Nat) : List (Nat × Nat × Nat) → (zM → Option zM) → zM → Option zM
  | [], k, S => k S
  | e :: es, k, S => Option.bind (zpr (zalloc S e.2.1 e.2.2 e.2.2) ci a e.1 (some (zn S + 1))) (fun S1 => zAr ci a es k S1)
def zAl : List (Nat × Nat × Nat) → Nat
  | [] => 0
  | e :: es => e.2.2 + zAl es
theorem arrs_ex {ci a : Nat} : ∀ (es : List (Nat × Nat × Nat)) (S : zM), zfz S → a ≤ zn S → (zh S a).1 = ci → (es.map (fun e => e.1)).Nodup → ∃ S', (∀ k, zAr ci a es k S = k S') ∧ zn S' = zn S + es.length ∧ zs S' = zs S + zAl es ∧ zfz S' ∧ zKp (zn S) (fun b => b = a) S S' ∧ (∀ j, j ∉ es.map (fun e => e.1) → zR S' a j = zR S a j) ∧ (∀ (i : Nat) (e : Nat × Nat × Nat), es[i]? = some e → zR S' a e.1 = some (zn S + 1 + i) ∧ zh S' (zn S + 1 + i) = e.2) ∧ zI S' = zI S ∧ zJ S' = zJ S := by
  intro es
  induction es with
  | nil => intro S hz ha hh hn; exact ⟨S, fun k => rfl, rfl, rfl, hz, kp_refl _ _ _, fun j _ => rfl, fun i e q => by simp at q, rfl, rfl⟩
  | cons e es ih =>
    intro S hz ha hh hn
    obtain ⟨S1, a1, n1, s1, z1, k1, h1, r1, o1, i1, j1, g1⟩ := arr_ex hz (f := e.1) e.2.1 e.2.2 ha hh
    rw [List.map_cons, List.nodup_cons] at hn
    obtain ⟨S2, b1, n2, s2, z2, k2, o2, g2, i2, j2⟩ := ih S1 z1 (by omega) (by rw [h1]; exact hh) hn.2
    refine ⟨S2, fun k => by rw [zAr, a1]; exact b1 k, by rw [n2, n1, List.length_cons]; omega, by rw [s2, s1, zAl]; omega, z2, kp_trans (kp_q k1 h1) k2 (by omega) (fun b _ q => q), fun j hj => ?_, fun i e' q => ?_, by rw [i2, i1], by rw [j2, j1]⟩
    · rw [List.map_cons, List.mem_cons] at hj
      rw [o2 j (fun q => hj (Or.inr q)), o1 j (fun q => hj (Or.inl q))]
    · cases i with
      | zero =>
        rw [List.getElem?_cons_zero] at q
        cases q
        exact ⟨by rw [o2 _ hn.1, r1], by rw [k2.1 _ (by omega)]; exact g1⟩
      | succ i =>
        rw [List.getElem?_cons_succ] at q
        have := g2 i e' q
        rw [n1] at this
        rw [show zn S + 1 + (i + 1) = zn S + 1 + 1 + i by omega]
        exact this
theorem objs_ex {N len sl k s A : Nat} {f : Nat → Nat → zM → Option zM} {P : Nat → zM → Nat → Prop} (hN : N < 1000) (nw : ∀ i, i < N → zNw k s (f i) len sl (P i)) (Lf : Nat → Nat → zM → Option zM) {S : zM} (hz : zfz S) (hA : A ≤ zn S)
    (h0 : ∀ F X, Lf (F + 1) N X = some X)
    (h1 : ∀ F i X X1, i < N → zKp (zn S) (fun b => b = A) S X → zn S ≤ zn X → f i (zn X + 1) (zalloc X k 0 s) = some X1 → zKp (zn X) (fun _ => False) X X1 → (zh X1 (zn X + 1)).1 = k → Lf (F + 1) i X = Lf F (i + 1) (zwR X1 A i (some (zn X + 1)))) :
    ∃ S', Lf zF 0 S = some S' ∧ zn S' = zn S + N * len ∧ zs S' = zs S + N * sl ∧ zfz S' ∧ zKp (zn S) (fun b => b = A) S S' ∧ (∀ j, zI S' A j = zI S A j) ∧ ∀ i, i < N → zR S' A i = some (zn S + 1 + i * len) ∧ P i S' (zn S + 1 + i * len) := by
  refine loop_g (N := N) (by omega) (fun F (_ : Unit) i X => Lf F i X) (fun _ i X => zfz X ∧ zn X = zn S + i * len ∧ zs X = zs S + i * sl ∧ zKp (zn S) (fun b => b = A) S X ∧ (∀ j, zI X A j = zI S A j) ∧ ∀ j, j < i → zR X A j = some (zn S + 1 + j * len) ∧ P j X (zn S + 1 + j * len)) (fun o => ∃ S', o = some S' ∧ zn S' = zn S + N * len ∧ zs S' = zs S + N * sl ∧ zfz S' ∧ zKp (zn S) (fun b => b = A) S S' ∧ (∀ j, zI S' A j = zI S A j) ∧ ∀ i, i < N → zR S' A i = some (zn S + 1 + i * len) ∧ P i S' (zn S + 1 + i * len)) ?_ ?_ () 0 S (Nat.zero_le _) ⟨hz, by omega, by omega, kp_refl _ _ _, fun j => rfl, fun j hj => by omega⟩
  · rintro F _ X ⟨z, n, s', kp, ii, ps⟩
    exact ⟨X, h0 F X, n, s', z, kp, ii, ps⟩
  · rintro F _ i X hi ⟨z, n, s', kp, ii, ps⟩ ih
    obtain ⟨X1, b1, b2, b3, b4, b5, b6⟩ := (nw i hi).1 X z
    have l0 := (nw i hi).2.2.1
    have sm : (i + 1) * len = i * len + len := Nat.succ_mul i len
    have sm2 : (i + 1) * sl = i * sl + sl := Nat.succ_mul i sl
    show ∃ S', Lf (F + 1) i X = some S' ∧ _
    rw [h1 F i X X1 hi kp (by omega) b1 b4 ((nw i hi).2.2.2 _ _ b6)]
    have k2 : zKp (zn X1) (fun b => b = A) X1 (zwR X1 A i (some (zn X + 1))) := ⟨fun b _ => rfl, fun b j _ hb => ⟨rfl, rfl, by rw [mm_RR, if_neg (fun q => hb q.1)]⟩⟩
    have k3 : zKp (zn X) (fun b => b = A) X (zwR X1 A i (some (zn X + 1))) := by
      refine ⟨fun b hb => b4.1 b hb, fun b j hb hx => ?_⟩
      have x1 := b4.2 b j hb (fun q => q)
      have x2 := k2.2 b j (by omega) hx
      exact ⟨x2.1.trans x1.1, x2.2.1.trans x1.2.1, x2.2.2.trans x1.2.2⟩
    refine ih () _ ⟨fz_wR b5 (by omega), by show zn X1 = _; omega, by show zs X1 = _; omega, kp_trans kp k3 (by omega) (fun b _ q => q), fun j => by rw [← ii j]; exact (b4.2 A j (by omega) (fun q => q)).1, fun j hj => ?_⟩
    by_cases e : j = i
    · subst e
      rw [← show zn X + 1 = zn S + 1 + j * len by omega]
      exact ⟨by rw [mm_RR, if_pos ⟨rfl, rfl⟩], (nw j hi).2.1 X1 _ (zn X + 1) (zn X1) _ b6 k2 (by omega) (fun b hb => by omega)⟩
    · have hji : (j + 1) * len ≤ i * len := Nat.mul_le_mul_right len (by omega)
      have sj : (j + 1) * len = j * len + len := Nat.succ_mul j len
      obtain ⟨p1, p2⟩ := ps j (by omega)
      exact ⟨by rw [mm_RR, if_neg (fun q => e q.2), (b4.2 A j (by omega) (fun q => q)).2.2]; exact p1, (nw j (by omega)).2.1 X _ _ (zn X) _ p2 k3 (by omega) (fun b hb => by omega)⟩

theorem tn_0 : (0 : Int32).toNatClampNeg = 0 := by decide
theorem cn_0 : ((0 : Int32) < 0 ∨ 10000 ≤ 0) = False := eq_false (by decide)
theorem tn_3 : (3 : Int32).toNatClampNeg = 3 := by decide
theorem cn_3 : ((3 : Int32) < 0 ∨ 10000 ≤ 3) = False := eq_false (by decide)
theorem tn_4 : (4 : Int32).toNatClampNeg = 4 := by decide
theorem cn_4 : ((4 : Int32) < 0 ∨ 10000 ≤ 4) = False := eq_false (by decide)
theorem tn_5 : (5 : Int32).toNatClampNeg = 5 := by decide
theorem cn_5 : ((5 : Int32) < 0 ∨ 10000 ≤ 5) = False := eq_false (by decide)
theorem tn_8 : (8 : Int32).toNatClampNeg = 8 := by decide
theorem cn_8 : ((8 : Int32) < 0 ∨ 10000 ≤ 8) = False := eq_false (by decide)
theorem tn_9 : (9 : Int32).toNatClampNeg = 9 := by decide
theorem cn_9 : ((9 : Int32) < 0 ∨ 10000 ≤ 9) = False := eq_false (by decide)
theorem tn_12 : (12 : Int32).toNatClampNeg = 12 := by decide
theorem cn_12 : ((12 : Int32) < 0 ∨ 10000 ≤ 12) = False := eq_false (by decide)
theorem tn_16 : (16 : Int32).toNatClampNeg = 16 := by decide
theorem cn_16 : ((16 : Int32) < 0 ∨ 10000 ≤ 16) = False := eq_false (by decide)
theorem tn_24 : (24 : Int32).toNatClampNeg = 24 := by decide
theorem cn_24 : ((24 : Int32) < 0 ∨ 10000 ≤ 24) = False := eq_false (by decide)
theorem tn_33 : (33 : Int32).toNatClampNeg = 33 := by decide
theorem cn_33 : ((33 : Int32) < 0 ∨ 10000 ≤ 33) = False := eq_false (by decide)
theorem tn_60 : (60 : Int32).toNatClampNeg = 60 := by decide
theorem cn_60 : ((60 : Int32) < 0 ∨ 10000 ≤ 60) = False := eq_false (by decide)
theorem tn_61 : (61 : Int32).toNatClampNeg = 61 := by decide
theorem cn_61 : ((61 : Int32) < 0 ∨ 10000 ≤ 61) = False := eq_false (by decide)
theorem tn_64 : (64 : Int32).toNatClampNeg = 64 := by decide
theorem cn_64 : ((64 : Int32) < 0 ∨ 10000 ≤ 64) = False := eq_false (by decide)
theorem tn_73 : (73 : Int32).toNatClampNeg = 73 := by decide
theorem cn_73 : ((73 : Int32) < 0 ∨ 10000 ≤ 73) = False := eq_false (by decide)
theorem tn_80 : (80 : Int32).toNatClampNeg = 80 := by decide
theorem cn_80 : ((80 : Int32) < 0 ∨ 10000 ≤ 80) = False := eq_false (by decide)
theorem tn_180 : (180 : Int32).toNatClampNeg = 180 := by decide
theorem cn_180 : ((180 : Int32) < 0 ∨ 10000 ≤ 180) = False := eq_false (by decide)
theorem tn_264 : (264 : Int32).toNatClampNeg = 264 := by decide
theorem cn_264 : ((264 : Int32) < 0 ∨ 10000 ≤ 264) = False := eq_false (by decide)
theorem tn_900 : (900 : Int32).toNatClampNeg = 900 := by decide
theorem cn_900 : ((900 : Int32) < 0 ∨ 10000 ≤ 900) = False := eq_false (by decide)
theorem tn_1365 : (1365 : Int32).toNatClampNeg = 1365 := by decide
theorem cn_1365 : ((1365 : Int32) < 0 ∨ 10000 ≤ 1365) = False := eq_false (by decide)
theorem tn_5460 : (5460 : Int32).toNatClampNeg = 5460 := by decide
theorem cn_5460 : ((5460 : Int32) < 0 ∨ 10000 ≤ 5460) = False := eq_false (by decide)
theorem nw_row (n : Nat) (hn : n < 1000) : zNw 8 2 (fun a S => f_Row_init a (nI n) S) 2 (2 + n) (fun S a => pRow S a n []) := by
  refine ⟨fun S hz => ?_, st_row n [], by omega, fun S a h => by rw [h.1]⟩
  obtain ⟨S', a1, a2, a3, a4, a5, a6⟩ := row_new hz hn
  exact ⟨S', a1, a2, by omega, kp_q0 a4, a5, a6⟩
theorem nw_car : zNw 1 6 f_Carrier_init 14 346 (fun S c => aCar S c (c + 4) (c + 6)) := by
  refine ⟨fun S hz => ?_, st_car, by omega, fun S a h => by rw [h.1.1]⟩
  obtain ⟨S', a1, a2, a3, a4, a5, a6⟩ := car_new hz
  exact ⟨S', a1, a2, a3, kp_q0 a4, a5, a6⟩
theorem nw_rdr : zNw 7 8 f_Reader_init 2 8 (fun S a => zh S a = (7, 0)) := by
  refine ⟨fun S hz => ?_, st_rdr, by omega, fun S a h => by rw [h]⟩
  obtain ⟨S0, e0, n0, s0, z0, k0, h0, i0⟩ := obj_ex hz 7 8
  rw [← e0]
  obtain ⟨S1, a1, n1, s1, z1, k1, o1, g1, i1, j1⟩ := arrs_ex (ci := 7) (a := zn S + 1) [(0, 100, 0)] S0 z0 (by omega) (by rw [h0]) (by decide)
  have e : f_Reader_init (zn S + 1) S0 = zAr 7 (zn S + 1) [(0, 100, 0)] some S0 := by simp only [f_Reader_init, tn_0, cn_0, if_false]; rfl
  refine ⟨S1, by rw [e, a1], by rw [n1, n0]; rfl, by rw [s1, s0]; rfl, kp_trans (kp_q0 k0) k1 (by omega) (fun b hb q => by omega), z1, by show zh S1 (zn S + 1) = (7, 0); rw [k1.1 _ (by omega)]; exact h0⟩
theorem nw_act : zNw 0 2 f_Acts_init 2 14 nAct := by
  refine ⟨fun S hz => ?_, st_act, by omega, fun S a h => by rw [h.1]⟩
  obtain ⟨S0, e0, n0, s0, z0, k0, h0, i0⟩ := obj_ex hz 0 2
  rw [← e0]
  obtain ⟨S1, a1, n1, s1, z1, k1, o1, g1, i1, j1⟩ := arrs_ex (ci := 0) (a := zn S + 1) [(0, 100, 12)] S0 z0 (by omega) (by rw [h0]) (by decide)
  have e : f_Acts_init (zn S + 1) S0 = zAr 0 (zn S + 1) [(0, 100, 12)] some S0 := by simp only [f_Acts_init, tn_12, cn_12, if_false]; rfl
  rw [n0] at g1
  refine ⟨S1, by rw [e, a1], by rw [n1, n0]; rfl, by rw [s1, s0]; rfl, kp_trans (kp_q0 k0) k1 (by omega) (fun b hb q => by omega), z1, by rw [k1.1 _ (by omega)]; exact h0, (g1 0 _ rfl).1, (g1 0 _ rfl).2, by rw [i1]; exact (i0 1).1⟩
theorem nw_mach : zNw 3 7 f_Machine_init 7 363 sMach := by
  refine ⟨fun S hz => ?_, st_mach, by omega, fun S a h => by rw [h.1]⟩
  obtain ⟨S0, e0, n0, s0, z0, k0, h0, i0⟩ := obj_ex hz 3 7
  rw [← e0]
  obtain ⟨S1, a1, n1, s1, z1, k1, o1, g1, i1, j1⟩ := arrs_ex (ci := 3) (a := zn S + 1) [(0, 100, 264), (1, 100, 33), (2, 100, 33), (3, 100, 9), (4, 100, 9), (5, 100, 8)] S0 z0 (by omega) (by rw [h0]) (by decide)
  have e : f_Machine_init (zn S + 1) S0 = zAr 3 (zn S + 1) [(0, 100, 264), (1, 100, 33), (2, 100, 33), (3, 100, 9), (4, 100, 9), (5, 100, 8)] some S0 := by simp only [f_Machine_init, tn_8, cn_8, tn_9, cn_9, tn_33, cn_33, tn_264, cn_264, if_false]; rfl
  rw [n0] at g1
  refine ⟨S1, by rw [e, a1], by rw [n1, n0]; rfl, by rw [s1, s0]; rfl, kp_trans (kp_q0 k0) k1 (by omega) (fun b hb q => by omega), z1, by rw [k1.1 _ (by omega)]; exact h0, (g1 0 _ rfl).1, (g1 0 _ rfl).2, (g1 1 _ rfl).1, (g1 1 _ rfl).2, (g1 2 _ rfl).1, (g1 2 _ rfl).2, (g1 3 _ rfl).1, (g1 3 _ rfl).2, (g1 4 _ rfl).1, (g1 4 _ rfl).2, (g1 5 _ rfl).1, (g1 5 _ rfl).2⟩
theorem nw_rule : zNw 9 4 f_Rule_init 5 15 (fun S r => pRule S r ([], [], 0, 0)) := by
  refine ⟨fun S hz => ?_, st_rule _, by omega, fun S a h => by rw [h.1]⟩
  obtain ⟨S0, e0, n0, s0, z0, k0, h0, i0⟩ := obj_ex hz 9 4
  rw [← e0]
  obtain ⟨P1, S1, b1, q1, a1, n1, s1, z1, k1, r1, o1, i1, w1⟩ := nw_put (nw_row 3 (by omega)) z0 (a := zn S + 1) (ci := 9) 0 (by omega) (by rw [h0])
  obtain ⟨P2, S2, b2, q2, a2, n2, s2, z2, k2, r2, o2, i2, w2⟩ := nw_put (nw_row 4 (by omega)) z1 (a := zn S + 1) (ci := 9) 1 (by omega) (by rw [k1.1 _ (by omega), h0])
  have b1 : f_Row_init (zn S0 + 1) 3 (zalloc S0 8 0 2) = some P1 := b1
  have b2 : f_Row_init (zn S1 + 1) 4 (zalloc S1 8 0 2) = some P2 := b2
  refine ⟨S2, by simp only [f_Rule_init, ↓bb_cl, q1, if_true, ↓bS b1, ↓bS a1, q2, ↓bS b2, ↓bS a2], by omega, by omega, kp_trans (kp_trans (kp_q0 k0) k1 (by omega) (fun b hb q => by omega)) k2 (by omega) (fun b hb q => by omega), z2, ?_⟩
  refine ⟨by rw [k2.1 _ (by omega), k1.1 _ (by omega)]; exact h0, by rw [o2 0 (by omega), r1, n0], by rw [r2, n1, n0], ?_, ?_, by rw [i2, i1, (i0 2).1]; rfl, by rw [i2, i1, (i0 3).1]; rfl⟩
  · rw [n0] at w1
    exact st_row 3 [] S1 S2 (zn S + 1 + 1) (zn S1) _ w1 k2 (by omega) (fun b hb => by omega)
  · rw [n1, n0] at w2; exact w2
theorem nw_pass : zNw 5 6 f_Pass_init 56 860 sPassA := by
  refine ⟨fun S hz => ?_, st_pass, by omega, fun S a h => by rw [h.1.1]⟩
  obtain ⟨S0, e0, n0, s0, z0, k0, h0, i0⟩ := obj_ex hz 5 6
  rw [← e0]
  obtain ⟨S1, a1, n1, s1, z1, k1, h1, r1, o1, i1, j1, g1⟩ := arr_ex z0 (a := zn S + 1) (ci := 5) (f := 0) 119 8 (by omega) (by rw [h0])
  obtain ⟨P2, S2, b2, q2, a2, n2, s2, z2, k2, r2, o2, i2, w2⟩ := nw_put nw_mach z1 (a := zn S + 1) (ci := 5) 1 (by omega) (by rw [h1, h0])
  have h2 : zh S2 (zn S + 1) = (5, 0) := by rw [k2.1 _ (by omega), h1, h0]
  obtain ⟨P3, S3, b3, q3, a3, n3, s3, z3, k3, r3, o3, i3, w3⟩ := nw_put nw_mach z2 (a := zn S + 1) (ci := 5) 2 (by omega) (by rw [h2])
  have h3 : zh S3 (zn S + 1) = (5, 0) := by rw [k3.1 _ (by omega), h2]
  have c3 : zR S3 (zn S + 1) 0 = some (zn S + 2) := by rw [o3 0 (by omega), o2 0 (by omega), r1, n0]
  have c2 : zh S3 (zn S + 2) = (119, 8) := by
    rw [k3.1 _ (by omega), k2.1 _ (by omega)]
    rw [n0] at g1; exact g1
  obtain ⟨S4, d1, d2, d3, d4, d5, d6, d7⟩ := objs_ex (N := 8) (A := zn S + 2) (S := S3) (f := fun _ => f_Rule_init) (by omega) (fun i hi => nw_rule) (fun F i X => L_Pass_init_37 F (zn S + 1) (nI i) X) z3 (by omega)
    (fun F X => by
      show L_Pass_init_37 (F + 1) _ _ _ = _
      rw [L_Pass_init_37, if_neg (by decide)])
    (fun F i X X1 hi kp hX e kq hk => by
      have lt : nI i < (8 : Int32) := (nI_ltI (b := 8) (by omega) (by omega)).2 hi
      have e1 : nI i + 1 = nI (i + 1) := nI_add i 1
      have z : zinb (nI i) 8 = true := (nn_in (by omega)).2 hi
      have c : (nI i).toNatClampNeg = i := nI_clamp (by omega)
      have x1 : zh X (zn S + 1) = (5, 0) := by rw [kp.1 _ (by omega)]; exact h3
      have x2 : zR X (zn S + 1) 0 = some (zn S + 2) := by rw [(kp.2 _ 0 (by omega) (by omega)).2.2]; exact c3
      have x3 : zh X1 (zn S + 2) = (119, 8) := by rw [kq.1 _ (by omega), kp.1 _ (by omega)]; exact c2
      have x4 : (zh (zalloc X 9 0 4) (zn X + 1)).1 = 9 := by rw [al_h, if_pos rfl]
      show L_Pass_init_37 (F + 1) _ _ _ = _
      rw [L_Pass_init_37, if_pos lt]
      simp only [↓bb_gr, x1, if_true, ↓bS x2, ↓bb_cl, x4, ↓bS e, ↓bb_po, x3, hk, z, and_self, c, e1])
  have d1 : L_Pass_init_37 zF (zn S + 1) 0 S3 = some S4 := d1
  have a1' : zpr (zalloc S0 119 8 8) 5 (zn S + 1) 0 (some (zn S0 + 1)) = some S1 := a1
  refine ⟨S4, by simp only [f_Pass_init, tn_8, cn_8, if_false, ↓bS a1', ↓bb_cl, q2, if_true, ↓bS b2, ↓bS a2, q3, ↓bS b3, ↓bS a3]; exact d1, by omega, by omega, ?_, d4, ?_⟩
  · exact kp_trans (kp_trans (kp_trans (kp_trans (kp_q0 k0) (kp_q k1 h1) (by omega) (fun b hb q => by omega)) k2 (by omega) (fun b hb q => by omega)) k3 (by omega) (fun b hb q => by omega)) d5 (by omega) (fun b hb q => by omega)
  · have kA : ∀ j, zR S4 (zn S + 1) j = zR S3 (zn S + 1) j := fun j => (d5.2 _ j (by omega) (by omega)).2.2
    refine ⟨⟨by rw [d5.1 _ (by omega)]; exact h3, by rw [kA]; exact c3, by rw [d5.1 _ (by omega)]; exact c2, fun i hi => ?_, ?_, ?_⟩, ?_, ?_, fun i hi => ⟨([], [], 0, 0), ?_⟩⟩
    · show zR S4 (zn S + 2) i = _
      rw [(d7 i hi).1]; congr 1; omega
    · rw [kA, o3 1 (by omega), r2]; congr 1; omega
    · rw [kA, r3]; congr 1; omega
    · have := st_mach S2 S4 (zn S1 + 1) (zn S2) (fun b => b = zn S + 1 ∨ b = zn S + 2) w2 (kp_trans (kp_trans (kp_refl _ _ _) k3 (by omega) (fun b hb q => Or.inl q)) d5 (by omega) (fun b hb q => Or.inr q)) (by omega) (fun b hb => by omega)
      rw [show zn S1 + 1 = zn S + 1 + 2 by omega] at this
      exact this
    · have := st_mach S3 S4 (zn S2 + 1) (zn S3) (fun b => b = zn S + 2) w3 d5 (by omega) (fun b hb => by omega)
      rw [show zn S2 + 1 = zn S + 1 + 9 by omega] at this
      exact this
    · have := (d7 i hi).2
      rw [show zn S3 + 1 + i * 5 = zn S + 1 + 16 + 5 * i by omega] at this
      exact this
theorem nw_scr : zNw 10 6 f_Script_init 172 2597 nScr := by
  refine ⟨fun S hz => ?_, st_scr, by omega, fun S a h => by rw [h.1.1.1]⟩
  obtain ⟨S0, e0, n0, s0, z0, k0, h0, i0⟩ := obj_ex hz 10 6
  rw [← e0]
  obtain ⟨S3, a1, n1, s1, z1, k1, o1, g1, i1, j1⟩ := arrs_ex (ci := 10) (a := zn S + 1) [(0, 101, 4), (1, 100, 4), (2, 115, 3)] S0 z0 (by omega) (by rw [h0]) (by decide)
  have n3 : zn S3 = zn S + 4 := by rw [n1, n0]; rfl
  have s3 : zs S3 = zs S + 6 + 11 := by rw [s1, s0]; rfl
  rw [n0] at g1
  have e : f_Script_init (zn S + 1) S0 = zAr 10 (zn S + 1) [(0, 101, 4), (1, 100, 4), (2, 115, 3)] (fun S3 => L_Script_init_28 zF (zn S + 1) 0 S3) S0 := by simp only [f_Script_init, tn_3, cn_3, tn_4, cn_4, if_false]; rfl
  have h3 : zh S3 (zn S + 1) = (10, 0) := by rw [k1.1 _ (by omega), h0]
  have c3 : zR S3 (zn S + 1) 2 = some (zn S + 4) := (g1 2 _ rfl).1
  have c2 : zh S3 (zn S + 4) = (115, 3) := (g1 2 _ rfl).2
  obtain ⟨S4, d1, d2, d3, d4, d5, d6, d7⟩ := objs_ex (N := 3) (A := zn S + 4) (S := S3) (f := fun _ => f_Pass_init) (by omega) (fun i hi => nw_pass) (fun F i X => L_Script_init_28 F (zn S + 1) (nI i) X) z1 (by omega)
    (fun F X => by
      show L_Script_init_28 (F + 1) _ _ _ = _
      rw [L_Script_init_28, if_neg (by decide)])
    (fun F i X X1 hi kp hX e kq hk => by
      have lt : nI i < (3 : Int32) := (nI_ltI (b := 3) (by omega) (by omega)).2 hi
      have e1 : nI i + 1 = nI (i + 1) := nI_add i 1
      have z : zinb (nI i) 3 = true := (nn_in (by omega)).2 hi
      have c : (nI i).toNatClampNeg = i := nI_clamp (by omega)
      have x1 : zh X (zn S + 1) = (10, 0) := by rw [kp.1 _ (by omega)]; exact h3
      have x2 : zR X (zn S + 1) 2 = some (zn S + 4) := by rw [(kp.2 _ 2 (by omega) (by omega)).2.2]; exact c3
      have x3 : zh X1 (zn S + 4) = (115, 3) := by rw [kq.1 _ (by omega), kp.1 _ (by omega)]; exact c2
      have x4 : (zh (zalloc X 5 0 6) (zn X + 1)).1 = 5 := by rw [al_h, if_pos rfl]
      show L_Script_init_28 (F + 1) _ _ _ = _
      rw [L_Script_init_28, if_pos lt]
      simp only [↓bb_gr, x1, if_true, ↓bS x2, ↓bb_cl, x4, ↓bS e, ↓bb_po, x3, hk, z, and_self, c, e1])
  have d1 : L_Script_init_28 zF (zn S + 1) 0 S3 = some S4 := d1
  have kA : ∀ j, zR S4 (zn S + 1) j = zR S3 (zn S + 1) j := fun j => (d5.2 _ j (by omega) (by omega)).2.2
  have kI : ∀ j, zI S4 (zn S + 1) j = 0 := fun j => by rw [(d5.2 _ j (by omega) (by omega)).1, i1]; exact (i0 j).1
  refine ⟨S4, by rw [e, a1]; exact d1, by omega, by omega, kp_trans (kp_trans (kp_q0 k0) k1 (by omega) (fun b hb q => by omega)) d5 (by omega) (fun b hb q => by omega), d4, ⟨⟨by rw [d5.1 _ (by omega)]; exact h3, by rw [kA]; exact (g1 0 _ rfl).1, by rw [d5.1 _ (by omega)]; exact (g1 0 _ rfl).2, by rw [kA]; exact (g1 1 _ rfl).1, by rw [d5.1 _ (by omega)]; exact (g1 1 _ rfl).2, by rw [kA]; exact c3, by rw [d5.1 _ (by omega)]; exact c2, fun p hp => ?_⟩, fun p hp => ?_⟩, kI 3, kI 4, kI 5⟩
  · show zR S4 (zn S + 4) p = _
    rw [(d7 p hp).1]; unfold aPs; congr 1; omega
  · have := (d7 p hp).2
    rw [show zn S3 + 1 + p * 56 = aPs (zn S + 1) p by unfold aPs; omega] at this
    exact this
noncomputable def f_row1 (i : Nat) (a : Nat) (S : zM) : Option zM := Option.bind (f_Row_init a 1 S) (fun p1 => Option.bind (zcl p1 8 a (f_Row_add a (nI i) p1)) (fun p2 => some p2.2))
theorem nw_row1 (i : Nat) (hi : i < 8) : zNw 8 2 (f_row1 i) 2 3 (fun S a => pRow S a 1 [i]) := by
  refine ⟨fun S hz => ?_, st_row 1 [i], by omega, fun S a h => by rw [h.1]⟩
  obtain ⟨S1, a1, a2, a3, a4, a5, a6⟩ := row_new hz (n := 1) (by omega)
  obtain ⟨S2, b1, b2, b3⟩ := row_add a6 (by simp) (v := i) (by omega)
  have a1 : f_Row_init (zn S + 1) 1 (zalloc S 8 0 2) = some S1 := a1
  have h1 : zh S1 (zn S + 1) = (8, 0) := a6.1
  rw [show i % 8 = i by omega] at b3
  refine ⟨S2, by simp only [f_row1, ↓bS a1, ↓bb_cl, h1, if_true, ↓bS b1], by rw [fr_n b2]; omega, by rw [fr_s b2]; omega, ?_, fun b j hb => ?_, b3⟩
  · refine ⟨fun b hb => by rw [fr_h b2]; exact (a4 b hb).1, fun b j hb _ => ?_⟩
    have x := (a4 b hb).2 j
    exact ⟨by rw [fr_I b2 (by unfold rg; omega)]; exact x.1, by rw [fr_J b2 (by unfold rg; omega)]; exact x.2.1, by rw [fr_R b2]; exact x.2.2⟩
  · rw [fr_n b2] at hb
    have x := a5 b j hb
    exact ⟨by rw [fr_I b2 (by unfold rg; omega)]; exact x.1, by rw [fr_J b2 (by unfold rg; omega)]; exact x.2.1, by rw [fr_R b2]; exact x.2.2⟩
theorem nw_pcs : zNw 6 8 f_Pieces_init 22 145 sPcs := by
  refine ⟨fun S hz => ?_, st_pcs, by omega, fun S a h => by rw [h.1]⟩
  obtain ⟨S0, e0, n0, s0, z0, k0, h0, i0⟩ := obj_ex hz 6 8
  rw [← e0]
  obtain ⟨S3, a1, n1, s1, z1, k1, o1, g1, i1, j1⟩ := arrs_ex (ci := 6) (a := zn S + 1) [(0, 100, 16), (1, 118, 16), (2, 118, 8), (3, 100, 64), (4, 100, 9)] S0 z0 (by omega) (by rw [h0]) (by decide)
  have n3 : zn S3 = zn S + 6 := by rw [n1, n0]; rfl
  have s3 : zs S3 = zs S + 8 + 113 := by rw [s1, s0]; rfl
  rw [n0] at g1
  have e : f_Pieces_init (zn S + 1) S0 = zAr 6 (zn S + 1) [(0, 100, 16), (1, 118, 16), (2, 118, 8), (3, 100, 64), (4, 100, 9)] (fun S3 => L_Pieces_init_48 zF (zn S + 1) 0 S3) S0 := by simp only [f_Pieces_init, tn_8, cn_8, tn_9, cn_9, tn_16, cn_16, tn_64, cn_64, if_false]; rfl
  have h3 : zh S3 (zn S + 1) = (6, 0) := by rw [k1.1 _ (by omega), h0]
  have c3 : zR S3 (zn S + 1) 2 = some (zn S + 4) := (g1 2 _ rfl).1
  have c2 : zh S3 (zn S + 4) = (118, 8) := (g1 2 _ rfl).2
  obtain ⟨S4, d1, d2, d3, d4, d5, d6, d7⟩ := objs_ex (N := 8) (A := zn S + 4) (S := S3) (f := f_row1) (by omega) (fun i hi => nw_row1 i hi) (fun F i X => L_Pieces_init_48 F (zn S + 1) (nI i) X) z1 (by omega)
    (fun F X => by
      show L_Pieces_init_48 (F + 1) _ _ _ = _
      rw [L_Pieces_init_48, if_neg (by decide)])
    (fun F i X X1 hi kp hX e kq hk => by
      have lt : nI i < (8 : Int32) := (nI_ltI (b := 8) (by omega) (by omega)).2 hi
      have e1 : nI i + 1 = nI (i + 1) := nI_add i 1
      have z : zinb (nI i) 8 = true := (nn_in (by omega)).2 hi
      have c : (nI i).toNatClampNeg = i := nI_clamp (by omega)
      have x1 : zh X1 (zn S + 1) = (6, 0) := by rw [kq.1 _ (by omega), kp.1 _ (by omega)]; exact h3
      have x2 : zR X1 (zn S + 1) 2 = some (zn S + 4) := by rw [(kq.2 _ 2 (by omega) (fun q => q)).2.2, (kp.2 _ 2 (by omega) (by omega)).2.2]; exact c3
      have x3 : zh X1 (zn S + 4) = (118, 8) := by rw [kq.1 _ (by omega), kp.1 _ (by omega)]; exact c2
      have x4 : (zh (zalloc X 8 0 2) (zn X + 1)).1 = 8 := by rw [al_h, if_pos rfl]
      show L_Pieces_init_48 (F + 1) _ _ _ = _
      rw [L_Pieces_init_48, if_pos lt]
      unfold f_row1 at e
      cases e5 : f_Row_init (zn X + 1) 1 (zalloc X 8 0 2) with
      | none => rw [e5] at e; cases e
      | some p1 =>
        rw [e5] at e
        have e : Option.bind (zcl p1 8 (zn X + 1) (f_Row_add (zn X + 1) (nI i) p1)) (fun p2 => some p2.2) = some X1 := e
        cases e6 : zcl p1 8 (zn X + 1) (f_Row_add (zn X + 1) (nI i) p1) with
        | none => rw [e6] at e; cases e
        | some p2 =>
          rw [e6] at e
          have e : some p2.2 = some X1 := e
          have e : p2.2 = X1 := by injection e
          have e7 : (zh p1 (zn X + 1)).1 = 8 ∧ f_Row_add (zn X + 1) (nI i) p1 = some p2 := by
            unfold zcl at e6
            split at e6
            · rename_i q; exact ⟨q, e6⟩
            · cases e6
          simp only [↓bb_cl, x4, if_true, ↓bb_some, e7.1, ↓bS e7.2, e, ↓bb_gr, x1, ↓bS x2, ↓bb_po, x3, hk, z, and_self, c, e1])
  have d1 : L_Pieces_init_48 zF (zn S + 1) 0 S3 = some S4 := d1
  have kA : ∀ j, zR S4 (zn S + 1) j = zR S3 (zn S + 1) j := fun j => (d5.2 _ j (by omega) (by omega)).2.2
  refine ⟨S4, by rw [e, a1]; exact d1, by omega, by omega, kp_trans (kp_trans (kp_q0 k0) k1 (by omega) (fun b hb q => by omega)) d5 (by omega) (fun b hb q => by omega), d4, ⟨by rw [d5.1 _ (by omega)]; exact h3, by rw [kA]; exact (g1 0 _ rfl).1, by rw [d5.1 _ (by omega)]; exact (g1 0 _ rfl).2, by rw [kA]; exact (g1 1 _ rfl).1, by rw [d5.1 _ (by omega)]; exact (g1 1 _ rfl).2, by rw [kA]; exact c3, by rw [d5.1 _ (by omega)]; exact c2, by rw [kA]; exact (g1 3 _ rfl).1, by rw [d5.1 _ (by omega)]; exact (g1 3 _ rfl).2, by rw [kA]; exact (g1 4 _ rfl).1, by rw [d5.1 _ (by omega)]; exact (g1 4 _ rfl).2, fun l hl => ⟨?_, ?_⟩⟩⟩
  · show zR S4 (zn S + 4) l = _
    rw [(d7 l hl).1]; congr 1; omega
  · have := (d7 l hl).2
    rw [show zn S3 + 1 + l * 2 = zn S + 1 + 6 + 2 * l by omega] at this
    exact this
