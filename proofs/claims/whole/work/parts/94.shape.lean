/-! shapes: a memory with more cells -/
def zrh (S : zM) (h : Nat → Nat × Nat) (n s : Nat) : zM := (S.1, S.2.1, S.2.2.1, h, n, s)
section
variable {S : zM} {h : Nat → Nat × Nat} {n s m : Nat}
theorem rh_h : zh (zrh S h n s) = h := rfl
theorem rh_I : zI (zrh S h n s) = zI S := rfl
theorem rh_J : zJ (zrh S h n s) = zJ S := rfl
theorem rh_R : zR (zrh S h n s) = zR S := rfl
theorem rh_row {a k : Nat} {xs : List Nat} (hh : ∀ b, b < m → h b = zh S b) (q : pRow S a k xs) (ha : a + 2 ≤ m) : pRow (zrh S h n s) a k xs := by
  obtain ⟨r1, r2, r3, r4⟩ := q
  exact ⟨by rw [rh_h, hh _ (by omega)]; exact r1, r2, by rw [rh_h, hh _ (by omega)]; exact r3, r4⟩
theorem rh_car {c x y : Nat} (hh : ∀ b, b < m → h b = zh S b) (q : aCar S c x y) (hc : c + 14 ≤ m) : aCar (zrh S h n s) c x y := by
  obtain ⟨⟨a1, a2, a3, a4, a5, a6, a7, a8, a9, a10, a11⟩, ⟨xs, b1⟩, ⟨ys, b2⟩, b3⟩ := q
  refine ⟨⟨by rw [rh_h, hh _ (by omega)]; exact a1, a2, by rw [rh_h, hh _ (by omega)]; exact a3, a4, a5, by rw [rh_h, hh _ (by omega)]; exact a6, a7, by rw [rh_h, hh _ (by omega)]; exact a8, a9, a10, a11⟩, ⟨xs, rh_row hh b1 (by omega)⟩, ⟨ys, rh_row hh b2 (by omega)⟩, fun p hp => ?_⟩
  obtain ⟨zs, c1⟩ := b3 p hp
  exact ⟨zs, rh_row hh c1 (by omega)⟩
theorem rh_pcs {G : Nat} (hh : ∀ b, b < m → h b = zh S b) (q : sPcs S G) (hG : G + 22 ≤ m) : sPcs (zrh S h n s) G := by
  obtain ⟨s1, s2, s3, s4, s5, s6, s7, s8, s9, s10, s11, s12⟩ := q
  exact ⟨by rw [rh_h, hh _ (by omega)]; exact s1, s2, by rw [rh_h, hh _ (by omega)]; exact s3, s4, by rw [rh_h, hh _ (by omega)]; exact s5, s6, by rw [rh_h, hh _ (by omega)]; exact s7, s8, by rw [rh_h, hh _ (by omega)]; exact s9, s10, by rw [rh_h, hh _ (by omega)]; exact s11, fun l hl => ⟨(s12 l hl).1, rh_row hh (s12 l hl).2 (by omega)⟩⟩
theorem rh_rule {r : Nat} {ru : zRu} (hh : ∀ b, b < m → h b = zh S b) (q : pRule S r ru) (hr : r + 5 ≤ m) : pRule (zrh S h n s) r ru := by
  obtain ⟨a1, a2, a3, a4, a5, a6⟩ := q
  exact ⟨by rw [rh_h, hh _ (by omega)]; exact a1, a2, a3, rh_row hh a4 (by omega), rh_row hh a5 (by omega), a6⟩
theorem rh_sMach {k : Nat} (hh : ∀ b, b < m → h b = zh S b) (q : sMach S k) (hk : k + 7 ≤ m) : sMach (zrh S h n s) k := by
  obtain ⟨s1, s2, s3, s4, s5, s6, s7, s8, s9, s10, s11, s12, s13⟩ := q
  exact ⟨by rw [rh_h, hh _ (by omega)]; exact s1, s2, by rw [rh_h, hh _ (by omega)]; exact s3, s4, by rw [rh_h, hh _ (by omega)]; exact s5, s6, by rw [rh_h, hh _ (by omega)]; exact s7, s8, by rw [rh_h, hh _ (by omega)]; exact s9, s10, by rw [rh_h, hh _ (by omega)]; exact s11, s12, by rw [rh_h, hh _ (by omega)]; exact s13⟩
theorem rh_mach {k : Nat} {rs : List zRu} {tn : Bool} (hh : ∀ b, b < m → h b = zh S b) (q : pMach S k rs tn) (hk : k + 7 ≤ m) : pMach (zrh S h n s) k rs tn := ⟨rh_sMach hh q.1 hk, q.2⟩
theorem rh_sPass {P : Nat} (hh : ∀ b, b < m → h b = zh S b) (q : sPass S P) (hP : P + 56 ≤ m) : sPass (zrh S h n s) P := by
  obtain ⟨a1, a2, a3, a4⟩ := q
  exact ⟨by rw [rh_h, hh _ (by omega)]; exact a1, a2, by rw [rh_h, hh _ (by omega)]; exact a3, a4⟩
theorem rh_sPassA {P : Nat} (hh : ∀ b, b < m → h b = zh S b) (q : sPassA S P) (hP : P + 56 ≤ m) : sPassA (zrh S h n s) P := by
  obtain ⟨a1, a2, a3, a4⟩ := q
  refine ⟨rh_sPass hh a1 hP, rh_sMach hh a2 (by omega), rh_sMach hh a3 (by omega), fun i hi => ?_⟩
  obtain ⟨ru, hr⟩ := a4 i hi
  exact ⟨ru, rh_rule hh hr (by omega)⟩
theorem rh_pass {P : Nat} {ps : zPs} {mask : Nat} (hh : ∀ b, b < m → h b = zh S b) (q : pPass S P ps mask) (hP : P + 56 ≤ m) : pPass (zrh S h n s) P ps mask := by
  obtain ⟨a1, a2, a3, a4, a5, a6, a7, a8, a9⟩ := q
  have := a8.1
  exact ⟨rh_sPass hh a1 hP, a2, a3, a4, fun i hi => rh_rule hh (a5 i hi) (by omega), rh_mach hh a6 (by omega), rh_mach hh a7 (by omega), a8, a9⟩
theorem rh_sScr {T : Nat} (hh : ∀ b, b < m → h b = zh S b) (q : sScr S T) (hT : T + 172 ≤ m) : sScr (zrh S h n s) T := by
  obtain ⟨a1, a2, a3, a4, a5, a6, a7, a8⟩ := q
  exact ⟨by rw [rh_h, hh _ (by omega)]; exact a1, a2, by rw [rh_h, hh _ (by omega)]; exact a3, a4, by rw [rh_h, hh _ (by omega)]; exact a5, a6, by rw [rh_h, hh _ (by omega)]; exact a7, a8⟩
theorem rh_scr {T : Nat} {sc : zSc} {asd : Nat → Nat} (hh : ∀ b, b < m → h b = zh S b) (q : pScr S T sc asd) (hT : T + 172 ≤ m) : pScr (zrh S h n s) T sc asd := by
  obtain ⟨a1, a2, a3, a4, a5, a6, a7, a8, a9, a10⟩ := q
  have := a10.1
  exact ⟨rh_sScr hh a1 hT, a2, a3, a4, a5, fun p hp => rh_pass hh (a6 p hp) (by unfold aPs; omega), a7, a8, a9, a10⟩
theorem rh_aScr {T : Nat} (hh : ∀ b, b < m → h b = zh S b) (q : aScr S T) (hT : T + 172 ≤ m) : aScr (zrh S h n s) T := ⟨rh_sScr hh q.1 hT, fun p hp => rh_sPassA hh (q.2 p hp) (by unfold aPs; omega)⟩
theorem rh_mo {M : Nat} (hh : ∀ b, b < m → h b = zh S b) (q : sMo S M) (hM : M + 38 ≤ m) : sMo (zrh S h n s) M := by
  obtain ⟨a1, a2⟩ := q
  refine ⟨by rw [rh_h, hh _ (by omega)]; exact a1, fun e he => ⟨(a2 e he).1, ?_⟩⟩
  have hb : ∀ e ∈ moT, e.2.1 ≤ 37 := by decide
  have := hb e he
  rw [rh_h, hh _ (by omega)]; exact (a2 e he).2
theorem rh_out {O : Nat} (hh : ∀ b, b < m → h b = zh S b) (q : sOut S O) (hO : O + 4 ≤ m) : sOut (zrh S h n s) O := by
  obtain ⟨s1, s2, s3, s4, s5, s6, s7⟩ := q
  exact ⟨by rw [rh_h, hh _ (by omega)]; exact s1, s2, by rw [rh_h, hh _ (by omega)]; exact s3, s4, by rw [rh_h, hh _ (by omega)]; exact s5, s6, by rw [rh_h, hh _ (by omega)]; exact s7⟩
theorem rh_kCen {E : Nat} (hh : ∀ b, b < m → h b = zh S b) (q : kCen S E) (hE : E + 31 ≤ m) : kCen (zrh S h n s) E := by
  obtain ⟨k1, k2, k3, k4, k5, k6, k7, k8, k9, k10, k11, k12, k13, k14, k15, k16⟩ := q
  exact ⟨by rw [rh_h, hh _ (by omega)]; exact k1, k2, rh_out hh k3 (by omega), k4, rh_out hh k5 (by omega), k6, k7, k8, k9, by rw [rh_h, hh _ (by omega)]; exact k10, k11, by rw [rh_h, hh _ (by omega)]; exact k12, k13, by rw [rh_h, hh _ (by omega)]; exact k14, k15, by rw [rh_h, hh _ (by omega)]; exact k16⟩
theorem rh_rCen {E : Nat} (hh : ∀ b, b < m → h b = zh S b) (q : rCen S E) (hE : E + 31 ≤ m) : rCen (zrh S h n s) E := by
  obtain ⟨⟨x, y, a⟩, ⟨w, b⟩, ⟨v, c⟩⟩ := q
  exact ⟨⟨x, y, rh_car hh a (by omega)⟩, ⟨w, rh_row hh b (by omega)⟩, ⟨v, rh_row hh c (by omega)⟩⟩
end
/-! the state of both objects, in plain mathematics: tape, script, rules aside, acts, what was carried, fault, place, trouble -/
abbrev zCa : Type := List Nat × (Nat → List Nat) × (Nat → Nat) × List Nat
abbrev zWs : Type := List Nat × zSc × (Nat → Nat) × List Nat × Option zCa × Nat × Nat × Nat
def wTp (w : zWs) : List Nat := w.1
def wSc (w : zWs) : zSc := w.2.1
def wAs (w : zWs) : Nat → Nat := w.2.2.1
def wAc (w : zWs) : List Nat := w.2.2.2.1
def wCa (w : zWs) : Option zCa := w.2.2.2.2.1
def wFa (w : zWs) : Nat := w.2.2.2.2.2.1
def wPl (w : zWs) : Nat := w.2.2.2.2.2.2.1
def wTr (w : zWs) : Nat := w.2.2.2.2.2.2.2
def sTr (w : zWs) (t : Nat) : zWs := (w.1, w.2.1, w.2.2.1, w.2.2.2.1, w.2.2.2.2.1, w.2.2.2.2.2.1, w.2.2.2.2.2.2.1, t)
/-- what holds of it -/
def okW (w : zWs) : Prop := (wTp w).length ≤ 900 ∧ (∀ k, lg (wTp w) k < 256) ∧ (0 < (wSc w).2.2.length → 2 ≤ (wSc w).1 ∧ (wSc w).1 ≤ 4) ∧ (wAc w).length ≤ 12 ∧ (∀ a, a ∈ wAc w → a / 8 < (wSc w).2.2.length ∧ a % 8 < (zpa_ (wSc w).2.2 (a / 8)).2.length) ∧ (∀ c, wCa w = some c → l8 c.1 ∧ c.1.length ≤ 60 ∧ ∀ q, l8 (c.2.1 q) ∧ (c.2.1 q).length ≤ 60) ∧ wTr w < 8 ∧ ((wSc w).2.2.length = 0 → (wSc w).2.1 = []) ∧ (wSc w).2.2.length ≤ 3 ∧ ∀ p, p < (wSc w).2.2.length → (∃ nd, wNd (zpa_ (wSc w).2.2 p).2 false nd) ∧ wAs w p < 2 ^ (zpa_ (wSc w).2.2 p).2.length
theorem okW_tr {w : zWs} {t : Nat} (h : okW w) (ht : t < 8) : okW (sTr w t) := by
  obtain ⟨a1, a2, a3, a4, a5, a6, a7, a8⟩ := h
  exact ⟨a1, a2, a3, a4, a5, a6, ht, a8⟩
