/-! LAYER 2: memory and numbers -/
theorem mm_hI (S : zM) (a k : Nat) (v : Int32) : zh (zwI S a k v) = zh S := rfl
theorem mm_hJ (S : zM) (a k : Nat) (v : Int64) : zh (zwJ S a k v) = zh S := rfl
theorem mm_hR (S : zM) (a k : Nat) (v : Option Nat) : zh (zwR S a k v) = zh S := rfl
theorem mm_nI (S : zM) (a k : Nat) (v : Int32) : zn (zwI S a k v) = zn S := rfl
theorem mm_nJ (S : zM) (a k : Nat) (v : Int64) : zn (zwJ S a k v) = zn S := rfl
theorem mm_nR (S : zM) (a k : Nat) (v : Option Nat) : zn (zwR S a k v) = zn S := rfl
theorem mm_sI (S : zM) (a k : Nat) (v : Int32) : zs (zwI S a k v) = zs S := rfl
theorem mm_sJ (S : zM) (a k : Nat) (v : Int64) : zs (zwJ S a k v) = zs S := rfl
theorem mm_sR (S : zM) (a k : Nat) (v : Option Nat) : zs (zwR S a k v) = zs S := rfl
theorem mm_RI (S : zM) (a k : Nat) (v : Int32) : zR (zwI S a k v) = zR S := rfl
theorem mm_RJ (S : zM) (a k : Nat) (v : Int64) : zR (zwJ S a k v) = zR S := rfl
theorem mm_IJ (S : zM) (a k : Nat) (v : Int64) : zI (zwJ S a k v) = zI S := rfl
theorem mm_IR (S : zM) (a k : Nat) (v : Option Nat) : zI (zwR S a k v) = zI S := rfl
theorem mm_JI (S : zM) (a k : Nat) (v : Int32) : zJ (zwI S a k v) = zJ S := rfl
theorem mm_JR (S : zM) (a k : Nat) (v : Option Nat) : zJ (zwR S a k v) = zJ S := rfl
theorem mm_II (S : zM) (a k : Nat) (v : Int32) (b j : Nat) : zI (zwI S a k v) b j = if b = a ∧ j = k then v else zI S b j := rfl
theorem mm_JJ (S : zM) (a k : Nat) (v : Int64) (b j : Nat) : zJ (zwJ S a k v) b j = if b = a ∧ j = k then v else zJ S b j := rfl
theorem mm_RR (S : zM) (a k : Nat) (v : Option Nat) (b j : Nat) : zR (zwR S a k v) b j = if b = a ∧ j = k then v else zR S b j := rfl
theorem nn_in {i n : Nat} (hi : i < 2 ^ 31) : zinb (nI i) n = true ↔ i < n := by
  unfold zinb
  rw [nI_clamp hi]
  simp [nI_pos hi]
theorem nn_lit (n : Nat) : (OfNat.ofNat n : Int32) = nI n := rfl
theorem nn_toIntm {m : Nat} (h : m < 2 ^ 31) : (-nI m).toInt = -(m : Int) := sb_negT h
theorem nn_eqm {i m : Nat} (hi : i < 2 ^ 31) (h0 : 0 < m) (hm : m < 2 ^ 31) : (nI i = -nI m) ↔ False := by
  refine iff_false_intro (fun h => ?_)
  have := congrArg Int32.toInt h
  rw [nI_toInt hi, nn_toIntm hm] at this
  omega
theorem nn_meq {i m : Nat} (hi : i < 2 ^ 31) (h0 : 0 < m) (hm : m < 2 ^ 31) : (-nI m = nI i) ↔ False := by
  rw [eq_comm]; exact nn_eqm hi h0 hm
theorem nn_ltm {i m : Nat} (hi : i < 2 ^ 31) (hm : m < 2 ^ 31) : (nI i < -nI m) ↔ False := by
  refine iff_false_intro (fun h => ?_)
  have := Int32.lt_iff_toInt_lt.1 h
  rw [nI_toInt hi, nn_toIntm hm] at this
  omega
theorem nn_mlt {i m : Nat} (hi : i < 2 ^ 31) (h0 : 0 < m) (hm : m < 2 ^ 31) : (-nI m < nI i) ↔ True := by
  refine iff_true_intro (Int32.lt_iff_toInt_lt.2 ?_)
  rw [nI_toInt hi, nn_toIntm hm]
  omega
theorem nn_lem {i m : Nat} (hi : i < 2 ^ 31) (h0 : 0 < m) (hm : m < 2 ^ 31) : (nI i ≤ -nI m) ↔ False := by
  refine iff_false_intro (fun h => ?_)
  have := Int32.le_iff_toInt_le.1 h
  rw [nI_toInt hi, nn_toIntm hm] at this
  omega
theorem nn_mle {i m : Nat} (hi : i < 2 ^ 31) (hm : m < 2 ^ 31) : (-nI m ≤ nI i) ↔ True := by
  refine iff_true_intro (Int32.le_iff_toInt_le.2 ?_)
  rw [nI_toInt hi, nn_toIntm hm]
  omega
theorem nn_in_m {n m : Nat} (h0 : 0 < m) (hm : m < 2 ^ 31) : zinb (-nI m) n = false := by
  unfold zinb
  have : -nI m < 0 := by
    have := (nn_mlt (i := 0) (by omega) h0 hm).2 trivial
    exact this
  simp [this]
theorem mm_len (S : zM) (a : Nat) : zlen S a = if (zh S a).1 = 100 then some (nI (zh S a).2) else none := rfl
/-! lists of numbers -/
def lg (xs : List Nat) (k : Nat) : Nat := xs.getD k 0
theorem lg_out {xs : List Nat} {k : Nat} (h : xs.length ≤ k) : lg xs k = 0 := by
  simp [lg, List.getElem?_eq_none h]
theorem lg_app1 {xs ys : List Nat} {k : Nat} (h : k < xs.length) : lg (xs ++ ys) k = lg xs k := by
  simp [lg, List.getElem?_append_left h]
theorem lg_app2 {xs ys : List Nat} {k : Nat} (h : xs.length ≤ k) : lg (xs ++ ys) k = lg ys (k - xs.length) := by
  simp [lg, List.getElem?_append_right h]
theorem lg_end (xs : List Nat) (v : Nat) : lg (xs ++ [v]) xs.length = v := by simp [lg]
theorem lg_get {xs : List Nat} {k : Nat} (h : k < xs.length) : lg xs k = xs[k] := by simp [lg, h]
theorem lg_ext {xs ys : List Nat} (h : xs.length = ys.length) (hk : ∀ k, k < xs.length → lg xs k = lg ys k) : xs = ys := by
  refine List.ext_getElem h (fun i h1 h2 => ?_)
  have := hk i h1
  rwa [lg_get h1, lg_get h2] at this
theorem lg_nil (k : Nat) : lg [] k = 0 := by simp [lg]
theorem lg_cons0 (x : Nat) (xs : List Nat) : lg (x :: xs) 0 = x := by simp [lg]
theorem lg_consS (x : Nat) (xs : List Nat) (k : Nat) : lg (x :: xs) (k + 1) = lg xs k := by simp [lg]
theorem lg_take {xs : List Nat} {k n : Nat} (h : k < n) : lg (xs.take n) k = lg xs k := by
  simp [lg, List.getElem?_take, h]
theorem lg_drop (xs : List Nat) (k n : Nat) : lg (xs.drop n) k = lg xs (n + k) := by
  simp [lg, List.getElem?_drop]
def l8 (xs : List Nat) : Prop := ∀ k, lg xs k < 8
theorem l8_nil : l8 [] := fun k => by rw [lg_nil]; omega
theorem l8_app {xs ys : List Nat} (h1 : l8 xs) (h2 : l8 ys) : l8 (xs ++ ys) := by
  intro k
  by_cases h : k < xs.length
  · rw [lg_app1 h]; exact h1 k
  · rw [lg_app2 (by omega)]; exact h2 _
theorem l8_one {v : Nat} (h : v < 8) : l8 [v] := by
  intro k
  cases k with
  | zero => rw [lg_cons0]; exact h
  | succ k => rw [lg_consS, lg_nil]; omega
theorem lg_mem {xs : List Nat} {x : Nat} (h : x ∈ xs) : ∃ k, k < xs.length ∧ lg xs k = x := by
  obtain ⟨k, hk, e⟩ := List.getElem_of_mem h
  exact ⟨k, hk, by rw [lg_get hk, e]⟩
theorem l8_iff {xs : List Nat} : l8 xs ↔ ∀ x ∈ xs, x < 8 := by
  constructor
  · intro h x hx
    obtain ⟨k, _, e⟩ := lg_mem hx
    rw [← e]; exact h k
  · intro h k
    by_cases hk : k < xs.length
    · rw [lg_get hk]; exact h _ (List.getElem_mem hk)
    · rw [lg_out (by omega)]; omega
/-! frames: cells and places outside W are as they were; no reference, no shape has changed -/
def zfr (W : Nat → Nat → Prop) (S S' : zM) : Prop := S'.2.2 = S.2.2 ∧ ∀ b j, ¬ W b j → zI S' b j = zI S b j ∧ zJ S' b j = zJ S b j
/-- the cells from lo on, below hi -/
def rg (lo hi : Nat) : Nat → Nat → Prop := fun b _ => lo ≤ b ∧ b < hi
theorem fr_refl (W : Nat → Nat → Prop) (S : zM) : zfr W S S := ⟨rfl, fun _ _ _ => ⟨rfl, rfl⟩⟩
theorem fr_mono {W V : Nat → Nat → Prop} {S S' : zM} (h : zfr W S S') (hm : ∀ b j, W b j → V b j) : zfr V S S' :=
  ⟨h.1, fun b j hv => h.2 b j (fun hw => hv (hm b j hw))⟩
theorem fr_trans {W : Nat → Nat → Prop} {S S' S'' : zM} (h : zfr W S S') (h2 : zfr W S' S'') : zfr W S S'' :=
  ⟨h2.1.trans h.1, fun b j hw => ⟨(h2.2 b j hw).1.trans (h.2 b j hw).1, (h2.2 b j hw).2.trans (h.2 b j hw).2⟩⟩
theorem fr_I {W : Nat → Nat → Prop} {S S' : zM} (h : zfr W S S') {b j : Nat} (hw : ¬ W b j) : zI S' b j = zI S b j := (h.2 b j hw).1
theorem fr_J {W : Nat → Nat → Prop} {S S' : zM} (h : zfr W S S') {b j : Nat} (hw : ¬ W b j) : zJ S' b j = zJ S b j := (h.2 b j hw).2
theorem fr_R {W : Nat → Nat → Prop} {S S' : zM} (h : zfr W S S') : zR S' = zR S := congrArg (fun q => q.1) h.1
theorem fr_h {W : Nat → Nat → Prop} {S S' : zM} (h : zfr W S S') : zh S' = zh S := congrArg (fun q => q.2.1) h.1
theorem fr_n {W : Nat → Nat → Prop} {S S' : zM} (h : zfr W S S') : zn S' = zn S := congrArg (fun q => q.2.2.1) h.1
theorem fr_s {W : Nat → Nat → Prop} {S S' : zM} (h : zfr W S S') : zs S' = zs S := congrArg (fun q => q.2.2.2) h.1
theorem fr_wI {W : Nat → Nat → Prop} (S : zM) {a k : Nat} (v : Int32) (h : W a k) : zfr W S (zwI S a k v) := by
  refine ⟨rfl, fun b j hw => ⟨?_, rfl⟩⟩
  rw [mm_II, if_neg]
  rintro ⟨rfl, rfl⟩; exact hw h
theorem fr_wJ {W : Nat → Nat → Prop} (S : zM) {a k : Nat} (v : Int64) (h : W a k) : zfr W S (zwJ S a k v) := by
  refine ⟨rfl, fun b j hw => ⟨rfl, ?_⟩⟩
  rw [mm_JJ, if_neg]
  rintro ⟨rfl, rfl⟩; exact hw h
/-- System.arraycopy between two rows -/
theorem mm_cp {S : zM} {s d n m sp dp c : Nat} (hs : zh S s = (100, n)) (hd : zh S d = (100, m)) (h1 : s ≠ 0) (h2 : d ≠ 0) (h3 : sp + c ≤ n) (h4 : dp + c ≤ m) (hn : n < 2 ^ 31) (hm : m < 2 ^ 31) :
    ∃ S', zcp S s (nI sp) d (nI dp) (nI c) = some S' ∧ zfr (rg d (d + 1)) S S' ∧ ∀ k, zI S' d k = if dp ≤ k ∧ k < dp + c then zI S s (sp + (k - dp)) else zI S d k := by
  refine ⟨((fun b j => if b = d then zcpf (S.1 s) (S.1 d) sp dp c j else S.1 b j), S.2), ?_, ⟨rfl, fun b j hw => ⟨?_, rfl⟩⟩, ?_⟩
  · simp only [zcp, hs, hd]
    rw [nI_clamp (show sp < 2 ^ 31 by omega), nI_clamp (show dp < 2 ^ 31 by omega), nI_clamp (show c < 2 ^ 31 by omega)]
    rw [if_pos]
    exact ⟨trivial, trivial, h1, h2, nI_pos (by omega), nI_pos (by omega), nI_pos (by omega), h3, h4⟩
  · have : b ≠ d := fun e => hw ⟨by omega, by omega⟩
    show (if b = d then _ else S.1 b j) = S.1 b j
    rw [if_neg this]
  · intro k
    show (if d = d then zcpf (S.1 s) (S.1 d) sp dp c k else S.1 d k) = _
    rw [if_pos rfl]; rfl
