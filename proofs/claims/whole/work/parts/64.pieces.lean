/-! pieces: what the serving rules give, and the letters that no rule always takes -/
def ztkB (rs : List zRu) (mask l : Nat) : Bool := (List.range rs.length).any (fun i => !mask.testBit i && decide ((zru rs i).1 = [l]) && decide ((zru rs i).2.2.1 = 511) && decide ((zru rs i).2.2.2 = 511))
theorem tk_iff {rs : List zRu} {mask l : Nat} : ztkB rs mask l = true ↔ ztk rs mask l := by
  simp only [ztkB, List.any_eq_true, List.mem_range, Bool.and_eq_true, Bool.not_eq_true', decide_eq_true_eq, ztk, ztk1, and_assoc]
def zpc1 (rs : List zRu) (mask n : Nat) : List (Nat × List Nat) := ((List.range n).filter (fun i => !mask.testBit i)).map (fun i => (i, (zru rs i).2.1))
def zpc2 (rs : List zRu) (mask n : Nat) : List (Nat × List Nat) := ((List.range n).filter (fun l => !ztkB rs mask l)).map (fun l => (8 + l, [l]))
def zpcs (rs : List zRu) (mask : Nat) : List (Nat × List Nat) := zpc1 rs mask rs.length ++ zpc2 rs mask 8
theorem pc1_succ {rs : List zRu} {mask n : Nat} : zpc1 rs mask (n + 1) = zpc1 rs mask n ++ (if mask.testBit n then [] else [(n, (zru rs n).2.1)]) := by
  simp only [zpc1, List.range_succ, List.filter_append, List.map_append]
  cases e : mask.testBit n <;> simp [e]
theorem pc2_succ {rs : List zRu} {mask n : Nat} : zpc2 rs mask (n + 1) = zpc2 rs mask n ++ (if ztkB rs mask n then [] else [(8 + n, [n])]) := by
  simp only [zpc2, List.range_succ, List.filter_append, List.map_append]
  cases e : ztkB rs mask n <;> simp [e]
theorem pc1_len {rs : List zRu} {mask n : Nat} : (zpc1 rs mask n).length ≤ n := by
  unfold zpc1; rw [List.length_map]; exact Nat.le_trans (List.length_filter_le _ _) (by simp)
theorem pc2_len {rs : List zRu} {mask n : Nat} : (zpc2 rs mask n).length ≤ n := by
  unfold zpc2; rw [List.length_map]; exact Nat.le_trans (List.length_filter_le _ _) (by simp)
