theorem zdis {α : Type} {pc t : Nat} {A B : Option α} {res : α} (h : (bif Nat.beq pc t then A else B) = some res) : (pc = t ∧ A = some res) ∨ B = some res := by
  cases hb : Nat.beq pc t with
  | true => rw [hb, cond_true] at h; exact Or.inl ⟨Nat.eq_of_beq_eq_true hb, h⟩
  | false => rw [hb, cond_false] at h; exact Or.inr h
theorem zdisf {α : Type} {i t : Nat} {A B : zX α} {as : List Value} {S : zM} {k : Option Value → zM → Option α} {res : α} (h : (bif Nat.beq i t then A else B) as S k = some res) : (i = t ∧ A as S k = some res) ∨ B as S k = some res := by
  cases hb : Nat.beq i t with
  | true => rw [hb, cond_true] at h; exact Or.inl ⟨Nat.eq_of_beq_eq_true hb, h⟩
  | false => rw [hb, cond_false] at h; exact Or.inr h
theorem zkV_inv {v : Option Value} {S S0 : zM} (h : zkV v S = some S0) : v = none ∧ S = S0 := by
  unfold zkV at h
  split at h
  · cases h; exact ⟨rfl, rfl⟩
  · cases h
theorem zkI_inv {v : Option Value} {S : zM} {p : Int32 × zM} (h : zkI v S = some p) : v = some (.int p.1) ∧ S = p.2 := by
  unfold zkI at h
  split at h
  · cases h; exact ⟨rfl, rfl⟩
  · cases h
theorem zkJ_inv {v : Option Value} {S : zM} {p : Int64 × zM} (h : zkJ v S = some p) : v = some (.long p.1) ∧ S = p.2 := by
  unfold zkJ at h
  split at h
  · cases h; exact ⟨rfl, rfl⟩
  · cases h
theorem zkR_inv {v : Option Value} {S : zM} {p : Nat × zM} (h : zkR v S = some p) : v = some (.ref p.1) ∧ S = p.2 := by
  unfold zkR at h
  split at h
  · cases h; exact ⟨rfl, rfl⟩
  · cases h
theorem zkN_inv {v : Option Value} {S : zM} {p : Option Nat × zM} (h : zkN v S = some p) : v = some (match p.1 with
    | some a => .ref a
    | none => .null) ∧ S = p.2 := by
  unfold zkN at h
  split at h
  · cases h; exact ⟨rfl, rfl⟩
  · cases h; exact ⟨rfl, rfl⟩
  · cases h
theorem zrecv {HB : Heap} {b L : Nat} {xs : Nat → Int32} {aK aV : Nat → Nat} {G : va_G} {tc : Nat → ClassId} {S : zM} {a ci : Nat} (hci : ci < 13) (hkd : (zh S a).1 = ci) {C : String} (hC : zow.getD ci "" = C) (U : State) (H : Heap) (hK : zKS HB b L xs aK aV G tc U) (hH : zRH HB b L xs aK G tc S H) : ∃ cell : Cell, H[zad HB b aK a]? = some cell ∧ cell.vm.isStatics = false ∧ U.vm.findClass C = some cell.cls := by
  obtain ⟨C', T, N, ty, c1, c2, c3, -⟩ := zcls_ok ci hci
  have hCC : C' = C := c3.symm.trans hC
  subst hCC
  have ha := hH.2.2.2.le hkd (by omega)
  have ha1 := hH.2.2.2.pos hkd (by omega)
  have he : (yzwl (zad HB b aK) tc S)[a - 1]? = some (zad HB b aK a, .inr (ci, (List.range (zfn.getD ci 0)).map (zfv (zad HB b aK) S ci a))) := by
    rw [zwl_get ha1 ha, zent_obj hkd (by omega)]
  exact va_recv hK.1 hH.2.2.1 c1 he
