/-- what empty answers, or none: it throws, and there is one cell more -/
def zkT (v : Option Value) (S : zM) : Option (Option Int32 × zM) := match v with
  | some (.int x) => some (some x, S)
  | _ => none
def zP_Cl_empty : List (List (Nat × zE)) := [[(0, ei (.iconst 0) 1 0 (0)), (1, e1 (.istore_n 2) 2 2), (2, ei (.iconst 0) 3 0 (0)), (3, e1 (.istore_n 3) 4 3), (4, e1 (.iload_n 3) 5 3), (5, e1 (.aload_n 0) 6 0), (6, e3 (.getfield 65) 9 11 10 2), (9, e3 (.getfield 106) 12 10 5 0), (12, e1 (.if_icmp .ge 42) 15 54), (15, e1 (.aload_n 0) 16 0)],
  [(16, e3 (.getfield 65) 19 11 10 2), (19, e1 (.iload_n 3) 20 3), (20, e3 (.invokevirtual 132) 23 0 2 0), (23, e1 (.astore 4) 25 4), (25, e1 (.aload 4) 27 4), (27, e1 (.ifnull 21) 30 48), (30, e1 (.aload 4) 32 4)],
  [(32, e3 (.invokevirtual 351) 35 1 1 0), (35, e1 (.ifCond .ne 13) 38 48), (38, e1 (.iload_n 2) 39 2), (39, e1 (.iload_n 1) 40 1), (40, e1 (.if_icmp .ne 5) 43 45), (43, e1 (.iload_n 3) 44 3), (44, e0 (.ireturn) 45), (45, ei (.iinc 2 1) 48 2 (1))],
  [(48, ei (.iinc 3 1) 51 3 (1)), (51, e1 (.goto (-47)) 54 4)]]
noncomputable def zE_Cl_empty (α : Type) : Nat → zX α := fun i => bif Nat.beq i 0 then zA_vRI_N 10 f_Script_passAt else bif Nat.beq i 1 then zA_vR_I 5 f_Pass_serving else fun _ _ _ => none
def zc_Cl_empty : Nat → Bool := fun pc => Nat.beq pc 4 || Nat.beq pc 54
def D_Cl_empty_4 (k : Nat → Int32 → Int32 → Int32 → zM → Option (Option Int32 × zM)) (lv : zV) (st : List Value) (S : zM) : Option (Option Int32 × zM) := match lv, st with
  | [some (.ref a0), some (.int a1), some (.int a2), some (.int a3), _], [] => k a0 a1 a2 a3 S
  | _, _ => none
theorem d_Cl_empty_4 {g : zV → Nat → List Value → zM → Prop} (Hw : zWk g) {k : Nat → Int32 → Int32 → Int32 → zM → Option (Option Int32 × zM)} {res : (Option Int32 × zM)} {lv : zV} {st : List Value} {S : zM} (h : D_Cl_empty_4 k lv st S = some res) (hk : ∀ a0 a1 a2 a3 S, k a0 a1 a2 a3 S = some res → g [some (.ref a0), some (.int a1), some (.int a2), some (.int a3), none] 4 [] S) : g lv 4 st S := by
  unfold D_Cl_empty_4 at h
  split at h
  · exact Hw _ _ _ _ _ (by simp [zle]) (hk _ _ _ _ _  h)
  · cases h
def D_Cl_empty_54 (k : zM → Option (Option Int32 × zM)) (lv : zV) (st : List Value) (S : zM) : Option (Option Int32 × zM) := match lv, st with
  | [_, _, _, _, _], [] => k  S
  | _, _ => none
theorem d_Cl_empty_54 {g : zV → Nat → List Value → zM → Prop} (Hw : zWk g) {k : zM → Option (Option Int32 × zM)} {res : (Option Int32 × zM)} {lv : zV} {st : List Value} {S : zM} (h : D_Cl_empty_54 k lv st S = some res) (hk : ∀  S, k  S = some res → g [none, none, none, none, none] 54 [] S) : g lv 54 st S := by
  unfold D_Cl_empty_54 at h
  split at h
  · exact Hw _ _ _ _ _ (by simp [zle]) (hk _  h)
  · cases h
set_option maxRecDepth 100000 in
set_option maxHeartbeats 4000000 in
theorem r_Cl_empty_4 (k54 : zM → Option (Option Int32 × zM)) (n : Nat) (a0 : Nat) (a1 : Int32) (a2 : Int32) (a3 : Int32) (S : zM) : L_Cl_empty_4 k54 (n + 1) a0 a1 a2 a3 S = zrt false zP_Cl_empty (zE_Cl_empty (Option Int32 × zM)) zc_Cl_empty zkT (fun pc lv st S => bif Nat.beq pc 4 then D_Cl_empty_4 (L_Cl_empty_4 k54 n) lv st S else bif Nat.beq pc 54 then D_Cl_empty_54 k54 lv st S else none) 3000 4 [some (.ref a0), some (.int a1), some (.int a2), some (.int a3), none] [] S := rfl
theorem g_Cl_empty_4 {g : zV → Nat → List Value → zM → Prop} {res : (Option Int32 × zM)} (H : zCl false zP_Cl_empty (zE_Cl_empty (Option Int32 × zM)) zkT res g) (Hw : zWk g) (HX : ∀ S, F_Cl_empty_54 S = some res → g [none, none, none, none, none] 54 [] S) {k54 : zM → Option (Option Int32 × zM)} (hk54 : ∀  S, k54  S = some res → g [none, none, none, none, none] 54 [] S) (n : Nat) : ∀ (a0 : Nat) (a1 : Int32) (a2 : Int32) (a3 : Int32) (S : zM), L_Cl_empty_4 k54 n a0 a1 a2 a3 S = some res → g [some (.ref a0), some (.int a1), some (.int a2), some (.int a3), none] 4 [] S := by
  induction n with
  | zero => intro a0 a1 a2 a3 S h; cases h
  | succ n ih =>
    intro a0 a1 a2 a3 S h
    refine H zc_Cl_empty _ 3000 _ _ _ _ ((r_Cl_empty_4 k54 n a0 a1 a2 a3 S).symm.trans h) (fun pc lv st S hK => ?_)
    rcases zdis hK with ⟨rfl, hK⟩ | hK
    · exact d_Cl_empty_4 Hw hK ih
    rcases zdis hK with ⟨rfl, hK⟩ | hK
    · exact d_Cl_empty_54 Hw hK hk54
    cases hK
set_option maxRecDepth 100000 in
set_option maxHeartbeats 4000000 in
theorem r_Cl_empty (a0 : Nat) (a1 : Int32) (S : zM) : f_Cl_empty a0 a1 S = zrt false zP_Cl_empty (zE_Cl_empty (Option Int32 × zM)) zc_Cl_empty zkT (fun pc lv st S => bif Nat.beq pc 4 then D_Cl_empty_4 (L_Cl_empty_4 (F_Cl_empty_54) zF) lv st S else none) 3000 0 [some (.ref a0), some (.int a1), none, none, none] [] S := rfl
theorem G_Cl_empty {g : zV → Nat → List Value → zM → Prop} {res : (Option Int32 × zM)} (H : zCl false zP_Cl_empty (zE_Cl_empty (Option Int32 × zM)) zkT res g) (Hw : zWk g) (HX : ∀ S, F_Cl_empty_54 S = some res → g [none, none, none, none, none] 54 [] S) (a0 : Nat) (a1 : Int32) (S : zM) (h : f_Cl_empty a0 a1 S = some res) : g [some (.ref a0), some (.int a1), none, none, none] 0 [] S := by
  refine H zc_Cl_empty _ 3000 _ _ _ _ ((r_Cl_empty a0 a1 S).symm.trans h) (fun pc lv st S hK => ?_)
  rcases zdis hK with ⟨rfl, hK⟩ | hK
  · exact d_Cl_empty_4 Hw hK (g_Cl_empty_4 H Hw HX HX zF)
  cases hK
set_option maxRecDepth 100000 in
set_option maxHeartbeats 4000000 in
theorem ok_Cl_empty : zokT 11 [44, 102] false 7 120 5 false (some .int) cX11_empty zP_Cl_empty = true := by decide +kernel
