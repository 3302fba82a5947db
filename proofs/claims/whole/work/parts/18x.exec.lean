/-! walking through a function: each bind is opened before what stands behind it is looked at -/
theorem bS {α β : Type} {o : Option α} {x : α} {f : α → Option β} (h : o = some x) : o.bind f = f x := by rw [h]; rfl
theorem bb_some {α β : Type} {x : α} {f : α → Option β} : (some x).bind f = f x := rfl
section
variable {β : Type} {S : zM} {ci a k kd : Nat}
theorem bb_gf {f : Int32 → Option β} : (zgf S ci a k).bind f = if (zh S a).1 = ci then f (zI S a k) else none := by unfold zgf; split <;> rfl
theorem bb_gr {f : Nat → Option β} : (zgr S ci a k).bind f = if (zh S a).1 = ci then (zR S a k).bind f else none := by unfold zgr; split <;> rfl
theorem bb_len {f : Int32 → Option β} : (zlen S a).bind f = if (zh S a).1 = 100 then f (nI (zh S a).2) else none := by unfold zlen; split <;> rfl
theorem bb_ga {i : Int32} {f : Int32 → Option β} : (zga S kd a i).bind f = if (zh S a).1 = kd ∧ zinb i (zh S a).2 = true then f (zI S a i.toNatClampNeg) else none := by unfold zga; split <;> rfl
theorem bb_gl {i : Int32} {f : Int64 → Option β} : (zgl S a i).bind f = if (zh S a).1 = 101 ∧ zinb i (zh S a).2 = true then f (zJ S a i.toNatClampNeg) else none := by unfold zgl; split <;> rfl
theorem bb_go {i : Int32} {f : Nat → Option β} : (zgo S kd a i).bind f = if (zh S a).1 = kd ∧ zinb i (zh S a).2 = true then (zR S a i.toNatClampNeg).bind f else none := by unfold zgo; split <;> rfl
theorem bb_pf {v : Int32} {f : zM → Option β} : (zpf S ci a k v).bind f = if (zh S a).1 = ci then f (zwI S a k v) else none := by unfold zpf; split <;> rfl
theorem bb_pz {v : Int32} {f : zM → Option β} : (zpz S ci a k v).bind f = if (zh S a).1 = ci ∧ (v = 0 ∨ v = 1) then f (zwI S a k v) else none := by unfold zpz; split <;> rfl
theorem bb_pr {v : Option Nat} {f : zM → Option β} : (zpr S ci a k v).bind f = if (zh S a).1 = ci then f (zwR S a k v) else none := by unfold zpr; split <;> rfl
theorem bb_pa {i v : Int32} {f : zM → Option β} : (zpa S a i v).bind f = if (zh S a).1 = 100 ∧ ¬ a = 0 ∧ zinb i (zh S a).2 = true then f (zwI S a i.toNatClampNeg v) else none := by unfold zpa; split <;> rfl
theorem bb_pb {i v : Int32} {f : zM → Option β} : (zpb S a i v).bind f = if (zh S a).1 = 102 ∧ (v = 0 ∨ v = 1) ∧ zinb i (zh S a).2 = true then f (zwI S a i.toNatClampNeg v) else none := by unfold zpb; split <;> rfl
theorem bb_pl {i : Int32} {v : Int64} {f : zM → Option β} : (zpl S a i v).bind f = if (zh S a).1 = 101 ∧ zinb i (zh S a).2 = true then f (zwJ S a i.toNatClampNeg v) else none := by unfold zpl; split <;> rfl
theorem bb_po {i : Int32} {v : Nat} {f : zM → Option β} : (zpo S ci a i v).bind f = if (zh S a).1 = 110 + ci ∧ (zh S v).1 = ci ∧ zinb i (zh S a).2 = true then f (zwR S a i.toNatClampNeg (some v)) else none := by unfold zpo; split <;> rfl
theorem bb_cl {α : Type} {o : Option α} {f : α → Option β} : (zcl S ci a o).bind f = if (zh S a).1 = ci then o.bind f else none := by unfold zcl; split <;> rfl
theorem bb_RI {b j : Nat} {v : Int32} {f : Nat → Option β} : (zR (zwI S b j v) a k).bind f = (zR S a k).bind f := rfl
theorem bb_RJ {b j : Nat} {v : Int64} {f : Nat → Option β} : (zR (zwJ S b j v) a k).bind f = (zR S a k).bind f := rfl
end
