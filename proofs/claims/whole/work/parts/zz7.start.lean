/-! the law, from its entry to its end -/
set_option maxRecDepth 100000 in
theorem dw_1969 : decode cL_law 1969 = .ok (.invokestatic 211, 3) := by decide +kernel
theorem zwk_good : GoodIn zTs (va_wsS "CarriedLettersLaw" 211 yL_empty zwk) := by
  intro w hw
  have key : ∀ {w : Cond}, w ∈ zTs → w ∈ zTs ∧ ((w.onTables && w.keeps) = true ∨ ∃ ty, w = .arrayClass ty) := fun h => ⟨h, good_of_word (zTs_good h)⟩
  unfold va_wsS at hw
  simp only [List.cons_append, List.nil_append, List.mem_cons] at hw
  rcases hw with rfl | rfl | rfl | hw
  · exact key (zle_at 7 rfl)
  · exact key (zle_at 8 rfl)
  · exact key (zle_at 6 rfl)
  · rcases List.mem_cons.mp hw with rfl | hw
    · exact key (zle_at 5 rfl)
    · exact key hw
section ZL
variable {p : Program} {l : Launch} {e : Env} {R : Room} {s : State} {m : MethodId} {args : Array Value} {below : List Frame} {meth : Method} {c : Code} {Q : State → Prop} {HB : Heap} {b L : Nat} {xs : Nat → Int32} {aK aV : Nat → Nat} {G : va_G} {tc : Nat → ClassId} {n0 s0 nE sE : Nat}
/-- the call of the law's own empty -/
theorem law_HX (hl : l.stackTraces = false) (F : zFx p R s m args meth c cL_law 7 HB b L xs aK aV G tc 13 false 14 522 n0 s0 nE sE) (lv : zV) (x out : Nat) (p0 : Int32) (S : zM) (q : Int32 × zM) (h : f_Law_empty x p0 out S = some q)
    (hg : yzGo p l e R s m args below meth c 7 HB b L xs aK G tc n0 s0 nE sE Q 1972 lv [.int q.1] q.2) : yzGo p l e R s m args below meth c 7 HB b L xs aK G tc n0 s0 nE sE Q 1969 lv [.ref out, .int p0, .ref x] S := by
  obtain ⟨r, -, hr, hn, hs, -⟩ := lempty_cut h
  have hmo := empty_mono (l := l) (HB := HB) (b := b) (L := L) (xs := xs) (aK := aK) (aV := aV) (G := G) (tc := tc) t_Script_passAt t_Pass_serving hr
  obtain ⟨hF, hK, -, hfr, hlo, hce, hse, h9⟩ := F
  have g1 := hg.1
  refine ⟨⟨by omega, by omega⟩, fun a1 a2 H ls locs hH hlc hls => ?_⟩
  have hM := lempty_met (l := l) (HB := HB) (b := b) (L := L) (xs := xs) (aK := aK) (aV := aV) (G := G) (tc := tc) hl t_Script_passAt t_Pass_serving h (by omega)
  have hPre : ∀ U : State, U.heap = H → s.WarmedH U.vm → yzPc HB b L xs aK aV G tc [.ref x, .int p0, .ref out] S ([Value.ref x, .int p0, .ref out].map (yzcv (zad HB b aK))).toArray U := fun U hU hW => ⟨rfl, hK.warm hW, by rw [hU]; exact hH⟩
  refine z_behind (HB := HB) (b := b) (L := L) (xs := xs) (aK := aK) (G := G) (tc := tc) (mc := zn q.2 - zn S) (ms := zs q.2 - zs S) (v := some (.int q.1)) (S' := q.2) (a := ([Value.ref x, .int p0, .ref out].map (yzcv (zad HB b aK))).toArray) (rest := []) ?_ hlc (fun H1 locs1 hR hl1 => ?_)
  · exact vx_runSW (own := "CarriedLettersLaw") (index := 211) (bytes := cL_empty) (maxL := 4) (ret := some .int) (hh := [(0, 9, 12, 13)]) (n := 3) (As := [Value.ref x, .int p0, .ref out].map (yzcv (zad HB b aK))) (rest := []) hF hM
      (vx_cwSW 3 hF.2.2.2.2 zwk_good rfl rfl rfl ⟨by decide, by decide, by decide +kernel⟩ ⟨by show 8 + 1 ≤ R.frames; omega, by show 8 + (4 + 11) + 144 ≤ R.locals; omega⟩)
      ⟨zPc_blind, hPre⟩ rfl rfl hls.1 rfl (lv_room (Nat.le_of_ble_eq_true rfl)) dw_1969 ⟨by omega, by omega⟩
  · have := hg.2 (by omega) (by omega) H1 ls locs1 hR hl1 hls
    rw [show zn S - n0 + (zn q.2 - zn S) = zn q.2 - n0 by omega, show zs S - s0 + (zs q.2 - zs S) = zs q.2 - s0 by omega]
    exact this
end ZL
/-- the memory at the law's entry -/
def zS0 (L : Nat) (xs : Nat → Int32) : zM := (fun a k => if a = 0 then xs k else 0, fun _ _ => 0, fun _ _ => none, fun a => if a = 0 then (100, L) else (999, 0), 0, 0)
set_option maxRecDepth 100000 in
theorem whole_start {p : Program} {e : Env} {s : State} {m : MethodId} {below : List Frame} {meth : Method} {c : Code} (l : Launch) (hflags : l.flags = flags0) {b L : Nat} {xs : Nat → Int32} (hL : L ≤ 3072) (C0 : lw_At p s m meth c b L xs) : W p l e room_1 s m #[Value.ref b] below meth c s.heap [] 0 0 (lw_Z below #[Value.ref b] s) (entryFrame m ([Value.ref b] : List Value).toArray 7) := by
  obtain ⟨hx, hb, hr, hml, hown, hts, hX, hbl, hlocks, hgv⟩ := id C0
  have hl : l.stackTraces = false := by
    show (!l.flags.contains noTraceFlag) = false
    rw [hflags]
    first | decide +kernel | simp [flags0]
  obtain ⟨aK, aV, G, tc, hKS⟩ := law_world C0
  have hz : zfz (zS0 L xs) := fun a k ha => by
    have ha : 0 < a := ha
    exact ⟨if_neg (by omega), rfl, rfl⟩
  obtain ⟨S', hS', hn', hs'⟩ := law_one (S := zS0 L xs) hL hz rfl rfl (Nat.zero_le _)
  have hRH : zRH s.heap b L xs aK G tc (zS0 L xs) s.heap := by
    refine ⟨fun q _ => rfl, rfl, fun k q hq => ?_, ⟨rfl, fun k _ => rfl⟩, (by show (0 : Nat) < 900000; omega), fun a ha => ?_⟩
    · have hq : ([] : List (Nat × va_E))[k]? = some q := hq
      simp at hq
    · have ha : 0 < a := ha
      exact ⟨if_neg (by omega), fun k => if_neg (by omega), fun k => rfl, fun k => rfl⟩
  have F : zFx p room_1 s m #[Value.ref b] meth c cL_law 7 s.heap b L xs aK aV G tc 13 false 14 522 0 0 (zn S') (zs S') :=
    ⟨⟨hx, hb, hml, hown, fun w hw => hts w (List.mem_filter.mp hw).1⟩, hKS, (fun h => by cases h), Nat.le_refl _, Nat.le_refl _, (by show zn S' - 0 ≤ 601024; omega), (by show zs S' - 0 ≤ 7293034; omega), by omega⟩
  have hret : zRet p l e room_1 s m #[Value.ref b] below meth c cL_law 7 s.heap b L xs aK G tc 0 0 (zn S') (zs S') (lw_Z below #[Value.ref b] s) true (some .boolean) zkI ((1 : Int32), S') := by
    intro i u v S1 pc hdg hz hrt hk
    obtain ⟨hv0, hS1⟩ := zkI_inv hk
    have hv0 : v = some (.int 1) := hv0
    have hS1 : S1 = S' := hS1
    have hn1 : zn S1 ≤ 10000 := hS1 ▸ hn'
    have hs1 : zs S1 ≤ 100000 := hS1 ▸ hs'
    subst hv0
    refine ⟨⟨Nat.le_of_eq (congrArg zn hS1), Nat.le_of_eq (congrArg zs hS1)⟩, fun _ _ H ls locs hH1 hlc => ?_⟩
    rcases hz with ⟨rfl, x1, rfl, hv, -⟩ | ⟨-, x1, -, hv⟩ | ⟨-, ⟨x1, -, hv⟩ | ⟨-, hv⟩⟩ | ⟨-, -, hv⟩
    · cases hv
      exact va_forget hlc (W.widen (k := 601024) (n := 7293034) (by omega) (by omega) (lw_ret hx hb hr hlocks hdg))
    · cases hv
    · cases hv
    · cases hv
    · cases hv
  have hG := G_Law_law (res := ((1 : Int32), S')) (g := fun lv pc st S => yzGo p l e room_1 s m #[Value.ref b] below meth c 7 s.heap b L xs aK G tc 0 0 (zn S') (zs S') (lw_Z below #[Value.ref b] s) pc lv st S) (zrt_go F zMT_fine hret law_E ok_Law_law) (fun lv lv' pc st S hle hg => ⟨hg.1, fun h1 h2 H ls locs hH hlc hls => hg.2 h1 h2 H ls locs hH hlc (zle_has hle hls)⟩) (fun lv x out p0 S q h hg => law_HX hl F lv x out p0 S q h hg) 0 (zS0 L xs) hS'
  have hle := lv_entry ([.ref b] : List Value) (n := 7) (Nat.le_of_ble_eq_true rfl)
  rw [lg_entry_eq]
  generalize (lg_sl ([.ref b] : List Value) ++ List.replicate (7 - (lg_sl ([.ref b] : List Value)).length) Slot.unset).toArray = ls at hle ⊢
  have hls : lv_has ls 7 (zas (zad s.heap b aK) 0 [some (.ref 0), none, none, none, none, none, none]) := hle
  exact hG.2 (Nat.le_refl _) (Nat.le_refl _) s.heap ls [] hRH (fun q hq => by cases hq) hls
