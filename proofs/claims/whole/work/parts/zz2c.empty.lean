/-! CarriedLetters.empty, which answers or throws -/
def zrx : ByteArray := ⟨#[0x2a, 0x2b, 0xb7, 0x00, 0x0d, 0xb1]⟩
theorem rx_0 : decode zrx 0 = .ok (.aload_n 0, 1) := by decide +kernel
theorem rx_1 : decode zrx 1 = .ok (.aload_n 1, 1) := by decide +kernel
theorem rx_2 : decode zrx 2 = .ok (.invokespecial 13, 3) := by decide +kernel
theorem rx_5 : decode zrx 5 = .ok (.return_, 1) := by decide +kernel
set_option maxRecDepth 100000 in
set_option maxHeartbeats 4000000 in
theorem zex_words : ((zxAt "CarriedLetters" 358 "java/util/NoSuchElementException" 13 zrx "java/lang/RuntimeException" ["java/lang/Exception"]).filter vx_no).all (fun w => decide (w ∈ lw_tbl) && (goodWord w || (znest w && w.onTables)) && vx_ot w) = true := by decide +kernel
set_option maxRecDepth 100000 in
set_option maxHeartbeats 4000000 in
theorem zex_link : decide (Cond.classLink "CarriedLetters" 354 "java/util/NoSuchElementException" ∈ lw_tbl) && goodWord (Cond.classLink "CarriedLetters" 354 "java/util/NoSuchElementException") && vx_ot (Cond.classLink "CarriedLetters" 354 "java/util/NoSuchElementException") && decide (Cond.initialized "java/util/NoSuchElementException" ∈ lw_tbl) && goodWord (Cond.initialized "java/util/NoSuchElementException") && vx_ot (Cond.initialized "java/util/NoSuchElementException") = true := by decide +kernel
set_option maxRecDepth 100000 in
theorem dx_54 : decode cX11_empty 54 = .ok (.new 354, 3) := by decide +kernel
set_option maxRecDepth 100000 in
theorem dx_57 : decode cX11_empty 57 = .ok (.dup, 1) := by decide +kernel
set_option maxRecDepth 100000 in
theorem dx_58 : decode cX11_empty 58 = .ok (.ldc_w 356, 3) := by decide +kernel
set_option maxRecDepth 100000 in
theorem dx_61 : decode cX11_empty 61 = .ok (.invokespecial 358, 3) := by decide +kernel
set_option maxRecDepth 100000 in
theorem dx_64 : decode cX11_empty 64 = .ok (.athrow, 1) := by decide +kernel
theorem zkT_inv {v : Option Value} {S : zM} {p : Option Int32 × zM} (h : zkT v S = some p) : ∃ y, v = some (.int y) ∧ p = (some y, S) := by
  unfold zkT at h
  split at h
  · cases h; exact ⟨_, rfl, rfl⟩
  · cases h
theorem zrt_54 {S : zM} {res : Option Int32 × zM} (h : F_Cl_empty_54 S = some res) : res = (none, zalloc S 13 0 6) := by
  unfold F_Cl_empty_54 at h
  exact (Option.some.inj h).symm
def zQe (HB : Heap) (b L : Nat) (xs : Nat → Int32) (aK : Nat → Nat) (G : va_G) (tc : Nat → ClassId) (res : Option Int32 × zM) : Array Value → State → Outcome → State → Prop := fun _ _ o t => ∃ v, res.1 = some v ∧ o = .returned (some (.int v)) ∧ zRH HB b L xs aK G tc res.2 t.heap
def zXe (HB : Heap) (b L : Nat) (xs : Nat → Int32) (aK : Nat → Nat) (G : va_G) (tc : Nat → ClassId) (res : Option Int32 × zM) : String → State → State → Prop := fun E _ t => res.1 = none ∧ E = "java/util/NoSuchElementException" ∧ zRH HB b L xs aK G tc res.2 t.heap
def zwe : List Cond := .code yX11_empty cX11_empty 5 (some .int) :: zTs
def zre (mc ms : Nat) : Room := { frames := 7, cells := mc, slots := ms, locals := 120 }
section ZE
variable {l : Launch} {HB : Heap} {b L : Nat} {xs : Nat → Int32} {aK aV : Nat → Nat} {G : va_G} {tc : Nat → ClassId}
theorem empty_E (h0 : zSnd l HB b L xs aK aV G tc (zMT.getD 44 zyD) (fun α => zA_vRI_N 10 f_Script_passAt)) (h1 : zSnd l HB b L xs aK aV G tc (zMT.getD 102 zyD) (fun α => zA_vR_I 5 f_Pass_serving)) {res : Option Int32 × zM} (i : Nat) (as : List Value) (S : zM) (k' : Option Value → zM → Option (Option Int32 × zM)) (h : zE_Cl_empty (Option Int32 × zM) i as S k' = some res) : ∃ v S', k' v S' = some res ∧ zMet l HB b L xs aK aV G tc (zcal [44, 102] i) as S v S' := by
  unfold zE_Cl_empty at h
  rcases zdisf h with ⟨rfl, h⟩ | h
  · exact h0 _ _ _ _ _ h
  rcases zdisf h with ⟨rfl, h⟩ | h
  · exact h1 _ _ _ _ _ h
  cases h
theorem empty_mono (h0 : zSnd l HB b L xs aK aV G tc (zMT.getD 44 zyD) (fun α => zA_vRI_N 10 f_Script_passAt)) (h1 : zSnd l HB b L xs aK aV G tc (zMT.getD 102 zyD) (fun α => zA_vR_I 5 f_Pass_serving)) {x : Nat} {p0 : Int32} {S : zM} {res : Option Int32 × zM} (h : f_Cl_empty x p0 S = some res) : zn S ≤ zn res.2 ∧ zs S ≤ zs res.2 := by
  refine G_Cl_empty (g := fun _ _ _ S => zn S ≤ zn res.2 ∧ zs S ≤ zs res.2) (res := res) (zrt_mono (fun v S' h => ?_) (fun i as S k' h => ?_)) (fun _ _ _ _ _ _ h => h) (fun S1 h1 => ?_) x p0 S h
  · obtain ⟨y, -, rfl⟩ := zkT_inv h
    exact ⟨Nat.le_refl _, Nat.le_refl _⟩
  · obtain ⟨v, S', a1, a2⟩ := empty_E h0 h1 i as S k' h
    exact ⟨v, S', a1, a2.1⟩
  · cases zrt_54 h1
    exact ⟨Nat.le_succ _, Nat.le_add_right _ _⟩
set_option maxRecDepth 100000 in
theorem empty_met (hl : l.stackTraces = false) (h0 : zSnd l HB b L xs aK aV G tc (zMT.getD 44 zyD) (fun α => zA_vRI_N 10 f_Script_passAt)) (h1 : zSnd l HB b L xs aK aV G tc (zMT.getD 102 zyD) (fun α => zA_vR_I 5 f_Pass_serving)) {x : Nat} {p0 : Int32} {S : zM} {res : Option Int32 × zM} (h : f_Cl_empty x p0 S = some res) (h9 : zn res.2 < 900000) :
    vx_Met l yX11_empty zwe (zre (zn res.2 - zn S) (zs res.2 - zs S)) (yzPc HB b L xs aK aV G tc [.ref x, .int p0] S) (zQe HB b L xs aK G tc res) (zXe HB b L xs aK G tc res) (zn res.2 - zn S) (zs res.2 - zs S) (fun q => HB.size ≤ q) := by
  refine vx_ofW (cc := cX11_empty) (maxL := 5) (ret := some .int) (by decide) rfl ?_
  intro p e s m args below meth c s₁ B hml ht hv
  obtain ⟨rfl, hKs, hH⟩ := hv
  have hx := B.exec
  have hb := B.bytes
  have hr := B.returns
  have hts0 := atoms_spec (ws := zwe) B.pre
  have hts : ∀ w ∈ zTs, w.before ([Value.ref x, .int p0].map (yzcv (zad HB b aK))).toArray s = true := fun w hw => hts0 w (List.mem_cons_of_mem _ hw)
  have hown' : s.vm.findClass "CarriedLetters" = some m.cls := findClass_of_methodNamed B.named
  have hlocks := B.notSynchronized
  have hle := lv_entry ([Value.ref x, .int p0].map (yzcv (zad HB b aK))) (n := 5) (Nat.le_of_ble_eq_true rfl)
  rw [lg_entry_eq]
  generalize (lg_sl ([Value.ref x, .int p0].map (yzcv (zad HB b aK))) ++ List.replicate (5 - (lg_sl ([Value.ref x, .int p0].map (yzcv (zad HB b aK)))).length) Slot.unset).toArray = ls at hle ⊢
  have hls : lv_has ls 5 (zas (zad HB b aK) 0 (zlv [.ref x, .int p0])) := ⟨hle.1, hle.2.1, fun z hz => hle.2.2 z (zlv_args [.ref x, .int p0] 0 z hz)⟩
  have F : zFx p (zre (zn res.2 - zn S) (zs res.2 - zs S)) s m ([Value.ref x, .int p0].map (yzcv (zad HB b aK))).toArray meth c cX11_empty 5 HB b L xs aK aV G tc 11 false 7 120 (zn S) (zs S) (zn res.2) (zs res.2) :=
    ⟨⟨hx, hb, hml, hown', hts⟩, hKs, (fun h => by cases h), Nat.le_refl _, Nat.le_refl _, Nat.le_refl _, Nat.le_refl _, h9⟩
  have hret : zRet p l e (zre (zn res.2 - zn S) (zs res.2 - zs S)) s m ([Value.ref x, .int p0].map (yzcv (zad HB b aK))).toArray below meth c cX11_empty 5 HB b L xs aK G tc (zn S) (zs S) (zn res.2) (zs res.2) (vx_MQ below (zQe HB b L xs aK G tc res) (zXe HB b L xs aK G tc res) ([Value.ref x, .int p0].map (yzcv (zad HB b aK))).toArray s (zn res.2 - zn S) (zs res.2 - zs S) (fun q => HB.size ≤ q)) false (some .int) zkT res := by
    intro i u v S1 pc hdg hz hrt hk
    obtain ⟨y, rfl, hres⟩ := zkT_inv hk
    have e2 : res.2 = S1 := by rw [hres]
    have e1 : res.1 = some y := by rw [hres]
    refine ⟨⟨by rw [e2]; exact Nat.le_refl _, by rw [e2]; exact Nat.le_refl _⟩, fun _ _ H ls locs hH1 hlc => ?_⟩
    rcases hz with ⟨rfl, x1, rfl, hv, -⟩ | ⟨-, x1, -, hv⟩ | ⟨-, ⟨x1, -, hv⟩ | ⟨-, hv⟩⟩ | ⟨-, -, hv⟩
    · cases hv
      rw [e2]
      exact vx_ret (W.iret hx hb hr (fun t ht _ => ⟨y, e1, rfl, by rw [e2, ht]; exact hH1⟩) hlc hdg hlocks)
    · cases hv
    · cases hv
    · cases hv
    · cases hv
  have HX : ∀ S1, F_Cl_empty_54 S1 = some res → yzGo p l e (zre (zn res.2 - zn S) (zs res.2 - zs S)) s m ([Value.ref x, .int p0].map (yzcv (zad HB b aK))).toArray below meth c 5 HB b L xs aK G tc (zn S) (zs S) (zn res.2) (zs res.2) (vx_MQ below (zQe HB b L xs aK G tc res) (zXe HB b L xs aK G tc res) ([Value.ref x, .int p0].map (yzcv (zad HB b aK))).toArray s (zn res.2 - zn S) (zs res.2 - zs S) (fun q => HB.size ≤ q)) 54 [none, none, none, none, none] [] S1 := by
    intro S1 hS1
    have hres := zrt_54 hS1
    have e2 : res.2 = zalloc S1 13 0 6 := by rw [hres]
    have e1 : res.1 = none := by rw [hres]
    have n2 : zn res.2 = zn S1 + 1 := by rw [e2]; rfl
    have s2 : zs res.2 = zs S1 + 6 := by rw [e2]; rfl
    refine ⟨⟨by omega, by omega⟩, fun g1 g2 H ls locs hH1 hlc hls1 => ?_⟩
    have wl := zex_link
    simp only [Bool.and_eq_true, decide_eq_true_eq] at wl
    obtain ⟨⟨⟨⟨⟨w1, w2⟩, w3⟩, w4⟩, w5⟩, w6⟩ := wl
    have wa := List.all_eq_true.mp zex_words
    have hstr : vk_R "CarriedLetters" 356 "no such pass" (aK 12) s := hKs.2.2.1 ("CarriedLetters", 356, "no such pass", 12) (by unfold zstrs; simp; rfl)
    have hat : ∀ w ∈ (zxAt "CarriedLetters" 358 "java/util/NoSuchElementException" 13 zrx "java/lang/RuntimeException" ["java/lang/Exception"]).filter vx_no, w.before ([Value.ref x, .int p0].map (yzcv (zad HB b aK))).toArray s = true := fun w hw => by
      have q := wa w hw
      simp only [Bool.and_eq_true, Bool.or_eq_true, decide_eq_true_eq] at q
      rcases q.1.2 with q1 | q1
      · exact hts w (List.mem_filter.mpr ⟨q.1.1, q1⟩)
      · exact va_Nw.use q1.2 (hKs.2.1 w q.1.1 q1.1)
    have hS : va_S (fun q => HB.size ≤ q) s.heap H locs := ⟨by rw [hH.2.1, hH1.2.1]; omega, fun q hq hA => by
      have hA : ¬ HB.size ≤ q := hA
      rw [hH1.1 q (by omega), hH.1 q (by omega)], hlc⟩
    refine zx_throwX (cc := cX11_empty) (pc := 54) (own := "CarriedLetters") (cls := "java/util/NoSuchElementException") (text := "no such pass") (sY := "java/lang/RuntimeException") (names := ["java/lang/Exception"]) (ik := 354) (is := 356) (ic := 358) (ix := 13) (rx := zrx) (sa := aK 12) (A := fun q => HB.size ≤ q) hx hb hl rx_0 rx_1 rx_2 rx_5 (by decide) hown' (by decide) (by decide) (hts _ (List.mem_filter.mpr ⟨w1, w2⟩)) (hts _ (List.mem_filter.mpr ⟨w4, w5⟩)) hstr hat ?_ (hKs.2.2.2.2.2.2.2.2.2.2.2.1.kept (fun q hq _ => hH.1 q hq)) (hKs.2.2.2.2.2.2.2.2.2.2.2.2.kept (fun q hq _ => hH.1 q hq)) hS (by rw [hml]; exact hls1.1) dx_54 dx_57 dx_58 dx_61 dx_64 (fun z hz => (ht z hz).elim) (Nat.le_of_ble_eq_true rfl) (Nat.le_of_ble_eq_true rfl) ?_ ?_ hlocks ?_ hlc ?_ ?_
    · intro w hw
      rcases List.mem_cons.mp hw with rfl | hw
      · exact w3
      · rcases List.mem_cons.mp hw with rfl | hw
        · exact w6
        · have q := wa w hw
          simp only [Bool.and_eq_true] at q
          exact q.2
    · show zn S1 - zn S + 1 ≤ zn res.2 - zn S; omega
    · show zs S1 - zs S + 6 ≤ zs res.2 - zs S; omega
    · intro t _ z o ⟨ce, c1, c2, c3⟩
      refine ⟨e1, rfl, ?_⟩
      rw [e2]
      refine z_closeN hH1 hlc (by omega) ?_ z o
      rw [zent_obj (ci := 13) (by rw [zh_alloc_new]) (by omega)]
      have k13 := hKs.1.1 13 ("java/util/NoSuchElementException", TX0, 0) rfl
      exact ⟨("java/util/NoSuchElementException", TX0, 0), rfl, ce, c1, Option.some.inj (c3.symm.trans k13.2.1), c2, fun k hk => absurd hk (Nat.not_lt_zero k)⟩
    · omega
    · omega
  have hG := G_Cl_empty (res := res) (zrt_go F zMT_fine hret (empty_E h0 h1) ok_Cl_empty) (fun lv lv' pc st S hle hg => ⟨hg.1, fun h1 h2 H ls locs hH hlc hls => hg.2 h1 h2 H ls locs hH hlc (zle_has hle hls)⟩) HX x p0 S h
  have hW := hG.2 (Nat.le_refl _) (Nat.le_refl _) s.heap ls [] hH (fun q hq => by cases hq) (zle_has (lv := zlv [.ref x, .int p0]) ⟨rfl, rfl, trivial⟩ hls)
  rw [Nat.sub_self, Nat.sub_self] at hW
  exact hW
end ZE
