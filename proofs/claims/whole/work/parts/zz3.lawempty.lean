/-! the law's own empty: it calls the class's, and catches what that throws -/
section ZG
variable {α : Type} {rz : Bool} {T : List (List (Nat × zE))} {E : Nat → zX α} {kr : Option Value → zM → Option α} {res : α} {g : zV → Nat → List Value → zM → Prop}
theorem zseg (H : zCl rz T E kr res g) (cut : Nat → Bool) (f pc : Nat) (lv : zV) (st : List Value) (S : zM) (pc' : Nat) (lv' : zV) (st' : List Value) (S' : zM) (hz : ∀ K : zK α, zrt rz T E cut kr K f pc lv st S = K pc' lv' st' S') (hg : g lv' pc' st' S') : g lv pc st S := by
  refine H cut (fun a b c d => @ite _ (a = pc' ∧ b = lv' ∧ c = st' ∧ d = S') (Classical.propDecidable _) (some res) none) f pc lv st S ?_ ?_
  · rw [hz]; exact if_pos ⟨rfl, rfl, rfl, rfl⟩
  · intro a b c d h
    by_cases q : a = pc' ∧ b = lv' ∧ c = st' ∧ d = S'
    · obtain ⟨rfl, rfl, rfl, rfl⟩ := q; exact hg
    · rw [if_neg q] at h; cases h
theorem zfin (H : zCl rz T E kr res g) (cut : Nat → Bool) (f pc : Nat) (lv : zV) (st : List Value) (S : zM) (hz : ∀ K : zK α, zrt rz T E cut kr K f pc lv st S = some res) : g lv pc st S :=
  H cut (fun _ _ _ _ => none) f pc lv st S (hz _) (fun _ _ _ _ h => by cases h)
end ZG
def zP_Law_empty : List (List (Nat × zE)) := [[(0, e1 (.aload_n 2) 1 2), (1, ei (.iconst 0) 2 0 (0)), (2, e1 (.aload_n 0) 3 0), (3, e1 (.iload_n 1) 4 1), (7, e0 (.i2l) 8), (8, e0 (.lastore) 9), (9, e1 (.goto 6) 12 15), (13, ei (.iconst 1) 14 0 (1)), (14, e0 (.ireturn) 15), (15, ei (.iconst 0) 16 0 (0))], [(16, e0 (.ireturn) 17)]]
def zE_Law_empty (α : Type) : Nat → zX α := fun _ _ _ _ => none
set_option maxRecDepth 100000 in
theorem ok_Law_empty : zokT 13 [] false 8 144 4 false (some .int) cL_empty zP_Law_empty = true := by decide +kernel
set_option maxRecDepth 100000 in
theorem dl_4 : decode cL_empty 4 = .ok (.invokevirtual 7, 3) := by decide +kernel
set_option maxRecDepth 100000 in
theorem dl_12 : decode cL_empty 12 = .ok (.astore_n 3, 1) := by decide +kernel
def zle_list : List Cond := [.code yX11_empty cX11_empty 5 (some .int), .initialized "CarriedLetters", .methodLink "CarriedLettersLaw" 7 yX11_empty, .instanceMethod yX11_empty, .selects "CarriedLetters" yX11_empty yX11_empty, .codeWith yL_empty cL_empty 4 (some .int) [(0, 9, 12, 13)], .initialized "CarriedLettersLaw", .methodLink "CarriedLettersLaw" 211 yL_empty, .static yL_empty, .classLink "CarriedLettersLaw" 13 "java/util/NoSuchElementException"]
set_option maxRecDepth 100000 in
set_option maxHeartbeats 4000000 in
theorem zle_all : zle_list.all (fun w => decide (w ∈ lw_tbl) && goodWord w) = true := by decide +kernel
theorem zle_in {w : Cond} (h : w ∈ zle_list) : w ∈ zTs := by
  have := List.all_eq_true.mp zle_all w h
  simp only [Bool.and_eq_true, decide_eq_true_eq] at this
  exact List.mem_filter.mpr this
theorem zle_at (i : Nat) {w : Cond} (h : zle_list[i]? = some w) : w ∈ zTs := zle_in (List.mem_of_getElem? h)
theorem Met_ofWH {l : Launch} {y : MethodName} {ws ws' : List Cond} {rm : Room} {Pc : Array Value → State → Prop} {Qc : Array Value → State → Outcome → State → Prop} {mc ms : Nat} {free : Addr → Prop} {cc : ByteArray} {maxL : Nat} {ret : Option FieldType} {hh : List (Nat × Nat × Nat × Nat)}
    (hy : plainName y.cls = true) (hw : ws = Cond.codeWith y cc maxL ret hh :: ws')
    (body : ∀ p e s m args below meth c s₁, BodyLoose p l y (headSpec ws rm) cc maxL ret e s m args below meth c s₁ → c.maxLocals = maxL → Pc args s →
      W p l e (headSpec ws rm).room s m args below meth c s.heap [] 0 0 (MQ below Qc args s mc ms free) (entryFrame m args maxL)) : Met l y ws rm Pc Qc mc ms free := by
  refine MetFree.of_bodyS (code := cc) (maxLocals := maxL) (ret := ret) hy ?_ ?_
  · intro args s m h hn
    obtain ⟨m9, meth, c, hn9, h1, h2, h3, h4, -, h5, h6, -⟩ := Cond.codeWith_spec (atoms_spec (ws := ws) h _ (by rw [hw]; exact List.mem_cons_self))
    cases hn.symm.trans hn9
    exact ⟨meth, c, h1, h2, h3, h4, h5, h6⟩
  · intro p e s m args below meth c s₁ B hml hP _
    have hh0 : s₁.heap = s.heap := by rw [B.state]; rfl
    obtain ⟨t, a1, o, b1, b2, b3⟩ := body p e s m args below meth c s₁ B hml hP s₁ hh0 (Stand.of_body B)
    exact ⟨t, o, a1, b1, b2, ⟨b3.1, b3.2⟩⟩
def zwk : List Cond := .codeWith yL_empty cL_empty 4 (some .int) [(0, 9, 12, 13)] :: zTs
def zrk (mc ms : Nat) : Room := { frames := 8, cells := mc, slots := ms, locals := 144 }
theorem zwe_good : GoodIn zTs zwe := by
  intro w hw
  rcases List.mem_cons.mp hw with h | h
  · subst h
    have := zle_at 0 (w := .code yX11_empty cX11_empty 5 (some .int)) rfl
    exact ⟨this, good_of_word (zTs_good this)⟩
  · exact ⟨h, good_of_word (zTs_good h)⟩
section ZH
variable {l : Launch} {HB : Heap} {b L : Nat} {xs : Nat → Int32} {aK aV : Nat → Nat} {G : va_G} {tc : Nat → ClassId}
/-- what the law's empty does, cut -/
theorem lempty_cut {x out : Nat} {p0 : Int32} {S : zM} {res : Int32 × zM} (h : f_Law_empty x p0 out S = some res) : ∃ p : Option Int32 × zM, (zh S x).1 = 11 ∧ f_Cl_empty x p0 S = some p ∧ zn res.2 = zn p.2 ∧ zs res.2 = zs p.2 ∧ ((∃ v, p.1 = some v ∧ Option.bind (zpl p.2 out 0 v.toInt64) (fun S1 => some ((0 : Int32), S1)) = some res) ∨ (p.1 = none ∧ some ((1 : Int32), p.2) = some res)) := by
  unfold f_Law_empty at h
  obtain ⟨p, hp, h⟩ := zbind h
  unfold zcl at hp
  split at hp
  · rename_i hk
    obtain ⟨o, S1⟩ := p
    cases o with
    | some v =>
      have h : Option.bind (zpl S1 out 0 v.toInt64) (fun S1 => some ((0 : Int32), S1)) = some res := h
      have h' := h
      obtain ⟨S2, h2, h3⟩ := zbind h'
      have h3 : some ((0 : Int32), S2) = some res := h3
      cases h3
      have e : S2 = zwJ S1 out (0 : Int32).toNatClampNeg v.toInt64 := by
        unfold zpl at h2
        split at h2
        · exact (Option.some.inj h2).symm
        · cases h2
      exact ⟨(some v, S1), hk, hp, by rw [e]; rfl, by rw [e]; rfl, Or.inl ⟨v, rfl, h⟩⟩
    | none =>
      have h : some ((1 : Int32), S1) = some res := h
      have h' := h
      cases h'
      exact ⟨(none, S1), hk, hp, rfl, rfl, Or.inr ⟨rfl, h⟩⟩
  · cases hp
set_option maxRecDepth 100000 in
theorem lempty_met (hl : l.stackTraces = false) (h0 : zSnd l HB b L xs aK aV G tc (zMT.getD 44 zyD) (fun α => zA_vRI_N 10 f_Script_passAt)) (h1 : zSnd l HB b L xs aK aV G tc (zMT.getD 102 zyD) (fun α => zA_vR_I 5 f_Pass_serving)) {x out : Nat} {p0 : Int32} {S : zM} {res : Int32 × zM} (h : f_Law_empty x p0 out S = some res) (h9 : zn res.2 < 900000) :
    Met l yL_empty zwk (zrk (zn res.2 - zn S) (zs res.2 - zs S)) (yzPc HB b L xs aK aV G tc [.ref x, .int p0, .ref out] S) (zQc HB b L xs aK G tc (some (.int res.1)) res.2) (zn res.2 - zn S) (zs res.2 - zs S) (fun q => HB.size ≤ q) := by
  obtain ⟨q, hkd, hq, hnn, hss, hcase⟩ := lempty_cut h
  have hmo := empty_mono h0 h1 hq
  refine Met_ofWH (cc := cL_empty) (maxL := 4) (ret := some .int) (hh := [(0, 9, 12, 13)]) (by decide) rfl ?_
  intro p e s m args below meth c s₁ B hml hv
  obtain ⟨rfl, hKs, hH⟩ := hv
  have hx := B.exec
  have hb := B.bytes
  have hr := B.returns
  have hts0 := atoms_spec (ws := zwk) B.pre
  have hts : ∀ w ∈ zTs, w.before ([Value.ref x, .int p0, .ref out].map (yzcv (zad HB b aK))).toArray s = true := fun w hw => hts0 w (List.mem_cons_of_mem _ hw)
  have htab : c.exceptionTable.toList = tableOf [(0, 9, 12, 13)] := vx_table (x := yL_empty) B (hts0 _ List.mem_cons_self)
  have hown' : s.vm.findClass "CarriedLettersLaw" = some m.cls := findClass_of_methodNamed B.named
  have hlocks := B.notSynchronized
  have hle := lv_entry ([Value.ref x, .int p0, .ref out].map (yzcv (zad HB b aK))) (n := 4) (Nat.le_of_ble_eq_true rfl)
  rw [lg_entry_eq]
  generalize (lg_sl ([Value.ref x, .int p0, .ref out].map (yzcv (zad HB b aK))) ++ List.replicate (4 - (lg_sl ([Value.ref x, .int p0, .ref out].map (yzcv (zad HB b aK)))).length) Slot.unset).toArray = ls at hle ⊢
  have hls : lv_has ls 4 (zas (zad HB b aK) 0 (zlv [.ref x, .int p0, .ref out])) := ⟨hle.1, hle.2.1, fun z hz => hle.2.2 z (zlv_args [.ref x, .int p0, .ref out] 0 z hz)⟩
  have F : zFx p (zrk (zn res.2 - zn S) (zs res.2 - zs S)) s m ([Value.ref x, .int p0, .ref out].map (yzcv (zad HB b aK))).toArray meth c cL_empty 4 HB b L xs aK aV G tc 13 false 8 144 (zn S) (zs S) (zn res.2) (zs res.2) :=
    ⟨⟨hx, hb, hml, hown', hts⟩, hKs, (fun h => by cases h), Nat.le_refl _, Nat.le_refl _, Nat.le_refl _, Nat.le_refl _, h9⟩
  have hret : zRet p l e (zrk (zn res.2 - zn S) (zs res.2 - zs S)) s m ([Value.ref x, .int p0, .ref out].map (yzcv (zad HB b aK))).toArray below meth c cL_empty 4 HB b L xs aK G tc (zn S) (zs S) (zn res.2) (zs res.2) (MQ below (zQc HB b L xs aK G tc (some (.int res.1)) res.2) ([Value.ref x, .int p0, .ref out].map (yzcv (zad HB b aK))).toArray s (zn res.2 - zn S) (zs res.2 - zs S) (fun q => HB.size ≤ q)) false (some .int) zkI res := by
    intro i u v S1 pc hdg hz hrt hk
    obtain ⟨rfl, rfl⟩ := zkI_inv hk
    refine ⟨⟨Nat.le_refl _, Nat.le_refl _⟩, fun _ _ H ls locs hH1 hlc => ?_⟩
    rcases hz with ⟨rfl, x1, rfl, hv, -⟩ | ⟨-, x1, -, hv⟩ | ⟨-, ⟨x1, -, hv⟩ | ⟨-, hv⟩⟩ | ⟨-, -, hv⟩
    · cases hv
      exact W.iret hx hb hr (fun t ht _ => ⟨rfl, by rw [ht]; exact hH1⟩) hlc hdg hlocks
    · cases hv
    · cases hv
    · cases hv
    · cases hv
  have HC := zrt_go F zMT_fine hret (E := zE_Law_empty (Int32 × zM)) (fun i as S k' h => by cases h) ok_Law_empty
  have g4 : yzGo p l e (zrk (zn res.2 - zn S) (zs res.2 - zs S)) s m ([Value.ref x, .int p0, .ref out].map (yzcv (zad HB b aK))).toArray below meth c 4 HB b L xs aK G tc (zn S) (zs S) (zn res.2) (zs res.2) (MQ below (zQc HB b L xs aK G tc (some (.int res.1)) res.2) ([Value.ref x, .int p0, .ref out].map (yzcv (zad HB b aK))).toArray s (zn res.2 - zn S) (zs res.2 - zs S) (fun q => HB.size ≤ q)) 4 [some (.ref x), some (.int p0), some (.ref out), none] [.int p0, .ref x, .int 0, .ref out] S := by
    refine ⟨⟨by omega, by omega⟩, fun g1 g2 H ls locs hH1 hlc hls1 => ?_⟩
    have hM := empty_met hl h0 h1 hq (by omega : zn q.2 < 900000)
    have hPre : ∀ U : State, U.heap = H → s.WarmedH U.vm → yzPc HB b L xs aK aV G tc [.ref x, .int p0] S (Value.ref (zad HB b aK x) :: [Value.int p0]).toArray U := fun U hU hW => ⟨rfl, hKs.warm hW, by rw [hU]; exact hH1⟩
    have hrun := vx_runV (own := "CarriedLettersLaw") (C := "CarriedLetters") (index := 7) (n := 1) (As := [.int p0]) (rest := [.int 0, .ref (zad HB b aK out)]) (b := zad HB b aK x) (g := F0 m 4 ls ([Value.int p0, .ref x, .int 0, .ref out].map (yzcv (zad HB b aK)))) (H := H) (locs := locs) (cells := zn S - zn S) (slots := zs S - zs S) (below := below) (e := e) (meth := meth) (R := zrk (zn res.2 - zn S) (zs res.2 - zs S)) F.1 hM
      ⟨callB_of 1 hts zwe_good rfl rfl rfl (hts _ (zle_at 1 rfl)) (hts _ (zle_at 2 rfl)) ⟨by decide, by decide, by decide +kernel⟩ ⟨Nat.le_of_ble_eq_true rfl, Nat.le_of_ble_eq_true rfl⟩, hts _ (zle_at 3 rfl), hts _ (zle_at 4 rfl)⟩
      ⟨zPc_blind, zrecv (ci := 11) (by omega) hkd rfl s H hKs hH1, hPre⟩ rfl rfl hls1.1 rfl (lv_room (Nat.le_of_ble_eq_true rfl)) dl_4 ⟨by show zn S - zn S + (zn q.2 - zn S) ≤ zn res.2 - zn S; omega, by show zs S - zs S + (zs q.2 - zs S) ≤ zs res.2 - zs S; omega⟩
    intro T hT X
    have ec : zn S - zn S + (zn q.2 - zn S) = zn q.2 - zn S := by omega
    have es : zs S - zs S + (zs q.2 - zs S) = zs q.2 - zs S := by omega
    rcases hrun T hT X with ⟨v', st₀, t, T', L', q0, X', hL, q1, q2, ⟨v, hv1, hv2, hR⟩, st⟩ | ⟨ad, st₀, t, T', L', E9, ce, q0, X', hL, q1, q2, ⟨hv1, rfl, hR⟩, hce, hcv, hcl, st⟩
    · cases hv2
      rcases hcase with ⟨v2, hv3, hz⟩ | ⟨hv3, -⟩
      · have e3 : v2 = v := by rw [hv1] at hv3; injection hv3 with e; exact e.symm
        subst e3
        have g7 := zfin HC (fun _ => false) 10 7 [some (.ref x), some (.int p0), some (.ref out), none] [.int v2, .int 0, .ref out] q.2 (fun K => hz)
        have hW := g7.2 (by omega) (by omega) T'.heap ls (locs ++ L') (by rw [q1]; exact hR) (fun z hz => by
          rcases List.mem_append.mp hz with h | h
          · exact hlc z h
          · exact hL z h) hls1
        rw [ec, es] at X'
        obtain ⟨t2, a1, b1⟩ := hW T' rfl X'
        exact ⟨t2, st t2 a1, b1⟩
      · rw [hv1] at hv3; cases hv3
    · rcases hcase with ⟨v2, hv3, -⟩ | ⟨-, hz⟩
      · rw [hv1] at hv3; cases hv3
      · have g13 := zfin HC (fun _ => false) 10 13 [none, none, none, none] [] q.2 (fun K => hz)
        have hlc' : ∀ z ∈ locs ++ L', HB.size ≤ z.base := fun z hz => by
          rcases List.mem_append.mp hz with h | h
          · exact hlc z h
          · exact hL z h
        rw [ec, es] at X'
        have hcast : (Cond.castable "java/util/NoSuchElementException" "java/util/NoSuchElementException").before ([Value.ref x, .int p0, .ref out].map (yzcv (zad HB b aK))).toArray s = true := by
          refine va_Nw.use rfl (hKs.2.1 _ ?_ rfl)
          have hm : Cond.castable "java/util/NoSuchElementException" "java/util/NoSuchElementException" ∈ (zxAt "CarriedLetters" 358 "java/util/NoSuchElementException" 13 zrx "java/lang/RuntimeException" ["java/lang/Exception"]).filter vx_no := List.mem_filter.mpr ⟨by simp [zxAt], by decide +kernel⟩
          have := List.all_eq_true.mp zex_words _ hm
          simp only [Bool.and_eq_true, decide_eq_true_eq] at this
          exact this.1.1
        have hcatch := vx_catch (own := "CarriedLettersLaw") (name := "java/util/NoSuchElementException") (pc := 4) (ls := ls) (rest := [.int 0, .ref (zad HB b aK out)]) (H := T'.heap) (Q := MQ below (zQc HB b L xs aK G tc (some (.int res.1)) res.2) ([Value.ref x, .int p0, .ref out].map (yzcv (zad HB b aK))).toArray s (zn res.2 - zn S) (zs res.2 - zs S) (fun q => HB.size ≤ q)) (l := l) (p := p) (e := e) (R := zrk (zn res.2 - zn S) (zs res.2 - zs S)) (below := below) (meth := meth) (locs := locs ++ L') (cells := zn q.2 - zn S) (slots := zs q.2 - zs S) (q := ad) (ce := ce) hown' [] { startPc := 0, endPc := 9, handlerPc := 12, catchType := 13 } [] (by rw [htab]; rfl) (fun z hz => by cases hz) (by decide) (by decide) (hts _ (zle_at 9 rfl)) hcast (by rw [q1]; exact hce) hcv hcl
          (by
            refine lv_astore_n (lv := []) (lv' := [(3, .ref ad)]) hx hb dl_12 rfl ⟨hls1.1, hls1.2.1, fun z hz => by cases hz⟩ (Nat.le_of_ble_eq_true rfl) rfl (fun ls' hl' => ?_)
            exact g13.2 (by omega) (by omega) T'.heap ls' (locs ++ L') (by rw [q1]; exact hR) hlc' ⟨hl'.1, hl'.2.1, fun z hz => by cases hz⟩)
        obtain ⟨t2, a1, b1⟩ := hcatch T' rfl X'
        exact ⟨t2, st.trans a1, b1⟩
  have gg := zseg HC (fun pc => Nat.beq pc 4) 10 0 [some (.ref x), some (.int p0), some (.ref out), none] [] S 4 [some (.ref x), some (.int p0), some (.ref out), none] [.int p0, .ref x, .int 0, .ref out] S (fun K => rfl) g4
  have hW := gg.2 (Nat.le_refl _) (Nat.le_refl _) s.heap ls [] hH (fun q hq => by cases hq) (zle_has (lv := zlv [.ref x, .int p0, .ref out]) ⟨rfl, rfl, rfl, trivial⟩ hls)
  rw [Nat.sub_self, Nat.sub_self] at hW
  exact hW
end ZH
