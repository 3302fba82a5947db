/-- the locals at a method's entry -/
def zlv : List Value → zV
  | [] => []
  | v :: r => bif Nat.beq v.category 2 then some v :: none :: zlv r else some v :: zlv r
theorem zlv_args {ad : Nat → Nat} : ∀ (as : List Value) (i : Nat) (q : Nat × Value), q ∈ zas ad i (zlv as) → q ∈ lv_args i (as.map (yzcv ad))
  | [], i, q, h => by simp [zlv, zas] at h
  | v :: r, i, q, h => by
    rw [List.map_cons, lv_args, zcv_cat]
    unfold zlv at h
    cases hb : Nat.beq v.category 2 with
    | true =>
      rw [hb, cond_true, zas, zas] at h
      rw [if_pos (Nat.eq_of_beq_eq_true hb)]
      rcases List.mem_cons.mp h with h | h
      · exact List.mem_cons.mpr (Or.inl h)
      · exact List.mem_cons_of_mem _ (zlv_args r (i + 2) q h)
    | false =>
      rw [hb, cond_false, zas] at h
      rw [if_neg (fun e => by rw [e] at hb; cases hb)]
      rcases List.mem_cons.mp h with h | h
      · exact List.mem_cons.mpr (Or.inl h)
      · exact List.mem_cons_of_mem _ (zlv_args r (i + 1) q h)
def zwords : List Value → Nat
  | [] => 0
  | v :: r => v.category + zwords r
theorem zwords_len {ad : Nat → Nat} : ∀ as : List Value, (lg_sl (as.map (yzcv ad))).length = zwords as
  | [] => rfl
  | v :: r => by
    have ih := zwords_len (ad := ad) r
    unfold lg_sl at ih ⊢
    rw [List.map_cons, List.flatMap_cons, List.length_append, ih, zcv_cat]
    cases v <;> rfl
theorem zrt_go {p : Program} {l : Launch} {e : Env} {R : Room} {s : State} {m : MethodId} {args : Array Value} {below : List Frame} {meth : Method} {c : Code} {Q : State → Prop} {cc : ByteArray} {HB : Heap} {b L : Nat} {xs : Nat → Int32} {aK aV : Nat → Nat} {G : va_G} {tc : Nat → ClassId} {nL : Nat} {o : Nat} {ini : Bool} {fr lo n0 s0 nE sE : Nat}
    {α : Type} {rz : Bool} {rt : Option FieldType} {cs : List Nat} {T : List (List (Nat × zE))} {E : Nat → zX α} {kr : Option Value → zM → Option α} {res : α} (F : zFx p R s m args meth c cc nL HB b L xs aK aV G tc o ini fr lo n0 s0 nE sE) (hfine : ∀ q ∈ zMT, zfine q = true)
    (hret : zRet p l e R s m args below meth c cc nL HB b L xs aK G tc n0 s0 nE sE Q rz rt kr res)
    (hE : ∀ (i : Nat) (as : List Value) (S : zM) (k' : Option Value → zM → Option α), E i as S k' = some res → ∃ v S', k' v S' = some res ∧ zMet l HB b L xs aK aV G tc (zcal cs i) as S v S')
    (hT : zokT o cs ini fr lo nL rz rt cc T = true) : zCl rz T E kr res (fun lv pc st S => yzGo p l e R s m args below meth c nL HB b L xs aK G tc n0 s0 nE sE Q pc lv st S) := by
  intro cut K f
  induction f with
  | zero => intro pc lv st S h; cases h
  | succ f ih =>
    intro pc lv st S h hK
    simp only [zrt] at h
    cases hp : zprog T pc with
    | none => rw [hp] at h; cases h
    | some en =>
      rw [hp] at h
      refine zstep F hfine hret hE (zokT_at hT hp) h (fun pc lv st S hk => ?_)
      cases hc : cut pc with
      | true => rw [hc, cond_true] at hk; exact hK _ _ _ _ hk
      | false => rw [hc, cond_false] at hk; exact ih _ _ _ _ hk hK
theorem zrt_mono {α : Type} {rz : Bool} {T : List (List (Nat × zE))} {E : Nat → zX α} {kr : Option Value → zM → Option α} {res : α} {nE sE : Nat} (hkr : ∀ v S, kr v S = some res → zn S ≤ nE ∧ zs S ≤ sE)
    (hE : ∀ (i : Nat) (as : List Value) (S : zM) (k' : Option Value → zM → Option α), E i as S k' = some res → ∃ v S', k' v S' = some res ∧ zn S ≤ zn S' ∧ zs S ≤ zs S') : zCl rz T E kr res (fun _ _ _ S => zn S ≤ nE ∧ zs S ≤ sE) := by
  intro cut K f
  induction f with
  | zero => intro pc lv st S h; cases h
  | succ f ih =>
    intro pc lv st S h hK
    simp only [zrt] at h
    cases hp : zprog T pc with
    | none => rw [hp] at h; cases h
    | some en =>
      rw [hp] at h
      refine zst_mono hkr hE h (fun pc lv st S hk => ?_)
      cases hc : cut pc with
      | true => rw [hc, cond_true] at hk; exact hK _ _ _ _ hk
      | false => rw [hc, cond_false] at hk; exact ih pc lv st S hk hK
/-- a callee's function is sound -/
def zSnd (l : Launch) (HB : Heap) (b L : Nat) (xs : Nat → Int32) (aK aV : Nat → Nat) (G : va_G) (tc : Nat → ClassId) (q : zY) (a : (α : Type) → zX α) : Prop :=
  ∀ (α : Type) (as : List Value) (S : zM) (k : Option Value → zM → Option α) (res : α), a α as S k = some res → ∃ v S', k v S' = some res ∧ zMet l HB b L xs aK aV G tc q as S v S'
/-- THE METHOD: what its function says is its contract -/
theorem zmeth {l : Launch} {HB : Heap} {b L : Nat} {xs : Nat → Int32} {aK aV : Nat → Nat} {G : va_G} {tc : Nat → ClassId} {α : Type} {q : zY} {o : Nat} {cs : List Nat} {rz : Bool} {T : List (List (Nat × zE))} {E : Nat → zX α} {kr : Option Value → zM → Option α} {res : α} (hfine : ∀ q ∈ zMT, zfine q = true) (hqf : zfine q = true)
    (hE : ∀ (i : Nat) (as : List Value) (S : zM) (k' : Option Value → zM → Option α), E i as S k' = some res → ∃ v S', k' v S' = some res ∧ zMet l HB b L xs aK aV G tc (zcal cs i) as S v S')
    (hT : zokT o cs (decide (q.1.name = "<init>")) q.2.2.2.2.2.2.1 q.2.2.2.2.2.2.2 q.2.2.1 rz q.2.2.2.1 q.2.1 T = true) (hown : zow.getD o "" = q.1.cls) {as : List Value} {S S0 : zM} {v0 : Option Value} (hkr : ∀ v S', kr v S' = some res → v = v0 ∧ S' = S0) (hwd : zwords as ≤ q.2.2.1)
    (hgo : ∀ g, zCl rz T E kr res g → zWk g → g (zlv as) 0 [] S) :
    (zn S ≤ zn S0 ∧ zs S ≤ zs S0) ∧ (zn S0 < 900000 → Met l q.1 (zws q) (yzrm q (zn S0 - zn S) (zs S0 - zs S)) (yzPc HB b L xs aK aV G tc as S) (zQc HB b L xs aK G tc v0 S0) (zn S0 - zn S) (zs S0 - zs S) (fun q => HB.size ≤ q)) := by
  have hmono : zn S ≤ zn S0 ∧ zs S ≤ zs S0 := by
    refine hgo (fun _ _ _ S => zn S ≤ zn S0 ∧ zs S ≤ zs S0) (zrt_mono (fun v S' h => by rw [(hkr v S' h).2]; exact ⟨Nat.le_refl _, Nat.le_refl _⟩) (fun i as S k' h => ?_)) (fun _ _ _ _ _ _ h => h)
    obtain ⟨v, S', h1, h2⟩ := hE i as S k' h
    exact ⟨v, S', h1, h2.1⟩
  refine ⟨hmono, fun h9 => ?_⟩
  have hpl : plainName q.1.cls = true := by
    unfold zfine at hqf
    simp only [Bool.and_eq_true] at hqf
    exact hqf.1.1.1.1
  refine Met.ofW (cc := q.2.1) (maxL := q.2.2.1) (ret := q.2.2.2.1) hpl rfl ?_
  intro p e s m args below meth c s₁ B hml hv
  obtain ⟨rfl, hKs, hH⟩ := hv
  have hx := B.exec
  have hb := B.bytes
  have hr := B.returns
  have hts0 := atoms_spec (ws := zws q) B.pre
  have hts : ∀ w ∈ zTs, w.before (as.map (yzcv (zad HB b aK))).toArray s = true := fun w hw => hts0 w (List.mem_cons_of_mem _ hw)
  have hown' : s.vm.findClass (zow.getD o "") = some m.cls := by rw [hown]; exact findClass_of_methodNamed B.named
  have hlocks := B.notSynchronized
  have hin : meth.name = q.1.name := (name_of_methodNamed B.named B.method).1
  have hl := lv_entry (as.map (yzcv (zad HB b aK))) (n := q.2.2.1) (by rw [zwords_len]; exact hwd)
  rw [lg_entry_eq]
  generalize (lg_sl (as.map (yzcv (zad HB b aK))) ++ List.replicate (q.2.2.1 - (lg_sl (as.map (yzcv (zad HB b aK)))).length) Slot.unset).toArray = ls at hl ⊢
  have hls : lv_has ls q.2.2.1 (zas (zad HB b aK) 0 (zlv as)) := ⟨hl.1, hl.2.1, fun z hz => hl.2.2 z (zlv_args as 0 z hz)⟩
  have F : zFx p (yzrm q (zn S0 - zn S) (zs S0 - zs S)) s m (as.map (yzcv (zad HB b aK))).toArray meth c q.2.1 q.2.2.1 HB b L xs aK aV G tc o (decide (q.1.name = "<init>")) q.2.2.2.2.2.2.1 q.2.2.2.2.2.2.2 (zn S) (zs S) (zn S0) (zs S0) :=
    ⟨⟨hx, hb, hml, hown', hts⟩, hKs, fun h => by rw [hin]; exact of_decide_eq_true h, Nat.le_refl _, Nat.le_refl _, Nat.le_refl _, Nat.le_refl _, h9⟩
  have hret : zRet p l e (yzrm q (zn S0 - zn S) (zs S0 - zs S)) s m (as.map (yzcv (zad HB b aK))).toArray below meth c q.2.1 q.2.2.1 HB b L xs aK G tc (zn S) (zs S) (zn S0) (zs S0) (MQ below (zQc HB b L xs aK G tc v0 S0) (as.map (yzcv (zad HB b aK))).toArray s (zn S0 - zn S) (zs S0 - zs S) (fun q => HB.size ≤ q)) rz q.2.2.2.1 kr res := by
    intro i u v S1 pc hdg hz hrt hk
    obtain ⟨rfl, rfl⟩ := hkr v S1 hk
    refine ⟨⟨Nat.le_refl _, Nat.le_refl _⟩, fun _ _ H ls locs hH1 hlc => ?_⟩
    rcases hz with ⟨rfl, x, rfl, rfl, h01⟩ | ⟨rfl, x, rfl, rfl⟩ | ⟨rfl, ⟨x, rfl, rfl⟩ | ⟨rfl, rfl⟩⟩ | ⟨rfl, rfl, rfl⟩
    · have h1 := hrt.1 rfl
      cases rz with
      | true =>
        rw [cond_true] at h1
        exact W.zret hx hb (hr.trans h1) (by rcases h01 rfl with rfl | rfl <;> rfl) (fun t ht _ => ⟨rfl, by rw [ht]; exact hH1⟩) hlc hdg hlocks
      | false =>
        rw [cond_false] at h1
        exact W.iret hx hb (hr.trans h1) (fun t ht _ => ⟨rfl, by rw [ht]; exact hH1⟩) hlc hdg hlocks
    · exact W.lret hx hb (hr.trans (hrt.2.1 rfl)) (fun t ht _ => ⟨rfl, by rw [ht]; exact hH1⟩) hlc hdg hlocks
    · obtain ⟨n, hn⟩ := hrt.2.2.1 rfl
      exact W.aret hx hb (hr.trans hn) (Or.inl ⟨n, rfl⟩) (Or.inr ⟨_, rfl⟩) (fun t ht _ => ⟨rfl, by rw [ht]; exact hH1⟩) hlc hdg hlocks
    · obtain ⟨n, hn⟩ := hrt.2.2.1 rfl
      exact W.aret hx hb (hr.trans hn) (Or.inl ⟨n, rfl⟩) (Or.inl rfl) (fun t ht _ => ⟨rfl, by rw [ht]; exact hH1⟩) hlc hdg hlocks
    · exact W.vret hx hb (hr.trans (hrt.2.2.2 rfl)) (fun t ht _ => ⟨rfl, by rw [ht]; exact hH1⟩) hlc hdg hlocks
  have hG := hgo _ (zrt_go F hfine hret hE hT) (fun lv lv' pc st S hle hg => ⟨hg.1, fun h1 h2 H ls locs hH hlc hls => hg.2 h1 h2 H ls locs hH hlc (zle_has hle hls)⟩)
  have hW := hG.2 (Nat.le_refl _) (Nat.le_refl _) s.heap ls [] hH (fun q hq => by cases hq) hls
  rw [Nat.sub_self, Nat.sub_self] at hW
  exact hW
set_option maxRecDepth 100000 in
theorem zMT_fine : ∀ q ∈ zMT, zfine q = true := List.all_eq_true.mp (by decide +kernel : zMT.all zfine = true)
