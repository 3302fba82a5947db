section ZST2
variable {p : Program} {l : Launch} {e : Env} {R : Room} {s : State} {m : MethodId} {args : Array Value} {below : List Frame} {meth : Method} {c : Code} {Q : State → Prop}
variable {cc : ByteArray} {HB : Heap} {b L : Nat} {xs : Nat → Int32} {aK aV : Nat → Nat} {G : va_G} {tc : Nat → ClassId} {nL : Nat} {o : Nat} {ini : Bool} {fr lo n0 s0 nE sE : Nat}
theorem zlF0 {idx ci k : Nat} (hw : ∀ w ∈ zTs, w.before args s = true) (h : (o, idx, ci, k, 0) ∈ zLF) {C : String} {T : u_T} {N : Nat} {ty : Nat → FieldType} (hC : zCls ci C T N ty) : (Cond.fieldLink (zow.getD o "") idx (T k).1 (T k).2.1 (T k).2.2.1).before args s = true := by
  have hT : zT ci = T := by
    unfold zT
    rw [List.getD_eq_getElem?_getD, hC.1]
    rfl
  have h1 := zLF_ok _ h
  unfold zwF at h1
  simp only at h1
  rw [hT] at h1
  exact hw _ (zTg h1 rfl)
theorem zlF1 {idx ci k : Nat} (hK : zKS HB b L xs aK aV G tc s) (h : (o, idx, ci, k, 1) ∈ zLF) {C : String} {T : u_T} {N : Nat} {ty : Nat → FieldType} (hC : zCls ci C T N ty) : ∃ host, (Cond.fieldLinkNest (zow.getD o "") idx (T k).1 (T k).2.1 (T k).2.2.1 host).before args s = true := by
  have hT : zT ci = T := by
    unfold zT
    rw [List.getD_eq_getElem?_getD, hC.1]
    rfl
  have h1 := zLF_ok _ h
  unfold zwF at h1
  simp only at h1
  rw [hT] at h1
  exact ⟨"CarriedLetters", va_Nw.use rfl (hK.2.1 _ h1 rfl)⟩
theorem zlM {cs : List Nat} {idx r1 r2 kd fr lo : Nat} (hw : ∀ w ∈ zTs, w.before args s = true) (hK : zKS HB b L xs aK aV G tc s) (h : zokC o cs fr lo idx r1 r2 kd = true) : zcal cs r1 ∈ zMT ∧ zlnk (zow.getD o "") idx (zcal cs r1) args s ∧ (zcal cs r1).2.2.2.2.1 = kd ∧ (zcal cs r1).2.2.2.2.2.1 = r2 ∧ (zcal cs r1).2.2.2.2.2.2.1 + 1 ≤ fr ∧ 19 + (zcal cs r1).2.2.1 + (zcal cs r1).2.2.2.2.2.2.2 ≤ lo := by
  unfold zokC at h
  simp only [Bool.and_eq_true, decide_eq_true_eq, Bool.or_eq_true] at h
  obtain ⟨⟨⟨⟨⟨h1, h2⟩, h3⟩, h4⟩, h5⟩, h6⟩ := h
  refine ⟨?_, ?_, h3, h4, h5, h6⟩
  · unfold zcal
    rw [List.getD_eq_getElem?_getD, List.getElem?_eq_getElem h1]
    exact List.getElem_mem h1
  · rcases h2 with h2 | h2
    · have g := zLM_ok _ h2
      exact Or.inl (hw _ (zTg g rfl))
    · have g := zLM_ok _ h2
      exact Or.inr (hK.2.1 _ g rfl)
theorem zsw_get (pc : Nat) : ∀ (offs : List Int) (l : Int) (i : Nat), (zsw pc l offs)[i]? = (offs[i]?).map (fun f => (l + (i : Int), (pc : Int) + f))
  | [], l, i => by simp [zsw]
  | f :: r, l, 0 => by simp [zsw]
  | f :: r, l, i + 1 => by
    rw [zsw, List.getElem?_cons_succ, List.getElem?_cons_succ, zsw_get pc r (l + 1) i]
    have : l + 1 + (i : Int) = l + ((i + 1 : Nat) : Int) := by omega
    rw [this]
theorem ztab_spec {α : Type} {x : Int32} {d : Nat} {k : Nat → Option α} {res : α} : ∀ (ts : List (Int32 × Nat)), ztab x d k ts = some res → (∃ (i : Nat) (q : Int32 × Nat), ts[i]? = some q ∧ x = q.1 ∧ k q.2 = some res) ∨ ((∀ q ∈ ts, x ≠ q.1) ∧ k d = some res)
  | [], h => Or.inr ⟨fun q hq => absurd hq List.not_mem_nil, h⟩
  | q :: qs, h => by
    simp only [ztab] at h
    split at h
    · rename_i hq
      exact Or.inl ⟨0, q, rfl, hq, h⟩
    · rename_i hq
      rcases ztab_spec qs h with ⟨i, q', h1, h2, h3⟩ | ⟨h1, h2⟩
      · exact Or.inl ⟨i + 1, q', by simpa using h1, h2, h3⟩
      · exact Or.inr ⟨fun q' hq' => by
          rcases List.mem_cons.mp hq' with rfl | h
          · exact hq
          · exact h1 q' h, h2⟩
set_option maxHeartbeats 4000000 in
set_option maxRecDepth 100000 in
theorem zstep {α : Type} {rz : Bool} {rt : Option FieldType} {cs : List Nat} {E : Nat → zX α} {kr : Option Value → zM → Option α} {k : zK α} {res : α} (F : zFx p R s m args meth c cc nL HB b L xs aK aV G tc o ini fr lo n0 s0 nE sE) (hfine : ∀ q ∈ zMT, zfine q = true)
    (hret : zRet p l e R s m args below meth c cc nL HB b L xs aK G tc n0 s0 nE sE Q rz rt kr res)
    (hE : ∀ (i : Nat) (as : List Value) (S : zM) (k' : Option Value → zM → Option α), E i as S k' = some res → ∃ v S', k' v S' = some res ∧ zMet l HB b L xs aK aV G tc (zcal cs i) as S v S')
    {pc : Nat} {en : zE} (hok : zokB o cs ini fr lo nL rz rt cc (pc, en) = true) {lv : zV} {st : List Value} {S : zM} (h : zst rz E en lv st S k kr = some res)
    (hk : ∀ pc lv st S, k pc lv st S = some res → yzGo p l e R s m args below meth c nL HB b L xs aK G tc n0 s0 nE sE Q pc lv st S) :
    yzGo p l e R s m args below meth c nL HB b L xs aK G tc n0 s0 nE sE Q pc lv st S := by
  obtain ⟨F0', hK, hini, hfr, hlo, hE1, hE2, h9⟩ := F
  obtain ⟨hx, hb, hml, hown, hts⟩ := id F0'
  obtain ⟨i, np, r1, r2, r3, v, w, ts⟩ := en
  unfold zokB at hok
  rw [Bool.and_eq_true] at hok
  obtain ⟨hd, ho⟩ := hok
  cases i
  case iconst n =>
    simp only [Bool.and_eq_true, decide_eq_true_eq] at hd
    obtain ⟨hd, rfl⟩ := hd
    simp only [zokI, decide_eq_true_eq] at ho
    exact zGo_pure (hk _ _ _ _ h) (fun H ls locs cells slots hH hlc hls kk => lv_iconst hx hb hd ho kk)
  case bipush n =>
    simp only [Bool.and_eq_true, decide_eq_true_eq] at hd
    obtain ⟨hd, rfl⟩ := hd
    simp only [zokI, decide_eq_true_eq] at ho
    exact zGo_pure (hk _ _ _ _ h) (fun H ls locs cells slots hH hlc hls kk => lv_bipush hx hb hd ho kk)
  case sipush n =>
    simp only [Bool.and_eq_true, decide_eq_true_eq] at hd
    obtain ⟨hd, rfl⟩ := hd
    simp only [zokI, decide_eq_true_eq] at ho
    exact zGo_pure (hk _ _ _ _ h) (fun H ls locs cells slots hH hlc hls kk => lv_sipush hx hb hd ho kk)
  case lconst n =>
    simp only [Bool.and_eq_true, decide_eq_true_eq] at hd
    obtain ⟨hd, rfl⟩ := hd
    simp only [zokI, decide_eq_true_eq] at ho
    exact zGo_pure (hk _ _ _ _ h) (fun H ls locs cells slots hH hlc hls kk => lv_lconst hx hb hd ho kk)
  case ldc_w n =>
    simp only [Bool.and_eq_true, decide_eq_true_eq] at hd
    obtain ⟨hd, rfl⟩ := hd
    simp only [zokI, decide_eq_true_eq] at ho
    exact zGo_pure (hk _ _ _ _ h) (fun H ls locs cells slots hH hlc hls kk => lv_ldcw hx hb hown (hts _ (zTg (zLK_ok _ ho) rfl)) hd kk)
  case ldc2_w n =>
    simp only [Bool.and_eq_true, decide_eq_true_eq] at hd
    obtain ⟨hd, rfl⟩ := hd
    simp only [zokI, decide_eq_true_eq] at ho
    exact zGo_pure (hk _ _ _ _ h) (fun H ls locs cells slots hH hlc hls kk => lv_ldc2 hx hb hown (hts _ (zTg (zLJ_ok _ ho) rfl)) hd kk)
  case ldc n =>
    simp only [Bool.and_eq_true, decide_eq_true_eq] at hd
    obtain ⟨hd, rfl⟩ := hd
    simp only [zokI] at ho
    cases hr : Nat.beq r1 1 with
    | false =>
      rw [hr, cond_false, decide_eq_true_eq] at ho
      have h' : k (pc + zln (.ldc n)) lv (.int v :: st) S = some res := by simp only [zst, hr, cond_false] at h; exact h
      exact zGo_pure (hk _ _ _ _ h') (fun H ls locs cells slots hH hlc hls kk => lv_ldc hx hb hown (hts _ (zTg (zLK_ok _ ho) rfl)) hd kk)
    | true =>
      rw [hr, cond_true, decide_eq_true_eq] at ho
      have h' : k (pc + zln (.ldc n)) lv (.ref (1000000 + r2) :: st) S = some res := by simp only [zst, hr, cond_true] at h; exact h
      have hs : ∃ tx, (zow.getD o "", n, tx, r2) ∈ zstrs := by
        have hq : ∀ q ∈ zLS, ∃ tx, (zow.getD q.1 "", q.2.1, tx, q.2.2) ∈ zstrs := by
          unfold zLS
          simp only [List.forall_mem_cons]
          simp [zstrs, zow, RX7, RX11, RX12]
        exact hq _ ho
      obtain ⟨tx, hs⟩ := hs
      have hR := hK.2.2.1 _ hs
      have had : zad HB b aK (1000000 + r2) = aK r2 := by
        unfold zad
        rw [if_neg (by omega), if_neg (by omega), show 1000000 + r2 - 1000000 = r2 by omega]
      refine zGo_pure (hk _ _ _ _ h') (fun H ls locs cells slots hH hlc hls kk => va_ldcS hx hb hown hR hd ?_)
      have e1 : yzcv (zad HB b aK) (.ref (1000000 + r2)) = .ref (aK r2) := by show Value.ref _ = _; rw [had]
      rw [List.map_cons, e1] at kk
      exact kk
  case aconst_null =>
    simp only [Bool.and_eq_true, decide_eq_true_eq] at hd
    obtain ⟨hd, rfl⟩ := hd
    exact zGo_pure (hk _ _ _ _ h) (fun H ls locs cells slots hH hlc hls kk => lv_null hx hb hd kk)
  case iload n =>
    simp only [Bool.and_eq_true, decide_eq_true_eq] at hd
    obtain ⟨hd, rfl⟩ := hd
    simp only [zokI, decide_eq_true_eq] at ho
    subst ho
    simp only [zst] at h
    split at h
    · rename_i x hx'
      exact zGo_pure (hk _ _ _ _ h) (fun H ls locs cells slots hH hlc hls kk => lv_iload hx hb hd (zas_at hls hx') kk)
    · cases h
  case lload n =>
    simp only [Bool.and_eq_true, decide_eq_true_eq] at hd
    obtain ⟨hd, rfl⟩ := hd
    simp only [zokI, decide_eq_true_eq] at ho
    subst ho
    simp only [zst] at h
    split at h
    · rename_i x hx'
      exact zGo_pure (hk _ _ _ _ h) (fun H ls locs cells slots hH hlc hls kk => lv_lload hx hb hd (zas_at hls hx') kk)
    · cases h
  case iload_n n =>
    simp only [Bool.and_eq_true, decide_eq_true_eq] at hd
    obtain ⟨hd, rfl⟩ := hd
    simp only [zokI, decide_eq_true_eq] at ho
    subst ho
    simp only [zst] at h
    split at h
    · rename_i x hx'
      exact zGo_pure (hk _ _ _ _ h) (fun H ls locs cells slots hH hlc hls kk => lv_iload_n hx hb hd rfl (zas_at hls hx') kk)
    · cases h
  case lload_n n =>
    simp only [Bool.and_eq_true, decide_eq_true_eq] at hd
    obtain ⟨hd, rfl⟩ := hd
    simp only [zokI, decide_eq_true_eq] at ho
    subst ho
    simp only [zst] at h
    split at h
    · rename_i x hx'
      exact zGo_pure (hk _ _ _ _ h) (fun H ls locs cells slots hH hlc hls kk => lv_lload_n hx hb hd rfl (zas_at hls hx') kk)
    · cases h
  case aload n =>
    simp only [Bool.and_eq_true, decide_eq_true_eq] at hd
    obtain ⟨hd, rfl⟩ := hd
    simp only [zokI, decide_eq_true_eq] at ho
    subst ho
    simp only [zst] at h
    split at h
    · rename_i x hx'
      exact zGo_pure (hk _ _ _ _ h) (fun H ls locs cells slots hH hlc hls kk => lv_aload hx hb hd (zas_at hls hx') kk)
    · rename_i hx'
      exact zGo_pure (hk _ _ _ _ h) (fun H ls locs cells slots hH hlc hls kk => lv_aloadN hx hb hd (zas_at hls hx') kk)
    · cases h
  case aload_n n =>
    simp only [Bool.and_eq_true, decide_eq_true_eq] at hd
    obtain ⟨hd, rfl⟩ := hd
    simp only [zokI, decide_eq_true_eq] at ho
    subst ho
    simp only [zst] at h
    split at h
    · rename_i x hx'
      exact zGo_pure (hk _ _ _ _ h) (fun H ls locs cells slots hH hlc hls kk => lv_aload_n hx hb hd rfl (zas_at hls hx') kk)
    · rename_i hx'
      exact zGo_pure (hk _ _ _ _ h) (fun H ls locs cells slots hH hlc hls kk => lv_aload_nN hx hb hd rfl (zas_at hls hx') kk)
    · cases h
  case istore n =>
    simp only [Bool.and_eq_true, decide_eq_true_eq] at hd
    obtain ⟨hd, rfl⟩ := hd
    simp only [zokI, Bool.and_eq_true, decide_eq_true_eq] at ho
    obtain ⟨rfl, hn⟩ := ho
    simp only [zst] at h
    split at h
    · exact zGo_loc (hk _ _ _ _ h) (fun H ls locs cells slots hH hls kk => lv_istore hx hb hd hls hn rfl (fun ls' hl' => kk ls' (zset_has hl')))
    · cases h
  case istore_n n =>
    simp only [Bool.and_eq_true, decide_eq_true_eq] at hd
    obtain ⟨hd, rfl⟩ := hd
    simp only [zokI, Bool.and_eq_true, decide_eq_true_eq] at ho
    obtain ⟨rfl, hn⟩ := ho
    simp only [zst] at h
    split at h
    · exact zGo_loc (hk _ _ _ _ h) (fun H ls locs cells slots hH hls kk => lv_istore_n hx hb hd rfl hls hn rfl (fun ls' hl' => kk ls' (zset_has hl')))
    · cases h
  case lstore n =>
    simp only [Bool.and_eq_true, decide_eq_true_eq] at hd
    obtain ⟨hd, rfl⟩ := hd
    simp only [zokI, Bool.and_eq_true, decide_eq_true_eq] at ho
    obtain ⟨rfl, hn⟩ := ho
    simp only [zst] at h
    split at h
    · exact zGo_loc (hk _ _ _ _ h) (fun H ls locs cells slots hH hls kk => lv_lstore hx hb hd hls hn rfl (fun ls' hl' => kk ls' (zset2_has hl')))
    · cases h
  case lstore_n n =>
    simp only [Bool.and_eq_true, decide_eq_true_eq] at hd
    obtain ⟨hd, rfl⟩ := hd
    simp only [zokI, Bool.and_eq_true, decide_eq_true_eq] at ho
    obtain ⟨rfl, hn⟩ := ho
    simp only [zst] at h
    split at h
    · exact zGo_loc (hk _ _ _ _ h) (fun H ls locs cells slots hH hls kk => lv_lstore_n hx hb hd rfl hls hn rfl (fun ls' hl' => kk ls' (zset2_has hl')))
    · cases h
  case astore n =>
    simp only [Bool.and_eq_true, decide_eq_true_eq] at hd
    obtain ⟨hd, rfl⟩ := hd
    simp only [zokI, Bool.and_eq_true, decide_eq_true_eq] at ho
    obtain ⟨rfl, hn⟩ := ho
    simp only [zst] at h
    split at h
    · exact zGo_loc (hk _ _ _ _ h) (fun H ls locs cells slots hH hls kk => lv_astore hx hb hd hls hn rfl (fun ls' hl' => kk ls' (zset_has (ad := zad HB b aK) hl')))
    · exact zGo_loc (hk _ _ _ _ h) (fun H ls locs cells slots hH hls kk => lv_astoreN hx hb hd hls hn rfl (fun ls' hl' => kk ls' (zset_has (ad := zad HB b aK) hl')))
    · cases h
  case astore_n n =>
    simp only [Bool.and_eq_true, decide_eq_true_eq] at hd
    obtain ⟨hd, rfl⟩ := hd
    simp only [zokI, Bool.and_eq_true, decide_eq_true_eq] at ho
    obtain ⟨rfl, hn⟩ := ho
    simp only [zst] at h
    split at h
    · exact zGo_loc (hk _ _ _ _ h) (fun H ls locs cells slots hH hls kk => lv_astore_n hx hb hd rfl hls hn rfl (fun ls' hl' => kk ls' (zset_has (ad := zad HB b aK) hl')))
    · exact zGo_loc (hk _ _ _ _ h) (fun H ls locs cells slots hH hls kk => lv_astore_nN hx hb hd rfl hls hn rfl (fun ls' hl' => kk ls' (zset_has (ad := zad HB b aK) hl')))
    · cases h
  case iinc n d =>
    simp only [Bool.and_eq_true, decide_eq_true_eq] at hd
    obtain ⟨hd, rfl⟩ := hd
    simp only [zokI, Bool.and_eq_true, decide_eq_true_eq] at ho
    obtain ⟨⟨rfl, hn⟩, rfl⟩ := ho
    simp only [zst] at h
    split at h
    · rename_i x hx'
      refine zGo_loc (hk _ _ _ _ h) (fun H ls locs cells slots hH hls kk => ?_)
      obtain ⟨kq, hkq⟩ : ∃ kq : Nat, (zas (zad HB b aK) 0 lv)[kq]? = some (n, Value.int x) := by
        apply List.getElem?_of_mem
        refine (zas_mem lv 0 (n, .int x)).mpr ⟨n, .int x, ?_, by rw [Nat.zero_add]; rfl⟩
        unfold zget at hx'
        cases hq : lv[n]? with
        | none => rw [hq] at hx'; cases hx'
        | some u => rw [hq] at hx'; simp only at hx'; rw [hx']
      exact lv_iinc hx hb hd hls hkq rfl hn rfl (fun ls' hl' => kk ls' (zset_has (ad := zad HB b aK) hl'))
    · cases h
  case iadd =>
    simp only [Bool.and_eq_true, decide_eq_true_eq] at hd
    obtain ⟨hd, rfl⟩ := hd
    simp only [zst] at h
    obtain ⟨x, y, r, rfl, h⟩ := zi2_spec h
    exact zGo_pure (hk _ _ _ _ h) (fun H ls locs cells slots hH hlc hls kk => lv_iadd hx hb hd kk)
  case isub =>
    simp only [Bool.and_eq_true, decide_eq_true_eq] at hd
    obtain ⟨hd, rfl⟩ := hd
    simp only [zst] at h
    obtain ⟨x, y, r, rfl, h⟩ := zi2_spec h
    exact zGo_pure (hk _ _ _ _ h) (fun H ls locs cells slots hH hlc hls kk => lv_isub hx hb hd kk)
  case imul =>
    simp only [Bool.and_eq_true, decide_eq_true_eq] at hd
    obtain ⟨hd, rfl⟩ := hd
    simp only [zst] at h
    obtain ⟨x, y, r, rfl, h⟩ := zi2_spec h
    exact zGo_pure (hk _ _ _ _ h) (fun H ls locs cells slots hH hlc hls kk => lv_imul hx hb hd kk)
  case iand =>
    simp only [Bool.and_eq_true, decide_eq_true_eq] at hd
    obtain ⟨hd, rfl⟩ := hd
    simp only [zst] at h
    obtain ⟨x, y, r, rfl, h⟩ := zi2_spec h
    exact zGo_pure (hk _ _ _ _ h) (fun H ls locs cells slots hH hlc hls kk => lv_iand hx hb hd kk)
  case ior =>
    simp only [Bool.and_eq_true, decide_eq_true_eq] at hd
    obtain ⟨hd, rfl⟩ := hd
    simp only [zst] at h
    obtain ⟨x, y, r, rfl, h⟩ := zi2_spec h
    exact zGo_pure (hk _ _ _ _ h) (fun H ls locs cells slots hH hlc hls kk => lv_ior hx hb hd kk)
  case ixor =>
    simp only [Bool.and_eq_true, decide_eq_true_eq] at hd
    obtain ⟨hd, rfl⟩ := hd
    simp only [zst] at h
    obtain ⟨x, y, r, rfl, h⟩ := zi2_spec h
    exact zGo_pure (hk _ _ _ _ h) (fun H ls locs cells slots hH hlc hls kk => lv_ixor hx hb hd kk)
  case ishl =>
    simp only [Bool.and_eq_true, decide_eq_true_eq] at hd
    obtain ⟨hd, rfl⟩ := hd
    simp only [zst] at h
    obtain ⟨x, y, r, rfl, h⟩ := zi2_spec h
    exact zGo_pure (hk _ _ _ _ h) (fun H ls locs cells slots hH hlc hls kk => lv_ishl hx hb hd kk)
  case ishr =>
    simp only [Bool.and_eq_true, decide_eq_true_eq] at hd
    obtain ⟨hd, rfl⟩ := hd
    simp only [zst] at h
    obtain ⟨x, y, r, rfl, h⟩ := zi2_spec h
    exact zGo_pure (hk _ _ _ _ h) (fun H ls locs cells slots hH hlc hls kk => lv_ishr hx hb hd kk)
  case iushr =>
    simp only [Bool.and_eq_true, decide_eq_true_eq] at hd
    obtain ⟨hd, rfl⟩ := hd
    simp only [zst] at h
    obtain ⟨x, y, r, rfl, h⟩ := zi2_spec h
    exact zGo_pure (hk _ _ _ _ h) (fun H ls locs cells slots hH hlc hls kk => lv_iushr hx hb hd rfl kk)
  case ladd =>
    simp only [Bool.and_eq_true, decide_eq_true_eq] at hd
    obtain ⟨hd, rfl⟩ := hd
    simp only [zst] at h
    obtain ⟨x, y, r, rfl, h⟩ := zl2_spec h
    exact zGo_pure (hk _ _ _ _ h) (fun H ls locs cells slots hH hlc hls kk => lv_ladd hx hb hd kk)
  case lsub =>
    simp only [Bool.and_eq_true, decide_eq_true_eq] at hd
    obtain ⟨hd, rfl⟩ := hd
    simp only [zst] at h
    obtain ⟨x, y, r, rfl, h⟩ := zl2_spec h
    exact zGo_pure (hk _ _ _ _ h) (fun H ls locs cells slots hH hlc hls kk => lv_lsub hx hb hd kk)
  case lmul =>
    simp only [Bool.and_eq_true, decide_eq_true_eq] at hd
    obtain ⟨hd, rfl⟩ := hd
    simp only [zst] at h
    obtain ⟨x, y, r, rfl, h⟩ := zl2_spec h
    exact zGo_pure (hk _ _ _ _ h) (fun H ls locs cells slots hH hlc hls kk => lv_lmul hx hb hd kk)
  case land =>
    simp only [Bool.and_eq_true, decide_eq_true_eq] at hd
    obtain ⟨hd, rfl⟩ := hd
    simp only [zst] at h
    obtain ⟨x, y, r, rfl, h⟩ := zl2_spec h
    exact zGo_pure (hk _ _ _ _ h) (fun H ls locs cells slots hH hlc hls kk => lv_land hx hb hd kk)
  case lor =>
    simp only [Bool.and_eq_true, decide_eq_true_eq] at hd
    obtain ⟨hd, rfl⟩ := hd
    simp only [zst] at h
    obtain ⟨x, y, r, rfl, h⟩ := zl2_spec h
    exact zGo_pure (hk _ _ _ _ h) (fun H ls locs cells slots hH hlc hls kk => lv_lor hx hb hd kk)
  case lshl =>
    simp only [Bool.and_eq_true, decide_eq_true_eq] at hd
    obtain ⟨hd, rfl⟩ := hd
    simp only [zst] at h
    obtain ⟨x, y, r, rfl, h⟩ := zsh_spec h
    exact zGo_pure (hk _ _ _ _ h) (fun H ls locs cells slots hH hlc hls kk => lv_lshl hx hb hd rfl kk)
  case lshr =>
    simp only [Bool.and_eq_true, decide_eq_true_eq] at hd
    obtain ⟨hd, rfl⟩ := hd
    simp only [zst] at h
    obtain ⟨x, y, r, rfl, h⟩ := zsh_spec h
    exact zGo_pure (hk _ _ _ _ h) (fun H ls locs cells slots hH hlc hls kk => lv_lshr hx hb hd rfl kk)
  case lushr =>
    simp only [Bool.and_eq_true, decide_eq_true_eq] at hd
    obtain ⟨hd, rfl⟩ := hd
    simp only [zst] at h
    obtain ⟨x, y, r, rfl, h⟩ := zsh_spec h
    exact zGo_pure (hk _ _ _ _ h) (fun H ls locs cells slots hH hlc hls kk => lv_lushr hx hb hd rfl kk)
  case idiv =>
    simp only [Bool.and_eq_true, decide_eq_true_eq] at hd
    obtain ⟨hd, rfl⟩ := hd
    simp only [zst] at h
    split at h
    · split at h
      · cases h
      · rename_i hne
        exact zGo_pure (hk _ _ _ _ h) (fun H ls locs cells slots hH hlc hls kk => lv_idiv hx hb hd hne kk)
    · cases h
  case irem =>
    simp only [Bool.and_eq_true, decide_eq_true_eq] at hd
    obtain ⟨hd, rfl⟩ := hd
    simp only [zst] at h
    split at h
    · split at h
      · cases h
      · rename_i hne
        exact zGo_pure (hk _ _ _ _ h) (fun H ls locs cells slots hH hlc hls kk => lv_irem hx hb hd hne kk)
    · cases h
  case ineg =>
    simp only [Bool.and_eq_true, decide_eq_true_eq] at hd
    obtain ⟨hd, rfl⟩ := hd
    simp only [zst] at h
    split at h
    · exact zGo_pure (hk _ _ _ _ h) (fun H ls locs cells slots hH hlc hls kk => lv_ineg hx hb hd kk)
    · cases h
  case i2l =>
    simp only [Bool.and_eq_true, decide_eq_true_eq] at hd
    obtain ⟨hd, rfl⟩ := hd
    simp only [zst] at h
    split at h
    · exact zGo_pure (hk _ _ _ _ h) (fun H ls locs cells slots hH hlc hls kk => lv_i2l hx hb hd rfl kk)
    · cases h
  case l2i =>
    simp only [Bool.and_eq_true, decide_eq_true_eq] at hd
    obtain ⟨hd, rfl⟩ := hd
    simp only [zst] at h
    split at h
    · exact zGo_pure (hk _ _ _ _ h) (fun H ls locs cells slots hH hlc hls kk => lv_l2i hx hb hd rfl kk)
    · cases h
  case lcmp =>
    simp only [Bool.and_eq_true, decide_eq_true_eq] at hd
    obtain ⟨hd, rfl⟩ := hd
    simp only [zst] at h
    split at h
    · exact zGo_pure (hk _ _ _ _ h) (fun H ls locs cells slots hH hlc hls kk => W.lcmp hx hb hd kk)
    · cases h
  case dup2 =>
    simp only [Bool.and_eq_true, decide_eq_true_eq] at hd
    obtain ⟨hd, rfl⟩ := hd
    simp only [zst] at h
    split at h
    · exact zGo_pure (hk _ _ _ _ h) (fun H ls locs cells slots hH hlc hls kk => lv_dup2_11 hx hb hd rfl rfl kk)
    · cases h
  case dup =>
    simp only [Bool.and_eq_true, decide_eq_true_eq] at hd
    obtain ⟨hd, rfl⟩ := hd
    simp only [zst] at h
    split at h
    · exact zGo_pure (hk _ _ _ _ h) (fun H ls locs cells slots hH hlc hls kk => lv_dup hx hb hd rfl kk)
    · exact zGo_pure (hk _ _ _ _ h) (fun H ls locs cells slots hH hlc hls kk => lv_dup hx hb hd rfl kk)
    · cases h
  case pop =>
    simp only [Bool.and_eq_true, decide_eq_true_eq] at hd
    obtain ⟨hd, rfl⟩ := hd
    simp only [zst] at h
    split at h
    · exact zGo_pure (hk _ _ _ _ h) (fun H ls locs cells slots hH hlc hls kk => lv_pop hx hb hd rfl kk)
    · exact zGo_pure (hk _ _ _ _ h) (fun H ls locs cells slots hH hlc hls kk => lv_pop hx hb hd rfl kk)
    · cases h
  case goto f =>
    simp only [Bool.and_eq_true, decide_eq_true_eq] at hd
    obtain ⟨hd, rfl⟩ := hd
    simp only [zokI, decide_eq_true_eq] at ho
    exact zGo_pure (hk _ _ _ _ h) (fun H ls locs cells slots hH hlc hls kk => lv_goto hx hb hd ho kk)
  case ifCond c' f =>
    simp only [Bool.and_eq_true, decide_eq_true_eq] at hd
    obtain ⟨hd, rfl⟩ := hd
    simp only [zokI, decide_eq_true_eq] at ho
    simp only [zst] at h
    split at h
    · cases c'
      · simp only [zbr] at h
        split at h
        · rename_i q
          exact zGo_pure (hk _ _ _ _ h) (fun H ls locs cells slots hH hlc hls kk => lv_if_eq hx hb hd ho (fun _ => kk) (fun z => absurd q z))
        · rename_i q
          exact zGo_pure (hk _ _ _ _ h) (fun H ls locs cells slots hH hlc hls kk => lv_if_eq hx hb hd ho (fun z => absurd z q) (fun _ => kk))
      · simp only [zbr] at h
        split at h
        · rename_i q
          exact zGo_pure (hk _ _ _ _ h) (fun H ls locs cells slots hH hlc hls kk => lv_if_ne hx hb hd ho (fun z => absurd q z) (fun _ => kk))
        · rename_i q
          exact zGo_pure (hk _ _ _ _ h) (fun H ls locs cells slots hH hlc hls kk => lv_if_ne hx hb hd ho (fun _ => kk) (fun z => absurd z q))
      · simp only [zbr] at h
        split at h
        · rename_i q
          exact zGo_pure (hk _ _ _ _ h) (fun H ls locs cells slots hH hlc hls kk => lv_if_lt hx hb hd ho (fun _ => kk) (fun z => absurd q z))
        · rename_i q
          exact zGo_pure (hk _ _ _ _ h) (fun H ls locs cells slots hH hlc hls kk => lv_if_lt hx hb hd ho (fun z => absurd z q) (fun _ => kk))
      · simp only [zbr] at h
        split at h
        · rename_i q
          exact zGo_pure (hk _ _ _ _ h) (fun H ls locs cells slots hH hlc hls kk => lv_if_ge hx hb hd ho (fun z => absurd (Int32.not_lt.mpr z) (not_not_intro q)) (fun _ => kk))
        · rename_i q
          exact zGo_pure (hk _ _ _ _ h) (fun H ls locs cells slots hH hlc hls kk => lv_if_ge hx hb hd ho (fun _ => kk) (fun z => absurd (Int32.not_lt.mp q) z))
      · simp only [zbr] at h
        split at h
        · rename_i q
          exact zGo_pure (hk _ _ _ _ h) (fun H ls locs cells slots hH hlc hls kk => lv_if_gt hx hb hd ho (fun z => absurd (Int32.not_le.mpr z) (not_not_intro q)) (fun _ => kk))
        · rename_i q
          exact zGo_pure (hk _ _ _ _ h) (fun H ls locs cells slots hH hlc hls kk => lv_if_gt hx hb hd ho (fun _ => kk) (fun z => absurd (Int32.not_le.mp q) z))
      · simp only [zbr] at h
        split at h
        · rename_i q
          exact zGo_pure (hk _ _ _ _ h) (fun H ls locs cells slots hH hlc hls kk => lv_if_le hx hb hd ho (fun _ => kk) (fun z => absurd q z))
        · rename_i q
          exact zGo_pure (hk _ _ _ _ h) (fun H ls locs cells slots hH hlc hls kk => lv_if_le hx hb hd ho (fun z => absurd z q) (fun _ => kk))
    · cases h
  case if_icmp c' f =>
    simp only [Bool.and_eq_true, decide_eq_true_eq] at hd
    obtain ⟨hd, rfl⟩ := hd
    simp only [zokI, decide_eq_true_eq] at ho
    simp only [zst] at h
    split at h
    · cases c'
      · simp only [zbr] at h
        split at h
        · rename_i q
          exact zGo_pure (hk _ _ _ _ h) (fun H ls locs cells slots hH hlc hls kk => lv_icmp_eq hx hb hd ho (fun _ => kk) (fun z => absurd q z))
        · rename_i q
          exact zGo_pure (hk _ _ _ _ h) (fun H ls locs cells slots hH hlc hls kk => lv_icmp_eq hx hb hd ho (fun z => absurd z q) (fun _ => kk))
      · simp only [zbr] at h
        split at h
        · rename_i q
          exact zGo_pure (hk _ _ _ _ h) (fun H ls locs cells slots hH hlc hls kk => lv_icmp_ne hx hb hd ho (fun z => absurd q z) (fun _ => kk))
        · rename_i q
          exact zGo_pure (hk _ _ _ _ h) (fun H ls locs cells slots hH hlc hls kk => lv_icmp_ne hx hb hd ho (fun _ => kk) (fun z => absurd z q))
      · simp only [zbr] at h
        split at h
        · rename_i q
          exact zGo_pure (hk _ _ _ _ h) (fun H ls locs cells slots hH hlc hls kk => lv_icmp_lt hx hb hd ho (fun _ => kk) (fun z => absurd q z))
        · rename_i q
          exact zGo_pure (hk _ _ _ _ h) (fun H ls locs cells slots hH hlc hls kk => lv_icmp_lt hx hb hd ho (fun z => absurd z q) (fun _ => kk))
      · simp only [zbr] at h
        split at h
        · rename_i q
          exact zGo_pure (hk _ _ _ _ h) (fun H ls locs cells slots hH hlc hls kk => lv_icmp_ge hx hb hd ho (fun z => absurd (Int32.not_lt.mpr z) (not_not_intro q)) (fun _ => kk))
        · rename_i q
          exact zGo_pure (hk _ _ _ _ h) (fun H ls locs cells slots hH hlc hls kk => lv_icmp_ge hx hb hd ho (fun _ => kk) (fun z => absurd (Int32.not_lt.mp q) z))
      · simp only [zbr] at h
        split at h
        · rename_i q
          exact zGo_pure (hk _ _ _ _ h) (fun H ls locs cells slots hH hlc hls kk => lv_icmp_gt hx hb hd ho (fun z => absurd (Int32.not_le.mpr z) (not_not_intro q)) (fun _ => kk))
        · rename_i q
          exact zGo_pure (hk _ _ _ _ h) (fun H ls locs cells slots hH hlc hls kk => lv_icmp_gt hx hb hd ho (fun _ => kk) (fun z => absurd (Int32.not_le.mp q) z))
      · simp only [zbr] at h
        split at h
        · rename_i q
          exact zGo_pure (hk _ _ _ _ h) (fun H ls locs cells slots hH hlc hls kk => lv_icmp_le hx hb hd ho (fun _ => kk) (fun z => absurd q z))
        · rename_i q
          exact zGo_pure (hk _ _ _ _ h) (fun H ls locs cells slots hH hlc hls kk => lv_icmp_le hx hb hd ho (fun z => absurd z q) (fun _ => kk))
    · cases h
  case ifnull f =>
    simp only [Bool.and_eq_true, decide_eq_true_eq] at hd
    obtain ⟨hd, rfl⟩ := hd
    simp only [zokI, decide_eq_true_eq] at ho
    simp only [zst] at h
    split at h
    · exact zGo_pure (hk _ _ _ _ h) (fun H ls locs cells slots hH hlc hls kk => lv_ifnull hx hb hd kk)
    · exact zGo_pure (hk _ _ _ _ h) (fun H ls locs cells slots hH hlc hls kk => lv_ifnullN hx hb hd ho kk)
    · cases h
  case ifnonnull f =>
    simp only [Bool.and_eq_true, decide_eq_true_eq] at hd
    obtain ⟨hd, rfl⟩ := hd
    simp only [zokI, decide_eq_true_eq] at ho
    simp only [zst] at h
    split at h
    · exact zGo_pure (hk _ _ _ _ h) (fun H ls locs cells slots hH hlc hls kk => lv_ifnonnull hx hb hd ho kk)
    · exact zGo_pure (hk _ _ _ _ h) (fun H ls locs cells slots hH hlc hls kk => lv_ifnonnullN hx hb hd kk)
    · cases h
  case ireturn =>
    simp only [Bool.and_eq_true, decide_eq_true_eq] at hd
    obtain ⟨hd, rfl⟩ := hd
    simp only [zokI] at ho
    simp only [zst] at h
    split at h
    · rename_i x
      cases rz with
      | true =>
        simp only [cond_true] at h
        split at h
        · rename_i h01
          exact ⟨(hret _ _ _ S pc hd (Or.inl ⟨rfl, x, rfl, rfl, fun _ => h01⟩) ⟨fun _ => by simpa using ho, (fun q => nomatch q), (fun q => nomatch q), (fun q => nomatch q)⟩ h).1, fun h1 h2 H ls locs hH hlc hls => (hret _ _ _ S pc hd (Or.inl ⟨rfl, x, rfl, rfl, fun _ => h01⟩) ⟨fun _ => by simpa using ho, (fun q => nomatch q), (fun q => nomatch q), (fun q => nomatch q)⟩ h).2 h1 h2 H ls locs hH hlc⟩
        · cases h
      | false =>
        simp only [cond_false] at h
        exact ⟨(hret _ _ _ S pc hd (Or.inl ⟨rfl, x, rfl, rfl, (fun q => nomatch q)⟩) ⟨fun _ => by simpa using ho, (fun q => nomatch q), (fun q => nomatch q), (fun q => nomatch q)⟩ h).1, fun h1 h2 H ls locs hH hlc hls => (hret _ _ _ S pc hd (Or.inl ⟨rfl, x, rfl, rfl, (fun q => nomatch q)⟩) ⟨fun _ => by simpa using ho, (fun q => nomatch q), (fun q => nomatch q), (fun q => nomatch q)⟩ h).2 h1 h2 H ls locs hH hlc⟩
    · cases h
  case lreturn =>
    simp only [Bool.and_eq_true, decide_eq_true_eq] at hd
    obtain ⟨hd, rfl⟩ := hd
    simp only [zokI] at ho
    simp only [zst] at h
    split at h
    · rename_i x
      exact ⟨(hret _ _ _ S pc hd (Or.inr (Or.inl ⟨rfl, x, rfl, rfl⟩)) ⟨(fun q => nomatch q), fun _ => by simpa using ho, (fun q => nomatch q), (fun q => nomatch q)⟩ h).1, fun h1 h2 H ls locs hH hlc hls => (hret _ _ _ S pc hd (Or.inr (Or.inl ⟨rfl, x, rfl, rfl⟩)) ⟨(fun q => nomatch q), fun _ => by simpa using ho, (fun q => nomatch q), (fun q => nomatch q)⟩ h).2 h1 h2 H ls locs hH hlc⟩
    · cases h
  case areturn =>
    simp only [Bool.and_eq_true, decide_eq_true_eq] at hd
    obtain ⟨hd, rfl⟩ := hd
    simp only [zokI] at ho
    simp only [zst] at h
    split at h
    · rename_i x
      have hrt : ∃ n, rt = some (.object n) := by
        split at ho
        · exact ⟨_, rfl⟩
        · cases ho
      exact ⟨(hret _ _ _ S pc hd (Or.inr (Or.inr (Or.inl ⟨rfl, Or.inl ⟨x, rfl, rfl⟩⟩))) ⟨(fun q => nomatch q), (fun q => nomatch q), fun _ => hrt, (fun q => nomatch q)⟩ h).1, fun h1 h2 H ls locs hH hlc hls => (hret _ _ _ S pc hd (Or.inr (Or.inr (Or.inl ⟨rfl, Or.inl ⟨x, rfl, rfl⟩⟩))) ⟨(fun q => nomatch q), (fun q => nomatch q), fun _ => hrt, (fun q => nomatch q)⟩ h).2 h1 h2 H ls locs hH hlc⟩
    · have hrt : ∃ n, rt = some (.object n) := by
        split at ho
        · exact ⟨_, rfl⟩
        · cases ho
      exact ⟨(hret _ _ _ S pc hd (Or.inr (Or.inr (Or.inl ⟨rfl, Or.inr ⟨rfl, rfl⟩⟩))) ⟨(fun q => nomatch q), (fun q => nomatch q), fun _ => hrt, (fun q => nomatch q)⟩ h).1, fun h1 h2 H ls locs hH hlc hls => (hret _ _ _ S pc hd (Or.inr (Or.inr (Or.inl ⟨rfl, Or.inr ⟨rfl, rfl⟩⟩))) ⟨(fun q => nomatch q), (fun q => nomatch q), fun _ => hrt, (fun q => nomatch q)⟩ h).2 h1 h2 H ls locs hH hlc⟩
    · cases h
  case return_ =>
    simp only [Bool.and_eq_true, decide_eq_true_eq] at hd
    obtain ⟨hd, rfl⟩ := hd
    simp only [zokI] at ho
    simp only [zst] at h
    split at h
    · exact ⟨(hret _ _ _ S pc hd (Or.inr (Or.inr (Or.inr ⟨rfl, rfl, rfl⟩))) ⟨(fun q => nomatch q), (fun q => nomatch q), (fun q => nomatch q), fun _ => by simpa using ho⟩ h).1, fun h1 h2 H ls locs hH hlc hls => (hret _ _ _ S pc hd (Or.inr (Or.inr (Or.inr ⟨rfl, rfl, rfl⟩))) ⟨(fun q => nomatch q), (fun q => nomatch q), (fun q => nomatch q), fun _ => by simpa using ho⟩ h).2 h1 h2 H ls locs hH hlc⟩
    · cases h
  case getfield idx =>
    simp only [Bool.and_eq_true, decide_eq_true_eq] at hd
    obtain ⟨hd, rfl⟩ := hd
    simp only [zokI, Bool.and_eq_true, decide_eq_true_eq, Bool.or_eq_true] at ho
    obtain ⟨⟨⟨hl, hci⟩, hfk⟩, hft⟩ := ho
    obtain ⟨C, T, N, ty, hC⟩ := zcls_ok r1 hci
    have hlink : (Cond.fieldLink (zow.getD o "") idx (T r2).1 (T r2).2.1 (T r2).2.2.1).before args s = true ∨ ∃ host, (Cond.fieldLinkNest (zow.getD o "") idx (T r2).1 (T r2).2.1 (T r2).2.2.1 host).before args s = true := hl.imp (fun q => zlF0 hts q hC) (fun q => zlF1 hK q hC)
    have hN : r2 < N := by rw [← hC.2.1]; exact hfk
    simp only [zst] at h
    split at h
    · rename_i a r
      cases h2 : Nat.beq r3 2 with
      | true =>
        rw [h2, cond_true] at h
        obtain ⟨q, hq, h⟩ := zbind h
        unfold zgr at hq
        split at hq
        · rename_i hkd
          have h1 : (zft.getD r1 []).getD r2 0 = 1 := hft.mpr (Or.inl (Nat.eq_of_beq_eq_true h2))
          refine zGo_pure (hk _ _ _ _ h) (fun H ls locs cells slots hH hlc hls kk => z_get hx hb hC hts hown hK hH hlink hci hN hkd hd ?_)
          have hv : zfv (zad HB b aK) S r1 a r2 = yzcv (zad HB b aK) (.ref q) := by
            unfold zfv
            rw [if_pos h1, hq]
            rfl
          rw [hv]
          exact kk
        · cases hq
      | false =>
        rw [h2, cond_false] at h
        cases h3 : Nat.beq r3 3 with
        | true =>
          rw [h3, cond_true] at h
          have h1 : (zft.getD r1 []).getD r2 0 = 1 := hft.mpr (Or.inr (Nat.eq_of_beq_eq_true h3))
          split at h
          · rename_i hkd
            split at h
            · rename_i q hq
              refine zGo_pure (hk _ _ _ _ h) (fun H ls locs cells slots hH hlc hls kk => z_get hx hb hC hts hown hK hH hlink hci hN hkd hd ?_)
              have hv : zfv (zad HB b aK) S r1 a r2 = yzcv (zad HB b aK) (.ref q) := by
                unfold zfv
                rw [if_pos h1, hq]
                rfl
              rw [hv]
              exact kk
            · rename_i hq
              refine zGo_pure (hk _ _ _ _ h) (fun H ls locs cells slots hH hlc hls kk => z_get hx hb hC hts hown hK hH hlink hci hN hkd hd ?_)
              have hv : zfv (zad HB b aK) S r1 a r2 = yzcv (zad HB b aK) .null := by
                unfold zfv
                rw [if_pos h1, hq]
                rfl
              rw [hv]
              exact kk
          · cases h
        | false =>
          rw [h3, cond_false] at h
          obtain ⟨q, hq, h⟩ := zbind h
          unfold zgf at hq
          split at hq
          · rename_i hkd
            cases hq
            refine zGo_pure (hk _ _ _ _ h) (fun H ls locs cells slots hH hlc hls kk => z_get hx hb hC hts hown hK hH hlink hci hN hkd hd ?_)
            have hv : zfv (zad HB b aK) S r1 a r2 = yzcv (zad HB b aK) (.int (zI S a r2)) := by
              unfold zfv
              rw [if_neg]
              · rfl
              · intro q
                rcases hft.mp q with rfl | rfl
                · cases h2
                · cases h3
            rw [hv]
            exact kk
          · cases hq
    · cases h
  case putfield idx =>
    simp only [Bool.and_eq_true, decide_eq_true_eq] at hd
    obtain ⟨hd, rfl⟩ := hd
    simp only [zokI, Bool.and_eq_true, decide_eq_true_eq, Bool.or_eq_true, Bool.not_eq_true'] at ho
    obtain ⟨⟨⟨⟨hl, hci⟩, hfk⟩, hft⟩, hfi⟩ := ho
    obtain ⟨C, T, N, ty, hC⟩ := zcls_ok r1 hci
    have hT : zT r1 = T := by
      unfold zT
      rw [List.getD_eq_getElem?_getD, hC.1]
      rfl
    rw [hT] at hl hfi
    have hlink : (Cond.fieldLink (zow.getD o "") idx (T r2).1 (T r2).2.1 (T r2).2.2.1).before args s = true ∨ ((T r2).2.2.2 = false ∧ ∃ host, (Cond.fieldLinkNest (zow.getD o "") idx (T r2).1 (T r2).2.1 (T r2).2.2.1 host).before args s = true) := by
      exact hl.imp (fun q => zlF0 hts q hC) (fun q => ⟨q.2, zlF1 hK q.1 hC⟩)
    have hN : r2 < N := by rw [← hC.2.1]; exact hfk
    have hfin : (T r2).2.2.2 = false ∨ (meth.name = "<init>" ∧ C = zow.getD o "") := by
      rcases hfi with hfi | ⟨h1, h2⟩
      · exact Or.inl hfi
      · exact Or.inr ⟨hini h1, by rw [← h2]; exact hC.2.2.1.symm⟩
    have h7 := hC.2.2.2.2.2.2.1 r2 hN
    rw [hft] at h7
    simp only [zst] at h
    split at h
    · rename_i x a r
      cases hr1 : Nat.beq r3 1 with
      | true =>
        rw [hr1, cond_true] at h
        have := Nat.eq_of_beq_eq_true hr1
        subst this
        simp only at h7
        obtain ⟨S1, hq, h⟩ := zbind h
        unfold zpz at hq
        split at hq
        · rename_i hc
          obtain ⟨hkd, h01⟩ := hc
          cases hq
          have hty : ty r2 = .boolean := by
            cases hq : ty r2 <;> rw [hq] at h7 <;> simp at h7
          refine zGo_mem (hk _ _ _ _ h) rfl rfl (fun H ls locs cells slots hH hlc hls kk => z_put hx hb hC hts hown hK hH hlc hlink hci hN hkd hfin (v := .int x) (S' := zwI S a r2 x) (by rw [hty]; rcases h01 with rfl | rfl <;> rfl) (by rw [hty]; rcases h01 with rfl | rfl <;> rfl) rfl rfl ?_ ?_ ?_ (zok_wI hH.2.2.2 (by have := hH.2.2.2.pos hkd (by omega); omega) (hH.2.2.2.le hkd (by omega))) hd kk)
          · unfold zfv
            rw [if_neg (by rw [hft]; decide)]
            show Value.int (z2 S.1 a r2 x a r2) = _
            rw [z2_at]
          · intro j hj
            unfold zfv
            show (if _ then va_rf ((zR S a j).map _) else Value.int (z2 S.1 a r2 x a j)) = _
            rw [z2_at_ne hj]
            rfl
          · exact fun j hj => zent_congr rfl (z2_ne hj) rfl rfl
        · cases hq
      | false =>
        rw [hr1, cond_false] at h
        cases hr0 : Nat.beq r3 0 with
        | false => rw [hr0, cond_false] at h; cases h
        | true =>
          rw [hr0, cond_true] at h
          have := Nat.eq_of_beq_eq_true hr0
          subst this
          simp only at h7
          obtain ⟨S1, hq, h⟩ := zbind h
          unfold zpf at hq
          split at hq
          · rename_i hkd
            cases hq
            have hty : ty r2 = .int := by
              cases hq : ty r2 <;> rw [hq] at h7 <;> simp at h7
            refine zGo_mem (hk _ _ _ _ h) rfl rfl (fun H ls locs cells slots hH hlc hls kk => z_put hx hb hC hts hown hK hH hlc hlink hci hN hkd hfin (v := .int x) (S' := zwI S a r2 x) (by rw [hty]; rfl) (by rw [hty]; rfl) rfl rfl ?_ ?_ ?_ (zok_wI hH.2.2.2 (by have := hH.2.2.2.pos hkd (by omega); omega) (hH.2.2.2.le hkd (by omega))) hd kk)
            · unfold zfv
              rw [if_neg (by rw [hft]; decide)]
              show Value.int (z2 S.1 a r2 x a r2) = _
              rw [z2_at]
            · intro j hj
              unfold zfv
              show (if _ then va_rf ((zR S a j).map _) else Value.int (z2 S.1 a r2 x a j)) = _
              rw [z2_at_ne hj]
              rfl
            · exact fun j hj => zent_congr rfl (z2_ne hj) rfl rfl
          · cases hq
    · rename_i q a r
      cases hr2 : Nat.beq r3 2 with
      | false => rw [hr2, cond_false] at h; cases h
      | true =>
        rw [hr2, cond_true] at h
        have := Nat.eq_of_beq_eq_true hr2
        subst this
        simp only at h7
        obtain ⟨S1, hq, h⟩ := zbind h
        unfold zpr at hq
        split at hq
        · rename_i hkd
          cases hq
          refine zGo_mem (hk _ _ _ _ h) rfl rfl (fun H ls locs cells slots hH hlc hls kk => z_put hx hb hC hts hown hK hH hlc hlink hci hN hkd hfin (v := .ref (zad HB b aK q)) (S' := zwR S a r2 (some q)) (by cases hq : ty r2 <;> rfl) (by cases hq : ty r2 <;> rw [hq] at h7 <;> first | rfl | simp at h7) rfl rfl ?_ ?_ ?_ (zok_wR hH.2.2.2 (hH.2.2.2.le hkd (by omega))) hd kk)
          · unfold zfv
            rw [if_pos (show (zft.getD r1 []).getD r2 0 = 1 from hft)]
            show va_rf ((z2 S.2.2.1 a r2 (some q) a r2).map _) = _
            rw [z2_at]
            rfl
          · intro j hj
            unfold zfv
            show (if _ then va_rf ((z2 S.2.2.1 a r2 (some q) a j).map _) else Value.int (zI S a j)) = _
            rw [z2_at_ne hj]
            rfl
          · exact fun j hj => zent_congr rfl rfl rfl (z2_ne hj)
        · cases hq
    · rename_i a r
      cases hr2 : Nat.beq r3 2 with
      | false => rw [hr2, cond_false] at h; cases h
      | true =>
        rw [hr2, cond_true] at h
        have := Nat.eq_of_beq_eq_true hr2
        subst this
        simp only at h7
        obtain ⟨S1, hq, h⟩ := zbind h
        unfold zpr at hq
        split at hq
        · rename_i hkd
          cases hq
          refine zGo_mem (hk _ _ _ _ h) rfl rfl (fun H ls locs cells slots hH hlc hls kk => z_put hx hb hC hts hown hK hH hlc hlink hci hN hkd hfin (v := .null) (S' := zwR S a r2 none) (by cases hq : ty r2 <;> rfl) (by cases hq : ty r2 <;> rw [hq] at h7 <;> first | rfl | simp at h7) rfl rfl ?_ ?_ ?_ (zok_wR hH.2.2.2 (hH.2.2.2.le hkd (by omega))) hd kk)
          · unfold zfv
            rw [if_pos (show (zft.getD r1 []).getD r2 0 = 1 from hft)]
            show va_rf ((z2 S.2.2.1 a r2 none a r2).map _) = _
            rw [z2_at]
            rfl
          · intro j hj
            unfold zfv
            show (if _ then va_rf ((z2 S.2.2.1 a r2 none a j).map _) else Value.int (zI S a j)) = _
            rw [z2_at_ne hj]
            rfl
          · exact fun j hj => zent_congr rfl rfl rfl (z2_ne hj)
        · cases hq
    · cases h
  case iaload =>
    simp only [Bool.and_eq_true, decide_eq_true_eq] at hd
    obtain ⟨hd, rfl⟩ := hd
    simp only [zst] at h
    split at h
    · rename_i i a r
      obtain ⟨x, hq, h⟩ := zbind h
      unfold zga at hq
      split at hq
      · rename_i hc
        cases hq
        exact zGo_pure (hk _ _ _ _ h) (fun H ls locs cells slots hH hlc hls kk => z_iald hx hb hK hH hlc hc.1 hc.2 hd kk)
      · cases hq
    · cases h
  case baload =>
    simp only [Bool.and_eq_true, decide_eq_true_eq] at hd
    obtain ⟨hd, rfl⟩ := hd
    simp only [zst] at h
    split at h
    · rename_i i a r
      obtain ⟨x, hq, h⟩ := zbind h
      unfold zga at hq
      split at hq
      · rename_i hc
        cases hq
        exact zGo_pure (hk _ _ _ _ h) (fun H ls locs cells slots hH hlc hls kk => z_zald hx hb hK hH hc.1 hc.2 hd kk)
      · cases hq
    · cases h
  case laload =>
    simp only [Bool.and_eq_true, decide_eq_true_eq] at hd
    obtain ⟨hd, rfl⟩ := hd
    simp only [zst] at h
    split at h
    · rename_i i a r
      obtain ⟨x, hq, h⟩ := zbind h
      unfold zgl at hq
      split at hq
      · rename_i hc
        cases hq
        exact zGo_pure (hk _ _ _ _ h) (fun H ls locs cells slots hH hlc hls kk => z_lald hx hb hK hH hc.1 hc.2 hd kk)
      · cases hq
    · cases h
  case arraylength =>
    simp only [Bool.and_eq_true, decide_eq_true_eq] at hd
    obtain ⟨hd, rfl⟩ := hd
    simp only [zst] at h
    split at h
    · rename_i a r
      obtain ⟨x, hq, h⟩ := zbind h
      unfold zlen at hq
      split at hq
      · rename_i hc
        cases hq
        exact zGo_pure (hk _ _ _ _ h) (fun H ls locs cells slots hH hlc hls kk => z_alen hx hb hK hH hlc hc hd kk)
      · cases hq
    · cases h
  case aaload =>
    simp only [Bool.and_eq_true, decide_eq_true_eq] at hd
    obtain ⟨hd, rfl⟩ := hd
    simp only [zokI, decide_eq_true_eq] at ho
    simp only [zst] at h
    split at h
    · rename_i i a r
      cases h2 : Nat.beq r3 2 with
      | true =>
        rw [h2, cond_true] at h
        obtain ⟨q, hq, h⟩ := zbind h
        unfold zgo at hq
        split at hq
        · rename_i hc
          refine zGo_pure (hk _ _ _ _ h) (fun H ls locs cells slots hH hlc hls kk => z_aald hx hb hK hH ho hc.1 hc.2 hd ?_)
          rw [hq]
          exact kk
        · cases hq
      | false =>
        rw [h2, cond_false] at h
        split at h
        · rename_i hc
          split at h
          · rename_i q hq
            refine zGo_pure (hk _ _ _ _ h) (fun H ls locs cells slots hH hlc hls kk => z_aald hx hb hK hH ho hc.1 hc.2 hd ?_)
            rw [hq]
            exact kk
          · rename_i hq
            refine zGo_pure (hk _ _ _ _ h) (fun H ls locs cells slots hH hlc hls kk => z_aald hx hb hK hH ho hc.1 hc.2 hd ?_)
            rw [hq]
            exact kk
        · cases h
    · cases h
  case iastore =>
    simp only [Bool.and_eq_true, decide_eq_true_eq] at hd
    obtain ⟨hd, rfl⟩ := hd
    simp only [zst] at h
    split at h
    · rename_i x i a r
      obtain ⟨S1, hq, h⟩ := zbind h
      unfold zpa at hq
      split at hq
      · rename_i hc
        cases hq
        exact zGo_mem (hk _ _ _ _ h) rfl rfl (fun H ls locs cells slots hH hlc hls kk => z_iast hx hb hK hH hlc hc.1 hc.2.1 hc.2.2 hd kk)
      · cases hq
    · cases h
  case bastore =>
    simp only [Bool.and_eq_true, decide_eq_true_eq] at hd
    obtain ⟨hd, rfl⟩ := hd
    simp only [zst] at h
    split at h
    · rename_i x i a r
      obtain ⟨S1, hq, h⟩ := zbind h
      unfold zpb at hq
      split at hq
      · rename_i hc
        cases hq
        exact zGo_mem (hk _ _ _ _ h) rfl rfl (fun H ls locs cells slots hH hlc hls kk => z_zast hx hb hK hH hlc hc.1 hc.2.1 hc.2.2 hd kk)
      · cases hq
    · cases h
  case lastore =>
    simp only [Bool.and_eq_true, decide_eq_true_eq] at hd
    obtain ⟨hd, rfl⟩ := hd
    simp only [zst] at h
    split at h
    · rename_i x i a r
      obtain ⟨S1, hq, h⟩ := zbind h
      unfold zpl at hq
      split at hq
      · rename_i hc
        cases hq
        exact zGo_mem (hk _ _ _ _ h) rfl rfl (fun H ls locs cells slots hH hlc hls kk => z_last hx hb hK hH hlc hc.1 hc.2 hd kk)
      · cases hq
    · cases h
  case aastore =>
    simp only [Bool.and_eq_true, decide_eq_true_eq] at hd
    obtain ⟨hd, rfl⟩ := hd
    simp only [zokI, decide_eq_true_eq] at ho
    simp only [zst] at h
    split at h
    · rename_i x i a r
      obtain ⟨S1, hq, h⟩ := zbind h
      unfold zpo at hq
      split at hq
      · rename_i hc
        cases hq
        exact zGo_mem (hk _ _ _ _ h) rfl rfl (fun H ls locs cells slots hH hlc hls kk => z_aast hx hb hK hH hlc ho hc.1 hc.2.1 hc.2.2 hd kk)
      · cases hq
    · cases h
  case new idx =>
    simp only [Bool.and_eq_true, decide_eq_true_eq] at hd
    obtain ⟨hd, rfl⟩ := hd
    simp only [zokI, Bool.and_eq_true, decide_eq_true_eq] at ho
    obtain ⟨⟨hl, hci⟩, rfl⟩ := ho
    obtain ⟨C, T, N, ty, hC⟩ := zcls_ok r1 hci
    have hlink : (Cond.classLink (zow.getD o "") idx C).before args s = true := by
      have h1 := zLC_ok _ hl
      simp only at h1
      rw [hC.2.2.1] at h1
      exact hts _ (zTg h1 rfl)
    have hN : zfn.getD r1 0 = N := hC.2.1
    simp only [zst] at h
    rw [hN] at h
    exact zGo_new (hk _ _ _ _ h) hE1 hE2 h9 (fun H ls locs cells slots hH hlc hls g1 g2 g3 kk => z_new hx hb hC hts hown hK hH hlc hlink hci g1 g2 g3 hd kk)
  case newarray t =>
    simp only [Bool.and_eq_true, decide_eq_true_eq] at hd
    obtain ⟨hd, rfl⟩ := hd
    have hws : Cond.arrayClass .int ∈ zTs ∧ Cond.arrayClass .long ∈ zTs ∧ Cond.arrayClass .boolean ∈ zTs := zarr_ok
    simp only [zst] at h
    split at h
    · rename_i x r
      split at h
      · cases h
      · rename_i hc
        have h0 : ¬ x < 0 := fun z => hc (Or.inl z)
        have h1 : ¬ 10000 ≤ x.toNatClampNeg := fun z => hc (Or.inr z)
        cases t <;> simp only [zokI, decide_eq_true_eq] at ho <;> first | (exact absurd ho (by decide)) | skip
        · subst ho
          refine zGo_new (hk _ _ _ _ h) hE1 hE2 h9 (fun H ls locs cells slots hH hlc hls g1 g2 g3 kk => z_newa hx hb (kd := 102) (t0 := 2) (ty := .boolean) rfl rfl (fun C q => nomatch q) (hts _ hws.2.2) hK hH hlc h0 h1 (by decide) ?_ ?_ g1 g2 g3 hd kk)
          · intro cA hcA
            rw [zent_int (kd := 102) (by rw [zh_alloc_new]) (Or.inr rfl), zh_alloc_new]
            simp only
            rw [vp_cell_i]
            congr 1
            funext j
            show Value.int (zI S (zn S + 1) j) = _
            rw [(hH.2.2.2.2.2 (zn S + 1) (by omega)).2.1 j]
            rfl
          · exact ⟨_, zent_int (kd := 102) (by rw [zh_alloc_new]) (Or.inr rfl)⟩
        · subst ho
          refine zGo_new (hk _ _ _ _ h) hE1 hE2 h9 (fun H ls locs cells slots hH hlc hls g1 g2 g3 kk => z_newa hx hb (kd := 100) (t0 := 0) (ty := .int) rfl rfl (fun C q => nomatch q) (hts _ hws.1) hK hH hlc h0 h1 (by decide) ?_ ?_ g1 g2 g3 hd kk)
          · intro cA hcA
            rw [zent_int (kd := 100) (by rw [zh_alloc_new]) (Or.inl rfl), zh_alloc_new]
            simp only
            rw [vp_cell_i]
            congr 1
            funext j
            show Value.int (zI S (zn S + 1) j) = _
            rw [(hH.2.2.2.2.2 (zn S + 1) (by omega)).2.1 j]
            rfl
          · exact ⟨_, zent_int (kd := 100) (by rw [zh_alloc_new]) (Or.inl rfl)⟩
        · subst ho
          refine zGo_new (hk _ _ _ _ h) hE1 hE2 h9 (fun H ls locs cells slots hH hlc hls g1 g2 g3 kk => z_newa hx hb (kd := 101) (t0 := 1) (ty := .long) rfl rfl (fun C q => nomatch q) (hts _ hws.2.1) hK hH hlc h0 h1 (by decide) ?_ ?_ g1 g2 g3 hd kk)
          · intro cA hcA
            rw [zent_long (by rw [zh_alloc_new]), zh_alloc_new]
            simp only
            rw [vp_cell_l]
            congr 1
            funext j
            show Value.long (zJ S (zn S + 1) j) = _
            rw [(hH.2.2.2.2.2 (zn S + 1) (by omega)).2.2.1 j]
            rfl
          · exact ⟨_, zent_long (by rw [zh_alloc_new])⟩
    · cases h
  case anewarray idx =>
    simp only [Bool.and_eq_true, decide_eq_true_eq] at hd
    obtain ⟨hd, rfl⟩ := hd
    simp only [zokI, Bool.and_eq_true, decide_eq_true_eq] at ho
    obtain ⟨hl, hci⟩ := ho
    have hlink : (Cond.classLink (zow.getD o "") idx (zow.getD r1 "")).before args s = true := hts _ (zTg (zLC_ok _ hl) rfl)
    simp only [zst] at h
    split at h
    · rename_i x r
      split at h
      · cases h
      · rename_i hc
        exact zGo_new (hk _ _ _ _ h) hE1 hE2 h9 (fun H ls locs cells slots hH hlc hls g1 g2 g3 kk => z_newq hx hb hci hown hlink hK hH hlc (fun z => hc (Or.inl z)) (fun z => hc (Or.inr z)) g1 g2 g3 hd kk)
    · cases h
  case invokevirtual idx =>
    simp only [Bool.and_eq_true, decide_eq_true_eq] at hd
    obtain ⟨hd, rfl⟩ := hd
    simp only [zokI] at ho
    simp only [zst] at h
    obtain ⟨hmem, hlk, hkd, hna, hf1, hf2⟩ := zlM hts hK ho
    split at h
    · rename_i as r hp
      cases h8 : Nat.ble (zcats r) 8 with
      | false => rw [h8, cond_false] at h; cases h
      | true =>
        rw [h8, cond_true] at h
        obtain ⟨v', S1, h, hM⟩ := hE _ _ _ _ h
        refine zGo_call (hk _ _ _ _ h) hE1 hE2 hM.1 (fun H ls locs cells slots hH hlc hls g1 g2 kk => ?_)
        exact z_callV F0' (zMT_ok _ hmem) (hfine _ hmem) hkd hlk hK hH hlc hM (Nat.lt_of_le_of_lt (hk _ _ _ _ h).1.1 h9) (by rw [hna]; exact hp) (Nat.le_of_ble_eq_true h8) hls.1 (Nat.le_trans hf1 hfr) (Nat.le_trans hf2 hlo) g1 g2 hd kk
    · cases h
  case invokespecial idx =>
    simp only [Bool.and_eq_true, decide_eq_true_eq] at hd
    obtain ⟨hd, rfl⟩ := hd
    simp only [zokI] at ho
    simp only [zst] at h
    cases hr : Nat.beq r1 999 with
    | true =>
      rw [hr, cond_true] at h ho
      simp only [Bool.and_eq_true, decide_eq_true_eq] at ho
      obtain ⟨⟨hl, hf1⟩, hf2⟩ := ho
      split at h
      · rename_i a r
        cases h8 : Nat.ble (zcats r) 8 with
        | false => rw [h8, cond_false] at h; cases h
        | true =>
          rw [h8, cond_true] at h
          refine zGo_pure (hk _ _ _ _ h) (fun H ls locs cells slots hH hlc hls kk => ?_)
          refine W.objInit hx hb hown (hts _ (zTg (zLO_ok _ hl) rfl)) (hts _ zobj_ok.1) (hts _ zobj_ok.2) (g := F0 m pc ls _) rfl (hls.1.trans hml.symm) rfl hd (Nat.le_trans hf1 hfr) ?_ kk
          show 2 * 0 + _ + 12 ≤ _
          rw [zcats_sum]
          have := Nat.le_of_ble_eq_true h8
          omega
      · cases h
    | false =>
      rw [hr, cond_false] at h ho
      obtain ⟨hmem, hlk, hkd, hna, hf1, hf2⟩ := zlM hts hK ho
      split at h
      · rename_i as r hp
        cases h8 : Nat.ble (zcats r) 8 with
        | false => rw [h8, cond_false] at h; cases h
        | true =>
          rw [h8, cond_true] at h
          obtain ⟨v', S1, h, hM⟩ := hE _ _ _ _ h
          refine zGo_call (hk _ _ _ _ h) hE1 hE2 hM.1 (fun H ls locs cells slots hH hlc hls g1 g2 kk => ?_)
          exact z_callI F0' (zMT_ok _ hmem) (hfine _ hmem) hkd hlk hK hH hlc hM (Nat.lt_of_le_of_lt (hk _ _ _ _ h).1.1 h9) (by rw [hna]; exact hp) (Nat.le_of_ble_eq_true h8) hls.1 (Nat.le_trans hf1 hfr) (Nat.le_trans hf2 hlo) g1 g2 hd kk
      · cases h
  case invokestatic idx =>
    simp only [Bool.and_eq_true, decide_eq_true_eq] at hd
    obtain ⟨hd, rfl⟩ := hd
    simp only [zokI] at ho
    simp only [zst] at h
    cases hr : Nat.beq r1 998 with
    | true =>
      rw [hr, cond_true] at h ho
      simp only [Bool.and_eq_true, decide_eq_true_eq] at ho
      obtain ⟨⟨hl, hf1⟩, hf2⟩ := ho
      split at h
      · rename_i n dp d sp s' r
        cases h8 : Nat.ble (zcats r) 8 with
        | false => rw [h8, cond_false] at h; cases h
        | true =>
          rw [h8, cond_true] at h
          obtain ⟨S1, hq, h⟩ := zbind h
          have hns : zn S1 = zn S ∧ zs S1 = zs S := by
            unfold zcp at hq
            split at hq
            · cases hq; exact ⟨rfl, rfl⟩
            · cases hq
          refine zGo_mem (hk _ _ _ _ h) hns.1 hns.2 (fun H ls locs cells slots hH hlc hls kk => ?_)
          refine z_copy hx hb (hml.trans hls.1.symm) hown (hts _ (zTg (zLA_ok _ hl) rfl)) (hts _ zcpy_ok.1) (hts _ zcpy_ok.2.1) (hts _ zcpy_ok.2.2) hK hH hlc hq (Nat.le_trans hf1 hfr) ?_ hd kk
          rw [zcats_sum]
          have := Nat.le_of_ble_eq_true h8
          omega
      · cases h
    | false =>
      rw [hr, cond_false] at h ho
      cases hr7 : Nat.beq r1 997 with
      | true =>
        rw [hr7, cond_true] at h ho
        simp only [Bool.and_eq_true, decide_eq_true_eq] at ho
        obtain ⟨⟨hl, hf1⟩, hf2⟩ := ho
        split at h
        · rename_i y x r
          cases h8 : Nat.ble (zcats r) 8 with
          | false => rw [h8, cond_false] at h; cases h
          | true =>
            rw [h8, cond_true] at h
            have hg := hk _ _ _ _ h
            refine ⟨hg.1, fun h1 h2 H ls locs hH hlc hls => ?_⟩
            have g1 := hg.1.1
            have g2 := hg.1.2
            refine va_mmax hx hb (hml.trans hls.1.symm) hown (hts _ (zTg (zLX_ok _ hl) rfl)) (hts _ zmax_ok.1) (hts _ zmax_ok.2.1) (hts _ zmax_ok.2.2) (Nat.le_trans hf1 hfr) ?_ (by omega) (by omega) hd (hg.2 h1 h2 H ls locs hH hlc hls)
            rw [zcats_sum]
            have := Nat.le_of_ble_eq_true h8
            omega
        · cases h
      | false =>
        rw [hr7, cond_false] at h ho
        cases hr6 : Nat.beq r1 996 with
        | true =>
          rw [hr6, cond_true] at h ho
          simp only [Bool.and_eq_true, decide_eq_true_eq] at ho
          obtain ⟨⟨hl, hf1⟩, hf2⟩ := ho
          split at h
          · rename_i y x r
            cases h8 : Nat.ble (zcats r) 8 with
            | false => rw [h8, cond_false] at h; cases h
            | true =>
              rw [h8, cond_true] at h
              have hg := hk _ _ _ _ h
              refine ⟨hg.1, fun h1 h2 H ls locs hH hlc hls => ?_⟩
              have g1 := hg.1.1
              have g2 := hg.1.2
              refine va_mmin hx hb (hml.trans hls.1.symm) hown (hts _ (zTg (zLN_ok _ hl) rfl)) (hts _ zmin_ok.1) (hts _ zmin_ok.2.1) (hts _ zmin_ok.2.2) (Nat.le_trans hf1 hfr) ?_ (by omega) (by omega) hd (hg.2 h1 h2 H ls locs hH hlc hls)
              rw [zcats_sum]
              have := Nat.le_of_ble_eq_true h8
              omega
          · cases h
        | false =>
          rw [hr6, cond_false] at h ho
          obtain ⟨hmem, hlk, hkd, hna, hf1, hf2⟩ := zlM hts hK ho
          split at h
          · rename_i as r hp
            cases h8 : Nat.ble (zcats r) 8 with
            | false => rw [h8, cond_false] at h; cases h
            | true =>
              rw [h8, cond_true] at h
              obtain ⟨v', S1, h, hM⟩ := hE _ _ _ _ h
              refine zGo_call (hk _ _ _ _ h) hE1 hE2 hM.1 (fun H ls locs cells slots hH hlc hls g1 g2 kk => ?_)
              exact z_callS F0' (zMT_ok _ hmem) (hfine _ hmem) hkd hlk hK hH hlc hM (Nat.lt_of_le_of_lt (hk _ _ _ _ h).1.1 h9) (by rw [hna]; exact hp) (Nat.le_of_ble_eq_true h8) hls.1 (Nat.le_trans hf1 hfr) (Nat.le_trans hf2 hlo) g1 g2 hd kk
          · cases h
  case tableswitch d l h' offs =>
    have hd' : ∃ len, decode cc pc = .ok (.tableswitch d l h' offs, len) := by
      simp only at hd
      split at hd
      · rename_i hdc
        simp only [Bool.and_eq_true, decide_eq_true_eq] at hd
        obtain ⟨⟨⟨rfl, rfl⟩, rfl⟩, rfl⟩ := hd
        exact ⟨_, hdc⟩
      · cases hd
    obtain ⟨len, hd'⟩ := hd'
    simp only [zokI, Bool.and_eq_true, decide_eq_true_eq] at ho
    obtain ⟨⟨⟨⟨ho1, ho2⟩, ho3⟩, ho4⟩, ho5⟩ := ho
    have hts' : ∀ i : Nat, (ts[i]?).map (fun q => (q.1.toInt, (q.2 : Int))) = (offs.toList[i]?).map (fun f => (l + (i : Int), (pc : Int) + f)) := by
      intro i
      rw [← zsw_get, ← ho2, List.getElem?_map]
    simp only [zst] at h
    split at h
    · rename_i x r
      rcases ztab_spec ts h with ⟨i, q, g1, g2, g3⟩ | ⟨g1, g2⟩
      · have hi := hts' i
        rw [g1] at hi
        simp only [Option.map_some] at hi
        cases hof : offs.toList[i]? with
        | none => rw [hof] at hi; cases hi
        | some f =>
          rw [hof] at hi
          simp only [Option.map_some, Option.some.injEq, Prod.mk.injEq] at hi
          have hlt : i < offs.toList.length := (List.getElem?_eq_some_iff.mp hof).1
          subst g2
          refine zGo_pure (hk _ _ _ _ g3) (fun H ls locs cells slots hH hlc hls kk => lv_tableIn hx hb hd' (off := f) (tgt := q.2) (by omega) (by omega) ?_ (by omega) kk)
          rw [show (q.1.toInt - l).toNat = i by omega, ← Array.getElem?_toList]
          exact hof
      · refine zGo_pure (hk _ _ _ _ g2) (fun H ls locs cells slots hH hlc hls kk => lv_tableOut hx hb hd' (tgt := r1) ?_ ho1 kk)
        rcases Int.lt_or_le x.toInt l with hl | hl
        · exact Or.inl hl
        · rcases Int.lt_or_le h' x.toInt with hl2 | hl2
          · exact Or.inr hl2
          · exfalso
            have hlt : (x.toInt - l).toNat < offs.toList.length := by omega
            have hi := hts' (x.toInt - l).toNat
            rw [List.getElem?_eq_getElem hlt] at hi
            cases hq : ts[(x.toInt - l).toNat]? with
            | none => rw [hq] at hi; cases hi
            | some q =>
              rw [hq] at hi
              simp only [Option.map_some, Option.some.injEq, Prod.mk.injEq] at hi
              refine g1 q (List.mem_of_getElem? hq) ?_
              apply Int32.toInt_inj.mp
              omega
    · cases h
  all_goals (simp only [zst] at h; cases h; done)
end ZST2
