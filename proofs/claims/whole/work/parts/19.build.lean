/-! the machine is built: the mathematics -/
def bT (rs : List zRu) (tn : Bool) (i : Nat) : List Nat := ruT tn (zru rs i)
def bPure (rs : List zRu) (tn : Bool) (nd : List (List Nat)) (d : Nat → Nat) : Prop := nd.Nodup ∧ 0 < nd.length ∧ ln nd 0 = [] ∧ (∀ i, i < rs.length → d i ≤ (bT rs tn i).length ∧ ∀ e, e ≤ d i → (bT rs tn i).take e ∈ nd) ∧ (∀ t, t ∈ nd → t = [] ∨ ∃ i, i < rs.length ∧ ∃ e, e ≤ d i ∧ t = (bT rs tn i).take e) ∧ nd.length ≤ 1 + fb_sm d rs.length ∧ wOd nd
def bFr (rs : List zRu) (tn : Bool) (nd : List (List Nat)) (d : Nat → Nat) (K i : Nat) : Prop := ∀ j, j < rs.length → d j < (bT rs tn j).length → K < nd.idxOf ((bT rs tn j).take (d j)) * 8 + lg (bT rs tn j) (d j) ∨ (K = nd.idxOf ((bT rs tn j).take (d j)) * 8 + lg (bT rs tn j) (d j) ∧ i ≤ j)
def bG (nd : List (List Nat)) (K : Nat) : Prop := ∀ s l, s < nd.length → l < 8 → K ≤ s * 8 + l → ¬ ln nd s ++ [l] ∈ nd
theorem take_lg {t : List Nat} {e : Nat} (h : e < t.length) : t.take (e + 1) = t.take e ++ [lg t e] := by
  rw [List.take_succ_eq_append_getElem h, lg_get h]
theorem ln_idx {nd : List (List Nat)} {t : List Nat} (h : t ∈ nd) : ln nd (nd.idxOf t) = t := by
  have := List.idxOf_lt_length_iff.2 h
  simp [ln, this]
theorem idx_ln {nd : List (List Nat)} (hn : nd.Nodup) {s : Nat} (h : s < nd.length) : nd.idxOf (ln nd s) = s := by
  have e : ln nd s = nd[s] := by simp [ln, h]
  rw [e]
  exact List.Nodup.idxOf_getElem hn s h
theorem ln_mem {nd : List (List Nat)} {s : Nat} (h : s < nd.length) : ln nd s ∈ nd := by
  have e : ln nd s = nd[s] := by simp [ln, h]
  rw [e]; exact List.getElem_mem h
theorem idx_app {nd : List (List Nat)} {t u : List Nat} (h : t ∈ nd) : (nd ++ [u]).idxOf t = nd.idxOf t := by
  rw [List.idxOf_append, if_pos h]
theorem idx_new {nd : List (List Nat)} {u : List Nat} (h : ¬ u ∈ nd) : (nd ++ [u]).idxOf u = nd.length := by
  rw [List.idxOf_append, if_neg h]; simp
theorem ln_app {nd : List (List Nat)} {u : List Nat} {s : Nat} (h : s < nd.length) : ln (nd ++ [u]) s = ln nd s := by
  simp [ln, List.getElem?_append_left h]
theorem ln_new {nd : List (List Nat)} {u : List Nat} : ln (nd ++ [u]) nd.length = u := by simp [ln]
theorem b_closed {rs : List zRu} {tn : Bool} {nd : List (List Nat)} {d : Nat → Nat} (h : bPure rs tn nd d) {t : List Nat} {x : Nat} (hm : t ++ [x] ∈ nd) : t ∈ nd := by
  obtain ⟨_, _, _, h4, h5, _⟩ := h
  rcases h5 _ hm with q | ⟨i, hi, e, he, q⟩
  · simp at q
  · have hl : t.length + 1 = min e (bT rs tn i).length := by
      have := congrArg List.length q; simpa using this
    have : t = (bT rs tn i).take t.length := by
      have q2 := congrArg (List.take t.length) q
      rw [List.take_left, List.take_take] at q2
      rw [show min t.length e = t.length by omega] at q2
      exact q2
    rw [this]
    exact (h4 i hi).2 _ (by omega)
theorem b_new {rs : List zRu} {tn : Bool} {nd : List (List Nat)} {d : Nat → Nat} {i K : Nat} (h : bPure rs tn nd d) (hi : i < rs.length) (hd : d i < (bT rs tn i).length) (h8 : l8 (bT rs tn i)) (hl8 : ∀ j, j < rs.length → ∀ x ∈ bT rs tn j, x < 8) (hK : K = nd.idxOf ((bT rs tn i).take (d i)) * 8 + lg (bT rs tn i) (d i)) (hu : ¬ (bT rs tn i).take (d i + 1) ∈ nd) (hF : bFr rs tn nd d K i) (hG : bG nd (K + 1)) :
    bPure rs tn (nd ++ [(bT rs tn i).take (d i + 1)]) (zup d i (d i + 1)) ∧ bFr rs tn (nd ++ [(bT rs tn i).take (d i + 1)]) (zup d i (d i + 1)) K (i + 1) ∧ bG (nd ++ [(bT rs tn i).take (d i + 1)]) (K + 1) := by
  have h0 := h
  obtain ⟨h1, h2, h3, h4, h5, h6, h7⟩ := h
  obtain ⟨u, hud⟩ : ∃ u, u = (bT rs tn i).take (d i + 1) := ⟨_, rfl⟩
  rw [← hud] at hu ⊢
  have hut : u = (bT rs tn i).take (d i) ++ [lg (bT rs tn i) (d i)] := by rw [hud, take_lg hd]
  have hpar : (bT rs tn i).take (d i) ∈ nd := (h4 i hi).2 _ (by omega)
  have hpl : nd.idxOf ((bT rs tn i).take (d i)) < nd.length := List.idxOf_lt_length_iff.2 hpar
  have hl7 := h8 (d i)
  refine ⟨⟨?_, by simp, by rw [ln_app h2]; exact h3, ?_, ?_, ?_, ?_, ?_⟩, ?_, ?_⟩
  · rw [List.nodup_append]
    refine ⟨h1, by simp, fun a ha b hb => ?_⟩
    rw [List.mem_singleton.1 hb]; intro q; subst q; exact hu ha
  · intro j hj
    unfold zup
    by_cases e : j = i
    · subst e
      rw [if_pos rfl]
      refine ⟨by omega, fun e he => ?_⟩
      by_cases q : e = d j + 1
      · subst q; rw [← hud]; simp
      · exact List.mem_append_left _ ((h4 j hi).2 e (by omega))
    · rw [if_neg e]
      exact ⟨(h4 j hj).1, fun e he => List.mem_append_left _ ((h4 j hj).2 e he)⟩
  · intro t ht
    rcases List.mem_append.1 ht with q | q
    · rcases h5 t q with r | ⟨j, hj, e, he, r⟩
      · exact Or.inl r
      · refine Or.inr ⟨j, hj, e, ?_, r⟩
        unfold zup; split
        · rename_i q; subst q; omega
        · exact he
    · refine Or.inr ⟨i, hi, d i + 1, ?_, ?_⟩
      · unfold zup; rw [if_pos rfl]; omega
      · rw [List.mem_singleton.1 q, hud]
  · have := fb_sm_upd d (d i + 1) hi
    have e : zup d i (d i + 1) = fun k => if k = i then d i + 1 else d k := rfl
    rw [e, List.length_append]
    simp only [List.length_cons, List.length_nil]
    omega
  · intro t x hm
    rcases List.mem_append.1 hm with q | q
    · have ht := b_closed h0 q
      rw [idx_app ht, idx_app q]; exact h7.1 t x q
    · have q2 := List.mem_singleton.1 q
      have ht : t = (bT rs tn i).take (d i) := by
        rw [hut] at q2; exact (List.append_inj' q2 rfl).1
      rw [q2, idx_new hu, ht, idx_app hpar]; exact hpl
  · intro t x t2 x2 hm1 hm2 hlt
    have inn : ∀ t x, t ++ [x] ∈ nd ++ [u] → t ∈ nd := by
      intro t x hm
      rcases List.mem_append.1 hm with q | q
      · exact b_closed h0 q
      · have q2 := List.mem_singleton.1 q
        rw [hut] at q2
        rw [(List.append_inj' q2 rfl).1]; exact hpar
    rw [idx_app (inn t x hm1), idx_app (inn t2 x2 hm2)] at hlt
    rcases List.mem_append.1 hm2 with q2 | q2
    · rcases List.mem_append.1 hm1 with q1 | q1
      · rw [idx_app q1, idx_app q2]; exact h7.2 t x t2 x2 q1 q2 hlt
      · have e1 := List.mem_singleton.1 q1
        rw [hut] at e1
        obtain ⟨e3, e4⟩ := List.append_inj' e1 rfl
        have e5 : x = lg (bT rs tn i) (d i) := by simpa using e4
        have i2 := List.idxOf_lt_length_iff.2 (b_closed h0 q2)
        have l2 : x2 < 8 := by
          have := h5 _ q2
          rcases this with r | ⟨j, hj, e, he, r⟩
          · simp at r
          · have hx : x2 ∈ (bT rs tn j).take e := by rw [← r]; simp
            exact hl8 j hj x2 (List.mem_of_mem_take hx)
        rw [e3, e5, ← hK] at hlt
        have := hG (nd.idxOf t2) x2 i2 l2 (by omega)
        rw [ln_idx (b_closed h0 q2)] at this
        exact absurd q2 this
    · have e2 := List.mem_singleton.1 q2
      rcases List.mem_append.1 hm1 with q1 | q1
      · rw [e2, idx_new hu, idx_app q1]; exact List.idxOf_lt_length_iff.2 q1
      · have e1 := List.mem_singleton.1 q1
        have := e1.trans e2.symm
        obtain ⟨e3, e4⟩ := List.append_inj' this rfl
        have e5 : x = x2 := by simpa using e4
        rw [e3, e5] at hlt; omega
  · intro j hj hdj
    unfold zup at hdj ⊢
    by_cases e : j = i
    · subst e
      rw [if_pos rfl] at hdj ⊢
      rw [← hud, idx_new hu]
      exact Or.inl (by omega)
    · rw [if_neg e] at hdj ⊢
      rw [idx_app ((h4 j hj).2 _ (by omega))]
      rcases hF j hj hdj with q | q
      · exact Or.inl q
      · exact Or.inr ⟨q.1, by omega⟩
  · intro s l hs hl hk hm
    simp only [List.length_append, List.length_cons, List.length_nil] at hs
    by_cases e : s = nd.length
    · subst e
      rw [ln_new] at hm
      rcases List.mem_append.1 hm with q | q
      · exact hu (b_closed h0 q)
      · have := List.mem_singleton.1 q; simp at this
    · have hs' : s < nd.length := by omega
      rw [ln_app hs'] at hm
      rcases List.mem_append.1 hm with q | q
      · exact hG s l hs' hl hk q
      · have q2 := List.mem_singleton.1 q
        rw [hut] at q2
        obtain ⟨q3, q4⟩ := List.append_inj' q2 rfl
        have : l = lg (bT rs tn i) (d i) := by simpa using q4
        have e2 := idx_ln h1 hs'
        rw [q3] at e2
        omega
theorem b_old {rs : List zRu} {tn : Bool} {nd : List (List Nat)} {d : Nat → Nat} {i K : Nat} (h : bPure rs tn nd d) (hi : i < rs.length) (hd : d i < (bT rs tn i).length) (h8 : l8 (bT rs tn i)) (hK : K = nd.idxOf ((bT rs tn i).take (d i)) * 8 + lg (bT rs tn i) (d i)) (hu : (bT rs tn i).take (d i + 1) ∈ nd) (hF : bFr rs tn nd d K i) :
    bPure rs tn nd (zup d i (d i + 1)) ∧ bFr rs tn nd (zup d i (d i + 1)) K (i + 1) := by
  obtain ⟨h1, h2, h3, h4, h5, h6, h7⟩ := h
  have hut := take_lg hd
  have hl7 := h8 (d i)
  refine ⟨⟨h1, h2, h3, ?_, ?_, ?_, h7⟩, ?_⟩
  · intro j hj
    unfold zup
    by_cases e : j = i
    · subst e
      rw [if_pos rfl]
      refine ⟨by omega, fun e he => ?_⟩
      by_cases q : e = d j + 1
      · subst q; exact hu
      · exact (h4 j hi).2 e (by omega)
    · rw [if_neg e]; exact h4 j hj
  · intro t ht
    rcases h5 t ht with r | ⟨j, hj, e, he, r⟩
    · exact Or.inl r
    · refine Or.inr ⟨j, hj, e, ?_, r⟩
      unfold zup; split
      · rename_i q; subst q; omega
      · exact he
  · have := fb_sm_upd d (d i + 1) hi
    have e : zup d i (d i + 1) = fun k => if k = i then d i + 1 else d k := rfl
    rw [e]; omega
  · intro j hj hdj
    unfold zup at hdj ⊢
    by_cases e : j = i
    · subst e
      rw [if_pos rfl] at hdj ⊢
      have := h7.1 ((bT rs tn j).take (d j)) (lg (bT rs tn j) (d j)) (by rw [← hut]; exact hu)
      rw [← hut] at this
      exact Or.inl (by omega)
    · rw [if_neg e] at hdj ⊢
      rcases hF j hj hdj with q | q
      · exact Or.inl q
      · exact Or.inr ⟨q.1, by omega⟩
theorem b_end {rs : List zRu} {tn : Bool} {nd : List (List Nat)} {d : Nat → Nat} {K : Nat} (h : bPure rs tn nd d) (hF : bFr rs tn nd d K 0) (hK : nd.length * 8 ≤ K) (h8 : ∀ i, i < rs.length → l8 (bT rs tn i)) (h33 : nd.length ≤ 33) : (∀ i, i < rs.length → d i = (bT rs tn i).length) ∧ wNd rs tn nd := by
  obtain ⟨h1, h2, h3, h4, h5, h6, h7⟩ := h
  have full : ∀ i, i < rs.length → d i = (bT rs tn i).length := by
    intro i hi
    refine Classical.byContradiction (fun q => ?_)
    have hlt : d i < (bT rs tn i).length := by have := (h4 i hi).1; omega
    have hx := List.idxOf_lt_length_iff.2 ((h4 i hi).2 (d i) (by omega))
    have := h8 i hi (d i)
    rcases hF i hi hlt with r | r <;> omega
  refine ⟨full, h33, h2, h3, h1, fun t => ⟨fun ht => ?_, fun ht => ?_⟩, h7⟩
  · rcases h5 t ht with r | ⟨j, hj, e, he, r⟩
    · exact Or.inl r
    · refine Or.inr ⟨j, hj, ?_⟩
      rw [r]; exact List.take_prefix _ _
  · rcases ht with r | ⟨j, hj, r⟩
    · subst r
      have := ln_mem (nd := nd) h2
      rwa [h3] at this
    · have e := List.prefix_iff_eq_take.1 r
      rw [e]
      refine (h4 j hj).2 _ ?_
      rw [full j hj]; exact r.length_le
