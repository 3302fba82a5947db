set_option maxRecDepth 100000 in
theorem s_J_length {l : Launch} {HB : Heap} {b L : Nat} {xs : Nat → Int32} {aK aV : Nat → Nat} {G : va_G} {tc : Nat → ClassId} : zSnd l HB b L xs aK aV G tc (zMT.getD 20 zyD) (fun α => zA_R_I f_J_length) := by
  rw [show zMT.getD 20 zyD = qlen from rfl]
  intro α as S k res h
  unfold zA_R_I at h
  dsimp only at h
  split at h
  · rename_i a0
    obtain ⟨p, hp, h⟩ := zbind h
    unfold f_J_length at hp
    split at hp
    · rename_i hc
      have hp := Option.some.inj hp
      subst hp
      exact ⟨_, _, h, zm_len ⟨hc.1, by have := hc.2; omega⟩⟩
    · cases hp
  · cases h
set_option maxRecDepth 100000 in
theorem s_J_charAt {l : Launch} {HB : Heap} {b L : Nat} {xs : Nat → Int32} {aK aV : Nat → Nat} {G : va_G} {tc : Nat → ClassId} : zSnd l HB b L xs aK aV G tc (zMT.getD 22 zyD) (fun α => zA_RI_I f_J_charAt) := by
  rw [show zMT.getD 22 zyD = qcha from rfl]
  intro α as S k res h
  unfold zA_RI_I at h
  dsimp only at h
  split at h
  · rename_i a0 a1
    obtain ⟨p, hp, h⟩ := zbind h
    unfold f_J_charAt at hp
    split at hp
    · rename_i hc
      have hp := Option.some.inj hp
      subst hp
      dsimp only at h
      have hz := zm_cha (l := l) (HB := HB) (b := b) (L := L) (xs := xs) (aK := aK) (aV := aV) (G := G) (tc := tc) (S := S) (a := a0) (i := a1) ⟨hc.1, by have := hc.2.1; omega⟩ hc.2.2
      exact ⟨_, _, h, hz⟩
    · cases hp
  · cases h
