/-! the reference: its rows -/
/-- field, place, kind, length -/
def moT : List (Nat × Nat × Nat × Nat) := [(4, 1, 100, 900), (10, 2, 100, 4), (11, 3, 100, 3), (12, 4, 102, 3), (13, 5, 100, 264), (17, 6, 100, 4), (18, 7, 101, 4), (19, 8, 100, 3), (20, 9, 102, 3), (21, 10, 100, 264), (30, 11, 100, 73), (32, 12, 100, 16), (33, 13, 100, 16), (34, 14, 100, 64), (36, 15, 100, 80), (37, 16, 102, 80), (38, 17, 100, 9), (39, 18, 102, 24), (40, 19, 100, 64), (42, 20, 100, 64), (44, 21, 100, 24), (45, 22, 100, 3), (46, 23, 100, 3), (47, 24, 100, 180), (50, 25, 100, 60), (51, 26, 100, 24), (52, 27, 100, 3), (53, 28, 100, 3), (54, 29, 100, 180), (55, 30, 100, 60), (57, 31, 100, 61), (58, 32, 100, 1365), (59, 33, 100, 1365), (60, 34, 101, 5460), (63, 35, 101, 4), (64, 36, 100, 5), (65, 37, 100, 12)]
def sMo (S : zM) (M : Nat) : Prop := zh S M = (12, 0) ∧ ∀ e ∈ moT, zR S M e.1 = some (M + e.2.1) ∧ zh S (M + e.2.1) = (e.2.2.1, e.2.2.2)
theorem mo_tape {S : zM} {M : Nat} (h : sMo S M) : zR S M 4 = some (M + 1) := (h.2 (4, 1, 100, 900) (List.mem_of_getElem? (i := 0) rfl)).1
theorem mh_tape {S : zM} {M : Nat} (h : sMo S M) : zh S (M + 1) = (100, 900) := (h.2 (4, 1, 100, 900) (List.mem_of_getElem? (i := 0) rfl)).2
theorem mo_kinds {S : zM} {M : Nat} (h : sMo S M) : zR S M 10 = some (M + 2) := (h.2 (10, 2, 100, 4) (List.mem_of_getElem? (i := 1) rfl)).1
theorem mh_kinds {S : zM} {M : Nat} (h : sMo S M) : zh S (M + 2) = (100, 4) := (h.2 (10, 2, 100, 4) (List.mem_of_getElem? (i := 1) rfl)).2
theorem mo_ruleMany {S : zM} {M : Nat} (h : sMo S M) : zR S M 11 = some (M + 3) := (h.2 (11, 3, 100, 3) (List.mem_of_getElem? (i := 2) rfl)).1
theorem mh_ruleMany {S : zM} {M : Nat} (h : sMo S M) : zh S (M + 3) = (100, 3) := (h.2 (11, 3, 100, 3) (List.mem_of_getElem? (i := 2) rfl)).2
theorem mo_isAgain {S : zM} {M : Nat} (h : sMo S M) : zR S M 12 = some (M + 4) := (h.2 (12, 4, 102, 3) (List.mem_of_getElem? (i := 3) rfl)).1
theorem mh_isAgain {S : zM} {M : Nat} (h : sMo S M) : zh S (M + 4) = (102, 3) := (h.2 (12, 4, 102, 3) (List.mem_of_getElem? (i := 3) rfl)).2
theorem mo_rules {S : zM} {M : Nat} (h : sMo S M) : zR S M 13 = some (M + 5) := (h.2 (13, 5, 100, 264) (List.mem_of_getElem? (i := 4) rfl)).1
theorem mh_rules {S : zM} {M : Nat} (h : sMo S M) : zh S (M + 5) = (100, 264) := (h.2 (13, 5, 100, 264) (List.mem_of_getElem? (i := 4) rfl)).2
theorem mo_newKinds {S : zM} {M : Nat} (h : sMo S M) : zR S M 17 = some (M + 6) := (h.2 (17, 6, 100, 4) (List.mem_of_getElem? (i := 5) rfl)).1
theorem mh_newKinds {S : zM} {M : Nat} (h : sMo S M) : zh S (M + 6) = (100, 4) := (h.2 (17, 6, 100, 4) (List.mem_of_getElem? (i := 5) rfl)).2
theorem mo_kindNames {S : zM} {M : Nat} (h : sMo S M) : zR S M 18 = some (M + 7) := (h.2 (18, 7, 101, 4) (List.mem_of_getElem? (i := 6) rfl)).1
theorem mh_kindNames {S : zM} {M : Nat} (h : sMo S M) : zh S (M + 7) = (101, 4) := (h.2 (18, 7, 101, 4) (List.mem_of_getElem? (i := 6) rfl)).2
theorem mo_newRuleMany {S : zM} {M : Nat} (h : sMo S M) : zR S M 19 = some (M + 8) := (h.2 (19, 8, 100, 3) (List.mem_of_getElem? (i := 7) rfl)).1
theorem mh_newRuleMany {S : zM} {M : Nat} (h : sMo S M) : zh S (M + 8) = (100, 3) := (h.2 (19, 8, 100, 3) (List.mem_of_getElem? (i := 7) rfl)).2
theorem mo_newAgain {S : zM} {M : Nat} (h : sMo S M) : zR S M 20 = some (M + 9) := (h.2 (20, 9, 102, 3) (List.mem_of_getElem? (i := 8) rfl)).1
theorem mh_newAgain {S : zM} {M : Nat} (h : sMo S M) : zh S (M + 9) = (102, 3) := (h.2 (20, 9, 102, 3) (List.mem_of_getElem? (i := 8) rfl)).2
theorem mo_newRules {S : zM} {M : Nat} (h : sMo S M) : zR S M 21 = some (M + 10) := (h.2 (21, 10, 100, 264) (List.mem_of_getElem? (i := 9) rfl)).1
theorem mh_newRules {S : zM} {M : Nat} (h : sMo S M) : zh S (M + 10) = (100, 264) := (h.2 (21, 10, 100, 264) (List.mem_of_getElem? (i := 9) rfl)).2
theorem mo_states {S : zM} {M : Nat} (h : sMo S M) : zR S M 30 = some (M + 11) := (h.2 (30, 11, 100, 73) (List.mem_of_getElem? (i := 10) rfl)).1
theorem mh_states {S : zM} {M : Nat} (h : sMo S M) : zh S (M + 11) = (100, 73) := (h.2 (30, 11, 100, 73) (List.mem_of_getElem? (i := 10) rfl)).2
theorem mo_pieceOf {S : zM} {M : Nat} (h : sMo S M) : zR S M 32 = some (M + 12) := (h.2 (32, 12, 100, 16) (List.mem_of_getElem? (i := 11) rfl)).1
theorem mh_pieceOf {S : zM} {M : Nat} (h : sMo S M) : zh S (M + 12) = (100, 16) := (h.2 (32, 12, 100, 16) (List.mem_of_getElem? (i := 11) rfl)).2
theorem mo_pieceLong {S : zM} {M : Nat} (h : sMo S M) : zR S M 33 = some (M + 13) := (h.2 (33, 13, 100, 16) (List.mem_of_getElem? (i := 12) rfl)).1
theorem mh_pieceLong {S : zM} {M : Nat} (h : sMo S M) : zh S (M + 13) = (100, 16) := (h.2 (33, 13, 100, 16) (List.mem_of_getElem? (i := 12) rfl)).2
theorem mo_pieceAt {S : zM} {M : Nat} (h : sMo S M) : zR S M 34 = some (M + 14) := (h.2 (34, 14, 100, 64) (List.mem_of_getElem? (i := 13) rfl)).1
theorem mh_pieceAt {S : zM} {M : Nat} (h : sMo S M) : zh S (M + 14) = (100, 64) := (h.2 (34, 14, 100, 64) (List.mem_of_getElem? (i := 13) rfl)).2
theorem mo_soFar {S : zM} {M : Nat} (h : sMo S M) : zR S M 36 = some (M + 15) := (h.2 (36, 15, 100, 80) (List.mem_of_getElem? (i := 14) rfl)).1
theorem mh_soFar {S : zM} {M : Nat} (h : sMo S M) : zh S (M + 15) = (100, 80) := (h.2 (36, 15, 100, 80) (List.mem_of_getElem? (i := 14) rfl)).2
theorem mo_isDone {S : zM} {M : Nat} (h : sMo S M) : zR S M 37 = some (M + 16) := (h.2 (37, 16, 102, 80) (List.mem_of_getElem? (i := 15) rfl)).1
theorem mh_isDone {S : zM} {M : Nat} (h : sMo S M) : zh S (M + 16) = (102, 80) := (h.2 (37, 16, 102, 80) (List.mem_of_getElem? (i := 15) rfl)).2
theorem mo_readingsFrom {S : zM} {M : Nat} (h : sMo S M) : zR S M 38 = some (M + 17) := (h.2 (38, 17, 100, 9) (List.mem_of_getElem? (i := 16) rfl)).1
theorem mh_readingsFrom {S : zM} {M : Nat} (h : sMo S M) : zh S (M + 17) = (100, 9) := (h.2 (38, 17, 100, 9) (List.mem_of_getElem? (i := 16) rfl)).2
theorem mo_isAside {S : zM} {M : Nat} (h : sMo S M) : zR S M 39 = some (M + 18) := (h.2 (39, 18, 102, 24) (List.mem_of_getElem? (i := 17) rfl)).1
theorem mh_isAside {S : zM} {M : Nat} (h : sMo S M) : zh S (M + 18) = (102, 24) := (h.2 (39, 18, 102, 24) (List.mem_of_getElem? (i := 17) rfl)).2
theorem mo_now {S : zM} {M : Nat} (h : sMo S M) : zR S M 40 = some (M + 19) := (h.2 (40, 19, 100, 64) (List.mem_of_getElem? (i := 18) rfl)).1
theorem mh_now {S : zM} {M : Nat} (h : sMo S M) : zh S (M + 19) = (100, 64) := (h.2 (40, 19, 100, 64) (List.mem_of_getElem? (i := 18) rfl)).2
theorem mo_next {S : zM} {M : Nat} (h : sMo S M) : zR S M 42 = some (M + 20) := (h.2 (42, 20, 100, 64) (List.mem_of_getElem? (i := 19) rfl)).1
theorem mh_next {S : zM} {M : Nat} (h : sMo S M) : zh S (M + 20) = (100, 64) := (h.2 (42, 20, 100, 64) (List.mem_of_getElem? (i := 19) rfl)).2
theorem mo_servedBy {S : zM} {M : Nat} (h : sMo S M) : zR S M 44 = some (M + 21) := (h.2 (44, 21, 100, 24) (List.mem_of_getElem? (i := 20) rfl)).1
theorem mh_servedBy {S : zM} {M : Nat} (h : sMo S M) : zh S (M + 21) = (100, 24) := (h.2 (44, 21, 100, 24) (List.mem_of_getElem? (i := 20) rfl)).2
theorem mo_roundsOf {S : zM} {M : Nat} (h : sMo S M) : zR S M 45 = some (M + 22) := (h.2 (45, 22, 100, 3) (List.mem_of_getElem? (i := 21) rfl)).1
theorem mh_roundsOf {S : zM} {M : Nat} (h : sMo S M) : zh S (M + 22) = (100, 3) := (h.2 (45, 22, 100, 3) (List.mem_of_getElem? (i := 21) rfl)).2
theorem mo_behindLong {S : zM} {M : Nat} (h : sMo S M) : zR S M 46 = some (M + 23) := (h.2 (46, 23, 100, 3) (List.mem_of_getElem? (i := 22) rfl)).1
theorem mh_behindLong {S : zM} {M : Nat} (h : sMo S M) : zh S (M + 23) = (100, 3) := (h.2 (46, 23, 100, 3) (List.mem_of_getElem? (i := 22) rfl)).2
theorem mo_behindAt {S : zM} {M : Nat} (h : sMo S M) : zR S M 47 = some (M + 24) := (h.2 (47, 24, 100, 180) (List.mem_of_getElem? (i := 23) rfl)).1
theorem mh_behindAt {S : zM} {M : Nat} (h : sMo S M) : zh S (M + 24) = (100, 180) := (h.2 (47, 24, 100, 180) (List.mem_of_getElem? (i := 23) rfl)).2
theorem mo_out {S : zM} {M : Nat} (h : sMo S M) : zR S M 50 = some (M + 25) := (h.2 (50, 25, 100, 60) (List.mem_of_getElem? (i := 24) rfl)).1
theorem mh_out {S : zM} {M : Nat} (h : sMo S M) : zh S (M + 25) = (100, 60) := (h.2 (50, 25, 100, 60) (List.mem_of_getElem? (i := 24) rfl)).2
theorem mo_carriedServed {S : zM} {M : Nat} (h : sMo S M) : zR S M 51 = some (M + 26) := (h.2 (51, 26, 100, 24) (List.mem_of_getElem? (i := 25) rfl)).1
theorem mh_carriedServed {S : zM} {M : Nat} (h : sMo S M) : zh S (M + 26) = (100, 24) := (h.2 (51, 26, 100, 24) (List.mem_of_getElem? (i := 25) rfl)).2
theorem mo_carriedRounds {S : zM} {M : Nat} (h : sMo S M) : zR S M 52 = some (M + 27) := (h.2 (52, 27, 100, 3) (List.mem_of_getElem? (i := 26) rfl)).1
theorem mh_carriedRounds {S : zM} {M : Nat} (h : sMo S M) : zh S (M + 27) = (100, 3) := (h.2 (52, 27, 100, 3) (List.mem_of_getElem? (i := 26) rfl)).2
theorem mo_carriedLong {S : zM} {M : Nat} (h : sMo S M) : zR S M 53 = some (M + 28) := (h.2 (53, 28, 100, 3) (List.mem_of_getElem? (i := 27) rfl)).1
theorem mh_carriedLong {S : zM} {M : Nat} (h : sMo S M) : zh S (M + 28) = (100, 3) := (h.2 (53, 28, 100, 3) (List.mem_of_getElem? (i := 27) rfl)).2
theorem mo_carriedAt {S : zM} {M : Nat} (h : sMo S M) : zR S M 54 = some (M + 29) := (h.2 (54, 29, 100, 180) (List.mem_of_getElem? (i := 28) rfl)).1
theorem mh_carriedAt {S : zM} {M : Nat} (h : sMo S M) : zh S (M + 29) = (100, 180) := (h.2 (54, 29, 100, 180) (List.mem_of_getElem? (i := 28) rfl)).2
theorem mo_other {S : zM} {M : Nat} (h : sMo S M) : zR S M 55 = some (M + 30) := (h.2 (55, 30, 100, 60) (List.mem_of_getElem? (i := 29) rfl)).1
theorem mh_other {S : zM} {M : Nat} (h : sMo S M) : zh S (M + 30) = (100, 60) := (h.2 (55, 30, 100, 60) (List.mem_of_getElem? (i := 29) rfl)).2
theorem mo_changes {S : zM} {M : Nat} (h : sMo S M) : zR S M 57 = some (M + 31) := (h.2 (57, 31, 100, 61) (List.mem_of_getElem? (i := 30) rfl)).1
theorem mh_changes {S : zM} {M : Nat} (h : sMo S M) : zh S (M + 31) = (100, 61) := (h.2 (57, 31, 100, 61) (List.mem_of_getElem? (i := 30) rfl)).2
theorem mo_how {S : zM} {M : Nat} (h : sMo S M) : zR S M 58 = some (M + 32) := (h.2 (58, 32, 100, 1365) (List.mem_of_getElem? (i := 31) rfl)).1
theorem mh_how {S : zM} {M : Nat} (h : sMo S M) : zh S (M + 32) = (100, 1365) := (h.2 (58, 32, 100, 1365) (List.mem_of_getElem? (i := 31) rfl)).2
theorem mo_cameLong {S : zM} {M : Nat} (h : sMo S M) : zR S M 59 = some (M + 33) := (h.2 (59, 33, 100, 1365) (List.mem_of_getElem? (i := 32) rfl)).1
theorem mh_cameLong {S : zM} {M : Nat} (h : sMo S M) : zh S (M + 33) = (100, 1365) := (h.2 (59, 33, 100, 1365) (List.mem_of_getElem? (i := 32) rfl)).2
theorem mo_keys {S : zM} {M : Nat} (h : sMo S M) : zR S M 60 = some (M + 34) := (h.2 (60, 34, 101, 5460) (List.mem_of_getElem? (i := 33) rfl)).1
theorem mh_keys {S : zM} {M : Nat} (h : sMo S M) : zh S (M + 34) = (101, 5460) := (h.2 (60, 34, 101, 5460) (List.mem_of_getElem? (i := 33) rfl)).2
theorem mo_sought {S : zM} {M : Nat} (h : sMo S M) : zR S M 63 = some (M + 35) := (h.2 (63, 35, 101, 4) (List.mem_of_getElem? (i := 34) rfl)).1
theorem mh_sought {S : zM} {M : Nat} (h : sMo S M) : zh S (M + 35) = (101, 4) := (h.2 (63, 35, 101, 4) (List.mem_of_getElem? (i := 34) rfl)).2
theorem mo_word {S : zM} {M : Nat} (h : sMo S M) : zR S M 64 = some (M + 36) := (h.2 (64, 36, 100, 5) (List.mem_of_getElem? (i := 35) rfl)).1
theorem mh_word {S : zM} {M : Nat} (h : sMo S M) : zh S (M + 36) = (100, 5) := (h.2 (64, 36, 100, 5) (List.mem_of_getElem? (i := 35) rfl)).2
theorem mo_acts {S : zM} {M : Nat} (h : sMo S M) : zR S M 65 = some (M + 37) := (h.2 (65, 37, 100, 12) (List.mem_of_getElem? (i := 36) rfl)).1
theorem mh_acts {S : zM} {M : Nat} (h : sMo S M) : zh S (M + 37) = (100, 12) := (h.2 (65, 37, 100, 12) (List.mem_of_getElem? (i := 36) rfl)).2
theorem mo_fr {W : Nat → Nat → Prop} {S S' : zM} {M : Nat} (h : sMo S M) (hf : zfr W S S') : sMo S' M := by
  unfold sMo; rw [fr_h hf, fr_R hf]; exact h
