/-! all callees, put together (written by gensnd.py) -/
section ZT
variable {l : Launch} {HB : Heap} {b L : Nat} {xs : Nat → Int32} {aK aV : Nat → Nat} {G : va_G} {tc : Nat → ClassId}
theorem t_Reader_init : zSnd l HB b L xs aK aV G tc (zMT.getD 0 zyD) (fun α => zA_vR_V 7 f_Reader_init) := s_Reader_init 
theorem t_Row_init : zSnd l HB b L xs aK aV G tc (zMT.getD 1 zyD) (fun α => zA_vRI_V 8 f_Row_init) := s_Row_init 
theorem t_Carrier_init : zSnd l HB b L xs aK aV G tc (zMT.getD 2 zyD) (fun α => zA_vR_V 1 f_Carrier_init) := s_Carrier_init t_Row_init
theorem t_Row_add : zSnd l HB b L xs aK aV G tc (zMT.getD 3 zyD) (fun α => zA_vRI_I 8 f_Row_add) := s_Row_add 
theorem t_Pieces_init : zSnd l HB b L xs aK aV G tc (zMT.getD 4 zyD) (fun α => zA_vR_V 6 f_Pieces_init) := s_Pieces_init t_Row_init t_Row_add
theorem t_Acts_init : zSnd l HB b L xs aK aV G tc (zMT.getD 5 zyD) (fun α => zA_vR_V 0 f_Acts_init) := s_Acts_init 
theorem t_Machine_init : zSnd l HB b L xs aK aV G tc (zMT.getD 6 zyD) (fun α => zA_vR_V 3 f_Machine_init) := s_Machine_init 
theorem t_Rule_init : zSnd l HB b L xs aK aV G tc (zMT.getD 7 zyD) (fun α => zA_vR_V 9 f_Rule_init) := s_Rule_init t_Row_init
theorem t_Pass_init : zSnd l HB b L xs aK aV G tc (zMT.getD 8 zyD) (fun α => zA_vR_V 5 f_Pass_init) := s_Pass_init t_Machine_init t_Rule_init
theorem t_Script_init : zSnd l HB b L xs aK aV G tc (zMT.getD 9 zyD) (fun α => zA_vR_V 10 f_Script_init) := s_Script_init t_Pass_init
theorem t_Cl_init : zSnd l HB b L xs aK aV G tc (zMT.getD 10 zyD) (fun α => zA_vR_V 11 f_Cl_init) := s_Cl_init t_Reader_init t_Carrier_init t_Row_init t_Pieces_init t_Acts_init t_Script_init
theorem t_Mo_init : zSnd l HB b L xs aK aV G tc (zMT.getD 11 zyD) (fun α => zA_vR_V 12 f_Mo_init) := s_Mo_init 
theorem t_Cl_putOnTape : zSnd l HB b L xs aK aV G tc (zMT.getD 12 zyD) (fun α => zA_vRI_V 11 f_Cl_putOnTape) := s_Cl_putOnTape 
theorem t_Cl_feed : zSnd l HB b L xs aK aV G tc (zMT.getD 13 zyD) (fun α => zA_vRIIIII_I 11 f_Cl_feed) := s_Cl_feed t_Cl_putOnTape
theorem t_Mo_laysWord : zSnd l HB b L xs aK aV G tc (zMT.getD 14 zyD) (fun α => zA_vRI_V 12 f_Mo_laysWord) := s_Mo_laysWord 
theorem t_Mo_feed : zSnd l HB b L xs aK aV G tc (zMT.getD 15 zyD) (fun α => zA_vRIIIII_I 12 f_Mo_feed) := s_Mo_feed t_Mo_laysWord
theorem t_Cl_refuse : zSnd l HB b L xs aK aV G tc (zMT.getD 16 zyD) (fun α => zA_vRI_I 11 f_Cl_refuse) := s_Cl_refuse 
theorem t_Script_drop : zSnd l HB b L xs aK aV G tc (zMT.getD 17 zyD) (fun α => zA_vR_V 10 f_Script_drop) := s_Script_drop 
theorem t_Reader_sortOf : zSnd l HB b L xs aK aV G tc (zMT.getD 18 zyD) (fun α => zA_I_I f_Reader_sortOf) := s_Reader_sortOf 
theorem t_Reader_next : zSnd l HB b L xs aK aV G tc (zMT.getD 19 zyD) (fun α => zA_vR_V 7 f_Reader_next) := s_Reader_next t_Reader_sortOf
theorem t_J_length : zSnd l HB b L xs aK aV G tc (zMT.getD 20 zyD) (fun α => zA_R_I f_J_length) := s_J_length 
theorem t_Reader_byteAt : zSnd l HB b L xs aK aV G tc (zMT.getD 21 zyD) (fun α => zA_vRI_I 7 f_Reader_byteAt) := s_Reader_byteAt 
theorem t_J_charAt : zSnd l HB b L xs aK aV G tc (zMT.getD 22 zyD) (fun α => zA_RI_I f_J_charAt) := s_J_charAt 
theorem t_Reader_is : zSnd l HB b L xs aK aV G tc (zMT.getD 23 zyD) (fun α => zA_vRR_I 7 f_Reader_is) := s_Reader_is t_J_length t_Reader_byteAt t_J_charAt
theorem t_Reader_scriptLine : zSnd l HB b L xs aK aV G tc (zMT.getD 24 zyD) (fun α => zA_vR_I 7 f_Reader_scriptLine) := s_Reader_scriptLine t_Reader_next t_Reader_is t_Reader_byteAt
theorem t_Reader_isKept : zSnd l HB b L xs aK aV G tc (zMT.getD 25 zyD) (fun α => zA_vR_I 7 f_Reader_isKept) := s_Reader_isKept t_Reader_is
theorem t_Reader_nameHere : zSnd l HB b L xs aK aV G tc (zMT.getD 26 zyD) (fun α => zA_vR_J 7 f_Reader_nameHere) := s_Reader_nameHere t_Reader_byteAt
theorem t_Script_lettersOfKind : zSnd l HB b L xs aK aV G tc (zMT.getD 27 zyD) (fun α => zA_vRJ_I 10 f_Script_lettersOfKind) := s_Script_lettersOfKind 
theorem t_Reader_areLetters : zSnd l HB b L xs aK aV G tc (zMT.getD 28 zyD) (fun α => zA_vRI_I 7 f_Reader_areLetters) := s_Reader_areLetters t_Reader_byteAt
theorem t_Reader_letterBits : zSnd l HB b L xs aK aV G tc (zMT.getD 29 zyD) (fun α => zA_vR_I 7 f_Reader_letterBits) := s_Reader_letterBits t_Reader_byteAt
theorem t_J_bitCount : zSnd l HB b L xs aK aV G tc (zMT.getD 30 zyD) (fun α => zA_I_I f_J_bitCount) := s_J_bitCount 
theorem t_Script_addKind : zSnd l HB b L xs aK aV G tc (zMT.getD 31 zyD) (fun α => zA_vRJI_V 10 f_Script_addKind) := s_Script_addKind 
theorem t_Reader_kindLine : zSnd l HB b L xs aK aV G tc (zMT.getD 32 zyD) (fun α => zA_vR_I 7 f_Reader_kindLine) := s_Reader_kindLine t_Reader_next t_Reader_isKept t_Reader_nameHere t_Script_lettersOfKind t_Reader_is t_Reader_areLetters t_Reader_letterBits t_J_bitCount t_Script_addKind
theorem t_Pass_drop : zSnd l HB b L xs aK aV G tc (zMT.getD 33 zyD) (fun α => zA_vR_V 5 f_Pass_drop) := s_Pass_drop 
theorem t_Script_addPass : zSnd l HB b L xs aK aV G tc (zMT.getD 34 zyD) (fun α => zA_vR_N 10 f_Script_addPass) := s_Script_addPass t_Pass_drop
theorem t_Reader_passLine : zSnd l HB b L xs aK aV G tc (zMT.getD 35 zyD) (fun α => zA_vR_I 7 f_Reader_passLine) := s_Reader_passLine t_Script_addPass t_Reader_next t_Reader_is
theorem t_Row_drop : zSnd l HB b L xs aK aV G tc (zMT.getD 36 zyD) (fun α => zA_vR_V 8 f_Row_drop) := s_Row_drop 
theorem t_Rule_drop : zSnd l HB b L xs aK aV G tc (zMT.getD 37 zyD) (fun α => zA_vR_V 9 f_Rule_drop) := s_Rule_drop t_Row_drop
theorem t_Pass_addRule : zSnd l HB b L xs aK aV G tc (zMT.getD 38 zyD) (fun α => zA_vR_N 5 f_Pass_addRule) := s_Pass_addRule t_Rule_drop
theorem t_Reader_sideBits : zSnd l HB b L xs aK aV G tc (zMT.getD 39 zyD) (fun α => zA_vR_I 7 f_Reader_sideBits) := s_Reader_sideBits t_Reader_is t_Reader_areLetters t_Reader_letterBits t_Reader_isKept t_Reader_nameHere t_Script_lettersOfKind t_Reader_next
theorem t_Reader_lettersInto : zSnd l HB b L xs aK aV G tc (zMT.getD 40 zyD) (fun α => zA_vRRI_I 7 f_Reader_lettersInto) := s_Reader_lettersInto t_Reader_areLetters t_Reader_byteAt t_Row_add t_Reader_next
theorem t_Reader_outcomeFault : zSnd l HB b L xs aK aV G tc (zMT.getD 41 zyD) (fun α => zA_vRR_I 7 f_Reader_outcomeFault) := s_Reader_outcomeFault t_Reader_is t_Reader_next t_Reader_lettersInto
theorem t_Reader_ruleLine : zSnd l HB b L xs aK aV G tc (zMT.getD 42 zyD) (fun α => zA_vR_I 7 f_Reader_ruleLine) := s_Reader_ruleLine t_Pass_addRule t_Reader_next t_Reader_is t_Reader_sideBits t_Reader_lettersInto t_Reader_outcomeFault
theorem t_Reader_line : zSnd l HB b L xs aK aV G tc (zMT.getD 43 zyD) (fun α => zA_vRI_I 7 f_Reader_line) := s_Reader_line t_Reader_is t_Reader_scriptLine t_Reader_kindLine t_Reader_passLine t_Reader_ruleLine
theorem t_Script_passAt : zSnd l HB b L xs aK aV G tc (zMT.getD 44 zyD) (fun α => zA_vRI_N 10 f_Script_passAt) := s_Script_passAt 
theorem t_Script_ruleCount : zSnd l HB b L xs aK aV G tc (zMT.getD 45 zyD) (fun α => zA_vR_I 10 f_Script_ruleCount) := s_Script_ruleCount t_Script_passAt
theorem t_J_fill : zSnd l HB b L xs aK aV G tc (zMT.getD 46 zyD) (fun α => zA_RI_V f_J_fill) := s_J_fill 
theorem t_Pass_ruleAt : zSnd l HB b L xs aK aV G tc (zMT.getD 47 zyD) (fun α => zA_vRI_N 5 f_Pass_ruleAt) := s_Pass_ruleAt 
theorem t_Machine_bearSides : zSnd l HB b L xs aK aV G tc (zMT.getD 48 zyD) (fun α => zA_vRR_V 3 f_Machine_bearSides) := s_Machine_bearSides t_Pass_ruleAt
theorem t_Rule_taken : zSnd l HB b L xs aK aV G tc (zMT.getD 49 zyD) (fun α => zA_vRI_R 9 f_Rule_taken) := s_Rule_taken 
theorem t_Row_at : zSnd l HB b L xs aK aV G tc (zMT.getD 50 zyD) (fun α => zA_vRI_I 8 f_Row_at) := s_Row_at 
theorem t_Machine_leadOn : zSnd l HB b L xs aK aV G tc (zMT.getD 51 zyD) (fun α => zA_vRRIII_V 3 f_Machine_leadOn) := s_Machine_leadOn t_Pass_ruleAt t_Rule_taken t_Row_at
theorem t_Machine_build : zSnd l HB b L xs aK aV G tc (zMT.getD 52 zyD) (fun α => zA_vRRI_V 3 f_Machine_build) := s_Machine_build t_J_fill t_Machine_bearSides t_Machine_leadOn
theorem t_Script_buildMachines : zSnd l HB b L xs aK aV G tc (zMT.getD 53 zyD) (fun α => zA_vR_V 10 f_Script_buildMachines) := s_Script_buildMachines t_Script_passAt t_Machine_build
theorem t_Reader_read : zSnd l HB b L xs aK aV G tc (zMT.getD 54 zyD) (fun α => zA_vRRIR_I 7 f_Reader_read) := s_Reader_read t_Script_drop t_Reader_next t_Reader_line t_Script_ruleCount t_Script_buildMachines
theorem t_Acts_drop : zSnd l HB b L xs aK aV G tc (zMT.getD 55 zyD) (fun α => zA_vR_V 0 f_Acts_drop) := s_Acts_drop 
theorem t_Outcomes_forget : zSnd l HB b L xs aK aV G tc (zMT.getD 56 zyD) (fun α => zA_vR_V 4 f_Outcomes_forget) := s_Outcomes_forget t_J_fill
theorem t_Census_forget : zSnd l HB b L xs aK aV G tc (zMT.getD 57 zyD) (fun α => zA_vR_V 2 f_Census_forget) := s_Census_forget t_Outcomes_forget t_J_fill
theorem t_Cl_forgetWords : zSnd l HB b L xs aK aV G tc (zMT.getD 58 zyD) (fun α => zA_vR_V 11 f_Cl_forgetWords) := s_Cl_forgetWords t_Census_forget
theorem t_Cl_answer : zSnd l HB b L xs aK aV G tc (zMT.getD 59 zyD) (fun α => zA_vRI_I 11 f_Cl_answer) := s_Cl_answer 
theorem t_Cl_script : zSnd l HB b L xs aK aV G tc (zMT.getD 60 zyD) (fun α => zA_vRI_I 11 f_Cl_script) := s_Cl_script t_Cl_refuse t_Reader_read t_Acts_drop t_Cl_forgetWords t_Cl_answer
theorem t_Mo_fresh : zSnd l HB b L xs aK aV G tc (zMT.getD 61 zyD) (fun α => zA_vR_V 12 f_Mo_fresh) := s_Mo_fresh 
theorem t_Mo_in : zSnd l HB b L xs aK aV G tc (zMT.getD 62 zyD) (fun α => zA_III_I f_Mo_in) := s_Mo_in 
theorem t_Mo_no : zSnd l HB b L xs aK aV G tc (zMT.getD 63 zyD) (fun α => zA_vRI_I 12 f_Mo_no) := s_Mo_no 
theorem t_Mo_see : zSnd l HB b L xs aK aV G tc (zMT.getD 64 zyD) (fun α => zA_vRI_I 12 f_Mo_see) := s_Mo_see 
theorem t_Mo_goesOn : zSnd l HB b L xs aK aV G tc (zMT.getD 65 zyD) (fun α => zA_vR_V 12 f_Mo_goesOn) := s_Mo_goesOn t_Mo_see t_Mo_in
theorem t_Mo_isWord : zSnd l HB b L xs aK aV G tc (zMT.getD 66 zyD) (fun α => zA_vRR_I 12 f_Mo_isWord) := s_Mo_isWord t_J_length t_J_charAt
theorem t_Mo_hasScript : zSnd l HB b L xs aK aV G tc (zMT.getD 67 zyD) (fun α => zA_vR_I 12 f_Mo_hasScript) := s_Mo_hasScript 
theorem t_Mo_errs : zSnd l HB b L xs aK aV G tc (zMT.getD 68 zyD) (fun α => zA_vRI_I 12 f_Mo_errs) := s_Mo_errs 
theorem t_Mo_needs : zSnd l HB b L xs aK aV G tc (zMT.getD 69 zyD) (fun α => zA_vRR_I 12 f_Mo_needs) := s_Mo_needs t_Mo_isWord t_Mo_errs t_Mo_goesOn
theorem t_Mo_readScript : zSnd l HB b L xs aK aV G tc (zMT.getD 70 zyD) (fun α => zA_vR_I 12 f_Mo_readScript) := s_Mo_readScript t_Mo_hasScript t_Mo_errs t_Mo_goesOn t_Mo_needs t_Mo_in
theorem t_Mo_isKeyword : zSnd l HB b L xs aK aV G tc (zMT.getD 71 zyD) (fun α => zA_vR_I 12 f_Mo_isKeyword) := s_Mo_isKeyword t_Mo_isWord
theorem t_Mo_spelt : zSnd l HB b L xs aK aV G tc (zMT.getD 72 zyD) (fun α => zA_vR_J 12 f_Mo_spelt) := s_Mo_spelt 
theorem t_Mo_kindHere : zSnd l HB b L xs aK aV G tc (zMT.getD 73 zyD) (fun α => zA_vR_I 12 f_Mo_kindHere) := s_Mo_kindHere t_Mo_spelt
theorem t_Mo_areLetters : zSnd l HB b L xs aK aV G tc (zMT.getD 74 zyD) (fun α => zA_vRI_I 12 f_Mo_areLetters) := s_Mo_areLetters 
theorem t_Mo_readKind : zSnd l HB b L xs aK aV G tc (zMT.getD 75 zyD) (fun α => zA_vR_I 12 f_Mo_readKind) := s_Mo_readKind t_Mo_errs t_Mo_hasScript t_Mo_goesOn t_Mo_isKeyword t_Mo_kindHere t_Mo_spelt t_Mo_needs t_Mo_areLetters
theorem t_Mo_readPass : zSnd l HB b L xs aK aV G tc (zMT.getD 76 zyD) (fun α => zA_vR_I 12 f_Mo_readPass) := s_Mo_readPass t_Mo_errs t_Mo_hasScript t_Mo_goesOn t_Mo_isWord
theorem t_Mo_readSide : zSnd l HB b L xs aK aV G tc (zMT.getD 77 zyD) (fun α => zA_vR_I 12 f_Mo_readSide) := s_Mo_readSide t_Mo_errs t_Mo_areLetters t_Mo_isWord t_Mo_isKeyword t_Mo_kindHere t_Mo_goesOn
theorem t_Mo_readLetters : zSnd l HB b L xs aK aV G tc (zMT.getD 78 zyD) (fun α => zA_vRIIII_I 12 f_Mo_readLetters) := s_Mo_readLetters t_Mo_areLetters t_Mo_errs t_Mo_goesOn
theorem t_Mo_readRule : zSnd l HB b L xs aK aV G tc (zMT.getD 79 zyD) (fun α => zA_vR_I 12 f_Mo_readRule) := s_Mo_readRule t_Mo_errs t_Mo_hasScript t_Mo_goesOn t_Mo_isWord t_Mo_readSide t_Mo_readLetters t_Mo_needs
theorem t_Mo_readLine : zSnd l HB b L xs aK aV G tc (zMT.getD 80 zyD) (fun α => zA_vR_I 12 f_Mo_readLine) := s_Mo_readLine t_Mo_isWord t_Mo_readScript t_Mo_readKind t_Mo_readPass t_Mo_readRule t_Mo_errs
theorem t_Mo_readAll : zSnd l HB b L xs aK aV G tc (zMT.getD 81 zyD) (fun α => zA_vRI_I 12 f_Mo_readAll) := s_Mo_readAll t_Mo_goesOn t_Mo_readLine t_Mo_errs
theorem t_Mo_script : zSnd l HB b L xs aK aV G tc (zMT.getD 82 zyD) (fun α => zA_vRI_I 12 f_Mo_script) := s_Mo_script t_Mo_fresh t_Mo_in t_Mo_no t_Mo_readAll
theorem t_Cl_fault : zSnd l HB b L xs aK aV G tc (zMT.getD 83 zyD) (fun α => zA_vR_I 11 f_Cl_fault) := s_Cl_fault 
theorem t_Mo_fault : zSnd l HB b L xs aK aV G tc (zMT.getD 84 zyD) (fun α => zA_vR_I 12 f_Mo_fault) := s_Mo_fault 
theorem t_Cl_where : zSnd l HB b L xs aK aV G tc (zMT.getD 85 zyD) (fun α => zA_vR_I 11 f_Cl_where) := s_Cl_where 
theorem t_Mo_where : zSnd l HB b L xs aK aV G tc (zMT.getD 86 zyD) (fun α => zA_vR_I 12 f_Mo_where) := s_Mo_where 
theorem t_Cl_noScript : zSnd l HB b L xs aK aV G tc (zMT.getD 87 zyD) (fun α => zA_vR_I 11 f_Cl_noScript) := s_Cl_noScript 
theorem t_Cl_about : zSnd l HB b L xs aK aV G tc (zMT.getD 88 zyD) (fun α => zA_vRI_I 11 f_Cl_about) := s_Cl_about t_Cl_noScript t_Cl_refuse t_Cl_answer t_Script_ruleCount
theorem t_Mo_ruleAll : zSnd l HB b L xs aK aV G tc (zMT.getD 89 zyD) (fun α => zA_vR_I 12 f_Mo_ruleAll) := s_Mo_ruleAll 
theorem t_Mo_about : zSnd l HB b L xs aK aV G tc (zMT.getD 90 zyD) (fun α => zA_vRI_I 12 f_Mo_about) := s_Mo_about t_Mo_fresh t_Mo_no t_Mo_ruleAll
theorem t_Cl_kind : zSnd l HB b L xs aK aV G tc (zMT.getD 91 zyD) (fun α => zA_vRI_I 11 f_Cl_kind) := s_Cl_kind t_Cl_refuse t_Cl_answer
theorem t_Mo_kind : zSnd l HB b L xs aK aV G tc (zMT.getD 92 zyD) (fun α => zA_vRI_I 12 f_Mo_kind) := s_Mo_kind t_Mo_fresh t_Mo_in t_Mo_no
theorem t_Cl_pass : zSnd l HB b L xs aK aV G tc (zMT.getD 93 zyD) (fun α => zA_vRII_I 11 f_Cl_pass) := s_Cl_pass t_Script_passAt t_Cl_refuse t_Cl_answer
theorem t_Mo_isPass : zSnd l HB b L xs aK aV G tc (zMT.getD 94 zyD) (fun α => zA_vRI_I 12 f_Mo_isPass) := s_Mo_isPass t_Mo_in
theorem t_Mo_rowOf : zSnd l HB b L xs aK aV G tc (zMT.getD 95 zyD) (fun α => zA_II_I f_Mo_rowOf) := s_Mo_rowOf 
theorem t_Mo_beginning : zSnd l HB b L xs aK aV G tc (zMT.getD 96 zyD) (fun α => zA_vRII_I 12 f_Mo_beginning) := s_Mo_beginning 
theorem t_Mo_isBeginning : zSnd l HB b L xs aK aV G tc (zMT.getD 97 zyD) (fun α => zA_vRII_I 12 f_Mo_isBeginning) := s_Mo_isBeginning t_Mo_rowOf t_Mo_beginning
theorem t_Mo_laysStates : zSnd l HB b L xs aK aV G tc (zMT.getD 98 zyD) (fun α => zA_vRI_V 12 f_Mo_laysStates) := s_Mo_laysStates t_Mo_isBeginning
theorem t_Mo_pass : zSnd l HB b L xs aK aV G tc (zMT.getD 99 zyD) (fun α => zA_vRII_I 12 f_Mo_pass) := s_Mo_pass t_Mo_fresh t_Mo_isPass t_Mo_in t_Mo_no t_Mo_laysStates
theorem t_Script_ruleAt : zSnd l HB b L xs aK aV G tc (zMT.getD 100 zyD) (fun α => zA_vRII_N 10 f_Script_ruleAt) := s_Script_ruleAt t_Script_passAt t_Pass_ruleAt
theorem t_Cl_bitsBelow : zSnd l HB b L xs aK aV G tc (zMT.getD 101 zyD) (fun α => zA_I_I f_Cl_bitsBelow) := s_Cl_bitsBelow 
theorem t_Pass_serving : zSnd l HB b L xs aK aV G tc (zMT.getD 102 zyD) (fun α => zA_vR_I 5 f_Pass_serving) := s_Pass_serving t_Cl_bitsBelow
theorem t_Pass_serves : zSnd l HB b L xs aK aV G tc (zMT.getD 103 zyD) (fun α => zA_vRI_I 5 f_Pass_serves) := s_Pass_serves t_Pass_serving
theorem t_Script_isAside : zSnd l HB b L xs aK aV G tc (zMT.getD 104 zyD) (fun α => zA_vRII_I 10 f_Script_isAside) := s_Script_isAside t_Script_passAt t_Pass_ruleAt t_Pass_serves
theorem t_Cl_rule : zSnd l HB b L xs aK aV G tc (zMT.getD 105 zyD) (fun α => zA_vRIII_I 11 f_Cl_rule) := s_Cl_rule t_Script_ruleAt t_Cl_refuse t_Cl_answer t_Script_isAside
theorem t_Mo_isRule : zSnd l HB b L xs aK aV G tc (zMT.getD 106 zyD) (fun α => zA_vRII_I 12 f_Mo_isRule) := s_Mo_isRule t_Mo_isPass t_Mo_in
theorem t_Mo_rule : zSnd l HB b L xs aK aV G tc (zMT.getD 107 zyD) (fun α => zA_vRIII_I 12 f_Mo_rule) := s_Mo_rule t_Mo_fresh t_Mo_isRule t_Mo_in t_Mo_no t_Mo_rowOf
theorem t_Cl_answerLetter : zSnd l HB b L xs aK aV G tc (zMT.getD 108 zyD) (fun α => zA_vRRI_I 11 f_Cl_answerLetter) := s_Cl_answerLetter t_Row_at t_Cl_refuse t_Cl_answer
theorem t_Cl_letter : zSnd l HB b L xs aK aV G tc (zMT.getD 109 zyD) (fun α => zA_vRIIII_I 11 f_Cl_letter) := s_Cl_letter t_Script_ruleAt t_Cl_refuse t_Cl_answerLetter
theorem t_Mo_letter : zSnd l HB b L xs aK aV G tc (zMT.getD 110 zyD) (fun α => zA_vRIIII_I 12 f_Mo_letter) := s_Mo_letter t_Mo_fresh t_Mo_isRule t_Mo_in t_Mo_rowOf t_Mo_no
theorem t_Machine_has : zSnd l HB b L xs aK aV G tc (zMT.getD 111 zyD) (fun α => zA_vRI_I 3 f_Machine_has) := s_Machine_has 
theorem t_Cl_machineWith : zSnd l HB b L xs aK aV G tc (zMT.getD 112 zyD) (fun α => zA_vRII_N 11 f_Cl_machineWith) := s_Cl_machineWith t_Script_passAt t_Machine_has
theorem t_Machine_step : zSnd l HB b L xs aK aV G tc (zMT.getD 113 zyD) (fun α => zA_vRII_I 3 f_Machine_step) := s_Machine_step t_Machine_has
theorem t_Cl_goes : zSnd l HB b L xs aK aV G tc (zMT.getD 114 zyD) (fun α => zA_vRIII_I 11 f_Cl_goes) := s_Cl_goes t_Cl_machineWith t_Cl_refuse t_Machine_step t_Cl_answer
theorem t_Mo_isState : zSnd l HB b L xs aK aV G tc (zMT.getD 115 zyD) (fun α => zA_vRII_I 12 f_Mo_isState) := s_Mo_isState t_Mo_isPass t_Mo_laysStates t_Mo_in
theorem t_Mo_goes : zSnd l HB b L xs aK aV G tc (zMT.getD 116 zyD) (fun α => zA_vRIII_I 12 f_Mo_goes) := s_Mo_goes t_Mo_fresh t_Mo_isState t_Mo_in t_Mo_no
theorem t_Machine_depthOf : zSnd l HB b L xs aK aV G tc (zMT.getD 117 zyD) (fun α => zA_vRI_I 3 f_Machine_depthOf) := s_Machine_depthOf t_Machine_has
theorem t_Cl_depth : zSnd l HB b L xs aK aV G tc (zMT.getD 118 zyD) (fun α => zA_vRII_I 11 f_Cl_depth) := s_Cl_depth t_Cl_machineWith t_Cl_refuse t_Machine_depthOf t_Cl_answer
theorem t_Mo_depth : zSnd l HB b L xs aK aV G tc (zMT.getD 119 zyD) (fun α => zA_vRII_I 12 f_Mo_depth) := s_Mo_depth t_Mo_fresh t_Mo_isState t_Mo_no
theorem t_Machine_endingAt : zSnd l HB b L xs aK aV G tc (zMT.getD 120 zyD) (fun α => zA_vRI_I 3 f_Machine_endingAt) := s_Machine_endingAt t_Machine_has
theorem t_Cl_ends : zSnd l HB b L xs aK aV G tc (zMT.getD 121 zyD) (fun α => zA_vRII_I 11 f_Cl_ends) := s_Cl_ends t_Cl_machineWith t_Cl_refuse t_Machine_endingAt t_Cl_answer
theorem t_Mo_ends : zSnd l HB b L xs aK aV G tc (zMT.getD 122 zyD) (fun α => zA_vRII_I 12 f_Mo_ends) := s_Mo_ends t_Mo_fresh t_Mo_isState t_Mo_no t_Mo_rowOf t_Mo_beginning
theorem t_Pieces_put : zSnd l HB b L xs aK aV G tc (zMT.getD 123 zyD) (fun α => zA_vRIR_V 6 f_Pieces_put) := s_Pieces_put 
theorem t_Pass_alwaysTakes : zSnd l HB b L xs aK aV G tc (zMT.getD 124 zyD) (fun α => zA_vRI_I 5 f_Pass_alwaysTakes) := s_Pass_alwaysTakes t_Pass_ruleAt t_Pass_serves t_Row_at
theorem t_Pieces_gather : zSnd l HB b L xs aK aV G tc (zMT.getD 125 zyD) (fun α => zA_vRR_V 6 f_Pieces_gather) := s_Pieces_gather t_Pass_ruleAt t_Pass_serves t_Pieces_put t_Pass_alwaysTakes
theorem t_Cl_gatherPieces : zSnd l HB b L xs aK aV G tc (zMT.getD 126 zyD) (fun α => zA_vRI_I 11 f_Cl_gatherPieces) := s_Cl_gatherPieces t_Script_passAt t_Pieces_gather
theorem t_Cl_pieces : zSnd l HB b L xs aK aV G tc (zMT.getD 127 zyD) (fun α => zA_vRI_I 11 f_Cl_pieces) := s_Cl_pieces t_Cl_gatherPieces t_Cl_answer t_Cl_refuse
theorem t_Mo_isTurned : zSnd l HB b L xs aK aV G tc (zMT.getD 128 zyD) (fun α => zA_vRII_I 12 f_Mo_isTurned) := s_Mo_isTurned t_Mo_rowOf
theorem t_Mo_laysPieces : zSnd l HB b L xs aK aV G tc (zMT.getD 129 zyD) (fun α => zA_vRI_V 12 f_Mo_laysPieces) := s_Mo_laysPieces t_Mo_rowOf t_Mo_isTurned
theorem t_Mo_pieces : zSnd l HB b L xs aK aV G tc (zMT.getD 130 zyD) (fun α => zA_vRI_I 12 f_Mo_pieces) := s_Mo_pieces t_Mo_fresh t_Mo_isPass t_Mo_no t_Mo_laysPieces
theorem t_Pieces_whatOf : zSnd l HB b L xs aK aV G tc (zMT.getD 131 zyD) (fun α => zA_vRI_I 6 f_Pieces_whatOf) := s_Pieces_whatOf 
theorem t_Cl_piece : zSnd l HB b L xs aK aV G tc (zMT.getD 132 zyD) (fun α => zA_vRII_I 11 f_Cl_piece) := s_Cl_piece t_Cl_gatherPieces t_Cl_refuse t_Pieces_whatOf t_Cl_answer
theorem t_Mo_piece : zSnd l HB b L xs aK aV G tc (zMT.getD 133 zyD) (fun α => zA_vRII_I 12 f_Mo_piece) := s_Mo_piece t_Mo_fresh t_Mo_isPass t_Mo_no t_Mo_laysPieces t_Mo_in
theorem t_Pieces_lettersOf : zSnd l HB b L xs aK aV G tc (zMT.getD 134 zyD) (fun α => zA_vRI_N 6 f_Pieces_lettersOf) := s_Pieces_lettersOf 
theorem t_Row_agrees : zSnd l HB b L xs aK aV G tc (zMT.getD 135 zyD) (fun α => zA_vRIR_I 8 f_Row_agrees) := s_Row_agrees t_Row_at
theorem t_Pieces_reach : zSnd l HB b L xs aK aV G tc (zMT.getD 136 zyD) (fun α => zA_vRIII_V 6 f_Pieces_reach) := s_Pieces_reach 
theorem t_Pieces_follow : zSnd l HB b L xs aK aV G tc (zMT.getD 137 zyD) (fun α => zA_vRIIII_V 6 f_Pieces_follow) := s_Pieces_follow t_Pieces_lettersOf t_Row_agrees t_Pieces_reach
theorem t_Pieces_followAll : zSnd l HB b L xs aK aV G tc (zMT.getD 138 zyD) (fun α => zA_vR_V 6 f_Pieces_followAll) := s_Pieces_followAll t_Pieces_follow
theorem t_Pieces_fewestReadTwice : zSnd l HB b L xs aK aV G tc (zMT.getD 139 zyD) (fun α => zA_vR_I 6 f_Pieces_fewestReadTwice) := s_Pieces_fewestReadTwice t_J_fill t_Pieces_lettersOf t_Pieces_follow t_Pieces_followAll
theorem t_Cl_clear : zSnd l HB b L xs aK aV G tc (zMT.getD 140 zyD) (fun α => zA_vRI_I 11 f_Cl_clear) := s_Cl_clear t_Cl_gatherPieces t_Cl_refuse t_Pieces_fewestReadTwice t_Cl_answer
theorem t_Mo_areOne : zSnd l HB b L xs aK aV G tc (zMT.getD 141 zyD) (fun α => zA_vRIIII_I 12 f_Mo_areOne) := s_Mo_areOne 
theorem t_Mo_isReached : zSnd l HB b L xs aK aV G tc (zMT.getD 142 zyD) (fun α => zA_vRIII_V 12 f_Mo_isReached) := s_Mo_isReached 
theorem t_Mo_nearest : zSnd l HB b L xs aK aV G tc (zMT.getD 143 zyD) (fun α => zA_vR_I 12 f_Mo_nearest) := s_Mo_nearest 
theorem t_Mo_goesFrom : zSnd l HB b L xs aK aV G tc (zMT.getD 144 zyD) (fun α => zA_vRIII_V 12 f_Mo_goesFrom) := s_Mo_goesFrom t_Mo_areOne t_Mo_isReached
theorem t_Mo_unclearOf : zSnd l HB b L xs aK aV G tc (zMT.getD 145 zyD) (fun α => zA_vR_I 12 f_Mo_unclearOf) := s_Mo_unclearOf t_Mo_areOne t_Mo_isReached t_Mo_nearest t_Mo_goesFrom
theorem t_Mo_clear : zSnd l HB b L xs aK aV G tc (zMT.getD 146 zyD) (fun α => zA_vRI_I 12 f_Mo_clear) := s_Mo_clear t_Mo_fresh t_Mo_isPass t_Mo_no t_Mo_laysPieces t_Mo_unclearOf
theorem t_Cl_unclear : zSnd l HB b L xs aK aV G tc (zMT.getD 147 zyD) (fun α => zA_vRI_I 11 f_Cl_unclear) := s_Cl_unclear t_Cl_gatherPieces t_Pieces_fewestReadTwice t_Cl_answer t_Cl_refuse
theorem t_Mo_unclear : zSnd l HB b L xs aK aV G tc (zMT.getD 148 zyD) (fun α => zA_vRI_I 12 f_Mo_unclear) := s_Mo_unclear t_Mo_fresh t_Mo_isPass t_Mo_no t_Mo_laysPieces t_Mo_unclearOf
theorem t_Row_takeWord : zSnd l HB b L xs aK aV G tc (zMT.getD 149 zyD) (fun α => zA_vRJ_I 8 f_Row_takeWord) := s_Row_takeWord t_Row_drop t_Row_add
theorem t_Row_holds : zSnd l HB b L xs aK aV G tc (zMT.getD 150 zyD) (fun α => zA_vRIR_I 8 f_Row_holds) := s_Row_holds t_Row_agrees
theorem t_Pieces_waysBehind : zSnd l HB b L xs aK aV G tc (zMT.getD 151 zyD) (fun α => zA_vRRII_I 6 f_Pieces_waysBehind) := s_Pieces_waysBehind t_Pieces_lettersOf t_Row_holds
theorem t_Pieces_countReadings : zSnd l HB b L xs aK aV G tc (zMT.getD 152 zyD) (fun α => zA_vRR_I 6 f_Pieces_countReadings) := s_Pieces_countReadings t_Pieces_waysBehind
theorem t_Cl_readings : zSnd l HB b L xs aK aV G tc (zMT.getD 153 zyD) (fun α => zA_vRIJ_I 11 f_Cl_readings) := s_Cl_readings t_Cl_gatherPieces t_Cl_refuse t_Row_takeWord t_Pieces_countReadings t_Cl_answer
theorem t_Mo_laysLetters : zSnd l HB b L xs aK aV G tc (zMT.getD 154 zyD) (fun α => zA_vRJ_I 12 f_Mo_laysLetters) := s_Mo_laysLetters t_Mo_in
theorem t_Mo_isPieceAt : zSnd l HB b L xs aK aV G tc (zMT.getD 155 zyD) (fun α => zA_vRII_I 12 f_Mo_isPieceAt) := s_Mo_isPieceAt 
theorem t_Mo_laysReadings : zSnd l HB b L xs aK aV G tc (zMT.getD 156 zyD) (fun α => zA_vRI_V 12 f_Mo_laysReadings) := s_Mo_laysReadings t_Mo_laysPieces t_Mo_isPieceAt
theorem t_Mo_readings : zSnd l HB b L xs aK aV G tc (zMT.getD 157 zyD) (fun α => zA_vRIJ_I 12 f_Mo_readings) := s_Mo_readings t_Mo_fresh t_Mo_isPass t_Mo_no t_Mo_laysLetters t_Mo_laysReadings
theorem t_Pieces_firstPieceAt : zSnd l HB b L xs aK aV G tc (zMT.getD 158 zyD) (fun α => zA_vRRI_I 6 f_Pieces_firstPieceAt) := s_Pieces_firstPieceAt t_Pieces_waysBehind
theorem t_Pieces_firstReadingAt : zSnd l HB b L xs aK aV G tc (zMT.getD 159 zyD) (fun α => zA_vRRI_I 6 f_Pieces_firstReadingAt) := s_Pieces_firstReadingAt t_Pieces_countReadings t_Pieces_firstPieceAt t_Pieces_lettersOf t_Pieces_whatOf
theorem t_Cl_reading : zSnd l HB b L xs aK aV G tc (zMT.getD 160 zyD) (fun α => zA_vRIJI_I 11 f_Cl_reading) := s_Cl_reading t_Cl_gatherPieces t_Cl_refuse t_Row_takeWord t_Pieces_firstReadingAt t_Cl_answer
theorem t_Mo_firstPiece : zSnd l HB b L xs aK aV G tc (zMT.getD 161 zyD) (fun α => zA_vRI_I 12 f_Mo_firstPiece) := s_Mo_firstPiece t_Mo_isPieceAt
theorem t_Mo_reading : zSnd l HB b L xs aK aV G tc (zMT.getD 162 zyD) (fun α => zA_vRIJI_I 12 f_Mo_reading) := s_Mo_reading t_Mo_fresh t_Mo_isPass t_Mo_no t_Mo_laysLetters t_Mo_laysReadings t_Mo_firstPiece
theorem t_Cl_sure : zSnd l HB b L xs aK aV G tc (zMT.getD 163 zyD) (fun α => zA_vR_I 11 f_Cl_sure) := s_Cl_sure t_Cl_noScript t_Cl_refuse t_Script_passAt t_Cl_answer t_Pieces_gather t_Pieces_fewestReadTwice
theorem t_Mo_sure : zSnd l HB b L xs aK aV G tc (zMT.getD 164 zyD) (fun α => zA_vR_I 12 f_Mo_sure) := s_Mo_sure t_Mo_fresh t_Mo_no t_Mo_laysPieces t_Mo_unclearOf
theorem t_Row_addAll : zSnd l HB b L xs aK aV G tc (zMT.getD 165 zyD) (fun α => zA_vRR_I 8 f_Row_addAll) := s_Row_addAll 
theorem t_Row_copy : zSnd l HB b L xs aK aV G tc (zMT.getD 166 zyD) (fun α => zA_vRR_V 8 f_Row_copy) := s_Row_copy t_Row_drop t_Row_addAll
theorem t_Carrier_behindPass : zSnd l HB b L xs aK aV G tc (zMT.getD 167 zyD) (fun α => zA_vRI_N 1 f_Carrier_behindPass) := s_Carrier_behindPass 
theorem t_Row_beside : zSnd l HB b L xs aK aV G tc (zMT.getD 168 zyD) (fun α => zA_vRI_I 8 f_Row_beside) := s_Row_beside 
theorem t_Machine_ruleFor : zSnd l HB b L xs aK aV G tc (zMT.getD 169 zyD) (fun α => zA_vRRII_I 3 f_Machine_ruleFor) := s_Machine_ruleFor t_Row_beside t_Row_at t_J_bitCount
theorem t_Carrier_noteServed : zSnd l HB b L xs aK aV G tc (zMT.getD 170 zyD) (fun α => zA_vRII_V 1 f_Carrier_noteServed) := s_Carrier_noteServed 
theorem t_Rule_given : zSnd l HB b L xs aK aV G tc (zMT.getD 171 zyD) (fun α => zA_vRI_R 9 f_Rule_given) := s_Rule_given 
theorem t_Carrier_throughRound : zSnd l HB b L xs aK aV G tc (zMT.getD 172 zyD) (fun α => zA_vRRII_I 1 f_Carrier_throughRound) := s_Carrier_throughRound t_Pass_serving t_Row_drop t_Machine_ruleFor t_Pass_ruleAt t_Row_at t_Row_add t_Carrier_noteServed t_Rule_taken t_Rule_given t_Row_addAll
theorem t_Row_same : zSnd l HB b L xs aK aV G tc (zMT.getD 173 zyD) (fun α => zA_vRR_I 8 f_Row_same) := s_Row_same 
theorem t_Carrier_throughPass : zSnd l HB b L xs aK aV G tc (zMT.getD 174 zyD) (fun α => zA_vRRII_I 1 f_Carrier_throughPass) := s_Carrier_throughPass t_Carrier_throughRound t_Row_same
theorem t_Carrier_bring : zSnd l HB b L xs aK aV G tc (zMT.getD 175 zyD) (fun α => zA_vRRRI_I 1 f_Carrier_bring) := s_Carrier_bring t_J_fill t_Row_copy t_Script_passAt t_Carrier_behindPass t_Carrier_throughPass
theorem t_Cl_carry : zSnd l HB b L xs aK aV G tc (zMT.getD 176 zyD) (fun α => zA_vRJ_I 11 f_Cl_carry) := s_Cl_carry t_Cl_noScript t_Cl_refuse t_Row_takeWord t_Carrier_bring t_Cl_answer
theorem t_Mo_sideAt : zSnd l HB b L xs aK aV G tc (zMT.getD 177 zyD) (fun α => zA_vRI_I 12 f_Mo_sideAt) := s_Mo_sideAt t_Mo_in
theorem t_Mo_fits : zSnd l HB b L xs aK aV G tc (zMT.getD 178 zyD) (fun α => zA_vRIIII_I 12 f_Mo_fits) := s_Mo_fits t_Mo_sideAt
theorem t_Mo_serving : zSnd l HB b L xs aK aV G tc (zMT.getD 179 zyD) (fun α => zA_vRIIII_I 12 f_Mo_serving) := s_Mo_serving t_Mo_rowOf t_Mo_fits
theorem t_Mo_goesRound : zSnd l HB b L xs aK aV G tc (zMT.getD 180 zyD) (fun α => zA_vRII_I 12 f_Mo_goesRound) := s_Mo_goesRound t_Mo_serving t_Mo_rowOf
theorem t_Mo_isChanged : zSnd l HB b L xs aK aV G tc (zMT.getD 181 zyD) (fun α => zA_vR_I 12 f_Mo_isChanged) := s_Mo_isChanged 
theorem t_Mo_comesOut : zSnd l HB b L xs aK aV G tc (zMT.getD 182 zyD) (fun α => zA_vR_V 12 f_Mo_comesOut) := s_Mo_comesOut 
theorem t_Mo_goesPass : zSnd l HB b L xs aK aV G tc (zMT.getD 183 zyD) (fun α => zA_vRII_I 12 f_Mo_goesPass) := s_Mo_goesPass t_Mo_goesRound t_Mo_isChanged t_Mo_comesOut
theorem t_Mo_goesAll : zSnd l HB b L xs aK aV G tc (zMT.getD 184 zyD) (fun α => zA_vRI_I 12 f_Mo_goesAll) := s_Mo_goesAll t_Mo_goesPass
theorem t_Mo_remembers : zSnd l HB b L xs aK aV G tc (zMT.getD 185 zyD) (fun α => zA_vR_V 12 f_Mo_remembers) := s_Mo_remembers 
theorem t_Mo_carry : zSnd l HB b L xs aK aV G tc (zMT.getD 186 zyD) (fun α => zA_vRJ_I 12 f_Mo_carry) := s_Mo_carry t_Mo_fresh t_Mo_no t_Mo_laysLetters t_Mo_goesAll t_Mo_remembers
theorem t_Cl_out : zSnd l HB b L xs aK aV G tc (zMT.getD 187 zyD) (fun α => zA_vRI_I 11 f_Cl_out) := s_Cl_out t_Cl_answerLetter t_Cl_refuse
theorem t_Mo_out : zSnd l HB b L xs aK aV G tc (zMT.getD 188 zyD) (fun α => zA_vRI_I 12 f_Mo_out) := s_Mo_out t_Mo_fresh t_Mo_in t_Mo_no
theorem t_Cl_carriedBehind : zSnd l HB b L xs aK aV G tc (zMT.getD 189 zyD) (fun α => zA_vRI_N 11 f_Cl_carriedBehind) := s_Cl_carriedBehind t_Script_passAt t_Carrier_behindPass
theorem t_Cl_behind : zSnd l HB b L xs aK aV G tc (zMT.getD 190 zyD) (fun α => zA_vRI_I 11 f_Cl_behind) := s_Cl_behind t_Cl_carriedBehind t_Cl_refuse t_Cl_answer
theorem t_Mo_behind : zSnd l HB b L xs aK aV G tc (zMT.getD 191 zyD) (fun α => zA_vRI_I 12 f_Mo_behind) := s_Mo_behind t_Mo_fresh t_Mo_isPass t_Mo_no
theorem t_Cl_outOf : zSnd l HB b L xs aK aV G tc (zMT.getD 192 zyD) (fun α => zA_vRII_I 11 f_Cl_outOf) := s_Cl_outOf t_Cl_carriedBehind t_Cl_refuse t_Cl_answerLetter
theorem t_Mo_outOf : zSnd l HB b L xs aK aV G tc (zMT.getD 193 zyD) (fun α => zA_vRII_I 12 f_Mo_outOf) := s_Mo_outOf t_Mo_fresh t_Mo_isPass t_Mo_in t_Mo_no
theorem t_Carrier_roundsOf : zSnd l HB b L xs aK aV G tc (zMT.getD 194 zyD) (fun α => zA_vRI_I 1 f_Carrier_roundsOf) := s_Carrier_roundsOf 
theorem t_Cl_rounds : zSnd l HB b L xs aK aV G tc (zMT.getD 195 zyD) (fun α => zA_vRI_I 11 f_Cl_rounds) := s_Cl_rounds t_Cl_carriedBehind t_Cl_refuse t_Carrier_roundsOf t_Cl_answer
theorem t_Mo_rounds : zSnd l HB b L xs aK aV G tc (zMT.getD 196 zyD) (fun α => zA_vRI_I 12 f_Mo_rounds) := s_Mo_rounds t_Mo_fresh t_Mo_isPass t_Mo_no
theorem t_Carrier_servedBy : zSnd l HB b L xs aK aV G tc (zMT.getD 197 zyD) (fun α => zA_vRII_I 1 f_Carrier_servedBy) := s_Carrier_servedBy 
theorem t_Cl_served : zSnd l HB b L xs aK aV G tc (zMT.getD 198 zyD) (fun α => zA_vRII_I 11 f_Cl_served) := s_Cl_served t_Script_ruleAt t_Cl_refuse t_Carrier_servedBy t_Cl_answer
theorem t_Mo_served : zSnd l HB b L xs aK aV G tc (zMT.getD 199 zyD) (fun α => zA_vRII_I 12 f_Mo_served) := s_Mo_served t_Mo_fresh t_Mo_isRule t_Mo_no
theorem t_Row_changesTo : zSnd l HB b L xs aK aV G tc (zMT.getD 200 zyD) (fun α => zA_vRRR_I 8 f_Row_changesTo) := s_Row_changesTo t_Row_at
theorem t_Cl_apart : zSnd l HB b L xs aK aV G tc (zMT.getD 201 zyD) (fun α => zA_vRJJ_I 11 f_Cl_apart) := s_Cl_apart t_Cl_noScript t_Cl_refuse t_Row_takeWord t_Carrier_bring t_Row_copy t_Row_changesTo t_Cl_answer
theorem t_Mo_changesOf : zSnd l HB b L xs aK aV G tc (zMT.getD 202 zyD) (fun α => zA_vR_I 12 f_Mo_changesOf) := s_Mo_changesOf 
theorem t_Mo_apart : zSnd l HB b L xs aK aV G tc (zMT.getD 203 zyD) (fun α => zA_vRJJ_I 12 f_Mo_apart) := s_Mo_apart t_Mo_fresh t_Mo_no t_Mo_laysLetters t_Mo_goesAll t_Mo_changesOf
theorem t_Cl_bringTurned : zSnd l HB b L xs aK aV G tc (zMT.getD 204 zyD) (fun α => zA_vRJ_I 11 f_Cl_bringTurned) := s_Cl_bringTurned t_Cl_noScript t_Row_takeWord t_Carrier_bring
theorem t_Cl_turned : zSnd l HB b L xs aK aV G tc (zMT.getD 205 zyD) (fun α => zA_vRJ_I 11 f_Cl_turned) := s_Cl_turned t_Cl_bringTurned t_Cl_refuse t_Cl_answer
theorem t_Mo_goesTurned : zSnd l HB b L xs aK aV G tc (zMT.getD 206 zyD) (fun α => zA_vRJ_I 12 f_Mo_goesTurned) := s_Mo_goesTurned t_Mo_laysLetters t_Mo_goesAll
theorem t_Mo_turned : zSnd l HB b L xs aK aV G tc (zMT.getD 207 zyD) (fun α => zA_vRJ_I 12 f_Mo_turned) := s_Mo_turned t_Mo_fresh t_Mo_goesTurned t_Mo_no
theorem t_Cl_turnedOut : zSnd l HB b L xs aK aV G tc (zMT.getD 208 zyD) (fun α => zA_vRJI_I 11 f_Cl_turnedOut) := s_Cl_turnedOut t_Cl_bringTurned t_Cl_refuse t_Cl_answerLetter
theorem t_Mo_turnedOut : zSnd l HB b L xs aK aV G tc (zMT.getD 209 zyD) (fun α => zA_vRJI_I 12 f_Mo_turnedOut) := s_Mo_turnedOut t_Mo_fresh t_Mo_goesTurned t_Mo_no t_Mo_in
theorem t_Cl_troubleUpTo : zSnd l HB b L xs aK aV G tc (zMT.getD 210 zyD) (fun α => zA_vRII_I 11 f_Cl_troubleUpTo) := s_Cl_troubleUpTo t_Cl_noScript
theorem t_Cl_countUpTo : zSnd l HB b L xs aK aV G tc (zMT.getD 211 zyD) (fun α => zA_II_I f_Cl_countUpTo) := s_Cl_countUpTo 
theorem t_Cl_words : zSnd l HB b L xs aK aV G tc (zMT.getD 212 zyD) (fun α => zA_vRI_I 11 f_Cl_words) := s_Cl_words t_Cl_troubleUpTo t_Cl_refuse t_Cl_countUpTo t_Cl_answer
theorem t_Mo_wordsWhy : zSnd l HB b L xs aK aV G tc (zMT.getD 213 zyD) (fun α => zA_vRII_I 12 f_Mo_wordsWhy) := s_Mo_wordsWhy t_Mo_in
theorem t_Mo_isRefused : zSnd l HB b L xs aK aV G tc (zMT.getD 214 zyD) (fun α => zA_vRI_I 12 f_Mo_isRefused) := s_Mo_isRefused t_Mo_fresh
theorem t_Mo_manyUpTo : zSnd l HB b L xs aK aV G tc (zMT.getD 215 zyD) (fun α => zA_vRI_I 12 f_Mo_manyUpTo) := s_Mo_manyUpTo 
theorem t_Mo_words : zSnd l HB b L xs aK aV G tc (zMT.getD 216 zyD) (fun α => zA_vRI_I 12 f_Mo_words) := s_Mo_words t_Mo_wordsWhy t_Mo_isRefused t_Mo_manyUpTo
theorem t_Outcomes_init : zSnd l HB b L xs aK aV G tc (zMT.getD 217 zyD) (fun α => zA_vR_V 4 f_Outcomes_init) := s_Outcomes_init 
theorem t_Census_init : zSnd l HB b L xs aK aV G tc (zMT.getD 218 zyD) (fun α => zA_vR_V 2 f_Census_init) := s_Census_init t_Outcomes_init t_Carrier_init t_Row_init t_J_fill
theorem t_Census_count : zSnd l HB b L xs aK aV G tc (zMT.getD 219 zyD) (fun α => zA_vRI_I 2 f_Census_count) := s_Census_count t_Cl_countUpTo
theorem t_Census_spelled : zSnd l HB b L xs aK aV G tc (zMT.getD 220 zyD) (fun α => zA_vRI_J 2 f_Census_spelled) := s_Census_spelled 
theorem t_Row_block : zSnd l HB b L xs aK aV G tc (zMT.getD 221 zyD) (fun α => zA_vRI_J 8 f_Row_block) := s_Row_block t_Row_at
theorem t_Outcomes_blockOf : zSnd l HB b L xs aK aV G tc (zMT.getD 222 zyD) (fun α => zA_vRII_J 4 f_Outcomes_blockOf) := s_Outcomes_blockOf 
theorem t_Outcomes_sameBlocks : zSnd l HB b L xs aK aV G tc (zMT.getD 223 zyD) (fun α => zA_vRII_I 4 f_Outcomes_sameBlocks) := s_Outcomes_sameBlocks t_Outcomes_blockOf
theorem t_Outcomes_seat : zSnd l HB b L xs aK aV G tc (zMT.getD 224 zyD) (fun α => zA_vRI_I 4 f_Outcomes_seat) := s_Outcomes_seat t_Outcomes_blockOf t_Outcomes_sameBlocks
theorem t_Outcomes_put : zSnd l HB b L xs aK aV G tc (zMT.getD 225 zyD) (fun α => zA_vRIIR_I 4 f_Outcomes_put) := s_Outcomes_put t_Row_block t_Outcomes_seat
theorem t_Census_learn : zSnd l HB b L xs aK aV G tc (zMT.getD 226 zyD) (fun α => zA_vRRI_V 2 f_Census_learn) := s_Census_learn t_Census_count t_Census_spelled t_Row_takeWord t_Carrier_bring t_Outcomes_put
theorem t_Cl_censusUpTo : zSnd l HB b L xs aK aV G tc (zMT.getD 227 zyD) (fun α => zA_vRI_R 11 f_Cl_censusUpTo) := s_Cl_censusUpTo t_Census_init t_Census_learn
theorem t_Census_firstDoubled : zSnd l HB b L xs aK aV G tc (zMT.getD 228 zyD) (fun α => zA_vRI_I 2 f_Census_firstDoubled) := s_Census_firstDoubled t_Census_count
theorem t_Cl_reversible : zSnd l HB b L xs aK aV G tc (zMT.getD 229 zyD) (fun α => zA_vRI_I 11 f_Cl_reversible) := s_Cl_reversible t_Cl_troubleUpTo t_Cl_refuse t_Cl_censusUpTo t_Census_firstDoubled t_Cl_answer
theorem t_Mo_lettersOf : zSnd l HB b L xs aK aV G tc (zMT.getD 230 zyD) (fun α => zA_vRI_I 12 f_Mo_lettersOf) := s_Mo_lettersOf 
theorem t_Mo_laysIndex : zSnd l HB b L xs aK aV G tc (zMT.getD 231 zyD) (fun α => zA_vRI_V 12 f_Mo_laysIndex) := s_Mo_laysIndex t_Mo_lettersOf
theorem t_Mo_keyOf : zSnd l HB b L xs aK aV G tc (zMT.getD 232 zyD) (fun α => zA_vRI_J 12 f_Mo_keyOf) := s_Mo_keyOf 
theorem t_Mo_laysWords : zSnd l HB b L xs aK aV G tc (zMT.getD 233 zyD) (fun α => zA_vRI_V 12 f_Mo_laysWords) := s_Mo_laysWords t_Mo_manyUpTo t_Mo_laysIndex t_Mo_goesAll t_Mo_keyOf
theorem t_Mo_areAlike : zSnd l HB b L xs aK aV G tc (zMT.getD 234 zyD) (fun α => zA_vRII_I 12 f_Mo_areAlike) := s_Mo_areAlike 
theorem t_Mo_firstAlike : zSnd l HB b L xs aK aV G tc (zMT.getD 235 zyD) (fun α => zA_vRI_I 12 f_Mo_firstAlike) := s_Mo_firstAlike t_Mo_areAlike
theorem t_Mo_doubledMany : zSnd l HB b L xs aK aV G tc (zMT.getD 236 zyD) (fun α => zA_vRI_I 12 f_Mo_doubledMany) := s_Mo_doubledMany t_Mo_laysWords t_Mo_firstAlike
theorem t_Mo_reversible : zSnd l HB b L xs aK aV G tc (zMT.getD 237 zyD) (fun α => zA_vRI_I 12 f_Mo_reversible) := s_Mo_reversible t_Mo_wordsWhy t_Mo_isRefused t_Mo_doubledMany
theorem t_Census_firstAlike : zSnd l HB b L xs aK aV G tc (zMT.getD 238 zyD) (fun α => zA_vRI_I 2 f_Census_firstAlike) := s_Census_firstAlike 
theorem t_Cl_answerWord : zSnd l HB b L xs aK aV G tc (zMT.getD 239 zyD) (fun α => zA_vRRI_J 11 f_Cl_answerWord) := s_Cl_answerWord t_Census_spelled
theorem t_Cl_failing : zSnd l HB b L xs aK aV G tc (zMT.getD 240 zyD) (fun α => zA_vRII_J 11 f_Cl_failing) := s_Cl_failing t_Cl_troubleUpTo t_Cl_refuse t_Cl_censusUpTo t_Census_firstDoubled t_Census_firstAlike t_Cl_answerWord
theorem t_Mo_wordOf : zSnd l HB b L xs aK aV G tc (zMT.getD 241 zyD) (fun α => zA_vRI_J 12 f_Mo_wordOf) := s_Mo_wordOf t_Mo_laysIndex
theorem t_Mo_failing : zSnd l HB b L xs aK aV G tc (zMT.getD 242 zyD) (fun α => zA_vRII_J 12 f_Mo_failing) := s_Mo_failing t_Mo_in t_Mo_wordsWhy t_Mo_isRefused t_Mo_laysWords t_Mo_firstAlike t_Mo_wordOf t_Mo_no
theorem t_Census_countDoubled : zSnd l HB b L xs aK aV G tc (zMT.getD 243 zyD) (fun α => zA_vRI_I 2 f_Census_countDoubled) := s_Census_countDoubled t_Census_count
theorem t_Cl_doubled : zSnd l HB b L xs aK aV G tc (zMT.getD 244 zyD) (fun α => zA_vRI_I 11 f_Cl_doubled) := s_Cl_doubled t_Cl_troubleUpTo t_Cl_refuse t_Cl_censusUpTo t_Census_countDoubled t_Cl_answer
theorem t_Mo_doubled : zSnd l HB b L xs aK aV G tc (zMT.getD 245 zyD) (fun α => zA_vRI_I 12 f_Mo_doubled) := s_Mo_doubled t_Mo_wordsWhy t_Mo_isRefused t_Mo_doubledMany
theorem t_Outcomes_lengthOf : zSnd l HB b L xs aK aV G tc (zMT.getD 246 zyD) (fun α => zA_vRI_I 4 f_Outcomes_lengthOf) := s_Outcomes_lengthOf 
theorem t_Census_lengthOf : zSnd l HB b L xs aK aV G tc (zMT.getD 247 zyD) (fun α => zA_vRI_I 2 f_Census_lengthOf) := s_Census_lengthOf t_Outcomes_lengthOf
theorem t_Census_countFailed : zSnd l HB b L xs aK aV G tc (zMT.getD 248 zyD) (fun α => zA_vRII_I 2 f_Census_countFailed) := s_Census_countFailed t_Census_count t_Census_lengthOf
theorem t_Cl_fails : zSnd l HB b L xs aK aV G tc (zMT.getD 249 zyD) (fun α => zA_vRII_I 11 f_Cl_fails) := s_Cl_fails t_Cl_troubleUpTo t_Cl_refuse t_Cl_censusUpTo t_Census_countFailed t_Cl_answer
theorem t_Mo_fails : zSnd l HB b L xs aK aV G tc (zMT.getD 250 zyD) (fun α => zA_vRII_I 12 f_Mo_fails) := s_Mo_fails t_Mo_in t_Mo_wordsWhy t_Mo_isRefused t_Mo_laysWords
theorem t_Census_firstFailed : zSnd l HB b L xs aK aV G tc (zMT.getD 251 zyD) (fun α => zA_vRII_I 2 f_Census_firstFailed) := s_Census_firstFailed t_Census_count t_Census_lengthOf
theorem t_Cl_firstFail : zSnd l HB b L xs aK aV G tc (zMT.getD 252 zyD) (fun α => zA_vRII_J 11 f_Cl_firstFail) := s_Cl_firstFail t_Cl_troubleUpTo t_Cl_refuse t_Cl_censusUpTo t_Census_firstFailed t_Cl_answerWord
theorem t_Mo_firstFail : zSnd l HB b L xs aK aV G tc (zMT.getD 253 zyD) (fun α => zA_vRII_J 12 f_Mo_firstFail) := s_Mo_firstFail t_Mo_in t_Mo_wordsWhy t_Mo_isRefused t_Mo_laysWords t_Mo_wordOf t_Mo_no
theorem t_Cl_troubleOfSource : zSnd l HB b L xs aK aV G tc (zMT.getD 254 zyD) (fun α => zA_vRIJ_I 11 f_Cl_troubleOfSource) := s_Cl_troubleOfSource t_Cl_troubleUpTo t_Row_takeWord
theorem t_Outcomes_cameAs : zSnd l HB b L xs aK aV G tc (zMT.getD 255 zyD) (fun α => zA_vRIR_I 4 f_Outcomes_cameAs) := s_Outcomes_cameAs t_Outcomes_lengthOf t_Outcomes_blockOf t_Row_block
theorem t_Census_countSources : zSnd l HB b L xs aK aV G tc (zMT.getD 256 zyD) (fun α => zA_vRIR_I 2 f_Census_countSources) := s_Census_countSources t_Census_count t_Outcomes_cameAs
theorem t_Cl_sources : zSnd l HB b L xs aK aV G tc (zMT.getD 257 zyD) (fun α => zA_vRIJ_I 11 f_Cl_sources) := s_Cl_sources t_Cl_troubleOfSource t_Cl_refuse t_Cl_censusUpTo t_Census_countSources t_Cl_answer
theorem t_Mo_seeks : zSnd l HB b L xs aK aV G tc (zMT.getD 258 zyD) (fun α => zA_vRJ_I 12 f_Mo_seeks) := s_Mo_seeks t_Mo_laysLetters t_Mo_keyOf
theorem t_Mo_sourceWhy : zSnd l HB b L xs aK aV G tc (zMT.getD 259 zyD) (fun α => zA_vRIJ_I 12 f_Mo_sourceWhy) := s_Mo_sourceWhy t_Mo_wordsWhy t_Mo_seeks
theorem t_Mo_isSource : zSnd l HB b L xs aK aV G tc (zMT.getD 260 zyD) (fun α => zA_vRI_I 12 f_Mo_isSource) := s_Mo_isSource 
theorem t_Mo_sources : zSnd l HB b L xs aK aV G tc (zMT.getD 261 zyD) (fun α => zA_vRIJ_I 12 f_Mo_sources) := s_Mo_sources t_Mo_sourceWhy t_Mo_isRefused t_Mo_laysWords t_Mo_isSource
theorem t_Census_sourceAt : zSnd l HB b L xs aK aV G tc (zMT.getD 262 zyD) (fun α => zA_vRIRI_I 2 f_Census_sourceAt) := s_Census_sourceAt t_Census_count t_Outcomes_cameAs
theorem t_Cl_source : zSnd l HB b L xs aK aV G tc (zMT.getD 263 zyD) (fun α => zA_vRIJI_J 11 f_Cl_source) := s_Cl_source t_Cl_troubleOfSource t_Cl_refuse t_Cl_censusUpTo t_Census_sourceAt t_Cl_answerWord
theorem t_Mo_source : zSnd l HB b L xs aK aV G tc (zMT.getD 264 zyD) (fun α => zA_vRIJI_J 12 f_Mo_source) := s_Mo_source t_Mo_sourceWhy t_Mo_isRefused t_Mo_laysWords t_Mo_isSource t_Mo_wordOf t_Mo_no
theorem t_Census_firstLongest : zSnd l HB b L xs aK aV G tc (zMT.getD 265 zyD) (fun α => zA_vRI_I 2 f_Census_firstLongest) := s_Census_firstLongest t_Census_count t_Census_lengthOf
theorem t_Cl_longest : zSnd l HB b L xs aK aV G tc (zMT.getD 266 zyD) (fun α => zA_vRI_I 11 f_Cl_longest) := s_Cl_longest t_Cl_troubleUpTo t_Cl_refuse t_Cl_censusUpTo t_Census_firstLongest t_Census_lengthOf t_Cl_answer
theorem t_Mo_longestAt : zSnd l HB b L xs aK aV G tc (zMT.getD 267 zyD) (fun α => zA_vRI_I 12 f_Mo_longestAt) := s_Mo_longestAt t_Mo_laysWords
theorem t_Mo_longest : zSnd l HB b L xs aK aV G tc (zMT.getD 268 zyD) (fun α => zA_vRI_I 12 f_Mo_longest) := s_Mo_longest t_Mo_wordsWhy t_Mo_isRefused t_Mo_longestAt
theorem t_Cl_longestOf : zSnd l HB b L xs aK aV G tc (zMT.getD 269 zyD) (fun α => zA_vRI_J 11 f_Cl_longestOf) := s_Cl_longestOf t_Cl_troubleUpTo t_Cl_refuse t_Cl_censusUpTo t_Census_firstLongest t_Cl_answerWord
theorem t_Mo_longestOf : zSnd l HB b L xs aK aV G tc (zMT.getD 270 zyD) (fun α => zA_vRI_J 12 f_Mo_longestOf) := s_Mo_longestOf t_Mo_wordsWhy t_Mo_isRefused t_Mo_longestAt t_Mo_no t_Mo_wordOf
theorem t_Census_servingIn : zSnd l HB b L xs aK aV G tc (zMT.getD 271 zyD) (fun α => zA_vRII_I 2 f_Census_servingIn) := s_Census_servingIn t_Census_count t_Census_lengthOf t_Cl_bitsBelow
theorem t_Cl_idle : zSnd l HB b L xs aK aV G tc (zMT.getD 272 zyD) (fun α => zA_vRII_I 11 f_Cl_idle) := s_Cl_idle t_Script_passAt t_Cl_troubleUpTo t_Cl_refuse t_Cl_bitsBelow t_Cl_censusUpTo t_Census_servingIn t_Cl_answer
theorem t_Mo_idle : zSnd l HB b L xs aK aV G tc (zMT.getD 273 zyD) (fun α => zA_vRII_I 12 f_Mo_idle) := s_Mo_idle t_Mo_isPass t_Mo_wordsWhy t_Mo_isRefused t_Mo_manyUpTo t_Mo_laysIndex t_Mo_goesAll
theorem t_Row_addBlock : zSnd l HB b L xs aK aV G tc (zMT.getD 274 zyD) (fun α => zA_vRJI_V 8 f_Row_addBlock) := s_Row_addBlock t_Row_add
theorem t_Outcomes_into : zSnd l HB b L xs aK aV G tc (zMT.getD 275 zyD) (fun α => zA_vRIR_V 4 f_Outcomes_into) := s_Outcomes_into t_Row_drop t_Outcomes_lengthOf t_Outcomes_blockOf t_Row_addBlock
theorem t_Census_comesBack : zSnd l HB b L xs aK aV G tc (zMT.getD 276 zyD) (fun α => zA_vRI_I 2 f_Census_comesBack) := s_Census_comesBack t_Outcomes_into t_Census_spelled t_Row_takeWord t_Carrier_bring t_Row_same
theorem t_Census_learnBack : zSnd l HB b L xs aK aV G tc (zMT.getD 277 zyD) (fun α => zA_vRI_V 2 f_Census_learnBack) := s_Census_learnBack t_Census_count t_Census_lengthOf t_Census_comesBack
theorem t_Census_countBack : zSnd l HB b L xs aK aV G tc (zMT.getD 278 zyD) (fun α => zA_vRI_I 2 f_Census_countBack) := s_Census_countBack t_Census_count
theorem t_Cl_comeBack : zSnd l HB b L xs aK aV G tc (zMT.getD 279 zyD) (fun α => zA_vRI_I 11 f_Cl_comeBack) := s_Cl_comeBack t_Cl_troubleUpTo t_Cl_refuse t_Cl_censusUpTo t_Census_learnBack t_Census_countBack t_Cl_answer
theorem t_Mo_backOf : zSnd l HB b L xs aK aV G tc (zMT.getD 280 zyD) (fun α => zA_vRI_I 12 f_Mo_backOf) := s_Mo_backOf t_Mo_laysIndex t_Mo_goesAll
theorem t_Mo_comeBack : zSnd l HB b L xs aK aV G tc (zMT.getD 281 zyD) (fun α => zA_vRI_I 12 f_Mo_comeBack) := s_Mo_comeBack t_Mo_wordsWhy t_Mo_isRefused t_Mo_manyUpTo t_Mo_backOf
theorem t_Census_firstLost : zSnd l HB b L xs aK aV G tc (zMT.getD 282 zyD) (fun α => zA_vRI_I 2 f_Census_firstLost) := s_Census_firstLost t_Census_count t_Census_lengthOf
theorem t_Cl_lost : zSnd l HB b L xs aK aV G tc (zMT.getD 283 zyD) (fun α => zA_vRI_J 11 f_Cl_lost) := s_Cl_lost t_Cl_troubleUpTo t_Cl_refuse t_Cl_censusUpTo t_Census_learnBack t_Census_firstLost t_Cl_answerWord
theorem t_Mo_lost : zSnd l HB b L xs aK aV G tc (zMT.getD 284 zyD) (fun α => zA_vRI_J 12 f_Mo_lost) := s_Mo_lost t_Mo_wordsWhy t_Mo_isRefused t_Mo_manyUpTo t_Mo_backOf t_Mo_wordOf t_Mo_no
theorem t_Script_turnAside : zSnd l HB b L xs aK aV G tc (zMT.getD 285 zyD) (fun α => zA_vRII_V 10 f_Script_turnAside) := s_Script_turnAside t_Script_passAt t_Pass_ruleAt
theorem t_Outcomes_putSame : zSnd l HB b L xs aK aV G tc (zMT.getD 286 zyD) (fun α => zA_vRIR_I 4 f_Outcomes_putSame) := s_Outcomes_putSame t_Outcomes_lengthOf t_Outcomes_blockOf t_Outcomes_seat
theorem t_Census_doubledWithout : zSnd l HB b L xs aK aV G tc (zMT.getD 287 zyD) (fun α => zA_vRIII_I 2 f_Census_doubledWithout) := s_Census_doubledWithout t_Outcomes_forget t_Outcomes_putSame t_Census_spelled t_Row_takeWord t_Carrier_bring t_Outcomes_put
theorem t_Census_worstRule : zSnd l HB b L xs aK aV G tc (zMT.getD 288 zyD) (fun α => zA_vRI_I 2 f_Census_worstRule) := s_Census_worstRule t_Census_countDoubled t_Script_ruleAt t_Script_isAside t_Script_turnAside t_Census_count t_Census_doubledWithout
theorem t_Cl_worst : zSnd l HB b L xs aK aV G tc (zMT.getD 289 zyD) (fun α => zA_vRI_I 11 f_Cl_worst) := s_Cl_worst t_Cl_troubleUpTo t_Cl_refuse t_Cl_censusUpTo t_Census_worstRule t_Cl_answer
theorem t_Mo_worst : zSnd l HB b L xs aK aV G tc (zMT.getD 290 zyD) (fun α => zA_vRI_I 12 f_Mo_worst) := s_Mo_worst t_Mo_wordsWhy t_Mo_isRefused t_Mo_doubledMany
theorem t_Acts_keep : zSnd l HB b L xs aK aV G tc (zMT.getD 291 zyD) (fun α => zA_vRII_V 0 f_Acts_keep) := s_Acts_keep 
theorem t_Script_asideCount : zSnd l HB b L xs aK aV G tc (zMT.getD 292 zyD) (fun α => zA_vR_I 10 f_Script_asideCount) := s_Script_asideCount t_Script_passAt t_J_bitCount
theorem t_Cl_aside : zSnd l HB b L xs aK aV G tc (zMT.getD 293 zyD) (fun α => zA_vRIII_I 11 f_Cl_aside) := s_Cl_aside t_Script_ruleAt t_Cl_refuse t_Script_isAside t_Script_turnAside t_Acts_keep t_Cl_forgetWords t_Script_asideCount t_Cl_answer
theorem t_Mo_asideMany : zSnd l HB b L xs aK aV G tc (zMT.getD 294 zyD) (fun α => zA_vR_I 12 f_Mo_asideMany) := s_Mo_asideMany 
theorem t_Mo_aside : zSnd l HB b L xs aK aV G tc (zMT.getD 295 zyD) (fun α => zA_vRIII_I 12 f_Mo_aside) := s_Mo_aside t_Mo_fresh t_Mo_isRule t_Mo_no t_Mo_in t_Mo_asideMany
theorem t_Acts_takeLatest : zSnd l HB b L xs aK aV G tc (zMT.getD 296 zyD) (fun α => zA_vR_I 0 f_Acts_takeLatest) := s_Acts_takeLatest 
theorem t_Cl_undo : zSnd l HB b L xs aK aV G tc (zMT.getD 297 zyD) (fun α => zA_vR_I 11 f_Cl_undo) := s_Cl_undo t_Acts_takeLatest t_Script_turnAside t_Cl_forgetWords
theorem t_Mo_undo : zSnd l HB b L xs aK aV G tc (zMT.getD 298 zyD) (fun α => zA_vR_I 12 f_Mo_undo) := s_Mo_undo t_Mo_fresh
theorem t_Mo_isEmpty : zSnd l HB b L xs aK aV G tc (zMT.getD 300 zyD) (fun α => zA_vRI_I 12 f_Mo_isEmpty) := s_Mo_isEmpty 
theorem t_Mo_empty : zSnd l HB b L xs aK aV G tc (zMT.getD 301 zyD) (fun α => zA_vRI_I 12 f_Mo_empty) := s_Mo_empty t_Mo_isEmpty
theorem t_Mo_thrown : zSnd l HB b L xs aK aV G tc (zMT.getD 302 zyD) (fun α => zA_vR_I 12 f_Mo_thrown) := s_Mo_thrown 
theorem t_Cl_size : zSnd l HB b L xs aK aV G tc (zMT.getD 303 zyD) (fun α => zA_vRI_I 11 f_Cl_size) := s_Cl_size 
theorem t_Mo_size : zSnd l HB b L xs aK aV G tc (zMT.getD 304 zyD) (fun α => zA_vRI_I 12 f_Mo_size) := s_Mo_size 
theorem t_Cl_trouble : zSnd l HB b L xs aK aV G tc (zMT.getD 305 zyD) (fun α => zA_vR_I 11 f_Cl_trouble) := s_Cl_trouble 
theorem t_Mo_trouble : zSnd l HB b L xs aK aV G tc (zMT.getD 306 zyD) (fun α => zA_vR_I 12 f_Mo_trouble) := s_Mo_trouble 
theorem law_E {res : Int32 × zM} (i : Nat) (as : List Value) (S : zM) (k' : Option Value → zM → Option (Int32 × zM)) (h : zE_Law_law (Int32 × zM) i as S k' = some res) : ∃ v S', k' v S' = some res ∧ zMet l HB b L xs aK aV G tc (zcal [10, 11, 13, 15, 60, 82, 83, 84, 85, 86, 88, 90, 91, 92, 93, 99, 105, 107, 109, 110, 114, 116, 118, 119, 121, 122, 127, 130, 132, 133, 140, 146, 147, 148, 153, 157, 160, 162, 163, 164, 176, 186, 187, 188, 190, 191, 192, 193, 195, 196, 198, 199, 201, 203, 205, 207, 208, 209, 212, 216, 229, 237, 240, 242, 244, 245, 249, 250, 252, 253, 257, 261, 263, 264, 266, 268, 269, 270, 272, 273, 279, 281, 283, 284, 289, 290, 293, 295, 297, 298, 301, 302, 303, 304, 305, 306] i) as S v S' := by
  unfold zE_Law_law at h
  rcases zdisf h with ⟨rfl, h⟩ | h
  · exact t_Cl_init _ _ _ _ _ h
  rcases zdisf h with ⟨rfl, h⟩ | h
  · exact t_Mo_init _ _ _ _ _ h
  rcases zdisf h with ⟨rfl, h⟩ | h
  · exact t_Cl_feed _ _ _ _ _ h
  rcases zdisf h with ⟨rfl, h⟩ | h
  · exact t_Mo_feed _ _ _ _ _ h
  rcases zdisf h with ⟨rfl, h⟩ | h
  · exact t_Cl_script _ _ _ _ _ h
  rcases zdisf h with ⟨rfl, h⟩ | h
  · exact t_Mo_script _ _ _ _ _ h
  rcases zdisf h with ⟨rfl, h⟩ | h
  · exact t_Cl_fault _ _ _ _ _ h
  rcases zdisf h with ⟨rfl, h⟩ | h
  · exact t_Mo_fault _ _ _ _ _ h
  rcases zdisf h with ⟨rfl, h⟩ | h
  · exact t_Cl_where _ _ _ _ _ h
  rcases zdisf h with ⟨rfl, h⟩ | h
  · exact t_Mo_where _ _ _ _ _ h
  rcases zdisf h with ⟨rfl, h⟩ | h
  · exact t_Cl_about _ _ _ _ _ h
  rcases zdisf h with ⟨rfl, h⟩ | h
  · exact t_Mo_about _ _ _ _ _ h
  rcases zdisf h with ⟨rfl, h⟩ | h
  · exact t_Cl_kind _ _ _ _ _ h
  rcases zdisf h with ⟨rfl, h⟩ | h
  · exact t_Mo_kind _ _ _ _ _ h
  rcases zdisf h with ⟨rfl, h⟩ | h
  · exact t_Cl_pass _ _ _ _ _ h
  rcases zdisf h with ⟨rfl, h⟩ | h
  · exact t_Mo_pass _ _ _ _ _ h
  rcases zdisf h with ⟨rfl, h⟩ | h
  · exact t_Cl_rule _ _ _ _ _ h
  rcases zdisf h with ⟨rfl, h⟩ | h
  · exact t_Mo_rule _ _ _ _ _ h
  rcases zdisf h with ⟨rfl, h⟩ | h
  · exact t_Cl_letter _ _ _ _ _ h
  rcases zdisf h with ⟨rfl, h⟩ | h
  · exact t_Mo_letter _ _ _ _ _ h
  rcases zdisf h with ⟨rfl, h⟩ | h
  · exact t_Cl_goes _ _ _ _ _ h
  rcases zdisf h with ⟨rfl, h⟩ | h
  · exact t_Mo_goes _ _ _ _ _ h
  rcases zdisf h with ⟨rfl, h⟩ | h
  · exact t_Cl_depth _ _ _ _ _ h
  rcases zdisf h with ⟨rfl, h⟩ | h
  · exact t_Mo_depth _ _ _ _ _ h
  rcases zdisf h with ⟨rfl, h⟩ | h
  · exact t_Cl_ends _ _ _ _ _ h
  rcases zdisf h with ⟨rfl, h⟩ | h
  · exact t_Mo_ends _ _ _ _ _ h
  rcases zdisf h with ⟨rfl, h⟩ | h
  · exact t_Cl_pieces _ _ _ _ _ h
  rcases zdisf h with ⟨rfl, h⟩ | h
  · exact t_Mo_pieces _ _ _ _ _ h
  rcases zdisf h with ⟨rfl, h⟩ | h
  · exact t_Cl_piece _ _ _ _ _ h
  rcases zdisf h with ⟨rfl, h⟩ | h
  · exact t_Mo_piece _ _ _ _ _ h
  rcases zdisf h with ⟨rfl, h⟩ | h
  · exact t_Cl_clear _ _ _ _ _ h
  rcases zdisf h with ⟨rfl, h⟩ | h
  · exact t_Mo_clear _ _ _ _ _ h
  rcases zdisf h with ⟨rfl, h⟩ | h
  · exact t_Cl_unclear _ _ _ _ _ h
  rcases zdisf h with ⟨rfl, h⟩ | h
  · exact t_Mo_unclear _ _ _ _ _ h
  rcases zdisf h with ⟨rfl, h⟩ | h
  · exact t_Cl_readings _ _ _ _ _ h
  rcases zdisf h with ⟨rfl, h⟩ | h
  · exact t_Mo_readings _ _ _ _ _ h
  rcases zdisf h with ⟨rfl, h⟩ | h
  · exact t_Cl_reading _ _ _ _ _ h
  rcases zdisf h with ⟨rfl, h⟩ | h
  · exact t_Mo_reading _ _ _ _ _ h
  rcases zdisf h with ⟨rfl, h⟩ | h
  · exact t_Cl_sure _ _ _ _ _ h
  rcases zdisf h with ⟨rfl, h⟩ | h
  · exact t_Mo_sure _ _ _ _ _ h
  rcases zdisf h with ⟨rfl, h⟩ | h
  · exact t_Cl_carry _ _ _ _ _ h
  rcases zdisf h with ⟨rfl, h⟩ | h
  · exact t_Mo_carry _ _ _ _ _ h
  rcases zdisf h with ⟨rfl, h⟩ | h
  · exact t_Cl_out _ _ _ _ _ h
  rcases zdisf h with ⟨rfl, h⟩ | h
  · exact t_Mo_out _ _ _ _ _ h
  rcases zdisf h with ⟨rfl, h⟩ | h
  · exact t_Cl_behind _ _ _ _ _ h
  rcases zdisf h with ⟨rfl, h⟩ | h
  · exact t_Mo_behind _ _ _ _ _ h
  rcases zdisf h with ⟨rfl, h⟩ | h
  · exact t_Cl_outOf _ _ _ _ _ h
  rcases zdisf h with ⟨rfl, h⟩ | h
  · exact t_Mo_outOf _ _ _ _ _ h
  rcases zdisf h with ⟨rfl, h⟩ | h
  · exact t_Cl_rounds _ _ _ _ _ h
  rcases zdisf h with ⟨rfl, h⟩ | h
  · exact t_Mo_rounds _ _ _ _ _ h
  rcases zdisf h with ⟨rfl, h⟩ | h
  · exact t_Cl_served _ _ _ _ _ h
  rcases zdisf h with ⟨rfl, h⟩ | h
  · exact t_Mo_served _ _ _ _ _ h
  rcases zdisf h with ⟨rfl, h⟩ | h
  · exact t_Cl_apart _ _ _ _ _ h
  rcases zdisf h with ⟨rfl, h⟩ | h
  · exact t_Mo_apart _ _ _ _ _ h
  rcases zdisf h with ⟨rfl, h⟩ | h
  · exact t_Cl_turned _ _ _ _ _ h
  rcases zdisf h with ⟨rfl, h⟩ | h
  · exact t_Mo_turned _ _ _ _ _ h
  rcases zdisf h with ⟨rfl, h⟩ | h
  · exact t_Cl_turnedOut _ _ _ _ _ h
  rcases zdisf h with ⟨rfl, h⟩ | h
  · exact t_Mo_turnedOut _ _ _ _ _ h
  rcases zdisf h with ⟨rfl, h⟩ | h
  · exact t_Cl_words _ _ _ _ _ h
  rcases zdisf h with ⟨rfl, h⟩ | h
  · exact t_Mo_words _ _ _ _ _ h
  rcases zdisf h with ⟨rfl, h⟩ | h
  · exact t_Cl_reversible _ _ _ _ _ h
  rcases zdisf h with ⟨rfl, h⟩ | h
  · exact t_Mo_reversible _ _ _ _ _ h
  rcases zdisf h with ⟨rfl, h⟩ | h
  · exact t_Cl_failing _ _ _ _ _ h
  rcases zdisf h with ⟨rfl, h⟩ | h
  · exact t_Mo_failing _ _ _ _ _ h
  rcases zdisf h with ⟨rfl, h⟩ | h
  · exact t_Cl_doubled _ _ _ _ _ h
  rcases zdisf h with ⟨rfl, h⟩ | h
  · exact t_Mo_doubled _ _ _ _ _ h
  rcases zdisf h with ⟨rfl, h⟩ | h
  · exact t_Cl_fails _ _ _ _ _ h
  rcases zdisf h with ⟨rfl, h⟩ | h
  · exact t_Mo_fails _ _ _ _ _ h
  rcases zdisf h with ⟨rfl, h⟩ | h
  · exact t_Cl_firstFail _ _ _ _ _ h
  rcases zdisf h with ⟨rfl, h⟩ | h
  · exact t_Mo_firstFail _ _ _ _ _ h
  rcases zdisf h with ⟨rfl, h⟩ | h
  · exact t_Cl_sources _ _ _ _ _ h
  rcases zdisf h with ⟨rfl, h⟩ | h
  · exact t_Mo_sources _ _ _ _ _ h
  rcases zdisf h with ⟨rfl, h⟩ | h
  · exact t_Cl_source _ _ _ _ _ h
  rcases zdisf h with ⟨rfl, h⟩ | h
  · exact t_Mo_source _ _ _ _ _ h
  rcases zdisf h with ⟨rfl, h⟩ | h
  · exact t_Cl_longest _ _ _ _ _ h
  rcases zdisf h with ⟨rfl, h⟩ | h
  · exact t_Mo_longest _ _ _ _ _ h
  rcases zdisf h with ⟨rfl, h⟩ | h
  · exact t_Cl_longestOf _ _ _ _ _ h
  rcases zdisf h with ⟨rfl, h⟩ | h
  · exact t_Mo_longestOf _ _ _ _ _ h
  rcases zdisf h with ⟨rfl, h⟩ | h
  · exact t_Cl_idle _ _ _ _ _ h
  rcases zdisf h with ⟨rfl, h⟩ | h
  · exact t_Mo_idle _ _ _ _ _ h
  rcases zdisf h with ⟨rfl, h⟩ | h
  · exact t_Cl_comeBack _ _ _ _ _ h
  rcases zdisf h with ⟨rfl, h⟩ | h
  · exact t_Mo_comeBack _ _ _ _ _ h
  rcases zdisf h with ⟨rfl, h⟩ | h
  · exact t_Cl_lost _ _ _ _ _ h
  rcases zdisf h with ⟨rfl, h⟩ | h
  · exact t_Mo_lost _ _ _ _ _ h
  rcases zdisf h with ⟨rfl, h⟩ | h
  · exact t_Cl_worst _ _ _ _ _ h
  rcases zdisf h with ⟨rfl, h⟩ | h
  · exact t_Mo_worst _ _ _ _ _ h
  rcases zdisf h with ⟨rfl, h⟩ | h
  · exact t_Cl_aside _ _ _ _ _ h
  rcases zdisf h with ⟨rfl, h⟩ | h
  · exact t_Mo_aside _ _ _ _ _ h
  rcases zdisf h with ⟨rfl, h⟩ | h
  · exact t_Cl_undo _ _ _ _ _ h
  rcases zdisf h with ⟨rfl, h⟩ | h
  · exact t_Mo_undo _ _ _ _ _ h
  rcases zdisf h with ⟨rfl, h⟩ | h
  · exact t_Mo_empty _ _ _ _ _ h
  rcases zdisf h with ⟨rfl, h⟩ | h
  · exact t_Mo_thrown _ _ _ _ _ h
  rcases zdisf h with ⟨rfl, h⟩ | h
  · exact t_Cl_size _ _ _ _ _ h
  rcases zdisf h with ⟨rfl, h⟩ | h
  · exact t_Mo_size _ _ _ _ _ h
  rcases zdisf h with ⟨rfl, h⟩ | h
  · exact t_Cl_trouble _ _ _ _ _ h
  rcases zdisf h with ⟨rfl, h⟩ | h
  · exact t_Mo_trouble _ _ _ _ _ h
  cases h
end ZT
