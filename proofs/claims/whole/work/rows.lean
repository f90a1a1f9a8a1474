section
-- ===== PART A: goes FIRST, ahead of the names: the tables' words, and 'selects' of the private methods out of them =====
/-- a private method of a class that the tables say can be made, by its rows of tables_1 -/
def lw_okq (q : MethodName × Nat) : Prop := (q.1.cls ≠ "java/lang/invoke/MethodHandle" ∧ q.1.cls ≠ "java/lang/invoke/VarHandle") ∧ Cond.instantiable q.1.cls q.2 ∈ tables_1 ∧ Cond.privateMethod q.1 ∈ tables_1 ∧ Cond.instanceMethod q.1 ∈ tables_1
theorem lw_p0 : lw_okq (⟨"CellarTurns$House", "limitOf", "(I)I"⟩, 15) := ⟨⟨by decide +kernel, by decide +kernel⟩, List.mem_of_getElem? (i := 107) (by decide +kernel), List.mem_of_getElem? (i := 143) (by decide +kernel), List.mem_of_getElem? (i := 144) (by decide +kernel)⟩
theorem lw_p1 : lw_okq (⟨"CellarTurns$Muddle", "settle", "(I)V"⟩, 12) := ⟨⟨by decide +kernel, by decide +kernel⟩, List.mem_of_getElem? (i := 283) (by decide +kernel), List.mem_of_getElem? (i := 311) (by decide +kernel), List.mem_of_getElem? (i := 312) (by decide +kernel)⟩
theorem lw_p2 : lw_okq (⟨"CellarTurns$Tape", "isLetter", "(I)Z"⟩, 9) := ⟨⟨by decide +kernel, by decide +kernel⟩, List.mem_of_getElem? (i := 39) (by decide +kernel), List.mem_of_getElem? (i := 512) (by decide +kernel), List.mem_of_getElem? (i := 513) (by decide +kernel)⟩
theorem lw_p3 : lw_okq (⟨"CellarTurns$Tape", "takeWord", "()V"⟩, 9) := ⟨⟨by decide +kernel, by decide +kernel⟩, List.mem_of_getElem? (i := 39) (by decide +kernel), List.mem_of_getElem? (i := 516) (by decide +kernel), List.mem_of_getElem? (i := 517) (by decide +kernel)⟩
theorem lw_p4 : lw_okq (⟨"CellarTurns$Tape", "isDigit", "(I)Z"⟩, 9) := ⟨⟨by decide +kernel, by decide +kernel⟩, List.mem_of_getElem? (i := 39) (by decide +kernel), List.mem_of_getElem? (i := 527) (by decide +kernel), List.mem_of_getElem? (i := 528) (by decide +kernel)⟩
theorem lw_p5 : lw_okq (⟨"CellarTurns$Tape", "takeNumber", "()V"⟩, 9) := ⟨⟨by decide +kernel, by decide +kernel⟩, List.mem_of_getElem? (i := 39) (by decide +kernel), List.mem_of_getElem? (i := 531) (by decide +kernel), List.mem_of_getElem? (i := 532) (by decide +kernel)⟩
theorem lw_p6 : lw_okq (⟨"CellarTurns$Tape", "takeSign", "()V"⟩, 9) := ⟨⟨by decide +kernel, by decide +kernel⟩, List.mem_of_getElem? (i := 39) (by decide +kernel), List.mem_of_getElem? (i := 535) (by decide +kernel), List.mem_of_getElem? (i := 536) (by decide +kernel)⟩
theorem lw_p7 : lw_okq (⟨"CellarTurns$Reader", "houseLine", "(LCellarTurns$House;)Z"⟩, 2) := ⟨⟨by decide +kernel, by decide +kernel⟩, List.mem_of_getElem? (i := 84) (by decide +kernel), List.mem_of_getElem? (i := 628) (by decide +kernel), List.mem_of_getElem? (i := 629) (by decide +kernel)⟩
theorem lw_p8 : lw_okq (⟨"CellarTurns$Reader", "personLine", "(LCellarTurns$House;)Z"⟩, 2) := ⟨⟨by decide +kernel, by decide +kernel⟩, List.mem_of_getElem? (i := 84) (by decide +kernel), List.mem_of_getElem? (i := 640) (by decide +kernel), List.mem_of_getElem? (i := 641) (by decide +kernel)⟩
theorem lw_p9 : lw_okq (⟨"CellarTurns$Reader", "atUntoldName", "(LCellarTurns$House;)Z"⟩, 2) := ⟨⟨by decide +kernel, by decide +kernel⟩, List.mem_of_getElem? (i := 84) (by decide +kernel), List.mem_of_getElem? (i := 651) (by decide +kernel), List.mem_of_getElem? (i := 652) (by decide +kernel)⟩
theorem lw_p10 : lw_okq (⟨"CellarTurns$Reader", "newLine", "(LCellarTurns$House;)Z"⟩, 2) := ⟨⟨by decide +kernel, by decide +kernel⟩, List.mem_of_getElem? (i := 84) (by decide +kernel), List.mem_of_getElem? (i := 675) (by decide +kernel), List.mem_of_getElem? (i := 676) (by decide +kernel)⟩
theorem lw_p11 : lw_okq (⟨"CellarTurns$Reader", "atNumber", "(II)Z"⟩, 2) := ⟨⟨by decide +kernel, by decide +kernel⟩, List.mem_of_getElem? (i := 84) (by decide +kernel), List.mem_of_getElem? (i := 681) (by decide +kernel), List.mem_of_getElem? (i := 682) (by decide +kernel)⟩
theorem lw_p12 : lw_okq (⟨"CellarTurns$Reader", "ringLine", "(LCellarTurns$House;)Z"⟩, 2) := ⟨⟨by decide +kernel, by decide +kernel⟩, List.mem_of_getElem? (i := 84) (by decide +kernel), List.mem_of_getElem? (i := 690) (by decide +kernel), List.mem_of_getElem? (i := 691) (by decide +kernel)⟩
theorem lw_p13 : lw_okq (⟨"CellarTurns$Reader", "toldBody", "(LCellarTurns$House;I)I"⟩, 2) := ⟨⟨by decide +kernel, by decide +kernel⟩, List.mem_of_getElem? (i := 84) (by decide +kernel), List.mem_of_getElem? (i := 694) (by decide +kernel), List.mem_of_getElem? (i := 695) (by decide +kernel)⟩
theorem lw_p14 : lw_okq (⟨"CellarTurns$Reader", "pairLine", "(LCellarTurns$House;[I)Z"⟩, 2) := ⟨⟨by decide +kernel, by decide +kernel⟩, List.mem_of_getElem? (i := 84) (by decide +kernel), List.mem_of_getElem? (i := 698) (by decide +kernel), List.mem_of_getElem? (i := 699) (by decide +kernel)⟩
theorem lw_p15 : lw_okq (⟨"CellarTurns$Reader", "oftenLine", "(LCellarTurns$House;)Z"⟩, 2) := ⟨⟨by decide +kernel, by decide +kernel⟩, List.mem_of_getElem? (i := 84) (by decide +kernel), List.mem_of_getElem? (i := 702) (by decide +kernel), List.mem_of_getElem? (i := 703) (by decide +kernel)⟩
def lw_privs_1 : List (MethodName × Nat) := [(⟨"CellarTurns$House", "limitOf", "(I)I"⟩, 15), (⟨"CellarTurns$Muddle", "settle", "(I)V"⟩, 12), (⟨"CellarTurns$Tape", "isLetter", "(I)Z"⟩, 9), (⟨"CellarTurns$Tape", "takeWord", "()V"⟩, 9), (⟨"CellarTurns$Tape", "isDigit", "(I)Z"⟩, 9), (⟨"CellarTurns$Tape", "takeNumber", "()V"⟩, 9), (⟨"CellarTurns$Tape", "takeSign", "()V"⟩, 9), (⟨"CellarTurns$Reader", "houseLine", "(LCellarTurns$House;)Z"⟩, 2), (⟨"CellarTurns$Reader", "personLine", "(LCellarTurns$House;)Z"⟩, 2), (⟨"CellarTurns$Reader", "atUntoldName", "(LCellarTurns$House;)Z"⟩, 2), (⟨"CellarTurns$Reader", "newLine", "(LCellarTurns$House;)Z"⟩, 2), (⟨"CellarTurns$Reader", "atNumber", "(II)Z"⟩, 2), (⟨"CellarTurns$Reader", "ringLine", "(LCellarTurns$House;)Z"⟩, 2), (⟨"CellarTurns$Reader", "toldBody", "(LCellarTurns$House;I)I"⟩, 2), (⟨"CellarTurns$Reader", "pairLine", "(LCellarTurns$House;[I)Z"⟩, 2), (⟨"CellarTurns$Reader", "oftenLine", "(LCellarTurns$House;)Z"⟩, 2)]
theorem lw_r1 : ∀ q ∈ lw_privs_1, lw_okq q := List.forall_mem_cons.mpr ⟨lw_p0, List.forall_mem_cons.mpr ⟨lw_p1, List.forall_mem_cons.mpr ⟨lw_p2, List.forall_mem_cons.mpr ⟨lw_p3, List.forall_mem_cons.mpr ⟨lw_p4, List.forall_mem_cons.mpr ⟨lw_p5, List.forall_mem_cons.mpr ⟨lw_p6, List.forall_mem_cons.mpr ⟨lw_p7, List.forall_mem_cons.mpr ⟨lw_p8, List.forall_mem_cons.mpr ⟨lw_p9, List.forall_mem_cons.mpr ⟨lw_p10, List.forall_mem_cons.mpr ⟨lw_p11, List.forall_mem_cons.mpr ⟨lw_p12, List.forall_mem_cons.mpr ⟨lw_p13, List.forall_mem_cons.mpr ⟨lw_p14, List.forall_mem_cons.mpr ⟨lw_p15, fun _ h => absurd h List.not_mem_nil⟩⟩⟩⟩⟩⟩⟩⟩⟩⟩⟩⟩⟩⟩⟩⟩
theorem lw_p16 : lw_okq (⟨"CellarTurns$Reader", "costsLine", "(LCellarTurns$House;)Z"⟩, 2) := ⟨⟨by decide +kernel, by decide +kernel⟩, List.mem_of_getElem? (i := 84) (by decide +kernel), List.mem_of_getElem? (i := 706) (by decide +kernel), List.mem_of_getElem? (i := 707) (by decide +kernel)⟩
theorem lw_p17 : lw_okq (⟨"CellarTurns$LawReader", "test", "(LCellarTurns$Law;I)Z"⟩, 1) := ⟨⟨by decide +kernel, by decide +kernel⟩, List.mem_of_getElem? (i := 90) (by decide +kernel), List.mem_of_getElem? (i := 714) (by decide +kernel), List.mem_of_getElem? (i := 715) (by decide +kernel)⟩
theorem lw_p18 : lw_okq (⟨"CellarTurns$LawReader", "sum", "(LCellarTurns$Law;I)Z"⟩, 1) := ⟨⟨by decide +kernel, by decide +kernel⟩, List.mem_of_getElem? (i := 90) (by decide +kernel), List.mem_of_getElem? (i := 718) (by decide +kernel), List.mem_of_getElem? (i := 719) (by decide +kernel)⟩
theorem lw_p19 : lw_okq (⟨"CellarTurns$LawReader", "product", "(LCellarTurns$Law;I)Z"⟩, 1) := ⟨⟨by decide +kernel, by decide +kernel⟩, List.mem_of_getElem? (i := 90) (by decide +kernel), List.mem_of_getElem? (i := 722) (by decide +kernel), List.mem_of_getElem? (i := 723) (by decide +kernel)⟩
theorem lw_p20 : lw_okq (⟨"CellarTurns$LawReader", "part", "(LCellarTurns$Law;I)Z"⟩, 1) := ⟨⟨by decide +kernel, by decide +kernel⟩, List.mem_of_getElem? (i := 90) (by decide +kernel), List.mem_of_getElem? (i := 726) (by decide +kernel), List.mem_of_getElem? (i := 727) (by decide +kernel)⟩
theorem lw_p21 : lw_okq (⟨"CellarTurns$LawReader", "valueHere", "()I"⟩, 1) := ⟨⟨by decide +kernel, by decide +kernel⟩, List.mem_of_getElem? (i := 90) (by decide +kernel), List.mem_of_getElem? (i := 732) (by decide +kernel), List.mem_of_getElem? (i := 733) (by decide +kernel)⟩
theorem lw_p22 : lw_okq (⟨"CellarTurns$Reader", "planLine", "(LCellarTurns$House;LCellarTurns$Plan;)Z"⟩, 2) := ⟨⟨by decide +kernel, by decide +kernel⟩, List.mem_of_getElem? (i := 84) (by decide +kernel), List.mem_of_getElem? (i := 766) (by decide +kernel), List.mem_of_getElem? (i := 767) (by decide +kernel)⟩
theorem lw_p23 : lw_okq (⟨"CellarTurns", "remember", "()V"⟩, 16) := ⟨⟨by decide +kernel, by decide +kernel⟩, List.mem_of_getElem? (i := 31) (by decide +kernel), List.mem_of_getElem? (i := 811) (by decide +kernel), List.mem_of_getElem? (i := 812) (by decide +kernel)⟩
theorem lw_p24 : lw_okq (⟨"CellarTurns$Muddle", "join", "(II)V"⟩, 12) := ⟨⟨by decide +kernel, by decide +kernel⟩, List.mem_of_getElem? (i := 283) (by decide +kernel), List.mem_of_getElem? (i := 838) (by decide +kernel), List.mem_of_getElem? (i := 839) (by decide +kernel)⟩
theorem lw_p25 : lw_okq (⟨"CellarTurns$Law", "value", "(III)I"⟩, 3) := ⟨⟨by decide +kernel, by decide +kernel⟩, List.mem_of_getElem? (i := 113) (by decide +kernel), List.mem_of_getElem? (i := 851) (by decide +kernel), List.mem_of_getElem? (i := 852) (by decide +kernel)⟩
theorem lw_p26 : lw_okq (⟨"CellarTurns$Muddle", "canSitTwice", "(I)Z"⟩, 12) := ⟨⟨by decide +kernel, by decide +kernel⟩, List.mem_of_getElem? (i := 283) (by decide +kernel), List.mem_of_getElem? (i := 873) (by decide +kernel), List.mem_of_getElem? (i := 874) (by decide +kernel)⟩
theorem lw_p27 : lw_okq (⟨"CellarTurns$Plan", "playLine", "(LCellarTurns$Muddle;I)Z"⟩, 3) := ⟨⟨by decide +kernel, by decide +kernel⟩, List.mem_of_getElem? (i := 228) (by decide +kernel), List.mem_of_getElem? (i := 905) (by decide +kernel), List.mem_of_getElem? (i := 906) (by decide +kernel)⟩
theorem lw_p28 : lw_okq (⟨"CellarTurns$RingList", "addRing", "(LCellarTurns$Muddle;II)V"⟩, 6) := ⟨⟨by decide +kernel, by decide +kernel⟩, List.mem_of_getElem? (i := 246) (by decide +kernel), List.mem_of_getElem? (i := 928) (by decide +kernel), List.mem_of_getElem? (i := 929) (by decide +kernel)⟩
theorem lw_p29 : lw_okq (⟨"CellarTurns$RingList", "addTurn", "(II)V"⟩, 6) := ⟨⟨by decide +kernel, by decide +kernel⟩, List.mem_of_getElem? (i := 246) (by decide +kernel), List.mem_of_getElem? (i := 933) (by decide +kernel), List.mem_of_getElem? (i := 934) (by decide +kernel)⟩
theorem lw_p30 : lw_okq (⟨"CellarTurns$Search", "keepRow", "()V"⟩, 7) := ⟨⟨by decide +kernel, by decide +kernel⟩, List.mem_of_getElem? (i := 277) (by decide +kernel), List.mem_of_getElem? (i := 977) (by decide +kernel), List.mem_of_getElem? (i := 978) (by decide +kernel)⟩
theorem lw_p31 : lw_okq (⟨"CellarTurns$Search", "lessen", "(I)V"⟩, 7) := ⟨⟨by decide +kernel, by decide +kernel⟩, List.mem_of_getElem? (i := 277) (by decide +kernel), List.mem_of_getElem? (i := 981) (by decide +kernel), List.mem_of_getElem? (i := 982) (by decide +kernel)⟩
def lw_privs_2 : List (MethodName × Nat) := [(⟨"CellarTurns$Reader", "costsLine", "(LCellarTurns$House;)Z"⟩, 2), (⟨"CellarTurns$LawReader", "test", "(LCellarTurns$Law;I)Z"⟩, 1), (⟨"CellarTurns$LawReader", "sum", "(LCellarTurns$Law;I)Z"⟩, 1), (⟨"CellarTurns$LawReader", "product", "(LCellarTurns$Law;I)Z"⟩, 1), (⟨"CellarTurns$LawReader", "part", "(LCellarTurns$Law;I)Z"⟩, 1), (⟨"CellarTurns$LawReader", "valueHere", "()I"⟩, 1), (⟨"CellarTurns$Reader", "planLine", "(LCellarTurns$House;LCellarTurns$Plan;)Z"⟩, 2), (⟨"CellarTurns", "remember", "()V"⟩, 16), (⟨"CellarTurns$Muddle", "join", "(II)V"⟩, 12), (⟨"CellarTurns$Law", "value", "(III)I"⟩, 3), (⟨"CellarTurns$Muddle", "canSitTwice", "(I)Z"⟩, 12), (⟨"CellarTurns$Plan", "playLine", "(LCellarTurns$Muddle;I)Z"⟩, 3), (⟨"CellarTurns$RingList", "addRing", "(LCellarTurns$Muddle;II)V"⟩, 6), (⟨"CellarTurns$RingList", "addTurn", "(II)V"⟩, 6), (⟨"CellarTurns$Search", "keepRow", "()V"⟩, 7), (⟨"CellarTurns$Search", "lessen", "(I)V"⟩, 7)]
theorem lw_r2 : ∀ q ∈ lw_privs_2, lw_okq q := List.forall_mem_cons.mpr ⟨lw_p16, List.forall_mem_cons.mpr ⟨lw_p17, List.forall_mem_cons.mpr ⟨lw_p18, List.forall_mem_cons.mpr ⟨lw_p19, List.forall_mem_cons.mpr ⟨lw_p20, List.forall_mem_cons.mpr ⟨lw_p21, List.forall_mem_cons.mpr ⟨lw_p22, List.forall_mem_cons.mpr ⟨lw_p23, List.forall_mem_cons.mpr ⟨lw_p24, List.forall_mem_cons.mpr ⟨lw_p25, List.forall_mem_cons.mpr ⟨lw_p26, List.forall_mem_cons.mpr ⟨lw_p27, List.forall_mem_cons.mpr ⟨lw_p28, List.forall_mem_cons.mpr ⟨lw_p29, List.forall_mem_cons.mpr ⟨lw_p30, List.forall_mem_cons.mpr ⟨lw_p31, fun _ h => absurd h List.not_mem_nil⟩⟩⟩⟩⟩⟩⟩⟩⟩⟩⟩⟩⟩⟩⟩⟩
theorem lw_p32 : lw_okq (⟨"CellarTurns$Search", "tryTurn", "(II)V"⟩, 7) := ⟨⟨by decide +kernel, by decide +kernel⟩, List.mem_of_getElem? (i := 277) (by decide +kernel), List.mem_of_getElem? (i := 1018) (by decide +kernel), List.mem_of_getElem? (i := 1019) (by decide +kernel)⟩
theorem lw_p33 : lw_okq (⟨"CellarTurns$Tally", "raise", "(I)V"⟩, 9) := ⟨⟨by decide +kernel, by decide +kernel⟩, List.mem_of_getElem? (i := 396) (by decide +kernel), List.mem_of_getElem? (i := 1040) (by decide +kernel), List.mem_of_getElem? (i := 1041) (by decide +kernel)⟩
theorem lw_p34 : lw_okq (⟨"CellarTurns$Search", "leadsHome", "(I)Z"⟩, 7) := ⟨⟨by decide +kernel, by decide +kernel⟩, List.mem_of_getElem? (i := 277) (by decide +kernel), List.mem_of_getElem? (i := 1068) (by decide +kernel), List.mem_of_getElem? (i := 1069) (by decide +kernel)⟩
theorem lw_p35 : lw_okq (⟨"CellarTurns$Muddle", "pairsWithinRings", "()J"⟩, 12) := ⟨⟨by decide +kernel, by decide +kernel⟩, List.mem_of_getElem? (i := 283) (by decide +kernel), List.mem_of_getElem? (i := 1077) (by decide +kernel), List.mem_of_getElem? (i := 1078) (by decide +kernel)⟩
theorem lw_p36 : lw_okq (⟨"CellarTurns", "leadsHomeWith", "(II)Z"⟩, 16) := ⟨⟨by decide +kernel, by decide +kernel⟩, List.mem_of_getElem? (i := 31) (by decide +kernel), List.mem_of_getElem? (i := 1085) (by decide +kernel), List.mem_of_getElem? (i := 1086) (by decide +kernel)⟩
theorem lw_p37 : lw_okq (⟨"CellarTurns$Search", "cheapen", "(II)V"⟩, 7) := ⟨⟨by decide +kernel, by decide +kernel⟩, List.mem_of_getElem? (i := 277) (by decide +kernel), List.mem_of_getElem? (i := 1102) (by decide +kernel), List.mem_of_getElem? (i := 1103) (by decide +kernel)⟩
theorem lw_p38 : lw_okq (⟨"CellarTurns$Tally", "gather", "(I)V"⟩, 9) := ⟨⟨by decide +kernel, by decide +kernel⟩, List.mem_of_getElem? (i := 396) (by decide +kernel), List.mem_of_getElem? (i := 1115) (by decide +kernel), List.mem_of_getElem? (i := 1116) (by decide +kernel)⟩
theorem lw_p39 : lw_okq (⟨"CellarTurns$Tally", "codeOfMinds", "()I"⟩, 9) := ⟨⟨by decide +kernel, by decide +kernel⟩, List.mem_of_getElem? (i := 396) (by decide +kernel), List.mem_of_getElem? (i := 1119) (by decide +kernel), List.mem_of_getElem? (i := 1120) (by decide +kernel)⟩
theorem lw_p40 : lw_okq (⟨"CellarTurns$Tally", "addCode", "(I)V"⟩, 9) := ⟨⟨by decide +kernel, by decide +kernel⟩, List.mem_of_getElem? (i := 396) (by decide +kernel), List.mem_of_getElem? (i := 1123) (by decide +kernel), List.mem_of_getElem? (i := 1124) (by decide +kernel)⟩
theorem lw_p41 : lw_okq (⟨"CellarTurns$Tally", "shareAtHome", "(II)I"⟩, 9) := ⟨⟨by decide +kernel, by decide +kernel⟩, List.mem_of_getElem? (i := 396) (by decide +kernel), List.mem_of_getElem? (i := 1137) (by decide +kernel), List.mem_of_getElem? (i := 1138) (by decide +kernel)⟩
theorem lw_p42 : lw_okq (⟨"CellarTurns$Tally", "followRows", "(IJ)V"⟩, 9) := ⟨⟨by decide +kernel, by decide +kernel⟩, List.mem_of_getElem? (i := 396) (by decide +kernel), List.mem_of_getElem? (i := 1164) (by decide +kernel), List.mem_of_getElem? (i := 1165) (by decide +kernel)⟩
theorem lw_p43 : lw_okq (⟨"CellarTurns$Tally", "countRow", "(J)V"⟩, 9) := ⟨⟨by decide +kernel, by decide +kernel⟩, List.mem_of_getElem? (i := 396) (by decide +kernel), List.mem_of_getElem? (i := 1169) (by decide +kernel), List.mem_of_getElem? (i := 1170) (by decide +kernel)⟩
theorem lw_p44 : lw_okq (⟨"CellarTurns$Tally", "rowsAtWorst", "(I)I"⟩, 9) := ⟨⟨by decide +kernel, by decide +kernel⟩, List.mem_of_getElem? (i := 396) (by decide +kernel), List.mem_of_getElem? (i := 1186) (by decide +kernel), List.mem_of_getElem? (i := 1187) (by decide +kernel)⟩
theorem lw_p45 : lw_okq (⟨"CellarTurns", "playDrawnTurns", "(J)J"⟩, 16) := ⟨⟨by decide +kernel, by decide +kernel⟩, List.mem_of_getElem? (i := 31) (by decide +kernel), List.mem_of_getElem? (i := 1194) (by decide +kernel), List.mem_of_getElem? (i := 1195) (by decide +kernel)⟩
theorem lw_p46 : lw_okq (⟨"java/lang/Throwable", "fillInStackTrace", "(I)Ljava/lang/Throwable;"⟩, 6) := ⟨⟨by decide +kernel, by decide +kernel⟩, List.mem_of_getElem? (i := 1260) (by decide +kernel), List.mem_of_getElem? (i := 1258) (by decide +kernel), List.mem_of_getElem? (i := 1259) (by decide +kernel)⟩
theorem lw_p47 : lw_okq (⟨"CellarTurnsModel", "lay", "(J)V"⟩, 45) := ⟨⟨by decide +kernel, by decide +kernel⟩, List.mem_of_getElem? (i := 1304) (by decide +kernel), List.mem_of_getElem? (i := 1302) (by decide +kernel), List.mem_of_getElem? (i := 1303) (by decide +kernel)⟩
def lw_privs_3 : List (MethodName × Nat) := [(⟨"CellarTurns$Search", "tryTurn", "(II)V"⟩, 7), (⟨"CellarTurns$Tally", "raise", "(I)V"⟩, 9), (⟨"CellarTurns$Search", "leadsHome", "(I)Z"⟩, 7), (⟨"CellarTurns$Muddle", "pairsWithinRings", "()J"⟩, 12), (⟨"CellarTurns", "leadsHomeWith", "(II)Z"⟩, 16), (⟨"CellarTurns$Search", "cheapen", "(II)V"⟩, 7), (⟨"CellarTurns$Tally", "gather", "(I)V"⟩, 9), (⟨"CellarTurns$Tally", "codeOfMinds", "()I"⟩, 9), (⟨"CellarTurns$Tally", "addCode", "(I)V"⟩, 9), (⟨"CellarTurns$Tally", "shareAtHome", "(II)I"⟩, 9), (⟨"CellarTurns$Tally", "followRows", "(IJ)V"⟩, 9), (⟨"CellarTurns$Tally", "countRow", "(J)V"⟩, 9), (⟨"CellarTurns$Tally", "rowsAtWorst", "(I)I"⟩, 9), (⟨"CellarTurns", "playDrawnTurns", "(J)J"⟩, 16), (⟨"java/lang/Throwable", "fillInStackTrace", "(I)Ljava/lang/Throwable;"⟩, 6), (⟨"CellarTurnsModel", "lay", "(J)V"⟩, 45)]
theorem lw_r3 : ∀ q ∈ lw_privs_3, lw_okq q := List.forall_mem_cons.mpr ⟨lw_p32, List.forall_mem_cons.mpr ⟨lw_p33, List.forall_mem_cons.mpr ⟨lw_p34, List.forall_mem_cons.mpr ⟨lw_p35, List.forall_mem_cons.mpr ⟨lw_p36, List.forall_mem_cons.mpr ⟨lw_p37, List.forall_mem_cons.mpr ⟨lw_p38, List.forall_mem_cons.mpr ⟨lw_p39, List.forall_mem_cons.mpr ⟨lw_p40, List.forall_mem_cons.mpr ⟨lw_p41, List.forall_mem_cons.mpr ⟨lw_p42, List.forall_mem_cons.mpr ⟨lw_p43, List.forall_mem_cons.mpr ⟨lw_p44, List.forall_mem_cons.mpr ⟨lw_p45, List.forall_mem_cons.mpr ⟨lw_p46, List.forall_mem_cons.mpr ⟨lw_p47, fun _ h => absurd h List.not_mem_nil⟩⟩⟩⟩⟩⟩⟩⟩⟩⟩⟩⟩⟩⟩⟩⟩
theorem lw_p48 : lw_okq (⟨"CellarTurnsModel", "standsAsAlways", "(I)V"⟩, 45) := ⟨⟨by decide +kernel, by decide +kernel⟩, List.mem_of_getElem? (i := 1304) (by decide +kernel), List.mem_of_getElem? (i := 1333) (by decide +kernel), List.mem_of_getElem? (i := 1334) (by decide +kernel)⟩
theorem lw_p49 : lw_okq (⟨"CellarTurnsModel", "begins", "()V"⟩, 45) := ⟨⟨by decide +kernel, by decide +kernel⟩, List.mem_of_getElem? (i := 1304) (by decide +kernel), List.mem_of_getElem? (i := 1337) (by decide +kernel), List.mem_of_getElem? (i := 1338) (by decide +kernel)⟩
theorem lw_p50 : lw_okq (⟨"CellarTurnsModel", "starts", "(I)V"⟩, 45) := ⟨⟨by decide +kernel, by decide +kernel⟩, List.mem_of_getElem? (i := 1304) (by decide +kernel), List.mem_of_getElem? (i := 1341) (by decide +kernel), List.mem_of_getElem? (i := 1342) (by decide +kernel)⟩
theorem lw_p51 : lw_okq (⟨"CellarTurnsModel", "bodies", "()I"⟩, 45) := ⟨⟨by decide +kernel, by decide +kernel⟩, List.mem_of_getElem? (i := 1304) (by decide +kernel), List.mem_of_getElem? (i := 1345) (by decide +kernel), List.mem_of_getElem? (i := 1346) (by decide +kernel)⟩
theorem lw_p52 : lw_okq (⟨"CellarTurnsModel", "bodyOf", "(II)I"⟩, 45) := ⟨⟨by decide +kernel, by decide +kernel⟩, List.mem_of_getElem? (i := 1304) (by decide +kernel), List.mem_of_getElem? (i := 1349) (by decide +kernel), List.mem_of_getElem? (i := 1350) (by decide +kernel)⟩
theorem lw_p53 : lw_okq (⟨"CellarTurnsModel", "cutAll", "()V"⟩, 45) := ⟨⟨by decide +kernel, by decide +kernel⟩, List.mem_of_getElem? (i := 1304) (by decide +kernel), List.mem_of_getElem? (i := 1494) (by decide +kernel), List.mem_of_getElem? (i := 1495) (by decide +kernel)⟩
theorem lw_p54 : lw_okq (⟨"CellarTurnsModel", "readLine", "()V"⟩, 45) := ⟨⟨by decide +kernel, by decide +kernel⟩, List.mem_of_getElem? (i := 1304) (by decide +kernel), List.mem_of_getElem? (i := 1513) (by decide +kernel), List.mem_of_getElem? (i := 1514) (by decide +kernel)⟩
theorem lw_p55 : lw_okq (⟨"CellarTurnsModel", "isWord", "(I)Z"⟩, 45) := ⟨⟨by decide +kernel, by decide +kernel⟩, List.mem_of_getElem? (i := 1304) (by decide +kernel), List.mem_of_getElem? (i := 1517) (by decide +kernel), List.mem_of_getElem? (i := 1518) (by decide +kernel)⟩
theorem lw_p56 : lw_okq (⟨"CellarTurnsModel", "readBody", "(Z)V"⟩, 45) := ⟨⟨by decide +kernel, by decide +kernel⟩, List.mem_of_getElem? (i := 1304) (by decide +kernel), List.mem_of_getElem? (i := 1521) (by decide +kernel), List.mem_of_getElem? (i := 1522) (by decide +kernel)⟩
theorem lw_p57 : lw_okq (⟨"CellarTurnsModel", "wrong", "(I)V"⟩, 45) := ⟨⟨by decide +kernel, by decide +kernel⟩, List.mem_of_getElem? (i := 1304) (by decide +kernel), List.mem_of_getElem? (i := 1525) (by decide +kernel), List.mem_of_getElem? (i := 1526) (by decide +kernel)⟩
theorem lw_p58 : lw_okq (⟨"CellarTurnsModel", "isName", "()Z"⟩, 45) := ⟨⟨by decide +kernel, by decide +kernel⟩, List.mem_of_getElem? (i := 1304) (by decide +kernel), List.mem_of_getElem? (i := 1529) (by decide +kernel), List.mem_of_getElem? (i := 1530) (by decide +kernel)⟩
theorem lw_p59 : lw_okq (⟨"CellarTurnsModel", "wordHere", "(II)I"⟩, 45) := ⟨⟨by decide +kernel, by decide +kernel⟩, List.mem_of_getElem? (i := 1304) (by decide +kernel), List.mem_of_getElem? (i := 1533) (by decide +kernel), List.mem_of_getElem? (i := 1534) (by decide +kernel)⟩
theorem lw_p60 : lw_okq (⟨"CellarTurnsModel", "find", "(Z)I"⟩, 45) := ⟨⟨by decide +kernel, by decide +kernel⟩, List.mem_of_getElem? (i := 1304) (by decide +kernel), List.mem_of_getElem? (i := 1537) (by decide +kernel), List.mem_of_getElem? (i := 1538) (by decide +kernel)⟩
theorem lw_p61 : lw_okq (⟨"CellarTurnsModel", "takeWord", "(I)V"⟩, 45) := ⟨⟨by decide +kernel, by decide +kernel⟩, List.mem_of_getElem? (i := 1304) (by decide +kernel), List.mem_of_getElem? (i := 1541) (by decide +kernel), List.mem_of_getElem? (i := 1542) (by decide +kernel)⟩
theorem lw_p62 : lw_okq (⟨"CellarTurnsModel", "hasWord", "(I)Z"⟩, 45) := ⟨⟨by decide +kernel, by decide +kernel⟩, List.mem_of_getElem? (i := 1304) (by decide +kernel), List.mem_of_getElem? (i := 1545) (by decide +kernel), List.mem_of_getElem? (i := 1546) (by decide +kernel)⟩
theorem lw_p63 : lw_okq (⟨"CellarTurnsModel", "takeNumber", "(II)I"⟩, 45) := ⟨⟨by decide +kernel, by decide +kernel⟩, List.mem_of_getElem? (i := 1304) (by decide +kernel), List.mem_of_getElem? (i := 1549) (by decide +kernel), List.mem_of_getElem? (i := 1550) (by decide +kernel)⟩
def lw_privs_4 : List (MethodName × Nat) := [(⟨"CellarTurnsModel", "standsAsAlways", "(I)V"⟩, 45), (⟨"CellarTurnsModel", "begins", "()V"⟩, 45), (⟨"CellarTurnsModel", "starts", "(I)V"⟩, 45), (⟨"CellarTurnsModel", "bodies", "()I"⟩, 45), (⟨"CellarTurnsModel", "bodyOf", "(II)I"⟩, 45), (⟨"CellarTurnsModel", "cutAll", "()V"⟩, 45), (⟨"CellarTurnsModel", "readLine", "()V"⟩, 45), (⟨"CellarTurnsModel", "isWord", "(I)Z"⟩, 45), (⟨"CellarTurnsModel", "readBody", "(Z)V"⟩, 45), (⟨"CellarTurnsModel", "wrong", "(I)V"⟩, 45), (⟨"CellarTurnsModel", "isName", "()Z"⟩, 45), (⟨"CellarTurnsModel", "wordHere", "(II)I"⟩, 45), (⟨"CellarTurnsModel", "find", "(Z)I"⟩, 45), (⟨"CellarTurnsModel", "takeWord", "(I)V"⟩, 45), (⟨"CellarTurnsModel", "hasWord", "(I)Z"⟩, 45), (⟨"CellarTurnsModel", "takeNumber", "(II)I"⟩, 45)]
theorem lw_r4 : ∀ q ∈ lw_privs_4, lw_okq q := List.forall_mem_cons.mpr ⟨lw_p48, List.forall_mem_cons.mpr ⟨lw_p49, List.forall_mem_cons.mpr ⟨lw_p50, List.forall_mem_cons.mpr ⟨lw_p51, List.forall_mem_cons.mpr ⟨lw_p52, List.forall_mem_cons.mpr ⟨lw_p53, List.forall_mem_cons.mpr ⟨lw_p54, List.forall_mem_cons.mpr ⟨lw_p55, List.forall_mem_cons.mpr ⟨lw_p56, List.forall_mem_cons.mpr ⟨lw_p57, List.forall_mem_cons.mpr ⟨lw_p58, List.forall_mem_cons.mpr ⟨lw_p59, List.forall_mem_cons.mpr ⟨lw_p60, List.forall_mem_cons.mpr ⟨lw_p61, List.forall_mem_cons.mpr ⟨lw_p62, List.forall_mem_cons.mpr ⟨lw_p63, fun _ h => absurd h List.not_mem_nil⟩⟩⟩⟩⟩⟩⟩⟩⟩⟩⟩⟩⟩⟩⟩⟩
theorem lw_p64 : lw_okq (⟨"CellarTurnsModel", "takeOne", "(II)I"⟩, 45) := ⟨⟨by decide +kernel, by decide +kernel⟩, List.mem_of_getElem? (i := 1304) (by decide +kernel), List.mem_of_getElem? (i := 1553) (by decide +kernel), List.mem_of_getElem? (i := 1554) (by decide +kernel)⟩
theorem lw_p65 : lw_okq (⟨"CellarTurnsModel", "readRing", "()V"⟩, 45) := ⟨⟨by decide +kernel, by decide +kernel⟩, List.mem_of_getElem? (i := 1304) (by decide +kernel), List.mem_of_getElem? (i := 1557) (by decide +kernel), List.mem_of_getElem? (i := 1558) (by decide +kernel)⟩
theorem lw_p66 : lw_okq (⟨"CellarTurnsModel", "personHere", "()I"⟩, 45) := ⟨⟨by decide +kernel, by decide +kernel⟩, List.mem_of_getElem? (i := 1304) (by decide +kernel), List.mem_of_getElem? (i := 1561) (by decide +kernel), List.mem_of_getElem? (i := 1562) (by decide +kernel)⟩
theorem lw_p67 : lw_okq (⟨"CellarTurnsModel", "readPair", "(I)V"⟩, 45) := ⟨⟨by decide +kernel, by decide +kernel⟩, List.mem_of_getElem? (i := 1304) (by decide +kernel), List.mem_of_getElem? (i := 1565) (by decide +kernel), List.mem_of_getElem? (i := 1566) (by decide +kernel)⟩
theorem lw_p68 : lw_okq (⟨"CellarTurnsModel", "readOnce", "()V"⟩, 45) := ⟨⟨by decide +kernel, by decide +kernel⟩, List.mem_of_getElem? (i := 1304) (by decide +kernel), List.mem_of_getElem? (i := 1569) (by decide +kernel), List.mem_of_getElem? (i := 1570) (by decide +kernel)⟩
theorem lw_p69 : lw_okq (⟨"CellarTurnsModel", "all", "(I)V"⟩, 45) := ⟨⟨by decide +kernel, by decide +kernel⟩, List.mem_of_getElem? (i := 1304) (by decide +kernel), List.mem_of_getElem? (i := 1573) (by decide +kernel), List.mem_of_getElem? (i := 1574) (by decide +kernel)⟩
theorem lw_p70 : lw_okq (⟨"CellarTurnsModel", "test", "(I)V"⟩, 45) := ⟨⟨by decide +kernel, by decide +kernel⟩, List.mem_of_getElem? (i := 1304) (by decide +kernel), List.mem_of_getElem? (i := 1577) (by decide +kernel), List.mem_of_getElem? (i := 1578) (by decide +kernel)⟩
theorem lw_p71 : lw_okq (⟨"CellarTurnsModel", "sums", "(I)V"⟩, 45) := ⟨⟨by decide +kernel, by decide +kernel⟩, List.mem_of_getElem? (i := 1304) (by decide +kernel), List.mem_of_getElem? (i := 1581) (by decide +kernel), List.mem_of_getElem? (i := 1582) (by decide +kernel)⟩
theorem lw_p72 : lw_okq (⟨"CellarTurnsModel", "products", "(I)V"⟩, 45) := ⟨⟨by decide +kernel, by decide +kernel⟩, List.mem_of_getElem? (i := 1304) (by decide +kernel), List.mem_of_getElem? (i := 1585) (by decide +kernel), List.mem_of_getElem? (i := 1586) (by decide +kernel)⟩
theorem lw_p73 : lw_okq (⟨"CellarTurnsModel", "takePart", "(I)V"⟩, 45) := ⟨⟨by decide +kernel, by decide +kernel⟩, List.mem_of_getElem? (i := 1304) (by decide +kernel), List.mem_of_getElem? (i := 1589) (by decide +kernel), List.mem_of_getElem? (i := 1590) (by decide +kernel)⟩
theorem lw_p74 : lw_okq (⟨"CellarTurnsModel", "isSign", "(I)Z"⟩, 45) := ⟨⟨by decide +kernel, by decide +kernel⟩, List.mem_of_getElem? (i := 1304) (by decide +kernel), List.mem_of_getElem? (i := 1593) (by decide +kernel), List.mem_of_getElem? (i := 1594) (by decide +kernel)⟩
theorem lw_p75 : lw_okq (⟨"CellarTurnsModel", "emit", "(II)V"⟩, 45) := ⟨⟨by decide +kernel, by decide +kernel⟩, List.mem_of_getElem? (i := 1304) (by decide +kernel), List.mem_of_getElem? (i := 1597) (by decide +kernel), List.mem_of_getElem? (i := 1598) (by decide +kernel)⟩
theorem lw_p76 : lw_okq (⟨"CellarTurnsModel", "hasSign", "(I)Z"⟩, 45) := ⟨⟨by decide +kernel, by decide +kernel⟩, List.mem_of_getElem? (i := 1304) (by decide +kernel), List.mem_of_getElem? (i := 1601) (by decide +kernel), List.mem_of_getElem? (i := 1602) (by decide +kernel)⟩
theorem lw_p77 : lw_okq (⟨"CellarTurnsModel", "takeSign", "(I)V"⟩, 45) := ⟨⟨by decide +kernel, by decide +kernel⟩, List.mem_of_getElem? (i := 1304) (by decide +kernel), List.mem_of_getElem? (i := 1605) (by decide +kernel), List.mem_of_getElem? (i := 1606) (by decide +kernel)⟩
theorem lw_p78 : lw_okq (⟨"CellarTurnsModel", "readEvening", "(II)V"⟩, 45) := ⟨⟨by decide +kernel, by decide +kernel⟩, List.mem_of_getElem? (i := 1304) (by decide +kernel), List.mem_of_getElem? (i := 1613) (by decide +kernel), List.mem_of_getElem? (i := 1614) (by decide +kernel)⟩
theorem lw_p79 : lw_okq (⟨"CellarTurnsModel", "bodyHere", "(Z)I"⟩, 45) := ⟨⟨by decide +kernel, by decide +kernel⟩, List.mem_of_getElem? (i := 1304) (by decide +kernel), List.mem_of_getElem? (i := 1617) (by decide +kernel), List.mem_of_getElem? (i := 1618) (by decide +kernel)⟩
def lw_privs_5 : List (MethodName × Nat) := [(⟨"CellarTurnsModel", "takeOne", "(II)I"⟩, 45), (⟨"CellarTurnsModel", "readRing", "()V"⟩, 45), (⟨"CellarTurnsModel", "personHere", "()I"⟩, 45), (⟨"CellarTurnsModel", "readPair", "(I)V"⟩, 45), (⟨"CellarTurnsModel", "readOnce", "()V"⟩, 45), (⟨"CellarTurnsModel", "all", "(I)V"⟩, 45), (⟨"CellarTurnsModel", "test", "(I)V"⟩, 45), (⟨"CellarTurnsModel", "sums", "(I)V"⟩, 45), (⟨"CellarTurnsModel", "products", "(I)V"⟩, 45), (⟨"CellarTurnsModel", "takePart", "(I)V"⟩, 45), (⟨"CellarTurnsModel", "isSign", "(I)Z"⟩, 45), (⟨"CellarTurnsModel", "emit", "(II)V"⟩, 45), (⟨"CellarTurnsModel", "hasSign", "(I)Z"⟩, 45), (⟨"CellarTurnsModel", "takeSign", "(I)V"⟩, 45), (⟨"CellarTurnsModel", "readEvening", "(II)V"⟩, 45), (⟨"CellarTurnsModel", "bodyHere", "(Z)I"⟩, 45)]
theorem lw_r5 : ∀ q ∈ lw_privs_5, lw_okq q := List.forall_mem_cons.mpr ⟨lw_p64, List.forall_mem_cons.mpr ⟨lw_p65, List.forall_mem_cons.mpr ⟨lw_p66, List.forall_mem_cons.mpr ⟨lw_p67, List.forall_mem_cons.mpr ⟨lw_p68, List.forall_mem_cons.mpr ⟨lw_p69, List.forall_mem_cons.mpr ⟨lw_p70, List.forall_mem_cons.mpr ⟨lw_p71, List.forall_mem_cons.mpr ⟨lw_p72, List.forall_mem_cons.mpr ⟨lw_p73, List.forall_mem_cons.mpr ⟨lw_p74, List.forall_mem_cons.mpr ⟨lw_p75, List.forall_mem_cons.mpr ⟨lw_p76, List.forall_mem_cons.mpr ⟨lw_p77, List.forall_mem_cons.mpr ⟨lw_p78, List.forall_mem_cons.mpr ⟨lw_p79, fun _ h => absurd h List.not_mem_nil⟩⟩⟩⟩⟩⟩⟩⟩⟩⟩⟩⟩⟩⟩⟩⟩
theorem lw_p80 : lw_okq (⟨"CellarTurnsModel", "isBody", "(I)Z"⟩, 45) := ⟨⟨by decide +kernel, by decide +kernel⟩, List.mem_of_getElem? (i := 1304) (by decide +kernel), List.mem_of_getElem? (i := 1625) (by decide +kernel), List.mem_of_getElem? (i := 1626) (by decide +kernel)⟩
theorem lw_p81 : lw_okq (⟨"CellarTurnsModel", "isWrong", "(II)Z"⟩, 45) := ⟨⟨by decide +kernel, by decide +kernel⟩, List.mem_of_getElem? (i := 1304) (by decide +kernel), List.mem_of_getElem? (i := 1632) (by decide +kernel), List.mem_of_getElem? (i := 1633) (by decide +kernel)⟩
theorem lw_p82 : lw_okq (⟨"CellarTurnsModel", "isThere", "(II)Z"⟩, 45) := ⟨⟨by decide +kernel, by decide +kernel⟩, List.mem_of_getElem? (i := 1304) (by decide +kernel), List.mem_of_getElem? (i := 1636) (by decide +kernel), List.mem_of_getElem? (i := 1637) (by decide +kernel)⟩
theorem lw_p83 : lw_okq (⟨"CellarTurnsModel", "mayTurn", "(III)Z"⟩, 45) := ⟨⟨by decide +kernel, by decide +kernel⟩, List.mem_of_getElem? (i := 1304) (by decide +kernel), List.mem_of_getElem? (i := 1648) (by decide +kernel), List.mem_of_getElem? (i := 1649) (by decide +kernel)⟩
theorem lw_p84 : lw_okq (⟨"CellarTurnsModel", "limitOf", "(I)I"⟩, 45) := ⟨⟨by decide +kernel, by decide +kernel⟩, List.mem_of_getElem? (i := 1304) (by decide +kernel), List.mem_of_getElem? (i := 1652) (by decide +kernel), List.mem_of_getElem? (i := 1653) (by decide +kernel)⟩
theorem lw_p85 : lw_okq (⟨"CellarTurnsModel", "keeps", "()V"⟩, 45) := ⟨⟨by decide +kernel, by decide +kernel⟩, List.mem_of_getElem? (i := 1304) (by decide +kernel), List.mem_of_getElem? (i := 1660) (by decide +kernel), List.mem_of_getElem? (i := 1661) (by decide +kernel)⟩
theorem lw_p86 : lw_okq (⟨"CellarTurnsModel", "copies", "(III)V"⟩, 45) := ⟨⟨by decide +kernel, by decide +kernel⟩, List.mem_of_getElem? (i := 1304) (by decide +kernel), List.mem_of_getElem? (i := 1664) (by decide +kernel), List.mem_of_getElem? (i := 1665) (by decide +kernel)⟩
theorem lw_p87 : lw_okq (⟨"CellarTurnsModel", "turns", "(III)I"⟩, 45) := ⟨⟨by decide +kernel, by decide +kernel⟩, List.mem_of_getElem? (i := 1304) (by decide +kernel), List.mem_of_getElem? (i := 1668) (by decide +kernel), List.mem_of_getElem? (i := 1669) (by decide +kernel)⟩
theorem lw_p88 : lw_okq (⟨"CellarTurnsModel", "swaps", "(III)V"⟩, 45) := ⟨⟨by decide +kernel, by decide +kernel⟩, List.mem_of_getElem? (i := 1304) (by decide +kernel), List.mem_of_getElem? (i := 1672) (by decide +kernel), List.mem_of_getElem? (i := 1673) (by decide +kernel)⟩
theorem lw_p89 : lw_okq (⟨"CellarTurnsModel", "costNow", "(II)I"⟩, 45) := ⟨⟨by decide +kernel, by decide +kernel⟩, List.mem_of_getElem? (i := 1304) (by decide +kernel), List.mem_of_getElem? (i := 1676) (by decide +kernel), List.mem_of_getElem? (i := 1677) (by decide +kernel)⟩
theorem lw_p90 : lw_okq (⟨"CellarTurnsModel", "wrongs", "(I)I"⟩, 45) := ⟨⟨by decide +kernel, by decide +kernel⟩, List.mem_of_getElem? (i := 1304) (by decide +kernel), List.mem_of_getElem? (i := 1680) (by decide +kernel), List.mem_of_getElem? (i := 1681) (by decide +kernel)⟩
theorem lw_p91 : lw_okq (⟨"CellarTurnsModel", "worthAt", "(I)I"⟩, 45) := ⟨⟨by decide +kernel, by decide +kernel⟩, List.mem_of_getElem? (i := 1304) (by decide +kernel), List.mem_of_getElem? (i := 1684) (by decide +kernel), List.mem_of_getElem? (i := 1685) (by decide +kernel)⟩
theorem lw_p92 : lw_okq (⟨"CellarTurnsModel", "meets", "(IIII)V"⟩, 45) := ⟨⟨by decide +kernel, by decide +kernel⟩, List.mem_of_getElem? (i := 1304) (by decide +kernel), List.mem_of_getElem? (i := 1691) (by decide +kernel), List.mem_of_getElem? (i := 1692) (by decide +kernel)⟩
theorem lw_p93 : lw_okq (⟨"CellarTurnsModel", "mayRound", "(IIII)Z"⟩, 45) := ⟨⟨by decide +kernel, by decide +kernel⟩, List.mem_of_getElem? (i := 1304) (by decide +kernel), List.mem_of_getElem? (i := 1699) (by decide +kernel), List.mem_of_getElem? (i := 1700) (by decide +kernel)⟩
theorem lw_p94 : lw_okq (⟨"CellarTurnsModel", "rounds", "(IIII)V"⟩, 45) := ⟨⟨by decide +kernel, by decide +kernel⟩, List.mem_of_getElem? (i := 1304) (by decide +kernel), List.mem_of_getElem? (i := 1703) (by decide +kernel), List.mem_of_getElem? (i := 1704) (by decide +kernel)⟩
theorem lw_p95 : lw_okq (⟨"CellarTurnsModel", "mayFetch", "(II)Z"⟩, 45) := ⟨⟨by decide +kernel, by decide +kernel⟩, List.mem_of_getElem? (i := 1304) (by decide +kernel), List.mem_of_getElem? (i := 1711) (by decide +kernel), List.mem_of_getElem? (i := 1712) (by decide +kernel)⟩
def lw_privs_6 : List (MethodName × Nat) := [(⟨"CellarTurnsModel", "isBody", "(I)Z"⟩, 45), (⟨"CellarTurnsModel", "isWrong", "(II)Z"⟩, 45), (⟨"CellarTurnsModel", "isThere", "(II)Z"⟩, 45), (⟨"CellarTurnsModel", "mayTurn", "(III)Z"⟩, 45), (⟨"CellarTurnsModel", "limitOf", "(I)I"⟩, 45), (⟨"CellarTurnsModel", "keeps", "()V"⟩, 45), (⟨"CellarTurnsModel", "copies", "(III)V"⟩, 45), (⟨"CellarTurnsModel", "turns", "(III)I"⟩, 45), (⟨"CellarTurnsModel", "swaps", "(III)V"⟩, 45), (⟨"CellarTurnsModel", "costNow", "(II)I"⟩, 45), (⟨"CellarTurnsModel", "wrongs", "(I)I"⟩, 45), (⟨"CellarTurnsModel", "worthAt", "(I)I"⟩, 45), (⟨"CellarTurnsModel", "meets", "(IIII)V"⟩, 45), (⟨"CellarTurnsModel", "mayRound", "(IIII)Z"⟩, 45), (⟨"CellarTurnsModel", "rounds", "(IIII)V"⟩, 45), (⟨"CellarTurnsModel", "mayFetch", "(II)Z"⟩, 45)]
theorem lw_r6 : ∀ q ∈ lw_privs_6, lw_okq q := List.forall_mem_cons.mpr ⟨lw_p80, List.forall_mem_cons.mpr ⟨lw_p81, List.forall_mem_cons.mpr ⟨lw_p82, List.forall_mem_cons.mpr ⟨lw_p83, List.forall_mem_cons.mpr ⟨lw_p84, List.forall_mem_cons.mpr ⟨lw_p85, List.forall_mem_cons.mpr ⟨lw_p86, List.forall_mem_cons.mpr ⟨lw_p87, List.forall_mem_cons.mpr ⟨lw_p88, List.forall_mem_cons.mpr ⟨lw_p89, List.forall_mem_cons.mpr ⟨lw_p90, List.forall_mem_cons.mpr ⟨lw_p91, List.forall_mem_cons.mpr ⟨lw_p92, List.forall_mem_cons.mpr ⟨lw_p93, List.forall_mem_cons.mpr ⟨lw_p94, List.forall_mem_cons.mpr ⟨lw_p95, fun _ h => absurd h List.not_mem_nil⟩⟩⟩⟩⟩⟩⟩⟩⟩⟩⟩⟩⟩⟩⟩⟩
theorem lw_p96 : lw_okq (⟨"CellarTurnsModel", "fetches", "(II)V"⟩, 45) := ⟨⟨by decide +kernel, by decide +kernel⟩, List.mem_of_getElem? (i := 1304) (by decide +kernel), List.mem_of_getElem? (i := 1715) (by decide +kernel), List.mem_of_getElem? (i := 1716) (by decide +kernel)⟩
theorem lw_p97 : lw_okq (⟨"CellarTurnsModel", "does", "(IIII)Z"⟩, 45) := ⟨⟨by decide +kernel, by decide +kernel⟩, List.mem_of_getElem? (i := 1304) (by decide +kernel), List.mem_of_getElem? (i := 1727) (by decide +kernel), List.mem_of_getElem? (i := 1728) (by decide +kernel)⟩
theorem lw_p98 : lw_okq (⟨"CellarTurnsModel", "findRings", "()V"⟩, 45) := ⟨⟨by decide +kernel, by decide +kernel⟩, List.mem_of_getElem? (i := 1304) (by decide +kernel), List.mem_of_getElem? (i := 1735) (by decide +kernel), List.mem_of_getElem? (i := 1736) (by decide +kernel)⟩
theorem lw_p99 : lw_okq (⟨"CellarTurnsModel", "adds", "(II)V"⟩, 45) := ⟨⟨by decide +kernel, by decide +kernel⟩, List.mem_of_getElem? (i := 1304) (by decide +kernel), List.mem_of_getElem? (i := 1739) (by decide +kernel), List.mem_of_getElem? (i := 1740) (by decide +kernel)⟩
theorem lw_p100 : lw_okq (⟨"CellarTurnsModel", "pairsLeft", "(I)I"⟩, 45) := ⟨⟨by decide +kernel, by decide +kernel⟩, List.mem_of_getElem? (i := 1304) (by decide +kernel), List.mem_of_getElem? (i := 1747) (by decide +kernel), List.mem_of_getElem? (i := 1748) (by decide +kernel)⟩
theorem lw_p101 : lw_okq (⟨"CellarTurnsModel", "mostFrom", "(I)V"⟩, 45) := ⟨⟨by decide +kernel, by decide +kernel⟩, List.mem_of_getElem? (i := 1304) (by decide +kernel), List.mem_of_getElem? (i := 1775) (by decide +kernel), List.mem_of_getElem? (i := 1776) (by decide +kernel)⟩
theorem lw_p102 : lw_okq (⟨"CellarTurnsModel", "unturns", "(IIII)V"⟩, 45) := ⟨⟨by decide +kernel, by decide +kernel⟩, List.mem_of_getElem? (i := 1304) (by decide +kernel), List.mem_of_getElem? (i := 1779) (by decide +kernel), List.mem_of_getElem? (i := 1780) (by decide +kernel)⟩
theorem lw_p103 : lw_okq (⟨"CellarTurnsModel", "fewestIn", "(I)I"⟩, 45) := ⟨⟨by decide +kernel, by decide +kernel⟩, List.mem_of_getElem? (i := 1304) (by decide +kernel), List.mem_of_getElem? (i := 1787) (by decide +kernel), List.mem_of_getElem? (i := 1788) (by decide +kernel)⟩
theorem lw_p104 : lw_okq (⟨"CellarTurnsModel", "undoes", "(II)Z"⟩, 45) := ⟨⟨by decide +kernel, by decide +kernel⟩, List.mem_of_getElem? (i := 1304) (by decide +kernel), List.mem_of_getElem? (i := 1791) (by decide +kernel), List.mem_of_getElem? (i := 1792) (by decide +kernel)⟩
theorem lw_p105 : lw_okq (⟨"CellarTurnsModel", "keepsRow", "(II)V"⟩, 45) := ⟨⟨by decide +kernel, by decide +kernel⟩, List.mem_of_getElem? (i := 1304) (by decide +kernel), List.mem_of_getElem? (i := 1795) (by decide +kernel), List.mem_of_getElem? (i := 1796) (by decide +kernel)⟩
theorem lw_p106 : lw_okq (⟨"CellarTurnsModel", "leastFrom", "(II)V"⟩, 45) := ⟨⟨by decide +kernel, by decide +kernel⟩, List.mem_of_getElem? (i := 1304) (by decide +kernel), List.mem_of_getElem? (i := 1807) (by decide +kernel), List.mem_of_getElem? (i := 1808) (by decide +kernel)⟩
theorem lw_p107 : lw_okq (⟨"CellarTurnsModel", "cheapFrom", "(III)V"⟩, 45) := ⟨⟨by decide +kernel, by decide +kernel⟩, List.mem_of_getElem? (i := 1304) (by decide +kernel), List.mem_of_getElem? (i := 1815) (by decide +kernel), List.mem_of_getElem? (i := 1816) (by decide +kernel)⟩
theorem lw_p108 : lw_okq (⟨"CellarTurnsModel", "muddlesFrom", "(I)V"⟩, 45) := ⟨⟨by decide +kernel, by decide +kernel⟩, List.mem_of_getElem? (i := 1304) (by decide +kernel), List.mem_of_getElem? (i := 1823) (by decide +kernel), List.mem_of_getElem? (i := 1824) (by decide +kernel)⟩
theorem lw_p109 : lw_okq (⟨"CellarTurnsModel", "chanceFrom", "(II)I"⟩, 45) := ⟨⟨by decide +kernel, by decide +kernel⟩, List.mem_of_getElem? (i := 1304) (by decide +kernel), List.mem_of_getElem? (i := 1833) (by decide +kernel), List.mem_of_getElem? (i := 1834) (by decide +kernel)⟩
theorem lw_p110 : lw_okq (⟨"CellarTurnsModel", "findRows", "(I)V"⟩, 45) := ⟨⟨by decide +kernel, by decide +kernel⟩, List.mem_of_getElem? (i := 1304) (by decide +kernel), List.mem_of_getElem? (i := 1845) (by decide +kernel), List.mem_of_getElem? (i := 1846) (by decide +kernel)⟩
theorem lw_p111 : lw_okq (⟨"CellarTurnsModel", "rowsFrom", "(II)V"⟩, 45) := ⟨⟨by decide +kernel, by decide +kernel⟩, List.mem_of_getElem? (i := 1304) (by decide +kernel), List.mem_of_getElem? (i := 1849) (by decide +kernel), List.mem_of_getElem? (i := 1850) (by decide +kernel)⟩
def lw_privs_7 : List (MethodName × Nat) := [(⟨"CellarTurnsModel", "fetches", "(II)V"⟩, 45), (⟨"CellarTurnsModel", "does", "(IIII)Z"⟩, 45), (⟨"CellarTurnsModel", "findRings", "()V"⟩, 45), (⟨"CellarTurnsModel", "adds", "(II)V"⟩, 45), (⟨"CellarTurnsModel", "pairsLeft", "(I)I"⟩, 45), (⟨"CellarTurnsModel", "mostFrom", "(I)V"⟩, 45), (⟨"CellarTurnsModel", "unturns", "(IIII)V"⟩, 45), (⟨"CellarTurnsModel", "fewestIn", "(I)I"⟩, 45), (⟨"CellarTurnsModel", "undoes", "(II)Z"⟩, 45), (⟨"CellarTurnsModel", "keepsRow", "(II)V"⟩, 45), (⟨"CellarTurnsModel", "leastFrom", "(II)V"⟩, 45), (⟨"CellarTurnsModel", "cheapFrom", "(III)V"⟩, 45), (⟨"CellarTurnsModel", "muddlesFrom", "(I)V"⟩, 45), (⟨"CellarTurnsModel", "chanceFrom", "(II)I"⟩, 45), (⟨"CellarTurnsModel", "findRows", "(I)V"⟩, 45), (⟨"CellarTurnsModel", "rowsFrom", "(II)V"⟩, 45)]
theorem lw_r7 : ∀ q ∈ lw_privs_7, lw_okq q := List.forall_mem_cons.mpr ⟨lw_p96, List.forall_mem_cons.mpr ⟨lw_p97, List.forall_mem_cons.mpr ⟨lw_p98, List.forall_mem_cons.mpr ⟨lw_p99, List.forall_mem_cons.mpr ⟨lw_p100, List.forall_mem_cons.mpr ⟨lw_p101, List.forall_mem_cons.mpr ⟨lw_p102, List.forall_mem_cons.mpr ⟨lw_p103, List.forall_mem_cons.mpr ⟨lw_p104, List.forall_mem_cons.mpr ⟨lw_p105, List.forall_mem_cons.mpr ⟨lw_p106, List.forall_mem_cons.mpr ⟨lw_p107, List.forall_mem_cons.mpr ⟨lw_p108, List.forall_mem_cons.mpr ⟨lw_p109, List.forall_mem_cons.mpr ⟨lw_p110, List.forall_mem_cons.mpr ⟨lw_p111, fun _ h => absurd h List.not_mem_nil⟩⟩⟩⟩⟩⟩⟩⟩⟩⟩⟩⟩⟩⟩⟩⟩
theorem lw_p112 : lw_okq (⟨"CellarTurnsModel", "isAsSeen", "()Z"⟩, 45) := ⟨⟨by decide +kernel, by decide +kernel⟩, List.mem_of_getElem? (i := 1304) (by decide +kernel), List.mem_of_getElem? (i := 1853) (by decide +kernel), List.mem_of_getElem? (i := 1854) (by decide +kernel)⟩
theorem lw_p113 : lw_okq (⟨"CellarTurnsModel", "draw", "(I)I"⟩, 45) := ⟨⟨by decide +kernel, by decide +kernel⟩, List.mem_of_getElem? (i := 1304) (by decide +kernel), List.mem_of_getElem? (i := 1869) (by decide +kernel), List.mem_of_getElem? (i := 1870) (by decide +kernel)⟩
theorem lw_p114 : lw_okq (⟨"CellarTurnsModel", "turnsBy", "(I)I"⟩, 45) := ⟨⟨by decide +kernel, by decide +kernel⟩, List.mem_of_getElem? (i := 1304) (by decide +kernel), List.mem_of_getElem? (i := 1877) (by decide +kernel), List.mem_of_getElem? (i := 1878) (by decide +kernel)⟩
theorem lw_p115 : lw_okq (⟨"CellarTurnsModel", "thereMany", "()I"⟩, 45) := ⟨⟨by decide +kernel, by decide +kernel⟩, List.mem_of_getElem? (i := 1304) (by decide +kernel), List.mem_of_getElem? (i := 1889) (by decide +kernel), List.mem_of_getElem? (i := 1890) (by decide +kernel)⟩
def lw_privs_8 : List (MethodName × Nat) := [(⟨"CellarTurnsModel", "isAsSeen", "()Z"⟩, 45), (⟨"CellarTurnsModel", "draw", "(I)I"⟩, 45), (⟨"CellarTurnsModel", "turnsBy", "(I)I"⟩, 45), (⟨"CellarTurnsModel", "thereMany", "()I"⟩, 45)]
theorem lw_r8 : ∀ q ∈ lw_privs_8, lw_okq q := List.forall_mem_cons.mpr ⟨lw_p112, List.forall_mem_cons.mpr ⟨lw_p113, List.forall_mem_cons.mpr ⟨lw_p114, List.forall_mem_cons.mpr ⟨lw_p115, fun _ h => absurd h List.not_mem_nil⟩⟩⟩⟩
def lw_privs : List (MethodName × Nat) := lw_privs_1 ++ (lw_privs_2 ++ (lw_privs_3 ++ (lw_privs_4 ++ (lw_privs_5 ++ (lw_privs_6 ++ (lw_privs_7 ++ (lw_privs_8)))))))
def lw_tbl : List Cond := k2_sels lw_privs ++ tables_1
theorem lw_privs_ok : ∀ q ∈ lw_privs, lw_okq q := by
  show ∀ q ∈ lw_privs_1 ++ (lw_privs_2 ++ (lw_privs_3 ++ (lw_privs_4 ++ (lw_privs_5 ++ (lw_privs_6 ++ (lw_privs_7 ++ (lw_privs_8))))))), lw_okq q
  exact List.forall_mem_append.mpr ⟨lw_r1, List.forall_mem_append.mpr ⟨lw_r2, List.forall_mem_append.mpr ⟨lw_r3, List.forall_mem_append.mpr ⟨lw_r4, List.forall_mem_append.mpr ⟨lw_r5, List.forall_mem_append.mpr ⟨lw_r6, List.forall_mem_append.mpr ⟨lw_r7, lw_r8⟩⟩⟩⟩⟩⟩⟩
end
section
/-! ===== a small machine: its states are lists of locals, a stack, and cells numbered from 64 on; what a piece of code does is a function on them ===== -/
/-- the launch, the size of the heap at the law's begin, that heap, where the constants lie, the classes' numbers and slots, the array classes -/
abbrev JG : Type := Launch × Nat × Heap × (Nat → Nat) × va_G × (Nat → ClassId)
def jg_l (G : JG) : Launch := G.1
def jg_sz (G : JG) : Nat := G.2.1
def jg_H (G : JG) : Heap := G.2.2.1
def jg_sa (G : JG) : Nat → Nat := G.2.2.2.1
def jg_D (G : JG) : va_G := G.2.2.2.2.1
def jg_A (G : JG) : Nat → ClassId := G.2.2.2.2.2
/-- shapes (class or array kind, size), ints, longs, references -/
abbrev JH : Type := List (Nat × Nat) × (Nat → Nat → Int32) × (Nat → Nat → Int64) × (Nat → Nat → Option Nat)
abbrev JL : Type := List (Option Value)
abbrev JS : Type := JL × List Value × JH
abbrev JF : Type := List Value → JH → Option (Option Value × JH)
abbrev JN : Type := JS → Option JS
abbrev JP : Type := JS → Option (Nat × JS)
abbrev JO : Type := Nat × Nat × Int
def ju {α : Type} (f : Nat → Nat → α) (a k : Nat) (v : α) : Nat → Nat → α := fun b j => if b = a ∧ j = k then v else f b j
def jh_n (σ : JH) : Nat := σ.1.length
def jh_w (σ : JH) : Nat := (σ.1.map (fun q => q.2)).sum
def jh_setI (σ : JH) (a k : Nat) (x : Int32) : JH := (σ.1, ju σ.2.1 a k x, σ.2.2)
def jh_setJ (σ : JH) (a k : Nat) (x : Int64) : JH := (σ.1, σ.2.1, ju σ.2.2.1 a k x, σ.2.2.2)
def jh_setR (σ : JH) (a k : Nat) (x : Option Nat) : JH := (σ.1, σ.2.1, σ.2.2.1, ju σ.2.2.2 a k x)
/-- a new cell: its place is the number of shapes; all is 0 or null in it -/
def jh_new (σ : JH) (t n : Nat) : JH := (σ.1 ++ [(t, n)], (fun b j => if b = σ.1.length then 0 else σ.2.1 b j), (fun b j => if b = σ.1.length then 0 else σ.2.2.1 b j), (fun b j => if b = σ.1.length then none else σ.2.2.2 b j))
def jr (G : JG) (r : Nat) : Nat := if r < 64 then jg_sa G r else jg_sz G + (r - 64)
def jv (G : JG) : Value → Value
  | .ref r => .ref (jr G r)
  | v => v
/-- 0: an int's kind, 1: long, 2: a reference -/
def jt_k (t : FieldType) : Nat := match t with
  | .long => 1
  | .object _ => 2
  | .array _ => 2
  | _ => 0
def jf (σ : JH) (a k : Nat) (t : FieldType) : Value := match jt_k t with
  | 0 => .int (σ.2.1 a k)
  | 1 => .long (σ.2.2.1 a k)
  | _ => va_rf (σ.2.2.2 a k)
def jt_at (t : Nat) : FieldType := match t with
  | 101 => .long
  | 102 => .byte
  | 103 => .boolean
  | 104 => .object "CellarTurns$Muddle"
  | _ => .int
/-- a local is set: one of a slot before it that holds a long is lost; a long takes the next slot, too -/
def jl_clr (L : JL) (i : Nat) : JL := match i with
  | 0 => L
  | j + 1 => match L[j]? with
    | some (some w) => if w.category = 2 then L.set j none else L
    | _ => L
def jl_set (L : JL) (i : Nat) (v : Value) : JL := (jl_clr L i).set i (some v)
def jl_set2 (L : JL) (i : Nat) (v : Value) : JL := ((jl_clr L i).set i (some v)).set (i + 1) none
/-! ===== the classes and their fields; which field a place of a class's pool means; its constants ===== -/
def jt_tab : List (String × List (String × String × Bool × FieldType)) := [
  ("CellarTurns$House", [("names", "[J", true, .array .long), ("kinds", "[I", true, .array .int), ("prices", "[I", true, .array .int), ("minds", "[I", true, .array .int), ("been", "[I", true, .array .int), ("bars", "[I", true, .array .int), ("limits", "[I", true, .array .int), ("law", "LCellarTurns$Law;", true, .object "CellarTurns$Law"), ("bodies", "I", false, .int), ("newBits", "I", false, .int), ("catBits", "I", false, .int), ("ringBits", "I", false, .int), ("often", "I", false, .int), ("oftenTold", "Z", false, .boolean), ("costsTold", "Z", false, .boolean)]),
  ("CellarTurns$Law", [("steps", "[I", true, .array .int), ("waiting", "[I", true, .array .int), ("length", "I", false, .int)]),
  ("CellarTurns$LawReader", [("tape", "LCellarTurns$Tape;", true, .object "CellarTurns$Tape")]),
  ("CellarTurns$Muddle", [("minds", "[I", true, .array .int), ("met", "[I", true, .array .int), ("sat", "[I", true, .array .int), ("house", "LCellarTurns$House;", false, .object "CellarTurns$House"), ("there", "I", false, .int), ("open", "I", false, .int), ("astray", "I", false, .int), ("turns", "I", false, .int), ("pairs", "I", false, .int), ("cost", "I", false, .int), ("seen", "J", false, .long), ("seenCount", "I", false, .int)]),
  ("CellarTurns$Plan", [("names", "[I", true, .array .int), ("bodies", "[I", true, .array .int), ("lines", "I", false, .int)]),
  ("CellarTurns$Reader", [("tape", "LCellarTurns$Tape;", true, .object "CellarTurns$Tape"), ("laws", "LCellarTurns$LawReader;", true, .object "CellarTurns$LawReader")]),
  ("CellarTurns$RingList", [("turns", "[I", true, .array .int), ("homeBehind", "[I", true, .array .int), ("length", "I", false, .int), ("rings", "I", false, .int), ("longest", "I", false, .int), ("turnsWanted", "I", false, .int)]),
  ("CellarTurns$Search", [("muddle", "LCellarTurns$Muddle;", true, .object "CellarTurns$Muddle"), ("row", "[I", true, .array .int), ("kept", "[I", true, .array .int), ("depth", "I", false, .int), ("length", "I", false, .int), ("wrong", "I", false, .int), ("cost", "I", false, .int)]),
  ("CellarTurns$Tally", [("muddle", "LCellarTurns$Muddle;", true, .object "CellarTurns$Muddle"), ("codes", "[I", true, .array .int), ("rowsByMind", "[I", true, .array .int), ("codeCount", "I", false, .int), ("mostFound", "I", false, .int), ("rowCount", "I", false, .int), ("pairsInAll", "J", false, .long), ("pairsInSome", "J", false, .long), ("minding", "Z", false, .boolean)]),
  ("CellarTurns$Tape", [("signs", "[B", true, .array .byte), ("length", "I", false, .int), ("next", "I", false, .int), ("place", "I", false, .int), ("word", "LCellarTurns$Word;", false, .object "CellarTurns$Word"), ("letters", "J", false, .long), ("number", "I", false, .int), ("sign", "C", false, .char), ("fault", "I", false, .int)]),
  ("CellarTurns", [("tape", "LCellarTurns$Tape;", true, .object "CellarTurns$Tape"), ("reader", "LCellarTurns$Reader;", true, .object "CellarTurns$Reader"), ("ringList", "LCellarTurns$RingList;", true, .object "CellarTurns$RingList"), ("search", "LCellarTurns$Search;", true, .object "CellarTurns$Search"), ("tally", "LCellarTurns$Tally;", true, .object "CellarTurns$Tally"), ("now", "LCellarTurns$Muddle;", true, .object "CellarTurns$Muddle"), ("trial", "LCellarTurns$Muddle;", true, .object "CellarTurns$Muddle"), ("past", "[LCellarTurns$Muddle;", true, .array (.object "CellarTurns$Muddle")), ("marked", "[LCellarTurns$Muddle;", true, .array (.object "CellarTurns$Muddle")), ("house", "LCellarTurns$House;", false, .object "CellarTurns$House"), ("spareHouse", "LCellarTurns$House;", false, .object "CellarTurns$House"), ("plan", "LCellarTurns$Plan;", false, .object "CellarTurns$Plan"), ("sparePlan", "LCellarTurns$Plan;", false, .object "CellarTurns$Plan"), ("pastEnd", "I", false, .int), ("pastCount", "I", false, .int), ("laid", "I", false, .int)]),
  ("CellarTurnsModel", [("thrown", "I", false, .int), ("tape", "[I", true, .array .int), ("taped", "I", false, .int), ("size", "I", false, .int), ("sort", "[I", true, .array .int), ("place", "[I", true, .array .int), ("value", "[J", true, .array .long), ("at", "I", false, .int), ("fault", "I", false, .int), ("words", "[J", true, .array .long), ("rooms", "[I", true, .array .int), ("op", "[I", true, .array .int), ("arg", "[I", true, .array .int), ("codes", "I", false, .int), ("names", "[J", true, .array .long), ("readNames", "[J", true, .array .long), ("namesMany", "I", false, .int), ("readMany", "I", false, .int), ("once", "I", false, .int), ("ringed", "I", false, .int), ("lines", "[I", true, .array .int), ("facts", "[I", true, .array .int), ("pile", "[I", true, .array .int), ("state", "[I", true, .array .int), ("undos", "I", false, .int), ("isMarked", "[Z", true, .array .boolean), ("enoughOne", "[I", true, .array .int), ("enoughOther", "[I", true, .array .int), ("enoughMany", "I", false, .int), ("ringsMany", "I", false, .int), ("ringsLongest", "I", false, .int), ("ringsOdd", "I", false, .int), ("ring", "[I", true, .array .int), ("minds", "[I", true, .array .int), ("mostWrong", "I", false, .int), ("row", "[I", true, .array .int), ("bestRow", "[I", true, .array .int), ("bestTurns", "I", false, .int), ("bestWorth", "I", false, .int), ("muddled", "[J", true, .array .long), ("muddledMany", "I", false, .int), ("rowsMany", "I", false, .int), ("pairIn", "[I", true, .array .int), ("mindIn", "[I", true, .array .int), ("g", "J", false, .long)])]
def jt_own : List String := ["CellarTurns$House", "CellarTurns$Law", "CellarTurns$LawReader", "CellarTurns$Muddle", "CellarTurns$Plan", "CellarTurns$Reader", "CellarTurns$RingList", "CellarTurns$Search", "CellarTurns$Tally", "CellarTurns$Tape", "CellarTurns", "CellarTurnsModel", "CellarTurnsLaw", "CellarTurns$Word", "java/lang/Math", "java/lang/Integer", "java/lang/Long", "java/lang/Enum"]
def jt_fls : List ((Nat × Nat) × Nat × Nat × Bool) := [
  ((9, 9), 9, 0, false),
  ((10, 89), 9, 1, true),
  ((9, 28), 9, 1, false),
  ((9, 31), 9, 2, false),
  ((9, 40), 9, 3, false),
  ((9, 21), 9, 4, false),
  ((2, 19), 9, 4, true),
  ((5, 62), 9, 4, true),
  ((5, 115), 9, 5, true),
  ((9, 51), 9, 5, false),
  ((9, 24), 9, 6, false),
  ((2, 73), 9, 6, true),
  ((5, 142), 9, 6, true),
  ((2, 45), 9, 7, true),
  ((9, 43), 9, 7, false),
  ((5, 149), 9, 7, true),
  ((9, 34), 9, 8, false),
  ((2, 9), 2, 0, false),
  ((5, 9), 5, 0, false),
  ((5, 20), 5, 1, false),
  ((1, 9), 1, 0, false),
  ((1, 15), 1, 1, false),
  ((1, 18), 1, 2, false),
  ((0, 9), 0, 0, false),
  ((0, 15), 0, 1, false),
  ((10, 117), 0, 1, true),
  ((0, 19), 0, 2, false),
  ((10, 124), 0, 2, true),
  ((3, 132), 0, 2, true),
  ((0, 22), 0, 3, false),
  ((3, 68), 0, 3, true),
  ((5, 160), 0, 3, true),
  ((0, 25), 0, 4, false),
  ((3, 48), 0, 4, true),
  ((5, 80), 0, 4, true),
  ((0, 28), 0, 5, false),
  ((5, 87), 0, 5, true),
  ((3, 143), 0, 5, true),
  ((10, 311), 0, 5, true),
  ((0, 31), 0, 6, false),
  ((3, 109), 0, 6, true),
  ((0, 37), 0, 7, false),
  ((7, 113), 0, 7, true),
  ((3, 116), 0, 7, true),
  ((5, 173), 0, 7, true),
  ((0, 48), 0, 8, false),
  ((6, 37), 0, 8, true),
  ((3, 69), 0, 8, true),
  ((10, 139), 0, 8, true),
  ((8, 110), 0, 8, true),
  ((0, 52), 0, 9, false),
  ((10, 121), 0, 9, true),
  ((5, 131), 0, 9, true),
  ((3, 106), 0, 9, true),
  ((0, 55), 0, 10, false),
  ((8, 56), 0, 10, true),
  ((3, 140), 0, 10, true),
  ((0, 58), 0, 11, false),
  ((5, 157), 0, 11, true),
  ((0, 61), 0, 12, false),
  ((5, 167), 0, 12, true),
  ((10, 308), 0, 12, true),
  ((0, 64), 0, 13, false),
  ((5, 163), 0, 13, true),
  ((0, 68), 0, 14, false),
  ((5, 170), 0, 14, true),
  ((4, 9), 4, 0, false),
  ((4, 15), 4, 1, false),
  ((4, 18), 4, 2, false),
  ((5, 184), 4, 2, true),
  ((10, 318), 4, 2, true),
  ((6, 9), 6, 0, false),
  ((10, 215), 6, 0, true),
  ((6, 15), 6, 1, false),
  ((10, 218), 6, 1, true),
  ((6, 18), 6, 2, false),
  ((10, 214), 6, 2, true),
  ((6, 22), 6, 3, false),
  ((10, 195), 6, 3, true),
  ((6, 25), 6, 4, false),
  ((10, 198), 6, 4, true),
  ((6, 28), 6, 5, false),
  ((10, 201), 6, 5, true),
  ((3, 9), 3, 0, false),
  ((6, 42), 3, 0, true),
  ((10, 130), 3, 0, true),
  ((8, 113), 3, 0, true),
  ((3, 15), 3, 1, false),
  ((10, 221), 3, 1, true),
  ((3, 18), 3, 2, false),
  ((10, 133), 3, 2, true),
  ((3, 21), 3, 3, false),
  ((6, 31), 3, 3, true),
  ((8, 52), 3, 3, true),
  ((7, 109), 3, 3, true),
  ((3, 35), 3, 4, false),
  ((8, 49), 3, 4, true),
  ((10, 127), 3, 4, true),
  ((3, 39), 3, 5, false),
  ((3, 42), 3, 6, false),
  ((7, 48), 3, 6, true),
  ((10, 136), 3, 6, true),
  ((8, 123), 3, 6, true),
  ((3, 45), 3, 7, false),
  ((7, 119), 3, 7, true),
  ((10, 303), 3, 7, true),
  ((3, 55), 3, 8, false),
  ((7, 122), 3, 8, true),
  ((10, 305), 3, 8, true),
  ((3, 58), 3, 9, false),
  ((10, 189), 3, 9, true),
  ((3, 61), 3, 10, false),
  ((3, 65), 3, 11, false),
  ((10, 257), 3, 11, true),
  ((7, 23), 7, 0, false),
  ((7, 9), 7, 1, false),
  ((7, 15), 7, 2, false),
  ((7, 35), 7, 3, false),
  ((7, 27), 7, 4, false),
  ((10, 240), 7, 4, true),
  ((7, 82), 7, 5, false),
  ((10, 244), 7, 5, true),
  ((7, 103), 7, 6, false),
  ((10, 250), 7, 6, true),
  ((8, 23), 8, 0, false),
  ((8, 11), 8, 1, false),
  ((8, 15), 8, 2, false),
  ((8, 98), 8, 3, false),
  ((8, 31), 8, 4, false),
  ((8, 137), 8, 5, false),
  ((10, 267), 8, 5, true),
  ((8, 142), 8, 6, false),
  ((10, 282), 8, 6, true),
  ((8, 146), 8, 7, false),
  ((10, 286), 8, 7, true),
  ((8, 133), 8, 8, false),
  ((10, 10), 10, 0, false),
  ((10, 21), 10, 1, false),
  ((10, 48), 10, 2, false),
  ((10, 57), 10, 3, false),
  ((10, 64), 10, 4, false),
  ((10, 71), 10, 5, false),
  ((10, 75), 10, 6, false),
  ((10, 78), 10, 7, false),
  ((10, 82), 10, 8, false),
  ((10, 28), 10, 9, false),
  ((10, 32), 10, 10, false),
  ((10, 38), 10, 11, false),
  ((10, 42), 10, 12, false),
  ((10, 172), 10, 13, false),
  ((10, 103), 10, 14, false),
  ((10, 106), 10, 15, false),
  ((11, 1), 11, 0, false),
  ((11, 14), 11, 1, false),
  ((11, 11), 11, 2, false),
  ((11, 148), 11, 3, false),
  ((11, 24), 11, 4, false),
  ((11, 27), 11, 5, false),
  ((11, 30), 11, 6, false),
  ((11, 167), 11, 7, false),
  ((11, 170), 11, 8, false),
  ((11, 76), 11, 9, false),
  ((11, 79), 11, 10, false),
  ((11, 82), 11, 11, false),
  ((11, 85), 11, 12, false),
  ((11, 206), 11, 13, false),
  ((11, 88), 11, 14, false),
  ((11, 91), 11, 15, false),
  ((11, 192), 11, 16, false),
  ((11, 189), 11, 17, false),
  ((11, 209), 11, 18, false),
  ((11, 212), 11, 19, false),
  ((11, 94), 11, 20, false),
  ((11, 97), 11, 21, false),
  ((11, 100), 11, 22, false),
  ((11, 103), 11, 23, false),
  ((11, 288), 11, 24, false),
  ((11, 106), 11, 25, false),
  ((11, 110), 11, 26, false),
  ((11, 113), 11, 27, false),
  ((11, 353), 11, 28, false),
  ((11, 356), 11, 29, false),
  ((11, 359), 11, 30, false),
  ((11, 362), 11, 31, false),
  ((11, 116), 11, 32, false),
  ((11, 119), 11, 33, false),
  ((11, 374), 11, 34, false),
  ((11, 122), 11, 35, false),
  ((11, 125), 11, 36, false),
  ((11, 383), 11, 37, false),
  ((11, 386), 11, 38, false),
  ((11, 128), 11, 39, false),
  ((11, 406), 11, 40, false),
  ((11, 419), 11, 41, false),
  ((11, 131), 11, 42, false),
  ((11, 134), 11, 43, false),
  ((11, 428), 11, 44, false)]
def jt_flx : List Nat := [162, 163, 164, 165, 166, 167, 168, 169, 170, 171, 172, 173, 174, 175, 176, 177, 178, 211, 215, 216, 234, 235, 236, 269, 270, 271, 272, 273, 274, 275, 276, 277, 278, 279, 280, 281, 282, 283, 284, 285, 286, 287, 288, 289, 290, 291, 292, 293, 294, 295, 296, 297, 298, 299, 300, 301, 302, 303, 304, 305, 306, 307, 308, 309, 310, 311, 349, 350, 351, 352, 353, 367, 368, 369, 370, 371, 372, 373, 374, 375, 376, 377, 378, 430, 431, 432, 433, 434, 435, 436, 437, 438, 439, 440, 441, 442, 443, 444, 445, 446, 447, 448, 449, 450, 451, 452, 453, 454, 455, 456, 457, 458, 459, 460, 486, 487, 488, 489, 490, 491, 492, 493, 494, 495, 519, 520, 521, 522, 523, 524, 525, 526, 527, 528, 529, 530, 553, 554, 555, 556, 557, 558, 559, 560, 561, 562, 563, 564, 565, 566, 567, 568, 1468, 1469, 1470, 1471, 1472, 1473, 1474, 1475, 1476, 1477, 1478, 1479, 1480, 1481, 1482, 1483, 1484, 1485, 1486, 1487, 1488, 1489, 1490, 1491, 1492, 1493, 1494, 1495, 1496, 1497, 1498, 1499, 1500, 1501, 1502, 1503, 1504, 1505, 1506, 1507, 1508, 1509, 1510, 1511, 1512]
def jt_lcs : List ((Nat × Nat) × Value) := [
  ((15, 265), .int (1431655765)),
  ((15, 266), .int (858993459)),
  ((15, 267), .int (252645135)),
  ((9, 74), .long (27)),
  ((16, 314), .long (6148914691236517205)),
  ((16, 316), .long (3689348814741910323)),
  ((16, 318), .long (1085102592571150095)),
  ((15, 264), .int (65536)),
  ((7, 102), .int (2147483647)),
  ((8, 119), .int (1000000)),
  ((8, 140), .long (-1)),
  ((3, 135), .long (63)),
  ((10, 324), .long (1103515245)),
  ((10, 326), .long (12345)),
  ((10, 328), .long (2147483648)),
  ((10, 330), .long (65536)),
  ((11, 34), .long (1119812451)),
  ((11, 36), .long (19374)),
  ((11, 38), .long (30910767)),
  ((11, 40), .long (924600)),
  ((11, 42), .long (108350)),
  ((11, 44), .long (2793)),
  ((11, 46), .long (28443912)),
  ((11, 48), .long (6409048)),
  ((11, 50), .long (1042489)),
  ((11, 52), .long (34523964)),
  ((11, 54), .long (11525730)),
  ((11, 56), .long (30596128)),
  ((11, 58), .long (12777)),
  ((11, 60), .long (26332)),
  ((11, 62), .long (4164)),
  ((11, 64), .long (19741)),
  ((11, 66), .long (1891)),
  ((11, 68), .long (573)),
  ((11, 70), .long (44038517)),
  ((11, 72), .long (38572112)),
  ((11, 74), .long (18002)),
  ((11, 151), .long (37)),
  ((11, 160), .long (10)),
  ((11, 162), .long (48)),
  ((11, 404), .long (8)),
  ((11, 415), .int (1000000)),
  ((11, 432), .long (1103515245)),
  ((11, 434), .long (12345)),
  ((11, 436), .long (2147483648)),
  ((11, 438), .long (65536)),
  ((12, 19), .long (4294967295))]
def jt_lcx : List Nat := [423, 424, 425, 635, 1063, 1064, 1065, 1122, 1216, 1251, 1278, 1292, 1313, 1314, 1315, 1316, 1427, 1428, 1429, 1430, 1431, 1432, 1433, 1434, 1435, 1436, 1437, 1438, 1439, 1440, 1441, 1442, 1443, 1444, 1445, 1446, 1447, 1616, 1623, 1624, 1942, 1947, 1988, 1989, 1990, 1991, 2008]
def jt_nws : List ((Nat × Nat) × Nat) := [((12, 8), 10), ((10, 7), 9), ((10, 16), 5), ((5, 15), 2), ((10, 25), 0), ((0, 34), 1), ((10, 35), 4), ((10, 45), 6), ((10, 52), 7), ((7, 18), 3), ((10, 61), 8), ((8, 18), 3), ((10, 68), 3), ((12, 16), 11)]
def jt_nwx : List Nat := [146, 154, 199, 205, 222, 228, 343, 361, 392, 398, 511, 517, 550, 1422]
def jt_ixs : List (Nat × Nat) := [(223, 123), (229, 124), (206, 122), (399, 129), (344, 126), (200, 121), (362, 127), (393, 128), (512, 132), (155, 118), (147, 117), (1420, 133)]
def jt_lay : List (List Nat) := [[312, 314, 316, 318, 320, 322, 324, 326, 328, 330, 332, 334, 336, 338, 340], [237, 239, 241], [212], [461, 463, 465, 467, 469, 471, 473, 475, 477, 479, 481, 483], [354, 356, 358], [217, 219], [379, 381, 383, 385, 387, 389], [496, 498, 500, 502, 504, 506, 508], [531, 533, 535, 537, 539, 541, 543, 545, 547], [179, 181, 183, 185, 187, 189, 191, 193, 195], [569, 571, 573, 575, 577, 579, 581, 583, 585, 587, 589, 591, 593, 595, 597, 599], [1513, 1515, 1517, 1519, 1521, 1523, 1525, 1527, 1529, 1531, 1533, 1535, 1537, 1539, 1541, 1543, 1545, 1547, 1549, 1551, 1553, 1555, 1557, 1559, 1561, 1563, 1565, 1567, 1569, 1571, 1573, 1575, 1577, 1579, 1581, 1583, 1585, 1587, 1589, 1591, 1593, 1595, 1597, 1599, 1601]]
def jt_C (ci : Nat) : String := (jt_tab.getD ci ("", [])).1
def jt_N (ci : Nat) : Nat := (jt_tab.getD ci ("", [])).2.length
def jt_f (ci k : Nat) : String × String × Bool × FieldType := (jt_tab.getD ci ("", [])).2.getD k ("", "", false, .int)
def jt_T (ci : Nat) : u_T := fun k => (jt_C ci, (jt_f ci k).1, (jt_f ci k).2.1, (jt_f ci k).2.2.1)
def jt_ty (ci k : Nat) : FieldType := (jt_f ci k).2.2.2
def jt_cls : List vw_C := (List.range 12).map (fun ci => (jt_C ci, jt_T ci, jt_N ci))
def jt_fl (own ix : Nat) : Option (Nat × Nat × Bool) := jt_fls.lookup (own, ix)
def jt_lc (own ix : Nat) : Option Value := jt_lcs.lookup (own, ix)
def jt_nw (own ix : Nat) : Option Nat := jt_nws.lookup (own, ix)
/-- the words of the tables that stay true while classes warm -/
def jt_gw (w : Cond) : Bool := goodWord w || (match w with
  | .fieldLinkNest _ _ _ _ _ _ => true
  | .methodLinkNest _ _ _ _ => true
  | .declares _ => true
  | .castable _ _ => true
  | _ => false)
theorem jt_cls_at {ci : Nat} (h : ci < 12) : jt_cls[ci]? = some (jt_C ci, jt_T ci, jt_N ci) := by
  unfold jt_cls
  rw [List.getElem?_map, List.getElem?_range h]
  rfl
theorem jt_lay_ok : ∀ ci, ci < 12 → ∀ k, k < jt_N ci → lw_tbl[(jt_lay.getD ci []).getD k 0]? = some (u_lay (jt_C ci) (jt_T ci) k) := by decide +kernel
theorem jt_lay_in {ci : Nat} (h : ci < 12) : ∀ w ∈ u_ws (jt_C ci) (jt_T ci) (jt_N ci), w ∈ lw_tbl := by
  intro w hw
  obtain ⟨k, hk, rfl⟩ := List.mem_map.mp hw
  exact List.mem_of_getElem? (jt_lay_ok ci h k (List.mem_range.mp hk))
theorem jt_ty_ok : ∀ ci, ci < 12 → ∀ k, k < jt_N ci → parseFieldDescriptor (jt_T ci k).2.2.1 = some (jt_ty ci k) := by decide +kernel
theorem jt_nm_ok : ∀ ci, ci < 12 → ∀ a, a < jt_N ci → ∀ b, b < jt_N ci → a ≠ b → (jt_T ci a).2.1 ≠ (jt_T ci b).2.1 := by decide +kernel
theorem jt_ix_ok : ∀ ci, ci < 12 → lw_tbl[(jt_ixs.getD ci (0, 0)).1]? = some (.instantiable (jt_C ci) (jt_N ci)) ∧ lw_tbl[(jt_ixs.getD ci (0, 0)).2]? = some (.initialized (jt_C ci)) := by decide +kernel
def jt_flw (e : (Nat × Nat) × Nat × Nat × Bool) : Cond := if e.2.2.2 = true then .fieldLinkNest (jt_own.getD e.1.1 "") e.1.2 (jt_C e.2.1) (jt_f e.2.1 e.2.2.1).1 (jt_f e.2.1 e.2.2.1).2.1 "CellarTurns" else .fieldLink (jt_own.getD e.1.1 "") e.1.2 (jt_C e.2.1) (jt_f e.2.1 e.2.2.1).1 (jt_f e.2.1 e.2.2.1).2.1
theorem jt_fl_ok : ∀ q ∈ jt_fls.zip jt_flx, lw_tbl[q.2]? = some (jt_flw q.1) ∧ q.1.2.1 < 12 ∧ q.1.2.2.1 < jt_N q.1.2.1 := by decide +kernel
def jt_lcw (e : (Nat × Nat) × Value) : Cond := match e.2 with
  | .int v => .constant (jt_own.getD e.1.1 "") e.1.2 v
  | .long v => .constantLong (jt_own.getD e.1.1 "") e.1.2 v
  | _ => .initialized ""
theorem jt_lc_ok : ∀ q ∈ jt_lcs.zip jt_lcx, lw_tbl[q.2]? = some (jt_lcw q.1) := by decide +kernel
theorem jt_nw_ok : ∀ q ∈ jt_nws.zip jt_nwx, lw_tbl[q.2]? = some (.classLink (jt_own.getD q.1.1.1 "") q.1.1.2 (jt_C q.1.2)) ∧ q.1.2 < 12 := by decide +kernel
theorem jt_look {α β : Type} [BEq α] [LawfulBEq α] {l : List (α × β)} {a : α} {b : β} (h : l.lookup a = some b) : (a, b) ∈ l := by
  induction l with
  | nil => cases h
  | cons q r ih =>
    obtain ⟨x, y⟩ := q
    rw [List.lookup_cons] at h
    by_cases hx : (a == x) = true
    · rw [hx] at h
      cases h
      rw [eq_of_beq hx]
      exact List.mem_cons_self
    · rw [Bool.not_eq_true] at hx
      rw [hx] at h
      exact List.mem_cons_of_mem _ (ih h)
theorem jt_zip {α : Type} {l : List α} {x : List Nat} (hl : l.length = x.length) {a : α} (h : a ∈ l) : ∃ n, (a, n) ∈ l.zip x := by
  obtain ⟨i, hi⟩ := List.getElem?_of_mem h
  have h1 : i < l.length := (List.getElem?_eq_some_iff.mp hi).1
  have h2 : i < x.length := by omega
  refine ⟨x[i], List.mem_of_getElem? (i := i) ?_⟩
  rw [List.getElem?_zip_eq_some]
  exact ⟨hi, List.getElem?_eq_getElem h2⟩
theorem jt_fl_at {own ix ci k : Nat} {b : Bool} (h : jt_fl own ix = some (ci, k, b)) : jt_flw ((own, ix), ci, k, b) ∈ lw_tbl ∧ ci < 12 ∧ k < jt_N ci := by
  obtain ⟨n, hn⟩ := jt_zip (x := jt_flx) (by decide +kernel) (jt_look h)
  have h1 := jt_fl_ok _ hn
  exact ⟨List.mem_of_getElem? h1.1, h1.2.1, h1.2.2⟩
theorem jt_lc_at {own ix : Nat} {v : Value} (h : jt_lc own ix = some v) : jt_lcw ((own, ix), v) ∈ lw_tbl := by
  obtain ⟨n, hn⟩ := jt_zip (x := jt_lcx) (by decide +kernel) (jt_look h)
  exact List.mem_of_getElem? (jt_lc_ok _ hn)
theorem jt_nw_at {own ix ci : Nat} (h : jt_nw own ix = some ci) : Cond.classLink (jt_own.getD own "") ix (jt_C ci) ∈ lw_tbl ∧ ci < 12 := by
  obtain ⟨n, hn⟩ := jt_zip (x := jt_nwx) (by decide +kernel) (jt_look h)
  have h1 := jt_nw_ok _ hn
  exact ⟨List.mem_of_getElem? h1.1, h1.2⟩
end
section
/-! ===== the small machine's steps ===== -/
def jo_ipush (n : Int) : JN := fun s => some (s.1, .int (Int32.ofInt n) :: s.2.1, s.2.2)
def jo_lpush (n : Int) : JN := fun s => some (s.1, .long (Int64.ofInt n) :: s.2.1, s.2.2)
def jo_iload (i : Nat) : JN := fun s => match s.1[i]? with
  | some (some (.int x)) => some (s.1, .int x :: s.2.1, s.2.2)
  | _ => none
def jo_lload (i : Nat) : JN := fun s => match s.1[i]? with
  | some (some (.long x)) => some (s.1, .long x :: s.2.1, s.2.2)
  | _ => none
def jo_aload (i : Nat) : JN := fun s => match s.1[i]? with
  | some (some (.ref x)) => some (s.1, .ref x :: s.2.1, s.2.2)
  | _ => none
def jo_istore (i : Nat) : JN := fun s => match s.2.1 with
  | .int x :: st => if i < s.1.length then some (jl_set s.1 i (.int x), st, s.2.2) else none
  | _ => none
def jo_lstore (i : Nat) : JN := fun s => match s.2.1 with
  | .long x :: st => if i + 1 < s.1.length then some (jl_set2 s.1 i (.long x), st, s.2.2) else none
  | _ => none
def jo_astore (i : Nat) : JN := fun s => match s.2.1 with
  | .ref x :: st => if i < s.1.length then some (jl_set s.1 i (.ref x), st, s.2.2) else none
  | _ => none
def jo_iinc (i : Nat) (n : Int) : JN := fun s => match s.1[i]? with
  | some (some (.int x)) => some (jl_set s.1 i (.int (x + Int32.ofInt n)), s.2.1, s.2.2)
  | _ => none
def jo_ii (f : Int32 → Int32 → Int32) : JN := fun s => match s.2.1 with
  | .int y :: .int x :: st => some (s.1, .int (f x y) :: st, s.2.2)
  | _ => none
def jo_id (f : Int32 → Int32 → Int32) : JN := fun s => match s.2.1 with
  | .int y :: .int x :: st => if y = 0 then none else some (s.1, .int (f x y) :: st, s.2.2)
  | _ => none
def jo_ll (f : Int64 → Int64 → Int64) : JN := fun s => match s.2.1 with
  | .long y :: .long x :: st => some (s.1, .long (f x y) :: st, s.2.2)
  | _ => none
def jo_lq (f : Int64 → Int64 → Int64) : JN := fun s => match s.2.1 with
  | .long y :: .long x :: st => if y = 0 then none else some (s.1, .long (f x y) :: st, s.2.2)
  | _ => none
def jo_li (f : Int64 → Int32 → Int64) : JN := fun s => match s.2.1 with
  | .int y :: .long x :: st => some (s.1, .long (f x y) :: st, s.2.2)
  | _ => none
def jo_i (f : Int32 → Int32) : JN := fun s => match s.2.1 with
  | .int x :: st => some (s.1, .int (f x) :: st, s.2.2)
  | _ => none
def jo_i2l : JN := fun s => match s.2.1 with
  | .int x :: st => some (s.1, .long x.toInt64 :: st, s.2.2)
  | _ => none
def jo_l2i : JN := fun s => match s.2.1 with
  | .long x :: st => some (s.1, .int x.toInt32 :: st, s.2.2)
  | _ => none
def jo_lcmp : JN := fun s => match s.2.1 with
  | .long y :: .long x :: st => some (s.1, .int (lg_cmp x y) :: st, s.2.2)
  | _ => none
def jo_dup : JN := fun s => match s.2.1 with
  | v :: st => if v.category = 1 then some (s.1, v :: v :: st, s.2.2) else none
  | _ => none
def jo_pop : JN := fun s => match s.2.1 with
  | v :: st => if v.category = 1 then some (s.1, st, s.2.2) else none
  | _ => none
def jo_dup2 : JN := fun s => match s.2.1 with
  | v :: w :: st => if v.category = 1 ∧ w.category = 1 then some (s.1, v :: w :: v :: w :: st, s.2.2) else none
  | _ => none
def jo_dupx1 : JN := fun s => match s.2.1 with
  | v :: w :: st => if v.category = 1 ∧ w.category = 1 then some (s.1, v :: w :: v :: st, s.2.2) else none
  | _ => none
/-- fields: the class's number, the field's -/
def jo_getI (ci k : Nat) : JN := fun s => match s.2.1 with
  | .ref a :: st => match s.2.2.1[a]? with
    | some (t, _) => if t = ci then some (s.1, .int (s.2.2.2.1 a k) :: st, s.2.2) else none
    | none => none
  | _ => none
def jo_getJ (ci k : Nat) : JN := fun s => match s.2.1 with
  | .ref a :: st => match s.2.2.1[a]? with
    | some (t, _) => if t = ci then some (s.1, .long (s.2.2.2.2.1 a k) :: st, s.2.2) else none
    | none => none
  | _ => none
def jo_getR (ci k : Nat) : JN := fun s => match s.2.1 with
  | .ref a :: st => match s.2.2.1[a]? with
    | some (t, _) => if t = ci then some (s.1, va_rf (s.2.2.2.2.2 a k) :: st, s.2.2) else none
    | none => none
  | _ => none
def jo_putI (ci k : Nat) (ty : FieldType) : JN := fun s => match s.2.1 with
  | .int x :: .ref a :: st => match s.2.2.1[a]? with
    | some (t, _) => if t = ci ∧ narrow ty (.int x) = .int x ∧ fits ty (.int x) = true then some (s.1, st, jh_setI s.2.2 a k x) else none
    | none => none
  | _ => none
def jo_putJ (ci k : Nat) : JN := fun s => match s.2.1 with
  | .long x :: .ref a :: st => match s.2.2.1[a]? with
    | some (t, _) => if t = ci then some (s.1, st, jh_setJ s.2.2 a k x) else none
    | none => none
  | _ => none
def jo_putR (ci k : Nat) : JN := fun s => match s.2.1 with
  | .ref x :: .ref a :: st => match s.2.2.1[a]? with
    | some (t, _) => if t = ci then some (s.1, st, jh_setR s.2.2 a k (some x)) else none
    | none => none
  | _ => none
/-- arrays: the kinds that a load may read, the kind that a store may write -/
def jo_ldI (ks : List Nat) : JN := fun s => match s.2.1 with
  | .int i :: .ref a :: st => match s.2.2.1[a]? with
    | some (t, n) => if t ∈ ks ∧ ¬ (i < 0 ∨ n ≤ i.toNatClampNeg) then some (s.1, .int (s.2.2.2.1 a i.toNatClampNeg) :: st, s.2.2) else none
    | none => none
  | _ => none
def jo_ldJ : JN := fun s => match s.2.1 with
  | .int i :: .ref a :: st => match s.2.2.1[a]? with
    | some (t, n) => if t = 101 ∧ ¬ (i < 0 ∨ n ≤ i.toNatClampNeg) then some (s.1, .long (s.2.2.2.2.1 a i.toNatClampNeg) :: st, s.2.2) else none
    | none => none
  | _ => none
def jo_ldR : JN := fun s => match s.2.1 with
  | .int i :: .ref a :: st => match s.2.2.1[a]? with
    | some (t, n) => if (t = 104 ∨ t = 201) ∧ ¬ (i < 0 ∨ n ≤ i.toNatClampNeg) then some (s.1, va_rf (s.2.2.2.2.2 a i.toNatClampNeg) :: st, s.2.2) else none
    | none => none
  | _ => none
def jo_stI : JN := fun s => match s.2.1 with
  | .int x :: .int i :: .ref a :: st => match s.2.2.1[a]? with
    | some (t, n) => if t = 100 ∧ ¬ (i < 0 ∨ n ≤ i.toNatClampNeg) then some (s.1, st, jh_setI s.2.2 a i.toNatClampNeg x) else none
    | none => none
  | _ => none
def jo_stB : JN := fun s => match s.2.1 with
  | .int x :: .int i :: .ref a :: st => match s.2.2.1[a]? with
    | some (t, n) => if (t = 102 ∨ t = 103) ∧ ¬ (i < 0 ∨ n ≤ i.toNatClampNeg) then some (s.1, st, jh_setI s.2.2 a i.toNatClampNeg (vp_nar (jt_at t) x)) else none
    | none => none
  | _ => none
def jo_stJ : JN := fun s => match s.2.1 with
  | .long x :: .int i :: .ref a :: st => match s.2.2.1[a]? with
    | some (t, n) => if t = 101 ∧ ¬ (i < 0 ∨ n ≤ i.toNatClampNeg) then some (s.1, st, jh_setJ s.2.2 a i.toNatClampNeg x) else none
    | none => none
  | _ => none
def jo_stR : JN := fun s => match s.2.1 with
  | .ref x :: .int i :: .ref a :: st => match s.2.2.1[a]? with
    | some (t, n) => if t = 104 ∧ ¬ (i < 0 ∨ n ≤ i.toNatClampNeg) ∧ s.2.2.1[x]? = some (3, 12) then some (s.1, st, jh_setR s.2.2 a i.toNatClampNeg (some x)) else none
    | none => none
  | _ => none
def jo_len : JN := fun s => match s.2.1 with
  | .ref a :: st => match s.2.2.1[a]? with
    | some (t, n) => if 100 ≤ t then some (s.1, .int (Int32.ofNat n) :: st, s.2.2) else none
    | none => none
  | _ => none
def jo_new (ci : Nat) : JN := fun s => some (s.1, .ref s.2.2.1.length :: s.2.1, jh_new s.2.2 ci (jt_N ci))
def jo_newa (t : Nat) : JN := fun s => match s.2.1 with
  | .int n :: st => if n < 0 ∨ 5000 < n.toNatClampNeg then none else some (s.1, .ref s.2.2.1.length :: st, jh_new s.2.2 t n.toNatClampNeg)
  | _ => none
def jo_stat (r : Nat) : JN := fun s => some (s.1, .ref r :: s.2.1, s.2.2)
/-- a step by its number: (which, a number, a number) -/
def jx_op (o : JO) : JN := match o.1 with
  | 0 => jo_ipush o.2.2
  | 1 => jo_lpush o.2.2
  | 2 => jo_iload o.2.1
  | 3 => jo_lload o.2.1
  | 4 => jo_aload o.2.1
  | 5 => jo_istore o.2.1
  | 6 => jo_lstore o.2.1
  | 7 => jo_astore o.2.1
  | 8 => jo_iinc o.2.1 o.2.2
  | 10 => jo_ii (fun x y => x + y)
  | 11 => jo_ii (fun x y => x - y)
  | 12 => jo_ii (fun x y => x * y)
  | 13 => jo_id (fun x y => x / y)
  | 14 => jo_id (fun x y => x - x / y * y)
  | 15 => jo_i (fun x => -x)
  | 16 => jo_ii (fun x y => x &&& y)
  | 17 => jo_ii (fun x y => x ||| y)
  | 18 => jo_ii (fun x y => x ^^^ y)
  | 19 => jo_ii (fun x y => x <<< (y &&& 31))
  | 20 => jo_ii (fun x y => x >>> (y &&& 31))
  | 21 => jo_ii (fun x y => (x.toUInt32 >>> (y.toUInt32 &&& Int32.toUInt32 31)).toInt32)
  | 22 => jo_ll (fun x y => x + y)
  | 23 => jo_ll (fun x y => x - y)
  | 24 => jo_ll (fun x y => x * y)
  | 25 => jo_lq (fun x y => x / y)
  | 26 => jo_lq (fun x y => x - x / y * y)
  | 27 => jo_ll (fun x y => x &&& y)
  | 28 => jo_ll (fun x y => x ||| y)
  | 29 => jo_ll (fun x y => x ^^^ y)
  | 30 => jo_li (fun x y => x <<< (y.toInt64 &&& 63))
  | 31 => jo_li (fun x y => x >>> (y.toInt64 &&& 63))
  | 32 => jo_li (fun x y => (x.toUInt64 >>> (y.toInt64.toUInt64 &&& Int64.toUInt64 63)).toInt64)
  | 33 => jo_lcmp
  | 34 => jo_i2l
  | 35 => jo_l2i
  | 36 => jo_i (fun x => x.toInt8.toInt32)
  | 37 => jo_i (fun x => (x.toUInt32 % 65536).toInt32)
  | 40 => jo_getI o.2.1 o.2.2.toNat
  | 41 => jo_getJ o.2.1 o.2.2.toNat
  | 42 => jo_getR o.2.1 o.2.2.toNat
  | 43 => jo_putI o.2.1 o.2.2.toNat .int
  | 44 => jo_putJ o.2.1 o.2.2.toNat
  | 45 => jo_putR o.2.1 o.2.2.toNat
  | 46 => jo_putI o.2.1 o.2.2.toNat .boolean
  | 47 => jo_putI o.2.1 o.2.2.toNat .char
  | 48 => jo_putR o.2.1 o.2.2.toNat
  | 50 => jo_ldI [100, 200]
  | 51 => jo_ldJ
  | 52 => jo_ldI [102, 103]
  | 54 => jo_ldR
  | 55 => jo_stI
  | 56 => jo_stJ
  | 57 => jo_stB
  | 59 => jo_stR
  | 60 => jo_len
  | 61 => jo_new o.2.1
  | 62 => jo_newa o.2.1
  | 63 => jo_newa 104
  | 64 => jo_stat o.2.1
  | 70 => jo_dup
  | 71 => jo_pop
  | 72 => jo_dup2
  | 73 => jo_dupx1
  | _ => fun _ => none
def jx_run : List JO → JN
  | [] => fun s => some s
  | o :: r => fun s => (jx_op o s).bind (jx_run r)
/-- the statics that are constants: a place of a pool, the constant's number -/
def jt_gss : List ((Nat × Nat) × Nat) := []
def jt_gs (own ix : Nat) : Option Nat := jt_gss.lookup (own, ix)
/-- which step an instruction is; the fields of Word have the class number 50 -/
def jx_fld (own ix : Nat) (put ini : Bool) : Option JO := match jt_fl own ix with
  | some (ci, k, nest) => match put, jt_ty ci k, (jt_f ci k).2.2.1 with
    | false, .long, _ => some (41, ci, k)
    | false, .object _, _ => some (42, ci, k)
    | false, .array _, _ => some (42, ci, k)
    | false, .int, _ => some (40, ci, k)
    | false, .boolean, _ => some (40, ci, k)
    | false, .char, _ => some (40, ci, k)
    | true, .int, false => some (43, ci, k)
    | true, .long, false => some (44, ci, k)
    | true, .object _, false => some (45, ci, k)
    | true, .boolean, false => some (46, ci, k)
    | true, .char, false => some (47, ci, k)
    | true, .object _, true => if ini = true ∧ nest = false ∧ ci = own then some (48, ci, k) else none
    | true, .array _, true => if ini = true ∧ nest = false ∧ ci = own then some (48, ci, k) else none
    | _, _, _ => none
  | none => none
def jx_of (own : Nat) (ini : Bool) (i : Instr) : Option JO := match i with
  | .iconst n => some (0, 0, (Int32.ofInt n).toInt)
  | .bipush n => some (0, 0, ((Int8.ofInt n).toInt32).toInt)
  | .sipush n => some (0, 0, ((Int16.ofInt n).toInt32).toInt)
  | .ldc ix => match jt_lc own ix with
    | some (.int v) => some (0, 0, v.toInt)
    | _ => none
  | .ldc_w ix => match jt_lc own ix with
    | some (.int v) => some (0, 0, v.toInt)
    | _ => none
  | .lconst n => some (1, 0, (Int64.ofNat n).toInt)
  | .ldc2_w ix => match jt_lc own ix with
    | some (.long v) => some (1, 0, v.toInt)
    | _ => none
  | .iload i => some (2, i, 0)
  | .iload_n i => some (2, i, 0)
  | .lload i => some (3, i, 0)
  | .lload_n i => some (3, i, 0)
  | .aload i => some (4, i, 0)
  | .aload_n i => some (4, i, 0)
  | .istore i => some (5, i, 0)
  | .istore_n i => some (5, i, 0)
  | .lstore i => some (6, i, 0)
  | .lstore_n i => some (6, i, 0)
  | .astore i => some (7, i, 0)
  | .astore_n i => some (7, i, 0)
  | .iinc i n => some (8, i, n)
  | .iadd => some (10, 0, 0)
  | .isub => some (11, 0, 0)
  | .imul => some (12, 0, 0)
  | .idiv => some (13, 0, 0)
  | .irem => some (14, 0, 0)
  | .ineg => some (15, 0, 0)
  | .iand => some (16, 0, 0)
  | .ior => some (17, 0, 0)
  | .ixor => some (18, 0, 0)
  | .ishl => some (19, 0, 0)
  | .ishr => some (20, 0, 0)
  | .iushr => some (21, 0, 0)
  | .ladd => some (22, 0, 0)
  | .lsub => some (23, 0, 0)
  | .lmul => some (24, 0, 0)
  | .ldiv => some (25, 0, 0)
  | .lrem => some (26, 0, 0)
  | .land => some (27, 0, 0)
  | .lor => some (28, 0, 0)
  | .lxor => some (29, 0, 0)
  | .lshl => some (30, 0, 0)
  | .lshr => some (31, 0, 0)
  | .lushr => some (32, 0, 0)
  | .lcmp => some (33, 0, 0)
  | .i2l => some (34, 0, 0)
  | .l2i => some (35, 0, 0)
  | .i2b => some (36, 0, 0)
  | .i2c => some (37, 0, 0)
  | .getfield ix => jx_fld own ix false ini
  | .putfield ix => jx_fld own ix true ini
  | .iaload => some (50, 0, 0)
  | .laload => some (51, 0, 0)
  | .baload => some (52, 0, 0)
  | .aaload => some (54, 0, 0)
  | .iastore => some (55, 0, 0)
  | .lastore => some (56, 0, 0)
  | .bastore => some (57, 0, 0)
  | .aastore => some (59, 0, 0)
  | .arraylength => some (60, 0, 0)
  | .new ix => match jt_nw own ix with
    | some ci => some (61, ci, 0)
    | none => none
  | .newarray t => match t with
    | .int => some (62, 100, 0)
    | .long => some (62, 101, 0)
    | .byte => some (62, 102, 0)
    | .boolean => some (62, 103, 0)
    | _ => none
  | .anewarray ix => match jt_nw own ix with
    | some 3 => some (63, 0, 0)
    | _ => none
  | .dup => some (70, 0, 0)
  | .pop => some (71, 0, 0)
  | .dup2 => some (72, 0, 0)
  | .dup_x1 => some (73, 0, 0)
  | _ => none
def jx_len (i : Instr) : Nat := match i with
  | .bipush _ => 2
  | .sipush _ => 3
  | .ldc _ => 2
  | .ldc_w _ => 3
  | .ldc2_w _ => 3
  | .iload _ => 2
  | .lload _ => 2
  | .aload _ => 2
  | .istore _ => 2
  | .lstore _ => 2
  | .astore _ => 2
  | .iinc _ _ => 3
  | .getfield _ => 3
  | .putfield _ => 3
  | .new _ => 3
  | .newarray _ => 2
  | .anewarray _ => 3
  | _ => 1
end
section
/-! ===== the small machine and the real one: what a state of the one says of the other ===== -/
def jt_A (G : JG) : Nat → Prop := fun q => jg_sz G ≤ q
/-- a constant's cell: 50 a Word (its ordinal, letters, whether it is reserved), 200 a row of ints, 201 a row of Words, 99 nothing is known -/
def jsc (G : JG) (σ : JH) (U : State) (i t n : Nat) : Prop :=
  (t = 50 ∨ t = 99 ∨ t = 200 ∨ t = 201) ∧
  (t = 50 → va_O "CellarTurns$Word" (jg_sa G i) (jt_A G) U (jg_H G) ∧ va_OF "java/lang/Enum" "ordinal" "I" (.int (σ.2.1 i 0)) (jg_sa G i) (jt_A G) U (jg_H G) ∧ va_OF "CellarTurns$Word" "letters" "J" (.long (σ.2.2.1 i 1)) (jg_sa G i) (jt_A G) U (jg_H G) ∧ va_OF "CellarTurns$Word" "reserved" "Z" (.int (σ.2.1 i 2)) (jg_sa G i) (jt_A G) U (jg_H G)) ∧
  (t = 200 → va_T .int (jg_sa G i) n (fun j => .int (σ.2.1 i j)) (jt_A G) U (jg_H G)) ∧
  (t = 201 → va_T (.object "CellarTurns$Word") (jg_sa G i) n (fun j => jv G (va_rf (σ.2.2.2 i j))) (jt_A G) U (jg_H G))
def jst (G : JG) (σ : JH) (U : State) : Prop := ∀ i t n, i < 64 → σ.1[i]? = some (t, n) → jsc G σ U i t n
/-- a made cell -/
def jc (G : JG) (σ : JH) (H : Heap) (i t n : Nat) : Prop :=
  (t < 12 ∧ n = jt_N t ∧ t_OB (jr G i) ((jg_D G).1 t) n ((jg_D G).2 t) H (fun k => jv G (jf σ i k (jt_ty t k)))) ∨
  (100 ≤ t ∧ t ≤ 104 ∧ H[jr G i]? = some (arrV (jg_A G t) n (fun j => jv G (jf σ i j (jt_at t)))))
def jm (G : JG) (σ : JH) (U : State) (H : Heap) : Prop :=
  H.size + 64 = jg_sz G + jh_n σ ∧ 64 ≤ jh_n σ ∧ (∀ q : Nat, q < jg_sz G → H[q]? = (jg_H G)[q]?) ∧ (∀ i t n, 64 ≤ i → σ.1[i]? = some (t, n) → jc G σ H i t n) ∧ jst G σ U ∧ jg_sz G = (jg_H G).size
/-- the constants that a getstatic gives: class, name, descriptor, number -/
def jt_sts : List (String × String × String × Nat) := [("CellarTurns$Word", "PERSON", "LCellarTurns$Word;", 0)]
/-- what the tables say -/
def JGl (G : JG) (U : State) : Prop :=
  (∀ w ∈ lw_tbl, jt_gw w = true → w.before #[] U = true) ∧ va_K (jg_D G) jt_cls [] U ∧
  (∀ t, 100 ≤ t → t ≤ 104 → ArrOfT U (jg_A G t) (jt_at t) ∧ va_RA U (jg_A G t) (jt_at t)) ∧ va_AO "CellarTurns$Muddle" U ∧
  (∀ q ∈ jt_sts, va_Z q.1 q.2.1 q.2.2.1 (.ref (jg_sa G q.2.2.2)) (jt_A G) U (jg_H G)) ∧ (∀ i j, i < 22 → j < 22 → jg_sa G i = jg_sa G j → i = j)
def jl (G : JG) (ls : Array Slot) (nL : Nat) (L : JL) : Prop := ls.size = nL ∧ lv_wf ls ∧ L.length = nL ∧ ∀ (i : Nat) (v : Value), L[i]? = some (some v) → ls[i]? = some (.val (jv G v))
section JW
variable {G : JG} {p : Program} {e : Env} {R : Room} {s : State} {m : MethodId} {args : Array Value} {below : List Frame} {meth : Method} {c : Code} {cc : ByteArray} {n0 w0 nE wE nL own : Nat} {ini : Bool} {Q : State → Prop}
/-- from this place with this state the method comes to its end -/
def JK (G : JG) (p : Program) (e : Env) (R : Room) (s : State) (m : MethodId) (args : Array Value) (below : List Frame) (meth : Method) (c : Code) (nL n0 w0 nE wE : Nat) (Q : State → Prop) (pc : Nat) (S : JS) : Prop :=
  jh_n S.2.2 ≤ nE ∧ jh_w S.2.2 ≤ wE ∧ ∀ (H : Heap) (locs : List Loc) (ls : Array Slot), n0 ≤ jh_n S.2.2 → w0 ≤ jh_w S.2.2 → jm G S.2.2 s H → (∀ q ∈ locs, jg_sz G ≤ q.base) → jl G ls nL S.1 →
    W p (jg_l G) e R s m args below meth c H locs (jh_n S.2.2 - n0) (jh_w S.2.2 - w0) Q (F0 m pc ls (S.2.1.map (jv G)))
/-- what stays the same along a method -/
def JX (G : JG) (p : Program) (R : Room) (s : State) (m : MethodId) (meth : Method) (c : Code) (cc : ByteArray) (nL n0 w0 nE wE own : Nat) (ini : Bool) : Prop :=
  p.tables.exec = Jvm.exec ∧ c.code = cc ∧ c.maxLocals = nL ∧ s.vm.findClass (jt_own.getD own "") = some m.cls ∧ JGl G s ∧ R.cells = nE - n0 ∧ R.slots = wE - w0 ∧ (ini = true → meth.name = "<init>")
theorem jx_word {w : Cond} (h : JGl G s) (hw : w ∈ lw_tbl) (hg : jt_gw w = true) (ht : w.onTables = true) : w.before args s = true := va_Nw.use ht (h.1 w hw hg)
theorem jk_st {pc pc' : Nat} {L : JL} {st st' : List Value} {σ : JH}
    (h : ∀ (H : Heap) (locs : List Loc) (ls : Array Slot) (cells slots : Nat), jl G ls nL L → jm G σ s H → W p (jg_l G) e R s m args below meth c H locs cells slots Q (F0 m pc' ls (st'.map (jv G))) → W p (jg_l G) e R s m args below meth c H locs cells slots Q (F0 m pc ls (st.map (jv G))))
    (k : JK G p e R s m args below meth c nL n0 w0 nE wE Q pc' (L, st', σ)) : JK G p e R s m args below meth c nL n0 w0 nE wE Q pc (L, st, σ) :=
  ⟨k.1, k.2.1, fun H locs ls h1 h2 h3 h4 h5 => h H locs ls _ _ h5 h3 (k.2.2 H locs ls h1 h2 h3 h4 h5)⟩
theorem jk_lo {pc pc' : Nat} {L L' : JL} {st st' : List Value} {σ : JH}
    (h : ∀ (H : Heap) (locs : List Loc) (ls : Array Slot) (cells slots : Nat), jl G ls nL L → (∀ ls', jl G ls' nL L' → W p (jg_l G) e R s m args below meth c H locs cells slots Q (F0 m pc' ls' (st'.map (jv G)))) → W p (jg_l G) e R s m args below meth c H locs cells slots Q (F0 m pc ls (st.map (jv G))))
    (k : JK G p e R s m args below meth c nL n0 w0 nE wE Q pc' (L', st', σ)) : JK G p e R s m args below meth c nL n0 w0 nE wE Q pc (L, st, σ) :=
  ⟨k.1, k.2.1, fun H locs ls h1 h2 h3 h4 h5 => h H locs ls _ _ h5 (fun ls' h => k.2.2 H locs ls' h1 h2 h3 h4 h)⟩
/-- a write: the shapes stay -/
theorem jk_wr {pc pc' : Nat} {L : JL} {st st' : List Value} {σ σ' : JH} (hs : σ'.1 = σ.1)
    (h : ∀ (H : Heap) (locs : List Loc) (ls : Array Slot) (cells slots : Nat), jm G σ s H → (∀ q ∈ locs, jg_sz G ≤ q.base) → (∀ (H' : Heap) (locs' : List Loc), jm G σ' s H' → (∀ q ∈ locs', jg_sz G ≤ q.base) → W p (jg_l G) e R s m args below meth c H' locs' cells slots Q (F0 m pc' ls (st'.map (jv G)))) → W p (jg_l G) e R s m args below meth c H locs cells slots Q (F0 m pc ls (st.map (jv G))))
    (k : JK G p e R s m args below meth c nL n0 w0 nE wE Q pc' (L, st', σ')) : JK G p e R s m args below meth c nL n0 w0 nE wE Q pc (L, st, σ) := by
  have hn : jh_n σ' = jh_n σ := by unfold jh_n; rw [hs]
  have hw : jh_w σ' = jh_w σ := by unfold jh_w; rw [hs]
  obtain ⟨k1, k2, k3⟩ := k
  refine ⟨hn ▸ k1, hw ▸ k2, fun H locs ls h1 h2 h3 h4 h5 => h H locs ls _ _ h3 h4 fun H' locs' g1 g2 => ?_⟩
  have := k3 H' locs' ls (by rw [hn]; exact h1) (by rw [hw]; exact h2) g1 g2 h5
  rwa [hn, hw] at this
/-- locals -/
theorem jl_at {ls : Array Slot} {L : JL} {i : Nat} {v : Value} (h : jl G ls nL L) (hi : L[i]? = some (some v)) : ls[i]? = some (.val (jv G v)) := h.2.2.2 i v hi
def jl_prs (G : JG) (L : JL) : List (Nat × Value) := (List.range L.length).filterMap (fun i => match L[i]? with
  | some (some v) => some (i, jv G v)
  | _ => none)
theorem jl_mem {L : JL} {q : Nat × Value} : q ∈ jl_prs G L ↔ ∃ v, L[q.1]? = some (some v) ∧ q.2 = jv G v := by
  unfold jl_prs
  rw [List.mem_filterMap]
  constructor
  · rintro ⟨i, hi, h⟩
    revert h
    split
    · rename_i v hv
      rintro ⟨⟩
      exact ⟨v, hv, rfl⟩
    · intro h; cases h
  · rintro ⟨v, h1, h2⟩
    refine ⟨q.1, List.mem_range.mpr (List.getElem?_eq_some_iff.mp h1).1, ?_⟩
    rw [h1]
    show some (q.1, jv G v) = some q
    rw [← h2]
theorem jl_has {ls : Array Slot} {L : JL} (h : jl G ls nL L) : lv_has ls nL (jl_prs G L) := ⟨h.1, h.2.1, fun q hq => by
  obtain ⟨v, h1, h2⟩ := jl_mem.mp hq
  rw [h2]
  exact h.2.2.2 _ _ h1⟩
theorem jv_cat (v : Value) : (jv G v).category = v.category := by cases v <;> rfl
theorem jl_clr_len (L : JL) (i : Nat) : (jl_clr L i).length = L.length := by
  unfold jl_clr
  split
  · rfl
  · split
    · split
      · exact List.length_set
      · rfl
    · rfl
theorem jl_clr_at {L : JL} {i j : Nat} {v : Value} (h : (jl_clr L i)[j]? = some (some v)) : L[j]? = some (some v) ∧ ¬ (j + 1 = i ∧ v.category = 2) := by
  unfold jl_clr at h
  cases i with
  | zero => exact ⟨h, fun q => by omega⟩
  | succ k =>
    simp only at h
    split at h
    · rename_i w hw
      split at h
      · rename_i hc
        by_cases hk : k = j
        · subst hk
          rw [List.getElem?_set_self' , hw] at h
          cases h
        · rw [List.getElem?_set_ne hk] at h
          exact ⟨h, fun q => hk (by omega)⟩
      · rename_i hc
        refine ⟨h, fun q => ?_⟩
        obtain ⟨q1, q2⟩ := q
        have : j = k := by omega
        subst this
        rw [hw] at h
        cases h
        exact hc q2
    · rename_i hn
      refine ⟨h, fun q => ?_⟩
      have : j = k := by omega
      subst this
      exact hn v h
theorem jl_set_ok {ls' : Array Slot} {L : JL} {i : Nat} {v : Value} (hlen : L.length = nL) (h : lv_has ls' nL ((i, jv G v) :: (jl_prs G L).filter (fun q => !(q.1 == i) && !(q.1 + 1 == i && q.2.category == 2)))) : jl G ls' nL (jl_set L i v) := by
  refine ⟨h.1, h.2.1, by unfold jl_set; rw [List.length_set, jl_clr_len]; exact hlen, fun j w hj => ?_⟩
  unfold jl_set at hj
  by_cases hij : i = j
  · subst hij
    rw [List.getElem?_set_self'] at hj
    cases hq : (jl_clr L i)[i]? with
    | none => rw [hq] at hj; cases hj
    | some z =>
      rw [hq] at hj
      cases hj
      exact h.2.2 (i, jv G v) List.mem_cons_self
  · rw [List.getElem?_set_ne hij] at hj
    obtain ⟨h1, h2⟩ := jl_clr_at hj
    refine h.2.2 (j, jv G w) (List.mem_cons_of_mem _ (List.mem_filter.mpr ⟨jl_mem.mpr ⟨w, h1, rfl⟩, ?_⟩))
    simp only [jv_cat, Bool.and_eq_true, Bool.not_eq_true', beq_eq_false_iff_ne, Bool.and_eq_false_iff, ne_eq]
    refine ⟨fun q => hij q.symm, ?_⟩
    by_cases q : j + 1 = i
    · exact Or.inr fun z => h2 ⟨q, z⟩
    · exact Or.inl q
theorem jl_set2_ok {ls' : Array Slot} {L : JL} {i : Nat} {v : Value} (hlen : L.length = nL) (h : lv_has ls' nL ((i, jv G v) :: (jl_prs G L).filter (fun q => !(q.1 == i) && (!(q.1 == i + 1) && !(q.1 + 1 == i && q.2.category == 2))))) : jl G ls' nL (jl_set2 L i v) := by
  refine ⟨h.1, h.2.1, by unfold jl_set2; rw [List.length_set, List.length_set, jl_clr_len]; exact hlen, fun j w hj => ?_⟩
  unfold jl_set2 at hj
  by_cases hij1 : i + 1 = j
  · subst hij1
    rw [List.getElem?_set_self'] at hj
    revert hj
    cases hz : ((jl_clr L i).set i (some v))[i + 1]? <;> intro hj <;> cases hj
  · rw [List.getElem?_set_ne hij1] at hj
    by_cases hij : i = j
    · subst hij
      rw [List.getElem?_set_self'] at hj
      cases hq : (jl_clr L i)[i]? with
      | none => rw [hq] at hj; cases hj
      | some z =>
        rw [hq] at hj
        cases hj
        exact h.2.2 (i, jv G v) List.mem_cons_self
    · rw [List.getElem?_set_ne hij] at hj
      obtain ⟨h1, h2⟩ := jl_clr_at hj
      refine h.2.2 (j, jv G w) (List.mem_cons_of_mem _ (List.mem_filter.mpr ⟨jl_mem.mpr ⟨w, h1, rfl⟩, ?_⟩))
      simp only [jv_cat, Bool.and_eq_true, Bool.not_eq_true', beq_eq_false_iff_ne, Bool.and_eq_false_iff, ne_eq]
      refine ⟨fun q => hij q.symm, fun q => hij1 q.symm, ?_⟩
      by_cases q : j + 1 = i
      · exact Or.inr fun z => h2 ⟨q, z⟩
      · exact Or.inl q
end JW
end
section
/-! ===== reads, writes and new cells ===== -/
section JW
variable {G : JG} {p : Program} {e : Env} {R : Room} {s : State} {m : MethodId} {args : Array Value} {below : List Frame} {meth : Method} {c : Code} {cc : ByteArray} {n0 w0 nE wE nL own : Nat} {ini : Bool} {Q : State → Prop} {H H' : Heap} {locs : List Loc} {cells slots : Nat} {ls : Array Slot} {rest : List Value} {pc : Nat}
theorem jm_obj {σ : JH} {a t n : Nat} (h : jm G σ s H) (ha : σ.1[a]? = some (t, n)) (ht : t < 12) : 64 ≤ a ∧ n = jt_N t ∧ t_OB (jr G a) ((jg_D G).1 t) n ((jg_D G).2 t) H (fun k => jv G (jf σ a k (jt_ty t k))) := by
  by_cases h64 : 64 ≤ a
  · rcases h.2.2.2.1 a t n h64 ha with ⟨-, h1, h2⟩ | ⟨h1, -⟩
    · exact ⟨h64, h1, h2⟩
    · omega
  · have := (h.2.2.2.2.1 a t n (by omega) ha).1
    omega
theorem jm_arr {σ : JH} {a t n : Nat} (h : jm G σ s H) (ha : σ.1[a]? = some (t, n)) (h1 : 100 ≤ t) (h2 : t ≤ 104) : 64 ≤ a ∧ H[jr G a]? = some (arrV (jg_A G t) n (fun j => jv G (jf σ a j (jt_at t)))) := by
  by_cases h64 : 64 ≤ a
  · rcases h.2.2.2.1 a t n h64 ha with ⟨h3, -⟩ | ⟨-, -, h3⟩
    · omega
    · exact ⟨h64, h3⟩
  · have := (h.2.2.2.2.1 a t n (by omega) ha).1
    omega
theorem jr_hi {a : Nat} (h : 64 ≤ a) : jr G a = jg_sz G + (a - 64) := by unfold jr; rw [if_neg (by omega)]
theorem jr_ne {a b : Nat} (ha : 64 ≤ a) (hb : 64 ≤ b) (h : a ≠ b) : jr G a ≠ jr G b := by rw [jr_hi ha, jr_hi hb]; omega
theorem jr_ge {a : Nat} (h : 64 ≤ a) : jg_sz G ≤ jr G a := by rw [jr_hi h]; omega
theorem jc_same {σ σ' : JH} {i t n : Nat} (h : jc G σ H i t n) (hq : H'[jr G i]? = H[jr G i]?) (hf : ∀ j ty, jf σ' i j ty = jf σ i j ty) : jc G σ' H' i t n := by
  rcases h with ⟨h1, h2, h3⟩ | ⟨h1, h2, h3⟩
  · exact Or.inl ⟨h1, h2, (h3.kept hq).to (fun k _ => by rw [hf])⟩
  · refine Or.inr ⟨h1, h2, ?_⟩
    rw [hq, h3]
    simp only [hf]
theorem jst_same {σ σ' : JH} (h : jst G σ s) (hs : ∀ i, i < 64 → σ'.1[i]? = σ.1[i]?) (hI : ∀ b j, b < 64 → σ'.2.1 b j = σ.2.1 b j) (hJ : ∀ b j, b < 64 → σ'.2.2.1 b j = σ.2.2.1 b j) (hR : ∀ b j, b < 64 → σ'.2.2.2 b j = σ.2.2.2 b j) : jst G σ' s := by
  intro i t n hi hx
  rw [hs i hi] at hx
  have h1 := h i t n hi hx
  unfold jsc at h1 ⊢
  simp only [hI _ _ hi, hJ _ _ hi, hR _ _ hi]
  exact h1
theorem jm_put {σ σ' : JH} {a t n k : Nat} {v : Value} {cell : Cell} (h : jm G σ s H) (hs : σ'.1 = σ.1) (ha : σ.1[a]? = some (t, n)) (ht : t < 12)
    (hcell : H[jr G a]? = some cell) (h' : H'[jr G a]? = some (cell.setSlot ((jg_D G).2 t k) v)) (hz : H'.size = H.size) (ho : ∀ q : Nat, q ≠ jr G a → H'[q]? = H[q]?)
    (hap : ∀ x y, x < jt_N t → y < jt_N t → x ≠ y → (jg_D G).2 t x ≠ (jg_D G).2 t y) (hk : k < jt_N t)
    (hI : ∀ b j, ¬ (b = a ∧ j = k) → σ'.2.1 b j = σ.2.1 b j) (hJ : ∀ b j, ¬ (b = a ∧ j = k) → σ'.2.2.1 b j = σ.2.2.1 b j) (hR : ∀ b j, ¬ (b = a ∧ j = k) → σ'.2.2.2 b j = σ.2.2.2 b j)
    (hv : jv G (jf σ' a k (jt_ty t k)) = v) : jm G σ' s H' := by
  have hn : jh_n σ' = jh_n σ := by unfold jh_n; rw [hs]
  obtain ⟨h64, hN, hob⟩ := jm_obj h ha ht
  have hfe : ∀ b j ty, ¬ (b = a ∧ j = k) → jf σ' b j ty = jf σ b j ty := by
    intro b j ty hb
    unfold jf
    rw [hI b j hb, hJ b j hb, hR b j hb]
  refine ⟨by rw [hz, hn]; exact h.1, by rw [hn]; exact h.2.1, fun q hq => ?_, fun i t' n' hi hx => ?_, ?_, h.2.2.2.2.2⟩
  · rw [ho q (by have := jr_ge (G := G) h64; omega)]
    exact h.2.2.1 q hq
  · rw [hs] at hx
    by_cases hia : i = a
    · subst hia
      rw [ha] at hx
      cases hx
      refine Or.inl ⟨ht, hN, ?_⟩
      obtain ⟨c0, q1, q2, q3, q4⟩ := hob
      cases hcell.symm.trans q1
      refine ⟨_, h', q2, q3, fun j hj => ?_⟩
      have h5 := t_set q4 (fun x y hx hy => hap x y (hN ▸ hx) (hN ▸ hy)) (hN ▸ hk) v j hj
      rw [h5]
      unfold updV
      show some (if j = k then v else jv G (jf σ i j (jt_ty t j))) = some (jv G (jf σ' i j (jt_ty t j)))
      by_cases hjk : j = k
      · subst hjk
        rw [if_pos rfl, hv]
      · rw [if_neg hjk, hfe _ _ _ (fun q => hjk q.2)]
    · exact jc_same (h.2.2.2.1 i t' n' hi hx) (ho _ (jr_ne hi h64 hia)) (fun j ty => hfe i j ty (fun q => hia q.1))
  · exact jst_same h.2.2.2.2.1 (fun i _ => by rw [hs]) (fun b j hb => hI b j (fun q => by omega)) (fun b j hb => hJ b j (fun q => by omega)) (fun b j hb => hR b j (fun q => by omega))
theorem jm_ast {σ σ' : JH} {a t n k : Nat} {v : Value} (h : jm G σ s H) (hs : σ'.1 = σ.1) (ha : σ.1[a]? = some (t, n)) (h1 : 100 ≤ t) (h2 : t ≤ 104)
    (h' : H'[jr G a]? = some ((arrV (jg_A G t) n (fun j => jv G (jf σ a j (jt_at t)))).setSlot k v)) (hz : H'.size = H.size) (ho : ∀ q : Nat, q ≠ jr G a → H'[q]? = H[q]?)
    (hI : ∀ b j, ¬ (b = a ∧ j = k) → σ'.2.1 b j = σ.2.1 b j) (hJ : ∀ b j, ¬ (b = a ∧ j = k) → σ'.2.2.1 b j = σ.2.2.1 b j) (hR : ∀ b j, ¬ (b = a ∧ j = k) → σ'.2.2.2 b j = σ.2.2.2 b j)
    (hv : jv G (jf σ' a k (jt_at t)) = v) : jm G σ' s H' := by
  have hn : jh_n σ' = jh_n σ := by unfold jh_n; rw [hs]
  obtain ⟨h64, hob⟩ := jm_arr h ha h1 h2
  have hfe : ∀ b j ty, ¬ (b = a ∧ j = k) → jf σ' b j ty = jf σ b j ty := by
    intro b j ty hb
    unfold jf
    rw [hI b j hb, hJ b j hb, hR b j hb]
  refine ⟨by rw [hz, hn]; exact h.1, by rw [hn]; exact h.2.1, fun q hq => ?_, fun i t' n' hi hx => ?_, ?_, h.2.2.2.2.2⟩
  · rw [ho q (by have := jr_ge (G := G) h64; omega)]
    exact h.2.2.1 q hq
  · rw [hs] at hx
    by_cases hia : i = a
    · subst hia
      rw [ha] at hx
      cases hx
      refine Or.inr ⟨h1, h2, ?_⟩
      rw [h', arrV_store]
      congr 2
      funext j
      unfold updV
      by_cases hjk : j = k
      · subst hjk
        rw [if_pos rfl, hv]
      · rw [if_neg hjk, hfe _ _ _ (fun q => hjk q.2)]
    · exact jc_same (h.2.2.2.1 i t' n' hi hx) (ho _ (jr_ne hi h64 hia)) (fun j ty => hfe i j ty (fun q => hia q.1))
  · exact jst_same h.2.2.2.2.1 (fun i _ => by rw [hs]) (fun b j hb => hI b j (fun q => by omega)) (fun b j hb => hJ b j (fun q => by omega)) (fun b j hb => hR b j (fun q => by omega))
theorem jf_new_old {σ : JH} {t n i j : Nat} {ty : FieldType} (h : i ≠ jh_n σ) : jf (jh_new σ t n) i j ty = jf σ i j ty := by
  have h' : ¬ i = σ.1.length := h
  unfold jf jh_new
  simp only [if_neg h']
theorem jm_new {σ : JH} {t n : Nat} (h : jm G σ s H) (hz : H'.size = H.size + 1) (ho : ∀ q : Nat, q < H.size → H'[q]? = H[q]?)
    (hc : jc G (jh_new σ t n) H' (jh_n σ) t n) : jm G (jh_new σ t n) s H' := by
  have hn : jh_n (jh_new σ t n) = jh_n σ + 1 := by unfold jh_n jh_new; simp
  have hsz := h.1
  refine ⟨by rw [hz, hn]; omega, by rw [hn]; have := h.2.1; omega, fun q hq => ?_, fun i t' n' hi hx => ?_, ?_, h.2.2.2.2.2⟩
  · rw [ho q (by have := h.2.1; omega)]
    exact h.2.2.1 q hq
  · have hx2 : (σ.1 ++ [(t, n)])[i]? = some (t', n') := hx
    by_cases hl : i < σ.1.length
    · rw [List.getElem?_append_left hl] at hx2
      exact jc_same (h.2.2.2.1 i t' n' hi hx2) (ho _ (by rw [jr_hi hi]; have : jh_n σ = σ.1.length := rfl; omega)) (fun j ty => jf_new_old (Nat.ne_of_lt hl))
    · rw [List.getElem?_append_right (by omega)] at hx2
      have h9 : i - σ.1.length < 1 := (List.getElem?_eq_some_iff.mp hx2).1
      have hi' : i = jh_n σ := by unfold jh_n; omega
      rw [show i - σ.1.length = 0 by omega] at hx2
      cases hx2
      rw [hi']
      exact hc
  · have hl : 64 ≤ σ.1.length := h.2.1
    refine jst_same h.2.2.2.2.1 (fun i hi => ?_) (fun b j hb => ?_) (fun b j hb => ?_) (fun b j hb => ?_)
    · show (σ.1 ++ [(t, n)])[i]? = _
      rw [List.getElem?_append_left (by omega)]
    · show (if b = σ.1.length then _ else _) = _
      rw [if_neg (by omega)]
    · show (if b = σ.1.length then _ else _) = _
      rw [if_neg (by omega)]
    · show (if b = σ.1.length then _ else _) = _
      rw [if_neg (by omega)]
theorem jr_new {σ : JH} (h : jm G σ s H) : jr G (jh_n σ) = H.size := by
  rw [jr_hi h.2.1]
  have := h.1
  have := h.2.1
  omega
theorem jt_own_at : ∀ ci, ci < 12 → jt_own.getD ci "" = jt_C ci := by decide +kernel
theorem jx_lays (hG : JGl G s) {ci : Nat} (h : ci < 12) : ∀ w ∈ u_ws (jt_C ci) (jt_T ci) (jt_N ci), w.before args s = true := by
  intro w hw
  have hm := jt_lay_in h w hw
  obtain ⟨k, hk, rfl⟩ := List.mem_map.mp hw
  unfold u_lay at hm ⊢
  split
  · rename_i hc
    rw [if_pos hc] at hm
    exact jx_word hG hm rfl rfl
  · rename_i hc
    rw [if_neg hc] at hm
    exact jx_word hG hm rfl rfl
theorem jx_apart (hG : JGl G s) {ci : Nat} (h : ci < 12) : ∀ x y, x < jt_N ci → y < jt_N ci → x ≠ y → (jg_D G).2 ci x ≠ (jg_D G).2 ci y :=
  va_apart (args := #[]) (own := "") (jx_lays hG h) (fun _ h => h) (jt_ty ci) (jt_ty_ok ci h) (jt_nm_ok ci h) hG.2.1 (jt_cls_at h)
theorem jw_get {σ : JH} {ix ci k a n : Nat} {nest : Bool} (X : JX G p R s m meth c cc nL n0 w0 nE wE own ini) (hf : jt_fl own ix = some (ci, k, nest)) (hM : jm G σ s H) (ha : σ.1[a]? = some (ci, n)) (hd : decode cc pc = .ok (.getfield ix, 3))
    (kk : W p (jg_l G) e R s m args below meth c H locs cells slots Q (F0 m (pc + 3) ls (jv G (jf σ a k (jt_ty ci k)) :: rest))) : W p (jg_l G) e R s m args below meth c H locs cells slots Q (F0 m pc ls (.ref (jr G a) :: rest)) := by
  obtain ⟨hx, hb, hml, hown, hG, -⟩ := X
  obtain ⟨hw, hci, hk⟩ := jt_fl_at hf
  obtain ⟨-, hN, cell, q1, q2, q3, q4⟩ := jm_obj hM ha hci
  obtain ⟨hS, hfc, kC, hkC, hkind⟩ := hG.2.1.1 ci _ (jt_cls_at hci)
  obtain ⟨cf, kf, fi, f, hi, hsl⟩ := hS k hk
  have hst := (u_facts hfc hkC (u_lays (args := #[]) (jx_lays hG hci) (fun _ h => h) hk) hi).1
  have hv : cell.slots[f.slot]? = some (jv G (jf σ a k (jt_ty ci k))) := by rw [hsl]; exact q4 k (hN ▸ hk)
  cases nest with
  | false => exact W.getf hx hb hown (ref := jt_C ci) (jx_word hG (by exact hw) rfl rfl) hi hst q1 (by rw [q3]; exact fun h => by cases h) hv rfl rfl hd kk
  | true => exact va_Wgetf hx hb hown (ref := jt_C ci) (host := "CellarTurns") (jx_word hG (by exact hw) rfl rfl) hi hst q1 (by rw [q3]; exact fun h => by cases h) hv rfl rfl hd kk
theorem jw_put {σ σ' : JH} {ix ci k a n : Nat} {nest : Bool} {v : Value} (X : JX G p R s m meth c cc nL n0 w0 nE wE own ini) (hf : jt_fl own ix = some (ci, k, nest)) (hM : jm G σ s H) (ha : σ.1[a]? = some (ci, n)) (hd : decode cc pc = .ok (.putfield ix, 3))
    (hfin : (jt_f ci k).2.2.1 = false ∨ ((jt_f ci k).2.2.1 = true ∧ nest = false ∧ ci = own ∧ meth.name = "<init>")) (hn : narrow (jt_ty ci k) (jv G v) = jv G v) (hfit : fits (jt_ty ci k) (jv G v) = true) (hs : σ'.1 = σ.1)
    (hI : ∀ b j, ¬ (b = a ∧ j = k) → σ'.2.1 b j = σ.2.1 b j) (hJ : ∀ b j, ¬ (b = a ∧ j = k) → σ'.2.2.1 b j = σ.2.2.1 b j) (hR : ∀ b j, ¬ (b = a ∧ j = k) → σ'.2.2.2 b j = σ.2.2.2 b j)
    (hv : jf σ' a k (jt_ty ci k) = v) (hlocs : ∀ q ∈ locs, jg_sz G ≤ q.base)
    (kk : ∀ (H' : Heap) (locs' : List Loc), jm G σ' s H' → (∀ q ∈ locs', jg_sz G ≤ q.base) → W p (jg_l G) e R s m args below meth c H' locs' cells slots Q (F0 m (pc + 3) ls rest)) : W p (jg_l G) e R s m args below meth c H locs cells slots Q (F0 m pc ls (jv G v :: .ref (jr G a) :: rest)) := by
  obtain ⟨hx, hb, hml, hown, hG, -⟩ := X
  obtain ⟨hw, hci, hk⟩ := jt_fl_at hf
  obtain ⟨h64, hN, hob⟩ := jm_obj hM ha hci
  obtain ⟨cell, q1, q2, q3, q4⟩ := hob
  obtain ⟨hS, hfc, kC, hkC, hkind⟩ := hG.2.1.1 ci _ (jt_cls_at hci)
  obtain ⟨cf, kf, fi, f, hi, hsl⟩ := hS k hk
  have hlays := u_lays (args := #[]) (jx_lays hG hci) (fun _ h => h) hk
  have hst := (u_facts hfc hkC hlays hi).1
  have hlt : f.slot < cell.slots.size := by rw [hsl]; exact k2_hasslot (q4 k (hN ▸ hk))
  have fin : ∀ H1 : Heap, H1[jr G a]? = some (cell.setSlot f.slot (jv G v)) → H1.size = H.size → (∀ q : Nat, q ≠ jr G a → H1[q]? = H[q]?) → W p (jg_l G) e R s m args below meth c H1 (locs ++ [⟨jr G a, f.slot⟩]) cells slots Q (F0 m (pc + 3) ls rest) := by
    intro H1 e1 e2 e3
    refine kk H1 _ (jm_put hM hs ha hci q1 (by rw [← hsl]; exact e1) e2 e3 (jx_apart hG hci) hk hI hJ hR (by rw [hv])) (fun q hq => ?_)
    rcases List.mem_append.mp hq with h | h
    · exact hlocs q h
    · rw [List.mem_singleton.mp h]
      exact jr_ge h64
  rcases hfin with hfin | ⟨hft, hne, hco, hin⟩
  · have hlay : (Cond.lays (jt_C ci) (jt_T ci k).1 (jt_T ci k).2.1 (jt_T ci k).2.2.1).before #[] s = true := by
      have h1 := jx_lays (args := #[]) hG hci (u_lay (jt_C ci) (jt_T ci) k) (u_in_lay hk)
      unfold u_lay at h1
      rw [if_neg (by show ¬ (jt_f ci k).2.2.1 = true; rw [hfin]; decide)] at h1
      exact h1
    have h6 := u_store hfc hkC hkind hlay hi (jt_ty_ok ci hci k hk) hn hfit
    cases nest with
    | false => exact W.putK hx hb (f := f) ⟨hown, jx_word hG (by exact hw) rfl rfl, ⟨_, _, _, hi⟩, hst⟩ (by rw [q2]; exact h6) q1 q3 hlt rfl rfl hd fin
    | true => exact va_WputK hx hb (host := "CellarTurns") hown (jx_word hG (by exact hw) rfl rfl) hi hst (by rw [q2]; exact h6) q1 q3 hlt rfl rfl hd fin
  · subst hne
    have hlay : (Cond.laysFinal (jt_C ci) (jt_T ci k).1 (jt_T ci k).2.1 (jt_T ci k).2.2.1).before #[] s = true := by
      have h1 := jx_lays (args := #[]) hG hci (u_lay (jt_C ci) (jt_T ci) k) (u_in_lay hk)
      unfold u_lay at h1
      rw [if_pos (by exact hft)] at h1
      exact h1
    have hoc : jt_own.getD own "" = jt_C ci := by rw [← hco]; exact jt_own_at ci hci
    have hcf : m.cls = cf := by
      obtain ⟨_, _, c', _, _, _, -, -, hf', -, -, -, hown2, -⟩ := Cond.laysFinal_spec hlay
      have e1 : c' = cf := congrArg Prod.fst (Option.some.inj (hf'.symm.trans hi))
      rw [show (jt_T ci k).1 = jt_own.getD own "" from hoc.symm] at hown2
      rw [← e1]; exact Option.some.inj (hown.symm.trans hown2)
    have h6 := u_fits hfc hkC hkind hlays hi (jt_ty_ok ci hci k hk) hn hfit
    exact W.putFinK hx hb hown (jx_word hG (by exact hw) rfl rfl) hi hst hcf hin (by rw [q2]; exact h6) q1 q3 hlt rfl rfl hd fin
end JW
end
section
/-! ===== each step of the small machine is one of the real one ===== -/
section JW
variable {G : JG} {p : Program} {e : Env} {R : Room} {s : State} {m : MethodId} {args : Array Value} {below : List Frame} {meth : Method} {c : Code} {cc : ByteArray} {n0 w0 nE wE nL own : Nat} {ini : Bool} {Q : State → Prop} {pc : Nat} {L : JL} {st : List Value} {σ : JH}
theorem jw_ipush {i : Instr} {n : Int} {len : Nat} (hW : ∀ (H : Heap) (locs : List Loc) (ls : Array Slot) (cells slots : Nat) (rest : List Value), W p (jg_l G) e R s m args below meth c H locs cells slots Q (F0 m (pc + len) ls (.int (Int32.ofInt n) :: rest)) → W p (jg_l G) e R s m args below meth c H locs cells slots Q (F0 m pc ls rest))
    (k : JK G p e R s m args below meth c nL n0 w0 nE wE Q (pc + len) (L, .int (Int32.ofInt n) :: st, σ)) : JK G p e R s m args below meth c nL n0 w0 nE wE Q pc (L, st, σ) :=
  jk_st (fun H locs ls cells slots _ _ kk => hW H locs ls cells slots _ kk) k
theorem jw_lpush {n : Int} {len : Nat} (hW : ∀ (H : Heap) (locs : List Loc) (ls : Array Slot) (cells slots : Nat) (rest : List Value), W p (jg_l G) e R s m args below meth c H locs cells slots Q (F0 m (pc + len) ls (.long (Int64.ofInt n) :: rest)) → W p (jg_l G) e R s m args below meth c H locs cells slots Q (F0 m pc ls rest))
    (k : JK G p e R s m args below meth c nL n0 w0 nE wE Q (pc + len) (L, .long (Int64.ofInt n) :: st, σ)) : JK G p e R s m args below meth c nL n0 w0 nE wE Q pc (L, st, σ) :=
  jk_st (fun H locs ls cells slots _ _ kk => hW H locs ls cells slots _ kk) k
theorem jo_iload_i {i : Nat} {S S' : JS} (h : jo_iload i S = some S') : ∃ x, S.1[i]? = some (some (.int x)) ∧ S' = (S.1, .int x :: S.2.1, S.2.2) := by
  unfold jo_iload at h
  split at h
  · rename_i x hx; cases h; exact ⟨x, hx, rfl⟩
  · cases h
theorem jo_lload_i {i : Nat} {S S' : JS} (h : jo_lload i S = some S') : ∃ x, S.1[i]? = some (some (.long x)) ∧ S' = (S.1, .long x :: S.2.1, S.2.2) := by
  unfold jo_lload at h
  split at h
  · rename_i x hx; cases h; exact ⟨x, hx, rfl⟩
  · cases h
theorem jo_aload_i {i : Nat} {S S' : JS} (h : jo_aload i S = some S') : ∃ x, S.1[i]? = some (some (.ref x)) ∧ S' = (S.1, .ref x :: S.2.1, S.2.2) := by
  unfold jo_aload at h
  split at h
  · rename_i x hx; cases h; exact ⟨x, hx, rfl⟩
  · cases h
theorem jo_istore_i {i : Nat} {S S' : JS} (h : jo_istore i S = some S') : ∃ x st, S.2.1 = .int x :: st ∧ i < S.1.length ∧ S' = (jl_set S.1 i (.int x), st, S.2.2) := by
  unfold jo_istore at h
  split at h
  · rename_i x st hx
    split at h
    · rename_i hi; cases h; exact ⟨x, st, hx, hi, rfl⟩
    · cases h
  · cases h
theorem jo_astore_i {i : Nat} {S S' : JS} (h : jo_astore i S = some S') : ∃ x st, S.2.1 = .ref x :: st ∧ i < S.1.length ∧ S' = (jl_set S.1 i (.ref x), st, S.2.2) := by
  unfold jo_astore at h
  split at h
  · rename_i x st hx
    split at h
    · rename_i hi; cases h; exact ⟨x, st, hx, hi, rfl⟩
    · cases h
  · cases h
theorem jo_lstore_i {i : Nat} {S S' : JS} (h : jo_lstore i S = some S') : ∃ x st, S.2.1 = .long x :: st ∧ i + 1 < S.1.length ∧ S' = (jl_set2 S.1 i (.long x), st, S.2.2) := by
  unfold jo_lstore at h
  split at h
  · rename_i x st hx
    split at h
    · rename_i hi; cases h; exact ⟨x, st, hx, hi, rfl⟩
    · cases h
  · cases h
theorem jo_iinc_i {i : Nat} {n : Int} {S S' : JS} (h : jo_iinc i n S = some S') : ∃ x, S.1[i]? = some (some (.int x)) ∧ S' = (jl_set S.1 i (.int (x + Int32.ofInt n)), S.2.1, S.2.2) := by
  unfold jo_iinc at h
  split at h
  · rename_i x hx; cases h; exact ⟨x, hx, rfl⟩
  · cases h
theorem jo_ii_i {f : Int32 → Int32 → Int32} {S S' : JS} (h : jo_ii f S = some S') : ∃ x y st, S.2.1 = .int y :: .int x :: st ∧ S' = (S.1, .int (f x y) :: st, S.2.2) := by
  unfold jo_ii at h
  split at h
  · rename_i y x st hx; cases h; exact ⟨x, y, st, hx, rfl⟩
  · cases h
theorem jo_id_i {f : Int32 → Int32 → Int32} {S S' : JS} (h : jo_id f S = some S') : ∃ x y st, S.2.1 = .int y :: .int x :: st ∧ ¬ y = 0 ∧ S' = (S.1, .int (f x y) :: st, S.2.2) := by
  unfold jo_id at h
  split at h
  · rename_i y x st hx
    split at h
    · cases h
    · rename_i hy; cases h; exact ⟨x, y, st, hx, hy, rfl⟩
  · cases h
theorem jo_ll_i {f : Int64 → Int64 → Int64} {S S' : JS} (h : jo_ll f S = some S') : ∃ x y st, S.2.1 = .long y :: .long x :: st ∧ S' = (S.1, .long (f x y) :: st, S.2.2) := by
  unfold jo_ll at h
  split at h
  · rename_i y x st hx; cases h; exact ⟨x, y, st, hx, rfl⟩
  · cases h
theorem jo_lq_i {f : Int64 → Int64 → Int64} {S S' : JS} (h : jo_lq f S = some S') : ∃ x y st, S.2.1 = .long y :: .long x :: st ∧ ¬ y = 0 ∧ S' = (S.1, .long (f x y) :: st, S.2.2) := by
  unfold jo_lq at h
  split at h
  · rename_i y x st hx
    split at h
    · cases h
    · rename_i hy; cases h; exact ⟨x, y, st, hx, hy, rfl⟩
  · cases h
theorem jo_li_i {f : Int64 → Int32 → Int64} {S S' : JS} (h : jo_li f S = some S') : ∃ x y st, S.2.1 = .int y :: .long x :: st ∧ S' = (S.1, .long (f x y) :: st, S.2.2) := by
  unfold jo_li at h
  split at h
  · rename_i y x st hx; cases h; exact ⟨x, y, st, hx, rfl⟩
  · cases h
theorem jo_i_i {f : Int32 → Int32} {S S' : JS} (h : jo_i f S = some S') : ∃ x st, S.2.1 = .int x :: st ∧ S' = (S.1, .int (f x) :: st, S.2.2) := by
  unfold jo_i at h
  split at h
  · rename_i x st hx; cases h; exact ⟨x, st, hx, rfl⟩
  · cases h
theorem jo_i2l_i {S S' : JS} (h : jo_i2l S = some S') : ∃ x st, S.2.1 = .int x :: st ∧ S' = (S.1, .long x.toInt64 :: st, S.2.2) := by
  unfold jo_i2l at h
  split at h
  · rename_i x st hx; cases h; exact ⟨x, st, hx, rfl⟩
  · cases h
theorem jo_l2i_i {S S' : JS} (h : jo_l2i S = some S') : ∃ x st, S.2.1 = .long x :: st ∧ S' = (S.1, .int x.toInt32 :: st, S.2.2) := by
  unfold jo_l2i at h
  split at h
  · rename_i x st hx; cases h; exact ⟨x, st, hx, rfl⟩
  · cases h
theorem jo_lcmp_i {S S' : JS} (h : jo_lcmp S = some S') : ∃ x y st, S.2.1 = .long y :: .long x :: st ∧ S' = (S.1, .int (lg_cmp x y) :: st, S.2.2) := by
  unfold jo_lcmp at h
  split at h
  · rename_i y x st hx; cases h; exact ⟨x, y, st, hx, rfl⟩
  · cases h
theorem jo_dup_i {S S' : JS} (h : jo_dup S = some S') : ∃ v st, S.2.1 = v :: st ∧ v.category = 1 ∧ S' = (S.1, v :: v :: st, S.2.2) := by
  unfold jo_dup at h
  split at h
  · rename_i v st hx
    split at h
    · rename_i hc; cases h; exact ⟨v, st, hx, hc, rfl⟩
    · cases h
  · cases h
theorem jo_pop_i {S S' : JS} (h : jo_pop S = some S') : ∃ v st, S.2.1 = v :: st ∧ v.category = 1 ∧ S' = (S.1, st, S.2.2) := by
  unfold jo_pop at h
  split at h
  · rename_i v st hx
    split at h
    · rename_i hc; cases h; exact ⟨v, st, hx, hc, rfl⟩
    · cases h
  · cases h
theorem jo_dup2_i {S S' : JS} (h : jo_dup2 S = some S') : ∃ v w st, S.2.1 = v :: w :: st ∧ v.category = 1 ∧ w.category = 1 ∧ S' = (S.1, v :: w :: v :: w :: st, S.2.2) := by
  unfold jo_dup2 at h
  split at h
  · rename_i v w st hx
    split at h
    · rename_i hc; cases h; exact ⟨v, w, st, hx, hc.1, hc.2, rfl⟩
    · cases h
  · cases h
theorem jo_dupx1_i {S S' : JS} (h : jo_dupx1 S = some S') : ∃ v w st, S.2.1 = v :: w :: st ∧ v.category = 1 ∧ w.category = 1 ∧ S' = (S.1, v :: w :: v :: st, S.2.2) := by
  unfold jo_dupx1 at h
  split at h
  · rename_i v w st hx
    split at h
    · rename_i hc; cases h; exact ⟨v, w, st, hx, hc.1, hc.2, rfl⟩
    · cases h
  · cases h
theorem jo_getI_i {ci k : Nat} {S S' : JS} (h : jo_getI ci k S = some S') : ∃ a n st, S.2.1 = .ref a :: st ∧ S.2.2.1[a]? = some (ci, n) ∧ S' = (S.1, .int (S.2.2.2.1 a k) :: st, S.2.2) := by
  unfold jo_getI at h
  split at h
  · rename_i a st hx
    split at h
    · rename_i t n ht
      split at h
      · rename_i hc; cases h; subst hc; exact ⟨a, n, st, hx, ht, rfl⟩
      · cases h
    · cases h
  · cases h
theorem jo_getJ_i {ci k : Nat} {S S' : JS} (h : jo_getJ ci k S = some S') : ∃ a n st, S.2.1 = .ref a :: st ∧ S.2.2.1[a]? = some (ci, n) ∧ S' = (S.1, .long (S.2.2.2.2.1 a k) :: st, S.2.2) := by
  unfold jo_getJ at h
  split at h
  · rename_i a st hx
    split at h
    · rename_i t n ht
      split at h
      · rename_i hc; cases h; subst hc; exact ⟨a, n, st, hx, ht, rfl⟩
      · cases h
    · cases h
  · cases h
theorem jo_getR_i {ci k : Nat} {S S' : JS} (h : jo_getR ci k S = some S') : ∃ a n st, S.2.1 = .ref a :: st ∧ S.2.2.1[a]? = some (ci, n) ∧ S' = (S.1, va_rf (S.2.2.2.2.2 a k) :: st, S.2.2) := by
  unfold jo_getR at h
  split at h
  · rename_i a st hx
    split at h
    · rename_i t n ht
      split at h
      · rename_i hc; cases h; subst hc; exact ⟨a, n, st, hx, ht, rfl⟩
      · cases h
    · cases h
  · cases h
theorem jo_putI_i {ci k : Nat} {ty : FieldType} {S S' : JS} (h : jo_putI ci k ty S = some S') : ∃ x a n st, S.2.1 = .int x :: .ref a :: st ∧ S.2.2.1[a]? = some (ci, n) ∧ narrow ty (.int x) = .int x ∧ fits ty (.int x) = true ∧ S' = (S.1, st, jh_setI S.2.2 a k x) := by
  unfold jo_putI at h
  split at h
  · rename_i x a st hx
    split at h
    · rename_i t n ht
      split at h
      · rename_i hc; cases h; obtain ⟨hc, h1, h2⟩ := hc; subst hc; exact ⟨x, a, n, st, hx, ht, h1, h2, rfl⟩
      · cases h
    · cases h
  · cases h
theorem jo_putJ_i {ci k : Nat} {S S' : JS} (h : jo_putJ ci k S = some S') : ∃ x a n st, S.2.1 = .long x :: .ref a :: st ∧ S.2.2.1[a]? = some (ci, n) ∧ S' = (S.1, st, jh_setJ S.2.2 a k x) := by
  unfold jo_putJ at h
  split at h
  · rename_i x a st hx
    split at h
    · rename_i t n ht
      split at h
      · rename_i hc; cases h; subst hc; exact ⟨x, a, n, st, hx, ht, rfl⟩
      · cases h
    · cases h
  · cases h
theorem jo_putR_i {ci k : Nat} {S S' : JS} (h : jo_putR ci k S = some S') : ∃ x a n st, S.2.1 = .ref x :: .ref a :: st ∧ S.2.2.1[a]? = some (ci, n) ∧ S' = (S.1, st, jh_setR S.2.2 a k (some x)) := by
  unfold jo_putR at h
  split at h
  · rename_i x a st hx
    split at h
    · rename_i t n ht
      split at h
      · rename_i hc; cases h; subst hc; exact ⟨x, a, n, st, hx, ht, rfl⟩
      · cases h
    · cases h
  · cases h
theorem jo_ldI_i {ks : List Nat} {S S' : JS} (h : jo_ldI ks S = some S') : ∃ i a t n st, S.2.1 = .int i :: .ref a :: st ∧ S.2.2.1[a]? = some (t, n) ∧ t ∈ ks ∧ ¬ (i < 0 ∨ n ≤ i.toNatClampNeg) ∧ S' = (S.1, .int (S.2.2.2.1 a i.toNatClampNeg) :: st, S.2.2) := by
  unfold jo_ldI at h
  split at h
  · rename_i i a st hx
    split at h
    · rename_i t n ht
      split at h
      · rename_i hc; cases h; exact ⟨i, a, t, n, st, hx, ht, hc.1, hc.2, rfl⟩
      · cases h
    · cases h
  · cases h
theorem jo_ldJ_i {S S' : JS} (h : jo_ldJ S = some S') : ∃ i a n st, S.2.1 = .int i :: .ref a :: st ∧ S.2.2.1[a]? = some (101, n) ∧ ¬ (i < 0 ∨ n ≤ i.toNatClampNeg) ∧ S' = (S.1, .long (S.2.2.2.2.1 a i.toNatClampNeg) :: st, S.2.2) := by
  unfold jo_ldJ at h
  split at h
  · rename_i i a st hx
    split at h
    · rename_i t n ht
      split at h
      · rename_i hc; cases h; obtain ⟨h1, h2⟩ := hc; subst h1; exact ⟨i, a, n, st, hx, ht, h2, rfl⟩
      · cases h
    · cases h
  · cases h
theorem jo_ldR_i {S S' : JS} (h : jo_ldR S = some S') : ∃ i a t n st, S.2.1 = .int i :: .ref a :: st ∧ S.2.2.1[a]? = some (t, n) ∧ (t = 104 ∨ t = 201) ∧ ¬ (i < 0 ∨ n ≤ i.toNatClampNeg) ∧ S' = (S.1, va_rf (S.2.2.2.2.2 a i.toNatClampNeg) :: st, S.2.2) := by
  unfold jo_ldR at h
  split at h
  · rename_i i a st hx
    split at h
    · rename_i t n ht
      split at h
      · rename_i hc; cases h; exact ⟨i, a, t, n, st, hx, ht, hc.1, hc.2, rfl⟩
      · cases h
    · cases h
  · cases h
theorem jo_stI_i {S S' : JS} (h : jo_stI S = some S') : ∃ x i a n st, S.2.1 = .int x :: .int i :: .ref a :: st ∧ S.2.2.1[a]? = some (100, n) ∧ ¬ (i < 0 ∨ n ≤ i.toNatClampNeg) ∧ S' = (S.1, st, jh_setI S.2.2 a i.toNatClampNeg x) := by
  unfold jo_stI at h
  split at h
  · rename_i x i a st hx
    split at h
    · rename_i t n ht
      split at h
      · rename_i hc; cases h; obtain ⟨h1, h2⟩ := hc; subst h1; exact ⟨x, i, a, n, st, hx, ht, h2, rfl⟩
      · cases h
    · cases h
  · cases h
theorem jo_stB_i {S S' : JS} (h : jo_stB S = some S') : ∃ x i a t n st, S.2.1 = .int x :: .int i :: .ref a :: st ∧ S.2.2.1[a]? = some (t, n) ∧ (t = 102 ∨ t = 103) ∧ ¬ (i < 0 ∨ n ≤ i.toNatClampNeg) ∧ S' = (S.1, st, jh_setI S.2.2 a i.toNatClampNeg (vp_nar (jt_at t) x)) := by
  unfold jo_stB at h
  split at h
  · rename_i x i a st hx
    split at h
    · rename_i t n ht
      split at h
      · rename_i hc; cases h; exact ⟨x, i, a, t, n, st, hx, ht, hc.1, hc.2, rfl⟩
      · cases h
    · cases h
  · cases h
theorem jo_stJ_i {S S' : JS} (h : jo_stJ S = some S') : ∃ x i a n st, S.2.1 = .long x :: .int i :: .ref a :: st ∧ S.2.2.1[a]? = some (101, n) ∧ ¬ (i < 0 ∨ n ≤ i.toNatClampNeg) ∧ S' = (S.1, st, jh_setJ S.2.2 a i.toNatClampNeg x) := by
  unfold jo_stJ at h
  split at h
  · rename_i x i a st hx
    split at h
    · rename_i t n ht
      split at h
      · rename_i hc; cases h; obtain ⟨h1, h2⟩ := hc; subst h1; exact ⟨x, i, a, n, st, hx, ht, h2, rfl⟩
      · cases h
    · cases h
  · cases h
theorem jo_stR_i {S S' : JS} (h : jo_stR S = some S') : ∃ x i a n st, S.2.1 = .ref x :: .int i :: .ref a :: st ∧ S.2.2.1[a]? = some (104, n) ∧ ¬ (i < 0 ∨ n ≤ i.toNatClampNeg) ∧ S.2.2.1[x]? = some (3, 12) ∧ S' = (S.1, st, jh_setR S.2.2 a i.toNatClampNeg (some x)) := by
  unfold jo_stR at h
  split at h
  · rename_i x i a st hx
    split at h
    · rename_i t n ht
      split at h
      · rename_i hc; cases h; obtain ⟨h1, h2, h3⟩ := hc; subst h1; exact ⟨x, i, a, n, st, hx, ht, h2, h3, rfl⟩
      · cases h
    · cases h
  · cases h
theorem jo_len_i {S S' : JS} (h : jo_len S = some S') : ∃ a t n st, S.2.1 = .ref a :: st ∧ S.2.2.1[a]? = some (t, n) ∧ 100 ≤ t ∧ S' = (S.1, .int (Int32.ofNat n) :: st, S.2.2) := by
  unfold jo_len at h
  split at h
  · rename_i a st hx
    split at h
    · rename_i t n ht
      split at h
      · rename_i hc; cases h; exact ⟨a, t, n, st, hx, ht, hc, rfl⟩
      · cases h
    · cases h
  · cases h
theorem jo_newa_i {t : Nat} {S S' : JS} (h : jo_newa t S = some S') : ∃ n st, S.2.1 = .int n :: st ∧ ¬ n < 0 ∧ n.toNatClampNeg ≤ 5000 ∧ S' = (S.1, .ref S.2.2.1.length :: st, jh_new S.2.2 t n.toNatClampNeg) := by
  unfold jo_newa at h
  split at h
  · rename_i n st hx
    split at h
    · cases h
    · rename_i hc; cases h; exact ⟨n, st, hx, fun q => hc (Or.inl q), Nat.not_lt.mp fun q => hc (Or.inr q), rfl⟩
  · cases h
end JW
end
section
/-! ===== an instruction of the real machine, by its step ===== -/
theorem jx_fld_get {own ix : Nat} {ini : Bool} {o : JO} (h : jx_fld own ix false ini = some o) : ∃ ci k nest, jt_fl own ix = some (ci, k, nest) ∧ ((o = (40, ci, (k : Int)) ∧ jt_k (jt_ty ci k) = 0) ∨ (o = (41, ci, (k : Int)) ∧ jt_k (jt_ty ci k) = 1) ∨ (o = (42, ci, (k : Int)) ∧ jt_k (jt_ty ci k) = 2)) := by
  unfold jx_fld at h
  cases hf : jt_fl own ix with
  | none => rw [hf] at h; cases h
  | some q =>
    obtain ⟨ci, k, nest⟩ := q
    rw [hf] at h
    refine ⟨ci, k, nest, rfl, ?_⟩
    simp only at h
    cases hty : jt_ty ci k <;> rw [hty] at h <;> simp only [Option.some.injEq, reduceCtorEq] at h <;> subst h
    all_goals first | exact Or.inl ⟨rfl, rfl⟩ | exact Or.inr (Or.inl ⟨rfl, rfl⟩) | exact Or.inr (Or.inr ⟨rfl, rfl⟩)
theorem jx_fld_put {own ix : Nat} {ini : Bool} {o : JO} (h : jx_fld own ix true ini = some o) : ∃ ci k nest, jt_fl own ix = some (ci, k, nest) ∧
    ((o = (43, ci, (k : Int)) ∧ jt_ty ci k = .int ∧ (jt_f ci k).2.2.1 = false) ∨ (o = (44, ci, (k : Int)) ∧ jt_ty ci k = .long ∧ (jt_f ci k).2.2.1 = false) ∨ (o = (45, ci, (k : Int)) ∧ (∃ C, jt_ty ci k = .object C) ∧ (jt_f ci k).2.2.1 = false) ∨
      (o = (46, ci, (k : Int)) ∧ jt_ty ci k = .boolean ∧ (jt_f ci k).2.2.1 = false) ∨ (o = (47, ci, (k : Int)) ∧ jt_ty ci k = .char ∧ (jt_f ci k).2.2.1 = false) ∨
      (o = (48, ci, (k : Int)) ∧ ((∃ C, jt_ty ci k = .object C) ∨ ∃ C, jt_ty ci k = .array C) ∧ (jt_f ci k).2.2.1 = true ∧ ini = true ∧ nest = false ∧ ci = own)) := by
  unfold jx_fld at h
  cases hf : jt_fl own ix with
  | none => rw [hf] at h; cases h
  | some q =>
    obtain ⟨ci, k, nest⟩ := q
    rw [hf] at h
    refine ⟨ci, k, nest, rfl, ?_⟩
    simp only at h
    cases hfin : (jt_f ci k).2.2.1 <;> rw [hfin] at h <;> cases hty : jt_ty ci k <;> rw [hty] at h <;> simp only [Option.some.injEq, reduceCtorEq, Option.ite_none_right_eq_some] at h
    all_goals first | (subst h; simp) | (obtain ⟨⟨h1, h2, h3⟩, h⟩ := h; subst h; simp [h1, h2, h3])
section JW
variable {G : JG} {p : Program} {e : Env} {R : Room} {s : State} {m : MethodId} {args : Array Value} {below : List Frame} {meth : Method} {c : Code} {cc : ByteArray} {n0 w0 nE wE nL own : Nat} {ini : Bool} {Q : State → Prop} {pc : Nat} {σ : JH} {H : Heap} {locs : List Loc} {cells slots : Nat} {ls : Array Slot} {rest : List Value}
theorem jf_0 {σ : JH} {a k : Nat} {t : FieldType} (h : jt_k t = 0) : jf σ a k t = .int (σ.2.1 a k) := by unfold jf; rw [h]; rfl
theorem jf_1 {σ : JH} {a k : Nat} {t : FieldType} (h : jt_k t = 1) : jf σ a k t = .long (σ.2.2.1 a k) := by unfold jf; rw [h]; rfl
theorem jf_2 {σ : JH} {a k : Nat} {t : FieldType} (h : jt_k t = 2) : jf σ a k t = va_rf (σ.2.2.2 a k) := by unfold jf; rw [h]; rfl
theorem ju_at {α : Type} (f : Nat → Nat → α) (a k : Nat) (v : α) : ju f a k v a k = v := by unfold ju; rw [if_pos ⟨rfl, rfl⟩]
theorem ju_ne {α : Type} (f : Nat → Nat → α) {a k b j : Nat} (v : α) (h : ¬ (b = a ∧ j = k)) : ju f a k v b j = f b j := by unfold ju; rw [if_neg h]
theorem jm_old {a : Nat} (hM : jm G σ s H) (h : ¬ jt_A G a) : H[a]? = (jg_H G)[a]? := hM.2.2.1 a (Nat.not_le.mp h)
/-- a row of ints, made or a constant one -/
theorem jw_rowT {a t n : Nat} (hG : JGl G s) (hM : jm G σ s H) (ha : σ.1[a]? = some (t, n)) (ht : t = 200) : ∃ cell : Cell, H[jr G a]? = some cell ∧ s.isArrayOf cell .int ∧ cell.vm ≠ .unknown ∧ n ≤ cell.slots.size ∧ cell.slots.size.toInt32 = Int32.ofNat n ∧ ∀ j : Nat, j < n → cell.slots[j]? = some (.int (σ.2.1 a j)) := by
  subst ht
  have h64 : a < 64 := by
    by_cases h : 64 ≤ a
    · rcases hM.2.2.2.1 a _ n h ha with ⟨h3, -⟩ | ⟨-, h3, -⟩ <;> omega
    · omega
  obtain ⟨cell, g1, g2, g3, g4, g5, g6, g7⟩ := (hM.2.2.2.2.1 a _ n h64 ha).2.2.1 rfl
  refine ⟨cell, ?_, g2, g3, g4, g5, g6⟩
  rw [show jr G a = jg_sa G a by unfold jr; rw [if_pos h64], jm_old hM g7]
  exact g1
theorem jw_rowW {a t n : Nat} (hG : JGl G s) (hM : jm G σ s H) (ha : σ.1[a]? = some (t, n)) (ht : t = 201) : ∃ cell : Cell, H[jr G a]? = some cell ∧ s.isArrayOf cell (.object "CellarTurns$Word") ∧ cell.vm ≠ .unknown ∧ n ≤ cell.slots.size ∧ cell.slots.size.toInt32 = Int32.ofNat n ∧ ∀ j : Nat, j < n → cell.slots[j]? = some (jv G (va_rf (σ.2.2.2 a j))) := by
  subst ht
  have h64 : a < 64 := by
    by_cases h : 64 ≤ a
    · rcases hM.2.2.2.1 a _ n h ha with ⟨h3, -⟩ | ⟨-, h3, -⟩ <;> omega
    · omega
  obtain ⟨cell, g1, g2, g3, g4, g5, g6, g7⟩ := (hM.2.2.2.2.1 a _ n h64 ha).2.2.2 rfl
  refine ⟨cell, ?_, g2, g3, g4, g5, g6⟩
  rw [show jr G a = jg_sa G a by unfold jr; rw [if_pos h64], jm_old hM g7]
  exact g1
theorem jw_in {cA : ClassId} {n : Nat} {f : Nat → Value} {i : Int32} (h : ¬ (i < 0 ∨ n ≤ i.toNatClampNeg)) : ¬ (i < 0 ∨ (arrV cA n f).slots.size ≤ i.toNatClampNeg) := by rw [arrV_size]; exact h
theorem jw_el {cA : ClassId} {n : Nat} {f : Nat → Value} {i : Int32} (h : ¬ (i < 0 ∨ n ≤ i.toNatClampNeg)) : (arrV cA n f).slots[i.toNatClampNeg]? = some (f i.toNatClampNeg) := by
  have : i.toNatClampNeg < n := Nat.not_le.mp fun q => h (Or.inr q)
  unfold arrV
  simp [this]

theorem jw_iconst (X : JX G p R s m meth c cc nL n0 w0 nE wE own ini) {S S' : JS} {n : Int} (hd : decode cc pc = .ok ((.iconst n), jx_len (.iconst n))) (h : jx_op (0, 0, (Int32.ofInt n).toInt) S = some S') (k : JK G p e R s m args below meth c nL n0 w0 nE wE Q (pc + jx_len (.iconst n)) S') : JK G p e R s m args below meth c nL n0 w0 nE wE Q pc S := by
  obtain ⟨hx, hb, hml, hown, hG, hRc, hRs, hini⟩ := id X
  obtain ⟨L, st0, σ⟩ := S
  cases h
  exact jk_st (fun H locs ls cells slots _ _ kk => lv_iconst hx hb hd (by exact (Int32.ofInt_toInt _).symm) kk) k
theorem jw_bipush (X : JX G p R s m meth c cc nL n0 w0 nE wE own ini) {S S' : JS} {n : Int} (hd : decode cc pc = .ok ((.bipush n), jx_len (.bipush n))) (h : jx_op (0, 0, ((Int8.ofInt n).toInt32).toInt) S = some S') (k : JK G p e R s m args below meth c nL n0 w0 nE wE Q (pc + jx_len (.bipush n)) S') : JK G p e R s m args below meth c nL n0 w0 nE wE Q pc S := by
  obtain ⟨hx, hb, hml, hown, hG, hRc, hRs, hini⟩ := id X
  obtain ⟨L, st0, σ⟩ := S
  cases h
  exact jk_st (fun H locs ls cells slots _ _ kk => lv_bipush hx hb hd (by exact (Int32.ofInt_toInt _).symm) kk) k
theorem jw_sipush (X : JX G p R s m meth c cc nL n0 w0 nE wE own ini) {S S' : JS} {n : Int} (hd : decode cc pc = .ok ((.sipush n), jx_len (.sipush n))) (h : jx_op (0, 0, ((Int16.ofInt n).toInt32).toInt) S = some S') (k : JK G p e R s m args below meth c nL n0 w0 nE wE Q (pc + jx_len (.sipush n)) S') : JK G p e R s m args below meth c nL n0 w0 nE wE Q pc S := by
  obtain ⟨hx, hb, hml, hown, hG, hRc, hRs, hini⟩ := id X
  obtain ⟨L, st0, σ⟩ := S
  cases h
  exact jk_st (fun H locs ls cells slots _ _ kk => lv_sipush hx hb hd (by exact (Int32.ofInt_toInt _).symm) kk) k
theorem jw_lconst (X : JX G p R s m meth c cc nL n0 w0 nE wE own ini) {S S' : JS} {n : Fin 2} (hd : decode cc pc = .ok ((.lconst n), jx_len (.lconst n))) (h : jx_op (1, 0, (Int64.ofNat n).toInt) S = some S') (k : JK G p e R s m args below meth c nL n0 w0 nE wE Q (pc + jx_len (.lconst n)) S') : JK G p e R s m args below meth c nL n0 w0 nE wE Q pc S := by
  obtain ⟨hx, hb, hml, hown, hG, hRc, hRs, hini⟩ := id X
  obtain ⟨L, st0, σ⟩ := S
  cases h
  exact jk_st (fun H locs ls cells slots _ _ kk => lv_lconst hx hb hd (by exact (Int64.ofInt_toInt _).symm) kk) k
theorem jw_ldc (X : JX G p R s m meth c cc nL n0 w0 nE wE own ini) {S S' : JS} {ix : Nat} {v : Int32} (hl : jt_lc own ix = some (.int v)) (hd : decode cc pc = .ok ((.ldc ix), jx_len (.ldc ix))) (h : jx_op (0, 0, v.toInt) S = some S') (k : JK G p e R s m args below meth c nL n0 w0 nE wE Q (pc + jx_len (.ldc ix)) S') : JK G p e R s m args below meth c nL n0 w0 nE wE Q pc S := by
  obtain ⟨hx, hb, hml, hown, hG, hRc, hRs, hini⟩ := id X
  obtain ⟨L, st0, σ⟩ := S
  cases h
  have hc : (Cond.constant (jt_own.getD own "") ix v).before args s = true := jx_word hG (jt_lc_at hl) rfl rfl
  refine jk_st (fun H locs ls cells slots _ _ kk => lv_ldc hx hb hown hc hd ?_) k
  have e9 : Int32.ofInt v.toInt = v := Int32.ofInt_toInt _
  rw [e9] at kk
  exact kk
theorem jw_ldc_w (X : JX G p R s m meth c cc nL n0 w0 nE wE own ini) {S S' : JS} {ix : Nat} {v : Int32} (hl : jt_lc own ix = some (.int v)) (hd : decode cc pc = .ok ((.ldc_w ix), jx_len (.ldc_w ix))) (h : jx_op (0, 0, v.toInt) S = some S') (k : JK G p e R s m args below meth c nL n0 w0 nE wE Q (pc + jx_len (.ldc_w ix)) S') : JK G p e R s m args below meth c nL n0 w0 nE wE Q pc S := by
  obtain ⟨hx, hb, hml, hown, hG, hRc, hRs, hini⟩ := id X
  obtain ⟨L, st0, σ⟩ := S
  cases h
  have hc : (Cond.constant (jt_own.getD own "") ix v).before args s = true := jx_word hG (jt_lc_at hl) rfl rfl
  refine jk_st (fun H locs ls cells slots _ _ kk => lv_ldcw hx hb hown hc hd ?_) k
  have e9 : Int32.ofInt v.toInt = v := Int32.ofInt_toInt _
  rw [e9] at kk
  exact kk
theorem jw_ldc2 (X : JX G p R s m meth c cc nL n0 w0 nE wE own ini) {S S' : JS} {ix : Nat} {v : Int64} (hl : jt_lc own ix = some (.long v)) (hd : decode cc pc = .ok ((.ldc2_w ix), jx_len (.ldc2_w ix))) (h : jx_op (1, 0, v.toInt) S = some S') (k : JK G p e R s m args below meth c nL n0 w0 nE wE Q (pc + jx_len (.ldc2_w ix)) S') : JK G p e R s m args below meth c nL n0 w0 nE wE Q pc S := by
  obtain ⟨hx, hb, hml, hown, hG, hRc, hRs, hini⟩ := id X
  obtain ⟨L, st0, σ⟩ := S
  cases h
  have hc : (Cond.constantLong (jt_own.getD own "") ix v).before args s = true := jx_word hG (jt_lc_at hl) rfl rfl
  refine jk_st (fun H locs ls cells slots _ _ kk => lv_ldc2 hx hb hown hc hd ?_) k
  have e9 : Int64.ofInt v.toInt = v := Int64.ofInt_toInt _
  rw [e9] at kk
  exact kk
theorem jw_iload (X : JX G p R s m meth c cc nL n0 w0 nE wE own ini) {S S' : JS} {i : Nat} (hd : decode cc pc = .ok ((.iload i), jx_len (.iload i))) (h : jx_op (2, i, 0) S = some S') (k : JK G p e R s m args below meth c nL n0 w0 nE wE Q (pc + jx_len (.iload i)) S') : JK G p e R s m args below meth c nL n0 w0 nE wE Q pc S := by
  obtain ⟨hx, hb, hml, hown, hG, hRc, hRs, hini⟩ := id X
  obtain ⟨L, st0, σ⟩ := S
  obtain ⟨x, h1, rfl⟩ := jo_iload_i (i := i) h
  exact jk_st (fun H locs ls cells slots hl _ kk => lv_iload hx hb hd (jl_at hl h1) kk) k
theorem jw_iload_n (X : JX G p R s m meth c cc nL n0 w0 nE wE own ini) {S S' : JS} {i : Fin 4} (hd : decode cc pc = .ok ((.iload_n i), jx_len (.iload_n i))) (h : jx_op (2, (i : Nat), 0) S = some S') (k : JK G p e R s m args below meth c nL n0 w0 nE wE Q (pc + jx_len (.iload_n i)) S') : JK G p e R s m args below meth c nL n0 w0 nE wE Q pc S := by
  obtain ⟨hx, hb, hml, hown, hG, hRc, hRs, hini⟩ := id X
  obtain ⟨L, st0, σ⟩ := S
  obtain ⟨x, h1, rfl⟩ := jo_iload_i (i := (i : Nat)) h
  exact jk_st (fun H locs ls cells slots hl _ kk => lv_iload_n hx hb hd rfl (jl_at hl h1) kk) k
theorem jw_lload (X : JX G p R s m meth c cc nL n0 w0 nE wE own ini) {S S' : JS} {i : Nat} (hd : decode cc pc = .ok ((.lload i), jx_len (.lload i))) (h : jx_op (3, i, 0) S = some S') (k : JK G p e R s m args below meth c nL n0 w0 nE wE Q (pc + jx_len (.lload i)) S') : JK G p e R s m args below meth c nL n0 w0 nE wE Q pc S := by
  obtain ⟨hx, hb, hml, hown, hG, hRc, hRs, hini⟩ := id X
  obtain ⟨L, st0, σ⟩ := S
  obtain ⟨x, h1, rfl⟩ := jo_lload_i (i := i) h
  exact jk_st (fun H locs ls cells slots hl _ kk => lv_lload hx hb hd (jl_at hl h1) kk) k
theorem jw_lload_n (X : JX G p R s m meth c cc nL n0 w0 nE wE own ini) {S S' : JS} {i : Fin 4} (hd : decode cc pc = .ok ((.lload_n i), jx_len (.lload_n i))) (h : jx_op (3, (i : Nat), 0) S = some S') (k : JK G p e R s m args below meth c nL n0 w0 nE wE Q (pc + jx_len (.lload_n i)) S') : JK G p e R s m args below meth c nL n0 w0 nE wE Q pc S := by
  obtain ⟨hx, hb, hml, hown, hG, hRc, hRs, hini⟩ := id X
  obtain ⟨L, st0, σ⟩ := S
  obtain ⟨x, h1, rfl⟩ := jo_lload_i (i := (i : Nat)) h
  exact jk_st (fun H locs ls cells slots hl _ kk => lv_lload_n hx hb hd rfl (jl_at hl h1) kk) k
theorem jw_aload (X : JX G p R s m meth c cc nL n0 w0 nE wE own ini) {S S' : JS} {i : Nat} (hd : decode cc pc = .ok ((.aload i), jx_len (.aload i))) (h : jx_op (4, i, 0) S = some S') (k : JK G p e R s m args below meth c nL n0 w0 nE wE Q (pc + jx_len (.aload i)) S') : JK G p e R s m args below meth c nL n0 w0 nE wE Q pc S := by
  obtain ⟨hx, hb, hml, hown, hG, hRc, hRs, hini⟩ := id X
  obtain ⟨L, st0, σ⟩ := S
  obtain ⟨x, h1, rfl⟩ := jo_aload_i (i := i) h
  exact jk_st (fun H locs ls cells slots hl _ kk => lv_aload hx hb hd (jl_at hl h1) kk) k
theorem jw_aload_n (X : JX G p R s m meth c cc nL n0 w0 nE wE own ini) {S S' : JS} {i : Fin 4} (hd : decode cc pc = .ok ((.aload_n i), jx_len (.aload_n i))) (h : jx_op (4, (i : Nat), 0) S = some S') (k : JK G p e R s m args below meth c nL n0 w0 nE wE Q (pc + jx_len (.aload_n i)) S') : JK G p e R s m args below meth c nL n0 w0 nE wE Q pc S := by
  obtain ⟨hx, hb, hml, hown, hG, hRc, hRs, hini⟩ := id X
  obtain ⟨L, st0, σ⟩ := S
  obtain ⟨x, h1, rfl⟩ := jo_aload_i (i := (i : Nat)) h
  exact jk_st (fun H locs ls cells slots hl _ kk => lv_aload_n hx hb hd rfl (jl_at hl h1) kk) k
theorem jw_istore (X : JX G p R s m meth c cc nL n0 w0 nE wE own ini) {S S' : JS} {i : Nat} (hd : decode cc pc = .ok ((.istore i), jx_len (.istore i))) (h : jx_op (5, i, 0) S = some S') (k : JK G p e R s m args below meth c nL n0 w0 nE wE Q (pc + jx_len (.istore i)) S') : JK G p e R s m args below meth c nL n0 w0 nE wE Q pc S := by
  obtain ⟨hx, hb, hml, hown, hG, hRc, hRs, hini⟩ := id X
  obtain ⟨L, st0, σ⟩ := S
  obtain ⟨x, st, hs, hi, rfl⟩ := jo_istore_i (i := i) h
  have hs : st0 = _ := hs
  subst hs
  exact jk_lo (fun H locs ls cells slots hl kk => lv_istore hx hb hd (jl_has hl) (hl.2.2.1 ▸ hi) rfl (fun ls' h9 => kk ls' (jl_set_ok hl.2.2.1 h9))) k
theorem jw_istore_n (X : JX G p R s m meth c cc nL n0 w0 nE wE own ini) {S S' : JS} {i : Fin 4} (hd : decode cc pc = .ok ((.istore_n i), jx_len (.istore_n i))) (h : jx_op (5, (i : Nat), 0) S = some S') (k : JK G p e R s m args below meth c nL n0 w0 nE wE Q (pc + jx_len (.istore_n i)) S') : JK G p e R s m args below meth c nL n0 w0 nE wE Q pc S := by
  obtain ⟨hx, hb, hml, hown, hG, hRc, hRs, hini⟩ := id X
  obtain ⟨L, st0, σ⟩ := S
  obtain ⟨x, st, hs, hi, rfl⟩ := jo_istore_i (i := (i : Nat)) h
  have hs : st0 = _ := hs
  subst hs
  exact jk_lo (fun H locs ls cells slots hl kk => lv_istore_n hx hb hd rfl (jl_has hl) (hl.2.2.1 ▸ hi) rfl (fun ls' h9 => kk ls' (jl_set_ok hl.2.2.1 h9))) k
theorem jw_lstore (X : JX G p R s m meth c cc nL n0 w0 nE wE own ini) {S S' : JS} {i : Nat} (hd : decode cc pc = .ok ((.lstore i), jx_len (.lstore i))) (h : jx_op (6, i, 0) S = some S') (k : JK G p e R s m args below meth c nL n0 w0 nE wE Q (pc + jx_len (.lstore i)) S') : JK G p e R s m args below meth c nL n0 w0 nE wE Q pc S := by
  obtain ⟨hx, hb, hml, hown, hG, hRc, hRs, hini⟩ := id X
  obtain ⟨L, st0, σ⟩ := S
  obtain ⟨x, st, hs, hi, rfl⟩ := jo_lstore_i (i := i) h
  have hs : st0 = _ := hs
  subst hs
  exact jk_lo (fun H locs ls cells slots hl kk => lv_lstore hx hb hd (jl_has hl) (hl.2.2.1 ▸ hi) rfl (fun ls' h9 => kk ls' (jl_set2_ok hl.2.2.1 h9))) k
theorem jw_lstore_n (X : JX G p R s m meth c cc nL n0 w0 nE wE own ini) {S S' : JS} {i : Fin 4} (hd : decode cc pc = .ok ((.lstore_n i), jx_len (.lstore_n i))) (h : jx_op (6, (i : Nat), 0) S = some S') (k : JK G p e R s m args below meth c nL n0 w0 nE wE Q (pc + jx_len (.lstore_n i)) S') : JK G p e R s m args below meth c nL n0 w0 nE wE Q pc S := by
  obtain ⟨hx, hb, hml, hown, hG, hRc, hRs, hini⟩ := id X
  obtain ⟨L, st0, σ⟩ := S
  obtain ⟨x, st, hs, hi, rfl⟩ := jo_lstore_i (i := (i : Nat)) h
  have hs : st0 = _ := hs
  subst hs
  exact jk_lo (fun H locs ls cells slots hl kk => lv_lstore_n hx hb hd rfl (jl_has hl) (hl.2.2.1 ▸ hi) rfl (fun ls' h9 => kk ls' (jl_set2_ok hl.2.2.1 h9))) k
theorem jw_astore (X : JX G p R s m meth c cc nL n0 w0 nE wE own ini) {S S' : JS} {i : Nat} (hd : decode cc pc = .ok ((.astore i), jx_len (.astore i))) (h : jx_op (7, i, 0) S = some S') (k : JK G p e R s m args below meth c nL n0 w0 nE wE Q (pc + jx_len (.astore i)) S') : JK G p e R s m args below meth c nL n0 w0 nE wE Q pc S := by
  obtain ⟨hx, hb, hml, hown, hG, hRc, hRs, hini⟩ := id X
  obtain ⟨L, st0, σ⟩ := S
  obtain ⟨x, st, hs, hi, rfl⟩ := jo_astore_i (i := i) h
  have hs : st0 = _ := hs
  subst hs
  exact jk_lo (fun H locs ls cells slots hl kk => lv_astore hx hb hd (jl_has hl) (hl.2.2.1 ▸ hi) rfl (fun ls' h9 => kk ls' (jl_set_ok hl.2.2.1 h9))) k
theorem jw_astore_n (X : JX G p R s m meth c cc nL n0 w0 nE wE own ini) {S S' : JS} {i : Fin 4} (hd : decode cc pc = .ok ((.astore_n i), jx_len (.astore_n i))) (h : jx_op (7, (i : Nat), 0) S = some S') (k : JK G p e R s m args below meth c nL n0 w0 nE wE Q (pc + jx_len (.astore_n i)) S') : JK G p e R s m args below meth c nL n0 w0 nE wE Q pc S := by
  obtain ⟨hx, hb, hml, hown, hG, hRc, hRs, hini⟩ := id X
  obtain ⟨L, st0, σ⟩ := S
  obtain ⟨x, st, hs, hi, rfl⟩ := jo_astore_i (i := (i : Nat)) h
  have hs : st0 = _ := hs
  subst hs
  exact jk_lo (fun H locs ls cells slots hl kk => lv_astore_n hx hb hd rfl (jl_has hl) (hl.2.2.1 ▸ hi) rfl (fun ls' h9 => kk ls' (jl_set_ok hl.2.2.1 h9))) k
theorem jw_iinc (X : JX G p R s m meth c cc nL n0 w0 nE wE own ini) {S S' : JS} {i : Nat} {n : Int} (hd : decode cc pc = .ok ((.iinc i n), jx_len (.iinc i n))) (h : jx_op (8, i, n) S = some S') (k : JK G p e R s m args below meth c nL n0 w0 nE wE Q (pc + jx_len (.iinc i n)) S') : JK G p e R s m args below meth c nL n0 w0 nE wE Q pc S := by
  obtain ⟨hx, hb, hml, hown, hG, hRc, hRs, hini⟩ := id X
  obtain ⟨L, st0, σ⟩ := S
  obtain ⟨x, h1, rfl⟩ := jo_iinc_i (i := i) (n := n) h
  obtain ⟨q, hq⟩ := List.getElem?_of_mem (jl_mem (G := G) (q := (i, .int x)).mpr ⟨.int x, h1, rfl⟩)
  exact jk_lo (fun H locs ls cells slots hl kk => lv_iinc hx hb hd (jl_has hl) hq rfl (hl.2.2.1 ▸ (List.getElem?_eq_some_iff.mp h1).1) rfl (fun ls' h9 => kk ls' (jl_set_ok hl.2.2.1 h9))) k
theorem jw_iadd (X : JX G p R s m meth c cc nL n0 w0 nE wE own ini) {S S' : JS}  (hd : decode cc pc = .ok (.iadd, jx_len .iadd)) (h : jx_op (10, 0, 0) S = some S') (k : JK G p e R s m args below meth c nL n0 w0 nE wE Q (pc + jx_len .iadd) S') : JK G p e R s m args below meth c nL n0 w0 nE wE Q pc S := by
  obtain ⟨hx, hb, hml, hown, hG, hRc, hRs, hini⟩ := id X
  obtain ⟨L, st0, σ⟩ := S
  obtain ⟨x, y, st, hs, rfl⟩ := jo_ii_i (f := fun x y => x + y) h
  have hs : st0 = _ := hs
  subst hs
  exact jk_st (fun H locs ls cells slots _ _ kk => lv_iadd hx hb hd kk) k
theorem jw_isub (X : JX G p R s m meth c cc nL n0 w0 nE wE own ini) {S S' : JS}  (hd : decode cc pc = .ok (.isub, jx_len .isub)) (h : jx_op (11, 0, 0) S = some S') (k : JK G p e R s m args below meth c nL n0 w0 nE wE Q (pc + jx_len .isub) S') : JK G p e R s m args below meth c nL n0 w0 nE wE Q pc S := by
  obtain ⟨hx, hb, hml, hown, hG, hRc, hRs, hini⟩ := id X
  obtain ⟨L, st0, σ⟩ := S
  obtain ⟨x, y, st, hs, rfl⟩ := jo_ii_i (f := fun x y => x - y) h
  have hs : st0 = _ := hs
  subst hs
  exact jk_st (fun H locs ls cells slots _ _ kk => lv_isub hx hb hd kk) k
theorem jw_imul (X : JX G p R s m meth c cc nL n0 w0 nE wE own ini) {S S' : JS}  (hd : decode cc pc = .ok (.imul, jx_len .imul)) (h : jx_op (12, 0, 0) S = some S') (k : JK G p e R s m args below meth c nL n0 w0 nE wE Q (pc + jx_len .imul) S') : JK G p e R s m args below meth c nL n0 w0 nE wE Q pc S := by
  obtain ⟨hx, hb, hml, hown, hG, hRc, hRs, hini⟩ := id X
  obtain ⟨L, st0, σ⟩ := S
  obtain ⟨x, y, st, hs, rfl⟩ := jo_ii_i (f := fun x y => x * y) h
  have hs : st0 = _ := hs
  subst hs
  exact jk_st (fun H locs ls cells slots _ _ kk => lv_imul hx hb hd kk) k
theorem jw_iand (X : JX G p R s m meth c cc nL n0 w0 nE wE own ini) {S S' : JS}  (hd : decode cc pc = .ok (.iand, jx_len .iand)) (h : jx_op (16, 0, 0) S = some S') (k : JK G p e R s m args below meth c nL n0 w0 nE wE Q (pc + jx_len .iand) S') : JK G p e R s m args below meth c nL n0 w0 nE wE Q pc S := by
  obtain ⟨hx, hb, hml, hown, hG, hRc, hRs, hini⟩ := id X
  obtain ⟨L, st0, σ⟩ := S
  obtain ⟨x, y, st, hs, rfl⟩ := jo_ii_i (f := fun x y => x &&& y) h
  have hs : st0 = _ := hs
  subst hs
  exact jk_st (fun H locs ls cells slots _ _ kk => lv_iand hx hb hd kk) k
theorem jw_ior (X : JX G p R s m meth c cc nL n0 w0 nE wE own ini) {S S' : JS}  (hd : decode cc pc = .ok (.ior, jx_len .ior)) (h : jx_op (17, 0, 0) S = some S') (k : JK G p e R s m args below meth c nL n0 w0 nE wE Q (pc + jx_len .ior) S') : JK G p e R s m args below meth c nL n0 w0 nE wE Q pc S := by
  obtain ⟨hx, hb, hml, hown, hG, hRc, hRs, hini⟩ := id X
  obtain ⟨L, st0, σ⟩ := S
  obtain ⟨x, y, st, hs, rfl⟩ := jo_ii_i (f := fun x y => x ||| y) h
  have hs : st0 = _ := hs
  subst hs
  exact jk_st (fun H locs ls cells slots _ _ kk => lv_ior hx hb hd kk) k
theorem jw_ixor (X : JX G p R s m meth c cc nL n0 w0 nE wE own ini) {S S' : JS}  (hd : decode cc pc = .ok (.ixor, jx_len .ixor)) (h : jx_op (18, 0, 0) S = some S') (k : JK G p e R s m args below meth c nL n0 w0 nE wE Q (pc + jx_len .ixor) S') : JK G p e R s m args below meth c nL n0 w0 nE wE Q pc S := by
  obtain ⟨hx, hb, hml, hown, hG, hRc, hRs, hini⟩ := id X
  obtain ⟨L, st0, σ⟩ := S
  obtain ⟨x, y, st, hs, rfl⟩ := jo_ii_i (f := fun x y => x ^^^ y) h
  have hs : st0 = _ := hs
  subst hs
  exact jk_st (fun H locs ls cells slots _ _ kk => lv_ixor hx hb hd kk) k
theorem jw_ishl (X : JX G p R s m meth c cc nL n0 w0 nE wE own ini) {S S' : JS}  (hd : decode cc pc = .ok (.ishl, jx_len .ishl)) (h : jx_op (19, 0, 0) S = some S') (k : JK G p e R s m args below meth c nL n0 w0 nE wE Q (pc + jx_len .ishl) S') : JK G p e R s m args below meth c nL n0 w0 nE wE Q pc S := by
  obtain ⟨hx, hb, hml, hown, hG, hRc, hRs, hini⟩ := id X
  obtain ⟨L, st0, σ⟩ := S
  obtain ⟨x, y, st, hs, rfl⟩ := jo_ii_i (f := fun x y => x <<< (y &&& 31)) h
  have hs : st0 = _ := hs
  subst hs
  exact jk_st (fun H locs ls cells slots _ _ kk => lv_ishl hx hb hd kk) k
theorem jw_ishr (X : JX G p R s m meth c cc nL n0 w0 nE wE own ini) {S S' : JS}  (hd : decode cc pc = .ok (.ishr, jx_len .ishr)) (h : jx_op (20, 0, 0) S = some S') (k : JK G p e R s m args below meth c nL n0 w0 nE wE Q (pc + jx_len .ishr) S') : JK G p e R s m args below meth c nL n0 w0 nE wE Q pc S := by
  obtain ⟨hx, hb, hml, hown, hG, hRc, hRs, hini⟩ := id X
  obtain ⟨L, st0, σ⟩ := S
  obtain ⟨x, y, st, hs, rfl⟩ := jo_ii_i (f := fun x y => x >>> (y &&& 31)) h
  have hs : st0 = _ := hs
  subst hs
  exact jk_st (fun H locs ls cells slots _ _ kk => lv_ishr hx hb hd kk) k
theorem jw_iushr (X : JX G p R s m meth c cc nL n0 w0 nE wE own ini) {S S' : JS}  (hd : decode cc pc = .ok (.iushr, jx_len .iushr)) (h : jx_op (21, 0, 0) S = some S') (k : JK G p e R s m args below meth c nL n0 w0 nE wE Q (pc + jx_len .iushr) S') : JK G p e R s m args below meth c nL n0 w0 nE wE Q pc S := by
  obtain ⟨hx, hb, hml, hown, hG, hRc, hRs, hini⟩ := id X
  obtain ⟨L, st0, σ⟩ := S
  obtain ⟨x, y, st, hs, rfl⟩ := jo_ii_i (f := fun x y => (x.toUInt32 >>> (y.toUInt32 &&& Int32.toUInt32 31)).toInt32) h
  have hs : st0 = _ := hs
  subst hs
  exact jk_st (fun H locs ls cells slots _ _ kk => lv_iushr hx hb hd rfl kk) k
theorem jw_idiv (X : JX G p R s m meth c cc nL n0 w0 nE wE own ini) {S S' : JS}  (hd : decode cc pc = .ok (.idiv, jx_len .idiv)) (h : jx_op (13, 0, 0) S = some S') (k : JK G p e R s m args below meth c nL n0 w0 nE wE Q (pc + jx_len .idiv) S') : JK G p e R s m args below meth c nL n0 w0 nE wE Q pc S := by
  obtain ⟨hx, hb, hml, hown, hG, hRc, hRs, hini⟩ := id X
  obtain ⟨L, st0, σ⟩ := S
  obtain ⟨x, y, st, hs, hy, rfl⟩ := jo_id_i (f := fun x y => x / y) h
  have hs : st0 = _ := hs
  subst hs
  exact jk_st (fun H locs ls cells slots _ _ kk => lv_idiv hx hb hd hy kk) k
theorem jw_irem (X : JX G p R s m meth c cc nL n0 w0 nE wE own ini) {S S' : JS}  (hd : decode cc pc = .ok (.irem, jx_len .irem)) (h : jx_op (14, 0, 0) S = some S') (k : JK G p e R s m args below meth c nL n0 w0 nE wE Q (pc + jx_len .irem) S') : JK G p e R s m args below meth c nL n0 w0 nE wE Q pc S := by
  obtain ⟨hx, hb, hml, hown, hG, hRc, hRs, hini⟩ := id X
  obtain ⟨L, st0, σ⟩ := S
  obtain ⟨x, y, st, hs, hy, rfl⟩ := jo_id_i (f := fun x y => x - x / y * y) h
  have hs : st0 = _ := hs
  subst hs
  exact jk_st (fun H locs ls cells slots _ _ kk => lv_irem hx hb hd hy kk) k
theorem jw_ineg (X : JX G p R s m meth c cc nL n0 w0 nE wE own ini) {S S' : JS}  (hd : decode cc pc = .ok (.ineg, jx_len .ineg)) (h : jx_op (15, 0, 0) S = some S') (k : JK G p e R s m args below meth c nL n0 w0 nE wE Q (pc + jx_len .ineg) S') : JK G p e R s m args below meth c nL n0 w0 nE wE Q pc S := by
  obtain ⟨hx, hb, hml, hown, hG, hRc, hRs, hini⟩ := id X
  obtain ⟨L, st0, σ⟩ := S
  obtain ⟨x, st, hs, rfl⟩ := jo_i_i (f := fun x => -x) h
  have hs : st0 = _ := hs
  subst hs
  exact jk_st (fun H locs ls cells slots _ _ kk => lv_ineg hx hb hd kk) k
theorem jw_ladd (X : JX G p R s m meth c cc nL n0 w0 nE wE own ini) {S S' : JS}  (hd : decode cc pc = .ok (.ladd, jx_len .ladd)) (h : jx_op (22, 0, 0) S = some S') (k : JK G p e R s m args below meth c nL n0 w0 nE wE Q (pc + jx_len .ladd) S') : JK G p e R s m args below meth c nL n0 w0 nE wE Q pc S := by
  obtain ⟨hx, hb, hml, hown, hG, hRc, hRs, hini⟩ := id X
  obtain ⟨L, st0, σ⟩ := S
  obtain ⟨x, y, st, hs, rfl⟩ := jo_ll_i (f := fun x y => x + y) h
  have hs : st0 = _ := hs
  subst hs
  exact jk_st (fun H locs ls cells slots _ _ kk => lv_ladd hx hb hd kk) k
theorem jw_lsub (X : JX G p R s m meth c cc nL n0 w0 nE wE own ini) {S S' : JS}  (hd : decode cc pc = .ok (.lsub, jx_len .lsub)) (h : jx_op (23, 0, 0) S = some S') (k : JK G p e R s m args below meth c nL n0 w0 nE wE Q (pc + jx_len .lsub) S') : JK G p e R s m args below meth c nL n0 w0 nE wE Q pc S := by
  obtain ⟨hx, hb, hml, hown, hG, hRc, hRs, hini⟩ := id X
  obtain ⟨L, st0, σ⟩ := S
  obtain ⟨x, y, st, hs, rfl⟩ := jo_ll_i (f := fun x y => x - y) h
  have hs : st0 = _ := hs
  subst hs
  exact jk_st (fun H locs ls cells slots _ _ kk => lv_lsub hx hb hd kk) k
theorem jw_lmul (X : JX G p R s m meth c cc nL n0 w0 nE wE own ini) {S S' : JS}  (hd : decode cc pc = .ok (.lmul, jx_len .lmul)) (h : jx_op (24, 0, 0) S = some S') (k : JK G p e R s m args below meth c nL n0 w0 nE wE Q (pc + jx_len .lmul) S') : JK G p e R s m args below meth c nL n0 w0 nE wE Q pc S := by
  obtain ⟨hx, hb, hml, hown, hG, hRc, hRs, hini⟩ := id X
  obtain ⟨L, st0, σ⟩ := S
  obtain ⟨x, y, st, hs, rfl⟩ := jo_ll_i (f := fun x y => x * y) h
  have hs : st0 = _ := hs
  subst hs
  exact jk_st (fun H locs ls cells slots _ _ kk => lv_lmul hx hb hd kk) k
theorem jw_land (X : JX G p R s m meth c cc nL n0 w0 nE wE own ini) {S S' : JS}  (hd : decode cc pc = .ok (.land, jx_len .land)) (h : jx_op (27, 0, 0) S = some S') (k : JK G p e R s m args below meth c nL n0 w0 nE wE Q (pc + jx_len .land) S') : JK G p e R s m args below meth c nL n0 w0 nE wE Q pc S := by
  obtain ⟨hx, hb, hml, hown, hG, hRc, hRs, hini⟩ := id X
  obtain ⟨L, st0, σ⟩ := S
  obtain ⟨x, y, st, hs, rfl⟩ := jo_ll_i (f := fun x y => x &&& y) h
  have hs : st0 = _ := hs
  subst hs
  exact jk_st (fun H locs ls cells slots _ _ kk => lv_land hx hb hd kk) k
theorem jw_lor (X : JX G p R s m meth c cc nL n0 w0 nE wE own ini) {S S' : JS}  (hd : decode cc pc = .ok (.lor, jx_len .lor)) (h : jx_op (28, 0, 0) S = some S') (k : JK G p e R s m args below meth c nL n0 w0 nE wE Q (pc + jx_len .lor) S') : JK G p e R s m args below meth c nL n0 w0 nE wE Q pc S := by
  obtain ⟨hx, hb, hml, hown, hG, hRc, hRs, hini⟩ := id X
  obtain ⟨L, st0, σ⟩ := S
  obtain ⟨x, y, st, hs, rfl⟩ := jo_ll_i (f := fun x y => x ||| y) h
  have hs : st0 = _ := hs
  subst hs
  exact jk_st (fun H locs ls cells slots _ _ kk => lv_lor hx hb hd kk) k
theorem jw_lxor (X : JX G p R s m meth c cc nL n0 w0 nE wE own ini) {S S' : JS}  (hd : decode cc pc = .ok (.lxor, jx_len .lxor)) (h : jx_op (29, 0, 0) S = some S') (k : JK G p e R s m args below meth c nL n0 w0 nE wE Q (pc + jx_len .lxor) S') : JK G p e R s m args below meth c nL n0 w0 nE wE Q pc S := by
  obtain ⟨hx, hb, hml, hown, hG, hRc, hRs, hini⟩ := id X
  obtain ⟨L, st0, σ⟩ := S
  obtain ⟨x, y, st, hs, rfl⟩ := jo_ll_i (f := fun x y => x ^^^ y) h
  have hs : st0 = _ := hs
  subst hs
  exact jk_st (fun H locs ls cells slots _ _ kk => lv_lxor hx hb hd kk) k
theorem jw_ldiv (X : JX G p R s m meth c cc nL n0 w0 nE wE own ini) {S S' : JS}  (hd : decode cc pc = .ok (.ldiv, jx_len .ldiv)) (h : jx_op (25, 0, 0) S = some S') (k : JK G p e R s m args below meth c nL n0 w0 nE wE Q (pc + jx_len .ldiv) S') : JK G p e R s m args below meth c nL n0 w0 nE wE Q pc S := by
  obtain ⟨hx, hb, hml, hown, hG, hRc, hRs, hini⟩ := id X
  obtain ⟨L, st0, σ⟩ := S
  obtain ⟨x, y, st, hs, hy, rfl⟩ := jo_lq_i (f := fun x y => x / y) h
  have hs : st0 = _ := hs
  subst hs
  exact jk_st (fun H locs ls cells slots _ _ kk => lv_ldiv hx hb hd hy kk) k
theorem jw_lrem (X : JX G p R s m meth c cc nL n0 w0 nE wE own ini) {S S' : JS}  (hd : decode cc pc = .ok (.lrem, jx_len .lrem)) (h : jx_op (26, 0, 0) S = some S') (k : JK G p e R s m args below meth c nL n0 w0 nE wE Q (pc + jx_len .lrem) S') : JK G p e R s m args below meth c nL n0 w0 nE wE Q pc S := by
  obtain ⟨hx, hb, hml, hown, hG, hRc, hRs, hini⟩ := id X
  obtain ⟨L, st0, σ⟩ := S
  obtain ⟨x, y, st, hs, hy, rfl⟩ := jo_lq_i (f := fun x y => x - x / y * y) h
  have hs : st0 = _ := hs
  subst hs
  exact jk_st (fun H locs ls cells slots _ _ kk => lv_lrem hx hb hd hy kk) k
theorem jw_lshl (X : JX G p R s m meth c cc nL n0 w0 nE wE own ini) {S S' : JS}  (hd : decode cc pc = .ok (.lshl, jx_len .lshl)) (h : jx_op (30, 0, 0) S = some S') (k : JK G p e R s m args below meth c nL n0 w0 nE wE Q (pc + jx_len .lshl) S') : JK G p e R s m args below meth c nL n0 w0 nE wE Q pc S := by
  obtain ⟨hx, hb, hml, hown, hG, hRc, hRs, hini⟩ := id X
  obtain ⟨L, st0, σ⟩ := S
  obtain ⟨x, y, st, hs, rfl⟩ := jo_li_i (f := fun x y => x <<< (y.toInt64 &&& 63)) h
  have hs : st0 = _ := hs
  subst hs
  exact jk_st (fun H locs ls cells slots _ _ kk => lv_lshl hx hb hd rfl kk) k
theorem jw_lshr (X : JX G p R s m meth c cc nL n0 w0 nE wE own ini) {S S' : JS}  (hd : decode cc pc = .ok (.lshr, jx_len .lshr)) (h : jx_op (31, 0, 0) S = some S') (k : JK G p e R s m args below meth c nL n0 w0 nE wE Q (pc + jx_len .lshr) S') : JK G p e R s m args below meth c nL n0 w0 nE wE Q pc S := by
  obtain ⟨hx, hb, hml, hown, hG, hRc, hRs, hini⟩ := id X
  obtain ⟨L, st0, σ⟩ := S
  obtain ⟨x, y, st, hs, rfl⟩ := jo_li_i (f := fun x y => x >>> (y.toInt64 &&& 63)) h
  have hs : st0 = _ := hs
  subst hs
  exact jk_st (fun H locs ls cells slots _ _ kk => lv_lshr hx hb hd rfl kk) k
theorem jw_lushr (X : JX G p R s m meth c cc nL n0 w0 nE wE own ini) {S S' : JS}  (hd : decode cc pc = .ok (.lushr, jx_len .lushr)) (h : jx_op (32, 0, 0) S = some S') (k : JK G p e R s m args below meth c nL n0 w0 nE wE Q (pc + jx_len .lushr) S') : JK G p e R s m args below meth c nL n0 w0 nE wE Q pc S := by
  obtain ⟨hx, hb, hml, hown, hG, hRc, hRs, hini⟩ := id X
  obtain ⟨L, st0, σ⟩ := S
  obtain ⟨x, y, st, hs, rfl⟩ := jo_li_i (f := fun x y => (x.toUInt64 >>> (y.toInt64.toUInt64 &&& Int64.toUInt64 63)).toInt64) h
  have hs : st0 = _ := hs
  subst hs
  exact jk_st (fun H locs ls cells slots _ _ kk => lv_lushr hx hb hd rfl kk) k
theorem jw_lcmp (X : JX G p R s m meth c cc nL n0 w0 nE wE own ini) {S S' : JS}  (hd : decode cc pc = .ok (.lcmp, jx_len .lcmp)) (h : jx_op (33, 0, 0) S = some S') (k : JK G p e R s m args below meth c nL n0 w0 nE wE Q (pc + jx_len .lcmp) S') : JK G p e R s m args below meth c nL n0 w0 nE wE Q pc S := by
  obtain ⟨hx, hb, hml, hown, hG, hRc, hRs, hini⟩ := id X
  obtain ⟨L, st0, σ⟩ := S
  obtain ⟨x, y, st, hs, rfl⟩ := jo_lcmp_i h
  have hs : st0 = _ := hs
  subst hs
  exact jk_st (fun H locs ls cells slots _ _ kk => W.lcmp hx hb hd kk) k
theorem jw_i2l (X : JX G p R s m meth c cc nL n0 w0 nE wE own ini) {S S' : JS}  (hd : decode cc pc = .ok (.i2l, jx_len .i2l)) (h : jx_op (34, 0, 0) S = some S') (k : JK G p e R s m args below meth c nL n0 w0 nE wE Q (pc + jx_len .i2l) S') : JK G p e R s m args below meth c nL n0 w0 nE wE Q pc S := by
  obtain ⟨hx, hb, hml, hown, hG, hRc, hRs, hini⟩ := id X
  obtain ⟨L, st0, σ⟩ := S
  obtain ⟨x, st, hs, rfl⟩ := jo_i2l_i h
  have hs : st0 = _ := hs
  subst hs
  exact jk_st (fun H locs ls cells slots _ _ kk => lv_i2l hx hb hd rfl kk) k
theorem jw_l2i (X : JX G p R s m meth c cc nL n0 w0 nE wE own ini) {S S' : JS}  (hd : decode cc pc = .ok (.l2i, jx_len .l2i)) (h : jx_op (35, 0, 0) S = some S') (k : JK G p e R s m args below meth c nL n0 w0 nE wE Q (pc + jx_len .l2i) S') : JK G p e R s m args below meth c nL n0 w0 nE wE Q pc S := by
  obtain ⟨hx, hb, hml, hown, hG, hRc, hRs, hini⟩ := id X
  obtain ⟨L, st0, σ⟩ := S
  obtain ⟨x, st, hs, rfl⟩ := jo_l2i_i h
  have hs : st0 = _ := hs
  subst hs
  exact jk_st (fun H locs ls cells slots _ _ kk => lv_l2i hx hb hd rfl kk) k
theorem jw_i2b (X : JX G p R s m meth c cc nL n0 w0 nE wE own ini) {S S' : JS}  (hd : decode cc pc = .ok (.i2b, jx_len .i2b)) (h : jx_op (36, 0, 0) S = some S') (k : JK G p e R s m args below meth c nL n0 w0 nE wE Q (pc + jx_len .i2b) S') : JK G p e R s m args below meth c nL n0 w0 nE wE Q pc S := by
  obtain ⟨hx, hb, hml, hown, hG, hRc, hRs, hini⟩ := id X
  obtain ⟨L, st0, σ⟩ := S
  obtain ⟨x, st, hs, rfl⟩ := jo_i_i (f := fun x => x.toInt8.toInt32) h
  have hs : st0 = _ := hs
  subst hs
  exact jk_st (fun H locs ls cells slots _ _ kk => lv_i2b hx hb hd rfl kk) k
theorem jw_i2c (X : JX G p R s m meth c cc nL n0 w0 nE wE own ini) {S S' : JS}  (hd : decode cc pc = .ok (.i2c, jx_len .i2c)) (h : jx_op (37, 0, 0) S = some S') (k : JK G p e R s m args below meth c nL n0 w0 nE wE Q (pc + jx_len .i2c) S') : JK G p e R s m args below meth c nL n0 w0 nE wE Q pc S := by
  obtain ⟨hx, hb, hml, hown, hG, hRc, hRs, hini⟩ := id X
  obtain ⟨L, st0, σ⟩ := S
  obtain ⟨x, st, hs, rfl⟩ := jo_i_i (f := fun x => (x.toUInt32 % 65536).toInt32) h
  have hs : st0 = _ := hs
  subst hs
  exact jk_st (fun H locs ls cells slots _ _ kk => lv_i2c hx hb hd rfl kk) k
theorem jw_dup (X : JX G p R s m meth c cc nL n0 w0 nE wE own ini) {S S' : JS}  (hd : decode cc pc = .ok (.dup, jx_len .dup)) (h : jx_op (70, 0, 0) S = some S') (k : JK G p e R s m args below meth c nL n0 w0 nE wE Q (pc + jx_len .dup) S') : JK G p e R s m args below meth c nL n0 w0 nE wE Q pc S := by
  obtain ⟨hx, hb, hml, hown, hG, hRc, hRs, hini⟩ := id X
  obtain ⟨L, st0, σ⟩ := S
  obtain ⟨v, st, hs, hc, rfl⟩ := jo_dup_i h
  have hs : st0 = _ := hs
  subst hs
  exact jk_st (fun H locs ls cells slots _ _ kk => lv_dup hx hb hd (by rw [jv_cat]; exact hc) kk) k
theorem jw_pop (X : JX G p R s m meth c cc nL n0 w0 nE wE own ini) {S S' : JS}  (hd : decode cc pc = .ok (.pop, jx_len .pop)) (h : jx_op (71, 0, 0) S = some S') (k : JK G p e R s m args below meth c nL n0 w0 nE wE Q (pc + jx_len .pop) S') : JK G p e R s m args below meth c nL n0 w0 nE wE Q pc S := by
  obtain ⟨hx, hb, hml, hown, hG, hRc, hRs, hini⟩ := id X
  obtain ⟨L, st0, σ⟩ := S
  obtain ⟨v, st, hs, hc, rfl⟩ := jo_pop_i h
  have hs : st0 = _ := hs
  subst hs
  exact jk_st (fun H locs ls cells slots _ _ kk => lv_pop hx hb hd (by rw [jv_cat]; exact hc) kk) k
theorem jw_dup2 (X : JX G p R s m meth c cc nL n0 w0 nE wE own ini) {S S' : JS}  (hd : decode cc pc = .ok (.dup2, jx_len .dup2)) (h : jx_op (72, 0, 0) S = some S') (k : JK G p e R s m args below meth c nL n0 w0 nE wE Q (pc + jx_len .dup2) S') : JK G p e R s m args below meth c nL n0 w0 nE wE Q pc S := by
  obtain ⟨hx, hb, hml, hown, hG, hRc, hRs, hini⟩ := id X
  obtain ⟨L, st0, σ⟩ := S
  obtain ⟨v, w, st, hs, hc, hc2, rfl⟩ := jo_dup2_i h
  have hs : st0 = _ := hs
  subst hs
  exact jk_st (fun H locs ls cells slots _ _ kk => lv_dup2_11 hx hb hd (by rw [jv_cat]; exact hc) (by rw [jv_cat]; exact hc2) kk) k
theorem jw_dup_x1 (X : JX G p R s m meth c cc nL n0 w0 nE wE own ini) {S S' : JS}  (hd : decode cc pc = .ok (.dup_x1, jx_len .dup_x1)) (h : jx_op (73, 0, 0) S = some S') (k : JK G p e R s m args below meth c nL n0 w0 nE wE Q (pc + jx_len .dup_x1) S') : JK G p e R s m args below meth c nL n0 w0 nE wE Q pc S := by
  obtain ⟨hx, hb, hml, hown, hG, hRc, hRs, hini⟩ := id X
  obtain ⟨L, st0, σ⟩ := S
  obtain ⟨v, w, st, hs, hc, hc2, rfl⟩ := jo_dupx1_i h
  have hs : st0 = _ := hs
  subst hs
  exact jk_st (fun H locs ls cells slots _ _ kk => lv_dup_x1 hx hb hd (by rw [jv_cat]; exact hc) (by rw [jv_cat]; exact hc2) kk) k
end JW
end
section
/-! ===== instructions on cells ===== -/
section JW
variable {G : JG} {p : Program} {e : Env} {R : Room} {s : State} {m : MethodId} {args : Array Value} {below : List Frame} {meth : Method} {c : Code} {cc : ByteArray} {n0 w0 nE wE nL own : Nat} {ini : Bool} {Q : State → Prop} {pc : Nat} {σ : JH} {H : Heap} {locs : List Loc} {cells slots : Nat} {ls : Array Slot} {rest : List Value}
theorem jw_getfield (X : JX G p R s m meth c cc nL n0 w0 nE wE own ini) {S S' : JS} {ix : Nat} {o : JO} (ho : jx_fld own ix false ini = some o) (hd : decode cc pc = .ok (.getfield ix, 3)) (h : jx_op o S = some S') (k : JK G p e R s m args below meth c nL n0 w0 nE wE Q (pc + 3) S') : JK G p e R s m args below meth c nL n0 w0 nE wE Q pc S := by
  obtain ⟨L, st0, σ⟩ := S
  obtain ⟨ci, kk, nest, hf, hh⟩ := jx_fld_get ho
  rcases hh with ⟨rfl, ht⟩ | ⟨rfl, ht⟩ | ⟨rfl, ht⟩
  · obtain ⟨a, n, st, hs, ha, rfl⟩ := jo_getI_i (ci := ci) (k := kk) h
    have hs : st0 = _ := hs
    subst hs
    exact jk_st (fun H locs ls cells slots _ hM k9 => jw_get X hf hM ha hd (by rw [jf_0 ht]; exact k9)) k
  · obtain ⟨a, n, st, hs, ha, rfl⟩ := jo_getJ_i (ci := ci) (k := kk) h
    have hs : st0 = _ := hs
    subst hs
    exact jk_st (fun H locs ls cells slots _ hM k9 => jw_get X hf hM ha hd (by rw [jf_1 ht]; exact k9)) k
  · obtain ⟨a, n, st, hs, ha, rfl⟩ := jo_getR_i (ci := ci) (k := kk) h
    have hs : st0 = _ := hs
    subst hs
    exact jk_st (fun H locs ls cells slots _ hM k9 => jw_get X hf hM ha hd (by rw [jf_2 ht]; exact k9)) k
theorem jw_putfield (X : JX G p R s m meth c cc nL n0 w0 nE wE own ini) {S S' : JS} {ix : Nat} {o : JO} (ho : jx_fld own ix true ini = some o) (hd : decode cc pc = .ok (.putfield ix, 3)) (h : jx_op o S = some S') (k : JK G p e R s m args below meth c nL n0 w0 nE wE Q (pc + 3) S') : JK G p e R s m args below meth c nL n0 w0 nE wE Q pc S := by
  obtain ⟨L, st0, σ⟩ := S
  obtain ⟨ci, kk, nest, hf, hh⟩ := jx_fld_put ho
  have pI : ∀ ty : FieldType, jt_ty ci kk = ty → jt_k ty = 0 → (jt_f ci kk).2.2.1 = false → jo_putI ci kk ty (L, st0, σ) = some S' → JK G p e R s m args below meth c nL n0 w0 nE wE Q pc (L, st0, σ) := by
    intro ty ht ht0 hfin h
    obtain ⟨x, a, n, st, hs, ha, hn, hft, rfl⟩ := jo_putI_i (ci := ci) (k := kk) h
    have hs : st0 = _ := hs
    subst hs
    exact jk_wr (σ' := jh_setI σ a kk x) rfl (fun H locs ls cells slots hM hlo k9 => jw_put (v := .int x) (σ' := jh_setI σ a kk x) X hf hM ha hd (Or.inl hfin) (by rw [ht]; exact hn) (by rw [ht]; exact hft) rfl (fun b j hb => ju_ne _ _ hb) (fun b j hb => rfl) (fun b j hb => rfl)
      (by rw [ht, jf_0 ht0]; exact congrArg _ (ju_at _ _ _ _)) hlo k9) k
  have pR : (jt_k (jt_ty ci kk) = 2) → (∀ v : Value, narrow (jt_ty ci kk) v = v) → (∀ r : Nat, fits (jt_ty ci kk) (.ref r) = true) → ((jt_f ci kk).2.2.1 = false ∨ ((jt_f ci kk).2.2.1 = true ∧ nest = false ∧ ci = own ∧ meth.name = "<init>")) → jo_putR ci kk (L, st0, σ) = some S' → JK G p e R s m args below meth c nL n0 w0 nE wE Q pc (L, st0, σ) := by
    intro ht hn hft hfin h
    obtain ⟨x, a, n, st, hs, ha, rfl⟩ := jo_putR_i (ci := ci) (k := kk) h
    have hs : st0 = _ := hs
    subst hs
    exact jk_wr (σ' := jh_setR σ a kk (some x)) rfl (fun H locs ls cells slots hM hlo k9 => jw_put (v := .ref x) (σ' := jh_setR σ a kk (some x)) X hf hM ha hd hfin (hn _) (hft _) rfl (fun b j hb => rfl) (fun b j hb => rfl) (fun b j hb => ju_ne _ _ hb)
      (by rw [jf_2 ht]; exact congrArg va_rf (ju_at _ _ _ _)) hlo k9) k
  rcases hh with ⟨rfl, ht, hfin⟩ | ⟨rfl, ht, hfin⟩ | ⟨rfl, ⟨C, ht⟩, hfin⟩ | ⟨rfl, ht, hfin⟩ | ⟨rfl, ht, hfin⟩ | ⟨rfl, ht, hfin, hi, hne, hco⟩
  · exact pI .int ht rfl hfin h
  · obtain ⟨x, a, n, st, hs, ha, rfl⟩ := jo_putJ_i (ci := ci) (k := kk) h
    have hs : st0 = _ := hs
    subst hs
    exact jk_wr (σ' := jh_setJ σ a kk x) rfl (fun H locs ls cells slots hM hlo k9 => jw_put (v := .long x) (σ' := jh_setJ σ a kk x) X hf hM ha hd (Or.inl hfin) (by rw [ht]; rfl) (by rw [ht]; rfl) rfl (fun b j hb => rfl) (fun b j hb => ju_ne _ _ hb) (fun b j hb => rfl)
      (by rw [ht, jf_1 rfl]; exact congrArg _ (ju_at _ _ _ _)) hlo k9) k
  · exact pR (by rw [ht]; rfl) (fun v => by rw [ht]; cases v <;> rfl) (fun r => by rw [ht]; rfl) (Or.inl hfin) h
  · exact pI .boolean ht rfl hfin h
  · exact pI .char ht rfl hfin h
  · rcases ht with ⟨C, ht⟩ | ⟨C, ht⟩
    · exact pR (by rw [ht]; rfl) (fun v => by rw [ht]; cases v <;> rfl) (fun r => by rw [ht]; rfl) (Or.inr ⟨hfin, hne, hco, X.2.2.2.2.2.2.2 hi⟩) h
    · exact pR (by rw [ht]; rfl) (fun v => by rw [ht]; cases v <;> rfl) (fun r => by rw [ht]; rfl) (Or.inr ⟨hfin, hne, hco, X.2.2.2.2.2.2.2 hi⟩) h
theorem jw_iaload (X : JX G p R s m meth c cc nL n0 w0 nE wE own ini) {S S' : JS} (hd : decode cc pc = .ok (.iaload, 1)) (h : jo_ldI [100, 200] S = some S') (k : JK G p e R s m args below meth c nL n0 w0 nE wE Q (pc + 1) S') : JK G p e R s m args below meth c nL n0 w0 nE wE Q pc S := by
  obtain ⟨hx, hb, hml, hown, hG, hRc, hRs, hini⟩ := id X
  obtain ⟨L, st0, σ⟩ := S
  obtain ⟨i, a, t, n, st, hs, ha, ht, hin, rfl⟩ := jo_ldI_i h
  have hs : st0 = _ := hs
  subst hs
  refine jk_st (fun H locs ls cells slots _ hM k9 => ?_) k
  have ht : t = 100 ∨ t = 200 := by simpa using ht
  rcases ht with ht | ht
  · subst ht
    obtain ⟨-, hc⟩ := jm_arr hM ha (by decide) (by decide)
    exact W.iald hx hb hc ((hG.2.2.1 100 (by decide) (by decide)).1 n _) (fun q => by cases q) (jw_in hin) (jw_el hin) rfl rfl hd k9
  · obtain ⟨cell, g1, g2, g3, g4, g5, g6⟩ := jw_rowT hG hM ha ht
    exact W.iald (v := .int (σ.2.1 a i.toNatClampNeg)) hx hb g1 g2 g3 (fun q => hin (q.elim Or.inl (fun q => Or.inr (Nat.le_trans g4 q)))) (g6 _ (Nat.not_le.mp fun q => hin (Or.inr q))) rfl rfl hd k9
theorem jw_baload (X : JX G p R s m meth c cc nL n0 w0 nE wE own ini) {S S' : JS} (hd : decode cc pc = .ok (.baload, 1)) (h : jo_ldI [102, 103] S = some S') (k : JK G p e R s m args below meth c nL n0 w0 nE wE Q (pc + 1) S') : JK G p e R s m args below meth c nL n0 w0 nE wE Q pc S := by
  obtain ⟨hx, hb, hml, hown, hG, hRc, hRs, hini⟩ := id X
  obtain ⟨L, st0, σ⟩ := S
  obtain ⟨i, a, t, n, st, hs, ha, ht, hin, rfl⟩ := jo_ldI_i h
  have hs : st0 = _ := hs
  subst hs
  refine jk_st (fun H locs ls cells slots _ hM k9 => ?_) k
  have ht : t = 102 ∨ t = 103 := by simpa using ht
  rcases ht with ht | ht
  · subst ht
    obtain ⟨-, hc⟩ := jm_arr hM ha (by decide) (by decide)
    exact W.bald hx hb hc ((hG.2.2.1 102 (by decide) (by decide)).1 n _) (fun q => by cases q) (jw_in hin) (jw_el hin) rfl rfl hd k9
  · subst ht
    obtain ⟨-, hc⟩ := jm_arr hM ha (by decide) (by decide)
    exact W.zald hx hb hc ((hG.2.2.1 103 (by decide) (by decide)).1 n _) (fun q => by cases q) (jw_in hin) (jw_el hin) rfl rfl hd k9
theorem jw_laload (X : JX G p R s m meth c cc nL n0 w0 nE wE own ini) {S S' : JS} (hd : decode cc pc = .ok (.laload, 1)) (h : jo_ldJ S = some S') (k : JK G p e R s m args below meth c nL n0 w0 nE wE Q (pc + 1) S') : JK G p e R s m args below meth c nL n0 w0 nE wE Q pc S := by
  obtain ⟨hx, hb, hml, hown, hG, hRc, hRs, hini⟩ := id X
  obtain ⟨L, st0, σ⟩ := S
  obtain ⟨i, a, n, st, hs, ha, hin, rfl⟩ := jo_ldJ_i h
  have hs : st0 = _ := hs
  subst hs
  refine jk_st (fun H locs ls cells slots _ hM k9 => ?_) k
  obtain ⟨-, hc⟩ := jm_arr hM ha (by decide) (by decide)
  exact W.lald hx hb hc ((hG.2.2.1 101 (by decide) (by decide)).1 n _) (fun q => by cases q) (jw_in hin) (jw_el hin) rfl rfl hd k9
theorem jw_aaload (X : JX G p R s m meth c cc nL n0 w0 nE wE own ini) {S S' : JS} (hd : decode cc pc = .ok (.aaload, 1)) (h : jo_ldR S = some S') (k : JK G p e R s m args below meth c nL n0 w0 nE wE Q (pc + 1) S') : JK G p e R s m args below meth c nL n0 w0 nE wE Q pc S := by
  obtain ⟨hx, hb, hml, hown, hG, hRc, hRs, hini⟩ := id X
  obtain ⟨L, st0, σ⟩ := S
  obtain ⟨i, a, t, n, st, hs, ha, ht, hin, rfl⟩ := jo_ldR_i h
  have hs : st0 = _ := hs
  subst hs
  refine jk_st (fun H locs ls cells slots _ hM k9 => ?_) k
  rcases ht with ht | ht
  · subst ht
    obtain ⟨-, hc⟩ := jm_arr hM ha (by decide) (by decide)
    exact W.aald hx hb hc ((hG.2.2.1 104 (by decide) (by decide)).1 n _) rfl (fun q => by cases q) (jw_in hin) (jw_el hin) rfl rfl hd k9
  · obtain ⟨cell, g1, g2, g3, g4, g5, g6⟩ := jw_rowW hG hM ha ht
    exact W.aald (v := jv G (va_rf (σ.2.2.2 a i.toNatClampNeg))) hx hb g1 g2 rfl g3 (fun q => hin (q.elim Or.inl (fun q => Or.inr (Nat.le_trans g4 q)))) (g6 _ (Nat.not_le.mp fun q => hin (Or.inr q))) rfl rfl hd k9
theorem jw_arraylength (X : JX G p R s m meth c cc nL n0 w0 nE wE own ini) {S S' : JS} (hd : decode cc pc = .ok (.arraylength, 1)) (h : jo_len S = some S') (k : JK G p e R s m args below meth c nL n0 w0 nE wE Q (pc + 1) S') : JK G p e R s m args below meth c nL n0 w0 nE wE Q pc S := by
  obtain ⟨hx, hb, hml, hown, hG, hRc, hRs, hini⟩ := id X
  obtain ⟨L, st0, σ⟩ := S
  obtain ⟨a, t, n, st, hs, ha, ht, rfl⟩ := jo_len_i h
  have hs : st0 = _ := hs
  subst hs
  refine jk_st (fun H locs ls cells slots _ hM k9 => ?_) k
  by_cases h4 : t ≤ 104
  · obtain ⟨-, hc⟩ := jm_arr hM ha ht h4
    exact W.alen (n := Int32.ofNat n) hx hb hc ((hG.2.2.1 t ht h4).1 n _) (by rw [arrV_size] <;> rfl) rfl rfl hd k9
  · have h64 : a < 64 := by
      by_cases h : 64 ≤ a
      · rcases hM.2.2.2.1 a _ n h ha with ⟨h3, -⟩ | ⟨-, h3, -⟩ <;> omega
      · exact Nat.not_le.mp h
    rcases (hM.2.2.2.2.1 a t n h64 ha).1 with h9 | h9 | h9 | h9
    · exact absurd ht (by rw [h9]; decide)
    · exact absurd ht (by rw [h9]; decide)
    · obtain ⟨cell, g1, g2, g3, g4, g5, g6⟩ := jw_rowT hG hM ha h9
      exact W.alen (n := Int32.ofNat n) hx hb g1 g2 g5 rfl rfl hd k9
    · obtain ⟨cell, g1, g2, g3, g4, g5, g6⟩ := jw_rowW hG hM ha h9
      exact W.alen (n := Int32.ofNat n) hx hb g1 g2 g5 rfl rfl hd k9
theorem jw_loc {a k : Nat} (h64 : 64 ≤ a) (hlo : ∀ q ∈ locs, jg_sz G ≤ q.base) : ∀ q ∈ locs ++ [⟨jr G a, k⟩], jg_sz G ≤ q.base := fun q hq => by
  rcases List.mem_append.mp hq with h | h
  · exact hlo q h
  · rw [List.mem_singleton.mp h]
    exact jr_ge h64
theorem jw_iastore (X : JX G p R s m meth c cc nL n0 w0 nE wE own ini) {S S' : JS} (hd : decode cc pc = .ok (.iastore, 1)) (h : jo_stI S = some S') (k : JK G p e R s m args below meth c nL n0 w0 nE wE Q (pc + 1) S') : JK G p e R s m args below meth c nL n0 w0 nE wE Q pc S := by
  obtain ⟨hx, hb, hml, hown, hG, hRc, hRs, hini⟩ := id X
  obtain ⟨L, st0, σ⟩ := S
  obtain ⟨x, i, a, n, st, hs, ha, hin, rfl⟩ := jo_stI_i h
  have hs : st0 = _ := hs
  subst hs
  refine jk_wr (σ' := jh_setI σ a i.toNatClampNeg x) rfl (fun H locs ls cells slots hM hlo k9 => ?_) k
  obtain ⟨h64, hc⟩ := jm_arr hM ha (by decide) (by decide)
  exact W.iast hx hb hc ((hG.2.2.1 100 (by decide) (by decide)).1 n _) (fun q => by cases q) (jw_in hin) rfl rfl hd (fun H1 e1 e2 e3 => k9 H1 _ (jm_ast hM rfl ha (by decide) (by decide) e1 e2 e3 (fun b j hb => ju_ne _ _ hb) (fun b j hb => rfl) (fun b j hb => rfl) (by rw [jf_0 rfl]; exact congrArg Value.int (ju_at _ _ _ _))) (jw_loc h64 hlo))
theorem jw_lastore (X : JX G p R s m meth c cc nL n0 w0 nE wE own ini) {S S' : JS} (hd : decode cc pc = .ok (.lastore, 1)) (h : jo_stJ S = some S') (k : JK G p e R s m args below meth c nL n0 w0 nE wE Q (pc + 1) S') : JK G p e R s m args below meth c nL n0 w0 nE wE Q pc S := by
  obtain ⟨hx, hb, hml, hown, hG, hRc, hRs, hini⟩ := id X
  obtain ⟨L, st0, σ⟩ := S
  obtain ⟨x, i, a, n, st, hs, ha, hin, rfl⟩ := jo_stJ_i h
  have hs : st0 = _ := hs
  subst hs
  refine jk_wr (σ' := jh_setJ σ a i.toNatClampNeg x) rfl (fun H locs ls cells slots hM hlo k9 => ?_) k
  obtain ⟨h64, hc⟩ := jm_arr hM ha (by decide) (by decide)
  exact W.last hx hb hc ((hG.2.2.1 101 (by decide) (by decide)).1 n _) (fun q => by cases q) (jw_in hin) rfl rfl hd (fun H1 e1 e2 e3 => k9 H1 _ (jm_ast hM rfl ha (by decide) (by decide) e1 e2 e3 (fun b j hb => rfl) (fun b j hb => ju_ne _ _ hb) (fun b j hb => rfl) (by rw [jf_1 rfl]; exact congrArg Value.long (ju_at _ _ _ _))) (jw_loc h64 hlo))
theorem jw_nar {t : Nat} (h : t = 102 ∨ t = 103) (x : Int32) : Value.int (vp_nar (jt_at t) x) = narrow (jt_at t) (.int x) := by
  rcases h with rfl | rfl <;> rfl
theorem jw_bastore (X : JX G p R s m meth c cc nL n0 w0 nE wE own ini) {S S' : JS} (hd : decode cc pc = .ok (.bastore, 1)) (h : jo_stB S = some S') (k : JK G p e R s m args below meth c nL n0 w0 nE wE Q (pc + 1) S') : JK G p e R s m args below meth c nL n0 w0 nE wE Q pc S := by
  obtain ⟨hx, hb, hml, hown, hG, hRc, hRs, hini⟩ := id X
  obtain ⟨L, st0, σ⟩ := S
  obtain ⟨x, i, a, t, n, st, hs, ha, ht, hin, rfl⟩ := jo_stB_i h
  have hs : st0 = _ := hs
  subst hs
  refine jk_wr (σ' := jh_setI σ a i.toNatClampNeg (vp_nar (jt_at t) x)) rfl (fun H locs ls cells slots hM hlo k9 => ?_) k
  have hnar := jw_nar ht x
  rcases ht with rfl | rfl
  · obtain ⟨h64, hc⟩ := jm_arr hM ha (by decide) (by decide)
    exact W.bast hx hb hc ((hG.2.2.1 102 (by decide) (by decide)).1 n _) (fun q => by cases q) (jw_in hin) rfl rfl hd (fun H1 e1 e2 e3 => k9 H1 _ (jm_ast hM rfl ha (by decide) (by decide) e1 e2 e3 (fun b j hb => ju_ne _ _ hb) (fun b j hb => rfl) (fun b j hb => rfl) (by rw [jf_0 rfl]; exact (congrArg (fun z => jv G (Value.int z)) (ju_at _ _ _ _)).trans hnar)) (jw_loc h64 hlo))
  · obtain ⟨h64, hc⟩ := jm_arr hM ha (by decide) (by decide)
    exact W.zast hx hb hc ((hG.2.2.1 103 (by decide) (by decide)).1 n _) (fun q => by cases q) (jw_in hin) rfl rfl hd (fun H1 e1 e2 e3 => k9 H1 _ (jm_ast hM rfl ha (by decide) (by decide) e1 e2 e3 (fun b j hb => ju_ne _ _ hb) (fun b j hb => rfl) (fun b j hb => rfl) (by rw [jf_0 rfl]; exact (congrArg (fun z => jv G (Value.int z)) (ju_at _ _ _ _)).trans hnar)) (jw_loc h64 hlo))
theorem jw_aastore (X : JX G p R s m meth c cc nL n0 w0 nE wE own ini) {S S' : JS} (hd : decode cc pc = .ok (.aastore, 1)) (h : jo_stR S = some S') (k : JK G p e R s m args below meth c nL n0 w0 nE wE Q (pc + 1) S') : JK G p e R s m args below meth c nL n0 w0 nE wE Q pc S := by
  obtain ⟨hx, hb, hml, hown, hG, hRc, hRs, hini⟩ := id X
  obtain ⟨L, st0, σ⟩ := S
  obtain ⟨x, i, a, n, st, hs, ha, hin, hv, rfl⟩ := jo_stR_i h
  have hs : st0 = _ := hs
  subst hs
  refine jk_wr (σ' := jh_setR σ a i.toNatClampNeg (some x)) rfl (fun H locs ls cells slots hM hlo k9 => ?_) k
  obtain ⟨h64, hc⟩ := jm_arr hM ha (by decide) (by decide)
  obtain ⟨-, -, cv, q1, q2, q3, -⟩ := jm_obj hM hv (by decide)
  obtain ⟨hS, hfc, kC, hkC, hkind⟩ := hG.2.1.1 3 _ (jt_cls_at (by decide))
  obtain ⟨kA, comp, g1, g2, g3, g4⟩ := (hG.2.2.1 104 (by decide) (by decide)).2
  have hcc : comp = (jg_D G).1 3 := Option.some.inj (g3.symm.trans hfc)
  refine W.aast hx hb hc (fun q h => by cases h) (fun q => by cases q) g1 g2 rfl (kcomp := kC) (by rw [hcc]; exact hkC) ⟨fun q => hin (Or.inl q), by rw [arrV_size]; exact Nat.not_le.mp fun q => hin (Or.inr q)⟩ q1 (fun q h => by rw [q3] at h; cases h) (kv := kC) (by rw [q2]; exact hkC) (by rw [q2, hcc]; exact va_assign (hG.2.1.1 3 _ (jt_cls_at (by decide))).2) rfl rfl hd (fun H1 e1 e2 e3 => k9 H1 _ (jm_ast hM rfl ha (by decide) (by decide) e1 e2 e3 (fun b j hb => rfl) (fun b j hb => rfl) (fun b j hb => ju_ne _ _ hb) (by rw [jf_2 rfl]; exact congrArg (fun z => jv G (va_rf z)) (ju_at _ _ _ _))) (jw_loc h64 hlo))
end JW
end
section
/-! ===== new cells; a step's law ===== -/
theorem jt_def : ∀ ci, ci < 12 → ∀ k, k < jt_N ci → defaultValue (jt_ty ci k) = (match jt_k (jt_ty ci k) with | 0 => Value.int 0 | 1 => Value.long 0 | _ => Value.null) := by decide +kernel
theorem jt_arrs : ∀ t ∈ [FieldType.int, FieldType.long, FieldType.byte, FieldType.boolean], Cond.arrayClass t ∈ lw_tbl := by decide +kernel
section JW
variable {G : JG} {p : Program} {e : Env} {R : Room} {s : State} {m : MethodId} {args : Array Value} {below : List Frame} {meth : Method} {c : Code} {cc : ByteArray} {n0 w0 nE wE nL own : Nat} {ini : Bool} {Q : State → Prop} {pc : Nat} {σ : JH} {H : Heap} {locs : List Loc} {cells slots : Nat} {ls : Array Slot} {rest : List Value}
theorem jh_new_n (σ : JH) (t n : Nat) : jh_n (jh_new σ t n) = jh_n σ + 1 := by unfold jh_n jh_new; simp
theorem jh_new_w (σ : JH) (t n : Nat) : jh_w (jh_new σ t n) = jh_w σ + n := by unfold jh_w jh_new; simp
theorem jf_new {σ : JH} {t n j : Nat} {ty : FieldType} : jf (jh_new σ t n) (jh_n σ) j ty = (match jt_k ty with | 0 => Value.int 0 | 1 => Value.long 0 | _ => Value.null) := by
  unfold jf jh_new jh_n
  simp only [if_pos]
  rfl
theorem jk_new {pc pc' : Nat} {L : JL} {st st' : List Value} {σ : JH} {t n : Nat} (X : JX G p R s m meth c cc nL n0 w0 nE wE own ini)
    (h : ∀ (H : Heap) (locs : List Loc) (ls : Array Slot) (cells slots : Nat), jm G σ s H → cells + 1 ≤ R.cells → slots + n ≤ R.slots → (∀ (H' : Heap), jm G (jh_new σ t n) s H' → W p (jg_l G) e R s m args below meth c H' locs (cells + 1) (slots + n) Q (F0 m pc' ls (.ref H.size :: st'.map (jv G)))) → W p (jg_l G) e R s m args below meth c H locs cells slots Q (F0 m pc ls (st.map (jv G))))
    (k : JK G p e R s m args below meth c nL n0 w0 nE wE Q pc' (L, .ref σ.1.length :: st', jh_new σ t n)) : JK G p e R s m args below meth c nL n0 w0 nE wE Q pc (L, st, σ) := by
  obtain ⟨k1, k2, k3⟩ := k
  have e1 := jh_new_n σ t n
  have e2 := jh_new_w σ t n
  simp only [e1, e2] at k1 k2 k3
  refine ⟨by show jh_n σ ≤ nE; omega, by show jh_w σ ≤ wE; omega, fun H locs ls h1 h2 h3 h4 h5 => ?_⟩
  have h1' : n0 ≤ jh_n σ := h1
  have h2' : w0 ≤ jh_w σ := h2
  refine h H locs ls _ _ h3 (by rw [X.2.2.2.2.2.1]; show jh_n σ - n0 + 1 ≤ _; omega) (by rw [X.2.2.2.2.2.2.1]; show jh_w σ - w0 + n ≤ _; omega) fun H' hM => ?_
  have h9 := k3 H' locs ls (by omega) (by omega) hM h4 h5
  rw [show jh_n σ + 1 - n0 = jh_n σ - n0 + 1 by omega, show jh_w σ + n - w0 = jh_w σ - w0 + n by omega] at h9
  have h10 : jv G (.ref σ.1.length) = .ref H.size := congrArg Value.ref (jr_new h3)
  rw [List.map_cons, h10] at h9
  exact h9
theorem jw_new (X : JX G p R s m meth c cc nL n0 w0 nE wE own ini) {S S' : JS} {ix ci : Nat} (hl : jt_nw own ix = some ci) (hd : decode cc pc = .ok (.new ix, 3)) (h : jo_new ci S = some S') (k : JK G p e R s m args below meth c nL n0 w0 nE wE Q (pc + 3) S') : JK G p e R s m args below meth c nL n0 w0 nE wE Q pc S := by
  obtain ⟨hx, hb, hml, hown, hG, hRc, hRs, hini⟩ := id X
  obtain ⟨L, st0, σ⟩ := S
  cases h
  obtain ⟨hw, hci⟩ := jt_nw_at hl
  have hin := (jt_ix_ok ci hci)
  refine jk_new X (fun H locs ls cells slots hM hc hs kk => ?_) k
  have hKn := hG.2.1.1 ci _ (jt_cls_at hci)
  refine W.newcK hx hb hown (jx_word hG hw rfl rfl) (jx_word hG (List.mem_of_getElem? hin.1) rfl rfl) (jx_word hG (List.mem_of_getElem? hin.2) rfl rfl) rfl hd hc hs hKn.2.1 rfl fun H' kC hkC e1 e2 e3 => ?_
  refine kk H' (jm_new hM e2 e3 (Or.inl ⟨hci, rfl, ?_⟩))
  have h1 := u_born (args := #[]) (jt_ty ci) (jx_lays hG hci) (fun _ h => h) hKn hkC e1 (jt_ty_ok ci hci)
  rw [jr_new hM]
  exact h1.to (fun k hk => by rw [jf_new, jt_def ci hci k hk]; cases jt_ty ci k <;> rfl)
theorem jw_newarray (X : JX G p R s m meth c cc nL n0 w0 nE wE own ini) {S S' : JS} {t : Nat} {aty : ArrayType} (ht : (aty = .int ∧ t = 100) ∨ (aty = .long ∧ t = 101) ∨ (aty = .byte ∧ t = 102) ∨ (aty = .boolean ∧ t = 103)) (hd : decode cc pc = .ok (.newarray aty, 2)) (h : jo_newa t S = some S') (k : JK G p e R s m args below meth c nL n0 w0 nE wE Q (pc + 2) S') : JK G p e R s m args below meth c nL n0 w0 nE wE Q pc S := by
  obtain ⟨hx, hb, hml, hown, hG, hRc, hRs, hini⟩ := id X
  obtain ⟨L, st0, σ⟩ := S
  obtain ⟨n, st, hs, hn, hle, rfl⟩ := jo_newa_i h
  have hs : st0 = _ := hs
  subst hs
  refine jk_new X (fun H locs ls cells slots hM hc hs kk => ?_) k
  have hty : newarray.typeOf aty = jt_at t := by rcases ht with ⟨rfl, rfl⟩ | ⟨rfl, rfl⟩ | ⟨rfl, rfl⟩ | ⟨rfl, rfl⟩ <;> rfl
  have hmem : Cond.arrayClass (newarray.typeOf aty) ∈ lw_tbl := jt_arrs _ (by rcases ht with ⟨rfl, rfl⟩ | ⟨rfl, rfl⟩ | ⟨rfl, rfl⟩ | ⟨rfl, rfl⟩ <;> decide)
  have h100 : 100 ≤ t ∧ t ≤ 104 := by rcases ht with ⟨rfl, rfl⟩ | ⟨rfl, rfl⟩ | ⟨rfl, rfl⟩ | ⟨rfl, rfl⟩ <;> decide
  have hbytes : n.toNatClampNeg * componentBytes (newarray.typeOf aty) ≤ 536870912 := by
    refine Nat.le_trans (Nat.mul_le_mul_right _ hle) ?_
    rcases ht with ⟨rfl, rfl⟩ | ⟨rfl, rfl⟩ | ⟨rfl, rfl⟩ | ⟨rfl, rfl⟩ <;> decide
  refine va_newaK hx hb (by have h9 := hG.1 _ hmem rfl; exact h9) rfl hd rfl hn rfl hbytes hc hs rfl fun H' cA e1 e2 e3 hA hNm => ?_
  have hcA : cA = jg_A G t := by
    have h2 := (hG.2.2.1 t h100.1 h100.2).2
    rw [hty] at hNm
    refine Option.some.inj (hNm.symm.trans ?_)
    rcases ht with ⟨rfl, rfl⟩ | ⟨rfl, rfl⟩ | ⟨rfl, rfl⟩ | ⟨rfl, rfl⟩ <;> exact h2
  refine kk H' (jm_new hM e2 e3 (Or.inr ⟨h100.1, h100.2, ?_⟩))
  rw [jr_new hM, e1, hcA]
  congr 2
  funext j
  rw [jf_new, hty]
  rcases ht with ⟨rfl, rfl⟩ | ⟨rfl, rfl⟩ | ⟨rfl, rfl⟩ | ⟨rfl, rfl⟩ <;> rfl
theorem jw_anewarray (X : JX G p R s m meth c cc nL n0 w0 nE wE own ini) {S S' : JS} {ix : Nat} (hl : jt_nw own ix = some 3) (hd : decode cc pc = .ok (.anewarray ix, 3)) (h : jo_newa 104 S = some S') (k : JK G p e R s m args below meth c nL n0 w0 nE wE Q (pc + 3) S') : JK G p e R s m args below meth c nL n0 w0 nE wE Q pc S := by
  obtain ⟨hx, hb, hml, hown, hG, hRc, hRs, hini⟩ := id X
  obtain ⟨L, st0, σ⟩ := S
  obtain ⟨n, st, hs, hn, hle, rfl⟩ := jo_newa_i h
  have hs : st0 = _ := hs
  subst hs
  obtain ⟨hw, hci⟩ := jt_nw_at hl
  refine jk_new X (fun H locs ls cells slots hM hc hs kk => ?_) k
  refine W.anew hx hb hown (C := "CellarTurns$Muddle") (jx_word hG hw rfl rfl) (va_AO.use hG.2.2.2.1) rfl hd rfl hn (Nat.le_trans (Nat.mul_le_mul_right _ hle) (by decide)) hc hs fun cA kA comp g1 g2 g3 g4 => ?_
  have hcA : cA = jg_A G 104 := by
    obtain ⟨kA', comp', f1, f2, f3, f4⟩ := (hG.2.2.1 104 (by decide) (by decide)).2
    exact Option.some.inj (g1.symm.trans f4)
  refine kk _ (jm_new hM (by simp) (fun q hq => by rw [Array.getElem?_push, if_neg (Nat.ne_of_lt hq)]) (Or.inr ⟨by decide, by decide, ?_⟩))
  rw [jr_new hM, Array.getElem?_push, if_pos rfl, hcA, arrV_new]
  congr 2
  funext j
  rw [jf_new]
  rfl
theorem jw_step (X : JX G p R s m meth c cc nL n0 w0 nE wE own ini) {i : Instr} {o : JO} (ho : jx_of own ini i = some o) (hd : decode cc pc = .ok (i, jx_len i)) {S S' : JS} (h : jx_op o S = some S') (k : JK G p e R s m args below meth c nL n0 w0 nE wE Q (pc + jx_len i) S') : JK G p e R s m args below meth c nL n0 w0 nE wE Q pc S := by
  cases i with
  | iconst n => cases ho; exact jw_iconst X hd h k
  | bipush n => cases ho; exact jw_bipush X hd h k
  | sipush n => cases ho; exact jw_sipush X hd h k
  | lconst n => cases ho; exact jw_lconst X hd h k
  | ldc ix =>
    simp only [jx_of] at ho
    split at ho
    · rename_i v hv; cases ho; exact jw_ldc X hv hd h k
    · cases ho
  | ldc_w ix =>
    simp only [jx_of] at ho
    split at ho
    · rename_i v hv; cases ho; exact jw_ldc_w X hv hd h k
    · cases ho
  | ldc2_w ix =>
    simp only [jx_of] at ho
    split at ho
    · rename_i v hv; cases ho; exact jw_ldc2 X hv hd h k
    · cases ho
  | iload i => cases ho; exact jw_iload X hd h k
  | iload_n i => cases ho; exact jw_iload_n X hd h k
  | lload i => cases ho; exact jw_lload X hd h k
  | lload_n i => cases ho; exact jw_lload_n X hd h k
  | aload i => cases ho; exact jw_aload X hd h k
  | aload_n i => cases ho; exact jw_aload_n X hd h k
  | istore i => cases ho; exact jw_istore X hd h k
  | istore_n i => cases ho; exact jw_istore_n X hd h k
  | lstore i => cases ho; exact jw_lstore X hd h k
  | lstore_n i => cases ho; exact jw_lstore_n X hd h k
  | astore i => cases ho; exact jw_astore X hd h k
  | astore_n i => cases ho; exact jw_astore_n X hd h k
  | iinc i n => cases ho; exact jw_iinc X hd h k
  | iadd => cases ho; exact jw_iadd X hd h k
  | isub => cases ho; exact jw_isub X hd h k
  | imul => cases ho; exact jw_imul X hd h k
  | idiv => cases ho; exact jw_idiv X hd h k
  | irem => cases ho; exact jw_irem X hd h k
  | ineg => cases ho; exact jw_ineg X hd h k
  | iand => cases ho; exact jw_iand X hd h k
  | ior => cases ho; exact jw_ior X hd h k
  | ixor => cases ho; exact jw_ixor X hd h k
  | ishl => cases ho; exact jw_ishl X hd h k
  | ishr => cases ho; exact jw_ishr X hd h k
  | iushr => cases ho; exact jw_iushr X hd h k
  | ladd => cases ho; exact jw_ladd X hd h k
  | lsub => cases ho; exact jw_lsub X hd h k
  | lmul => cases ho; exact jw_lmul X hd h k
  | ldiv => cases ho; exact jw_ldiv X hd h k
  | lrem => cases ho; exact jw_lrem X hd h k
  | land => cases ho; exact jw_land X hd h k
  | lor => cases ho; exact jw_lor X hd h k
  | lxor => cases ho; exact jw_lxor X hd h k
  | lshl => cases ho; exact jw_lshl X hd h k
  | lshr => cases ho; exact jw_lshr X hd h k
  | lushr => cases ho; exact jw_lushr X hd h k
  | lcmp => cases ho; exact jw_lcmp X hd h k
  | i2l => cases ho; exact jw_i2l X hd h k
  | l2i => cases ho; exact jw_l2i X hd h k
  | i2b => cases ho; exact jw_i2b X hd h k
  | i2c => cases ho; exact jw_i2c X hd h k
  | getfield ix => exact jw_getfield X ho hd h k
  | putfield ix => exact jw_putfield X ho hd h k
  | iaload => cases ho; exact jw_iaload X hd h k
  | laload => cases ho; exact jw_laload X hd h k
  | baload => cases ho; exact jw_baload X hd h k
  | aaload => cases ho; exact jw_aaload X hd h k
  | iastore => cases ho; exact jw_iastore X hd h k
  | lastore => cases ho; exact jw_lastore X hd h k
  | bastore => cases ho; exact jw_bastore X hd h k
  | aastore => cases ho; exact jw_aastore X hd h k
  | arraylength => cases ho; exact jw_arraylength X hd h k
  | new ix =>
    simp only [jx_of] at ho
    split at ho
    · rename_i v hv; cases ho; exact jw_new X hv hd h k
    · cases ho
  | newarray t =>
    cases t with
    | int => cases ho; exact jw_newarray X (Or.inl ⟨rfl, rfl⟩) hd h k
    | long => cases ho; exact jw_newarray X (Or.inr (Or.inl ⟨rfl, rfl⟩)) hd h k
    | byte => cases ho; exact jw_newarray X (Or.inr (Or.inr (Or.inl ⟨rfl, rfl⟩))) hd h k
    | boolean => cases ho; exact jw_newarray X (Or.inr (Or.inr (Or.inr ⟨rfl, rfl⟩))) hd h k
    | _ => cases ho
  | anewarray ix =>
    simp only [jx_of] at ho
    split at ho
    · rename_i hv; cases ho; exact jw_anewarray X hv hd h k
    · cases ho
  | dup => cases ho; exact jw_dup X hd h k
  | pop => cases ho; exact jw_pop X hd h k
  | dup2 => cases ho; exact jw_dup2 X hd h k
  | dup_x1 => cases ho; exact jw_dup_x1 X hd h k
  | _ => cases ho
end JW
end
section
/-! ===== methods: what a call of one does, as a function ===== -/
section JW
variable {G : JG} {p : Program} {e : Env} {R : Room} {s : State} {m : MethodId} {args : Array Value} {below : List Frame} {meth : Method} {c : Code} {cc : ByteArray} {n0 w0 nE wE nL own : Nat} {ini : Bool} {Q : State → Prop} {pc : Nat} {σ : JH} {H : Heap} {locs : List Loc} {cells slots : Nat} {ls : Array Slot} {rest : List Value}
theorem jt_warm {w : Cond} {s U : State} (hg : jt_gw w = true) (hW : s.WarmedH U.vm) (h : w.before #[] s = true) : w.before #[] U = true := by
  unfold jt_gw at hg
  rw [Bool.or_eq_true] at hg
  rcases hg with hg | hg
  · exact word_at hW (good_of_word hg) h
  · split at hg
    · exact va_Nw.warmF hW h
    · exact va_Nw.warmM hW h
    · exact va_Nw.warmD hW h
    · exact va_Nw.warmC hW h
    · cases hg
theorem JGl.warm {s U : State} (h : JGl G s) (hW : s.WarmedH U.vm) : JGl G U := by
  obtain ⟨h1, h2, h3, h4, h5, h6⟩ := h
  exact ⟨fun w hw hg => jt_warm hg hW (h1 w hw hg), va_K.moved hW.alike h2, fun t a b => ⟨arrOfT_moved hW.alike (h3 t a b).1, (h3 t a b).2.moved hW.alike⟩, va_AO.moved hW.alike h4, fun q hq => va_Z.moved hW.alike (h5 q hq), h6⟩
theorem jst.moved {u U : State} (hvm : u.vm.Alike U.vm) (h : jst G σ u) : jst G σ U := by
  intro i t n hi hx
  obtain ⟨h1, h2, h3, h4⟩ := h i t n hi hx
  refine ⟨h1, fun ht => ?_, fun ht => va_T.moved hvm (h3 ht), fun ht => va_T.moved hvm (h4 ht)⟩
  obtain ⟨g1, g2, g3, g4⟩ := h2 ht
  exact ⟨va_O.moved hvm g1, va_OF.moved hvm g2, va_OF.moved hvm g3, va_OF.moved hvm g4⟩
theorem jm.moved {u U : State} (hvm : u.vm.Alike U.vm) (h : jm G σ u H) : jm G σ U H := by
  obtain ⟨h1, h2, h3, h4, h5, h6⟩ := h
  exact ⟨h1, h2, h3, h4, jst.moved hvm h5, h6⟩
def JPc (G : JG) (av : List Value) (σ : JH) : Array Value → State → Prop := fun a U => a = (av.map (jv G)).toArray ∧ jm G σ U U.heap ∧ JGl G U
def JQc (G : JG) (v : Option Value) (σ' : JH) : Array Value → State → Outcome → State → Prop := fun _ _ o t => o = .returned (v.map (jv G)) ∧ jm G σ' t t.heap
def jrm (d k n : Nat) : Room := { frames := d, cells := k, slots := n, locals := 64 * d }
/-- a call of y does what f says, with d frames at most -/
def JSem (G : JG) (y : MethodName) (cc : ByteArray) (maxL : Nat) (ret : Option FieldType) (d : Nat) (f : JF) : Prop :=
  ∀ (av : List Value) (σ : JH) (v : Option Value) (σ' : JH), f av σ = some (v, σ') → jh_n σ ≤ jh_n σ' ∧ jh_w σ ≤ jh_w σ' ∧
    Met (jg_l G) y [Cond.code y cc maxL ret] (jrm d (jh_n σ' - jh_n σ) (jh_w σ' - jh_w σ)) (JPc G av σ) (JQc G v σ') (jh_n σ' - jh_n σ) (jh_w σ' - jh_w σ) (fun q => jg_sz G ≤ q)
def JD (R : Room) (d : Nat) : Prop := d ≤ R.frames ∧ 64 * d ≤ R.locals
theorem jpc_blind {av : List Value} : FrameBlind (JPc G av σ) := by
  intro a U g mk h
  obtain ⟨h1, h2, h3⟩ := h
  refine ⟨h1, ?_, ?_⟩
  · exact jm.moved (u := U) (U := U.calling g mk a) (Vm.Alike.refl U.vm) h2
  · obtain ⟨g1, g2, g3, g4, g5, g6⟩ := h3
    have hvm : (U.calling g mk a).vm = U.vm := rfl
    refine ⟨fun w hw hg => ?_, va_K.moved (u := U) (Vm.Alike.refl U.vm) g2, fun t a1 b1 => ⟨arrOfT_moved (u := U) (Vm.Alike.refl U.vm) (g3 t a1 b1).1, (g3 t a1 b1).2.moved (u := U) (Vm.Alike.refl U.vm)⟩, va_AO.moved (u := U) (Vm.Alike.refl U.vm) g4, fun q hq => va_Z.moved (u := U) (Vm.Alike.refl U.vm) (g5 q hq), g6⟩
    have hb := g1 w hw hg
    by_cases ht : w.onTables = true
    · exact va_tabs ht hvm.symm hb
    · cases w <;> first | exact hb | (exact absurd rfl ht) | (cases hg)
/-- behind a call -/
theorem jk_call {y : MethodName} {cY : ByteArray} {maxL d : Nat} {ret : Option FieldType} {f : JF} {av : List Value} {L : JL} {st st0 : List Value} {v : Option Value} {σ' : JH} (X : JX G p R s m meth c cc nL n0 w0 nE wE own ini) (hS : JSem G y cY maxL ret d f) (hf : f av σ = some (v, σ'))
    (hr : ∀ (H : Heap) (locs : List Loc) (ls : Array Slot) (cells slots : Nat), ls.size = nL → jm G σ s H → Met (jg_l G) y [Cond.code y cY maxL ret] (jrm d (jh_n σ' - jh_n σ) (jh_w σ' - jh_w σ)) (JPc G av σ) (JQc G v σ') (jh_n σ' - jh_n σ) (jh_w σ' - jh_w σ) (fun q => jg_sz G ≤ q) →
      cells + (jh_n σ' - jh_n σ) ≤ R.cells ∧ slots + (jh_w σ' - jh_w σ) ≤ R.slots → (∀ U : State, U.heap = H → s.WarmedH U.vm → JPc G av σ (av.map (jv G)).toArray U) →
      va_Run p (jg_l G) e R s m args below meth c H locs cells slots (jh_n σ' - jh_n σ) (jh_w σ' - jh_w σ) (F0 m pc ls (st0.map (jv G))) (st.map (jv G)) (JQc G v σ' (av.map (jv G)).toArray) (fun q => jg_sz G ≤ q))
    (k : JK G p e R s m args below meth c nL n0 w0 nE wE Q (pc + 3) (L, v.toList ++ st, σ')) : JK G p e R s m args below meth c nL n0 w0 nE wE Q pc (L, st0, σ) := by
  obtain ⟨hn, hw, hM⟩ := hS av σ v σ' hf
  obtain ⟨k1, k2, k3⟩ := k
  have k1 : jh_n σ' ≤ nE := k1
  have k2 : jh_w σ' ≤ wE := k2
  refine ⟨Nat.le_trans hn k1, Nat.le_trans hw k2, fun H locs ls h1 h2 h3 h4 h5 => ?_⟩
  have h1 : n0 ≤ jh_n σ := h1
  have h2 : w0 ≤ jh_w σ := h2
  have hcap : (jh_n σ - n0) + (jh_n σ' - jh_n σ) ≤ R.cells ∧ (jh_w σ - w0) + (jh_w σ' - jh_w σ) ≤ R.slots := by
    rw [X.2.2.2.2.2.1, X.2.2.2.2.2.2.1]
    omega
  have hrun := hr H locs ls (jh_n σ - n0) (jh_w σ - w0) h5.1 h3 hM hcap (fun U hU hWm => ⟨rfl, by rw [hU]; exact jm.moved hWm.alike h3, X.2.2.2.2.1.warm hWm⟩)
  intro T hT X0
  obtain ⟨v', st₀, t, T', L', e0, X', hL, e1, e2, hQ, hgo⟩ := hrun T hT X0
  obtain ⟨q1, q2⟩ := hQ
  have q1 : v' = v.map (jv G) := Outcome.returned.inj q1
  subst q1
  have hMt : jm G σ' s T'.heap := by
    rw [e1]
    exact jm.moved (by rw [← e2]; exact X'.warmed.alike.symm) q2
  have h9 := k3 T'.heap (locs ++ L') ls (Nat.le_trans h1 hn) (Nat.le_trans h2 hw) hMt (fun q hq => by
    rcases List.mem_append.mp hq with h | h
    · exact h4 q h
    · exact hL q h) h5
  have ec : (jh_n σ - n0) + (jh_n σ' - jh_n σ) = jh_n σ' - n0 := by omega
  have ew : (jh_w σ - w0) + (jh_w σ' - jh_w σ) = jh_w σ' - w0 := by omega
  rw [ec, ew] at X'
  obtain ⟨t2, a1, b1⟩ := h9 T' rfl X'
  refine ⟨t2, hgo t2 ?_, b1⟩
  have es : (v.map (jv G)).toList ++ st.map (jv G) = (v.toList ++ st).map (jv G) := by cases v <;> simp
  show Steps p.tables e below (T'.setTop { method := m, pc := pc + 3, locals := ls, stack := (v.map (jv G)).toList ++ st.map (jv G), locked := none }) t2
  rw [es]
  exact a1
end JW
end
section
/-! ===== pieces of code without a branch, and calls ===== -/
/-- nothing that was made goes -/
def jmono (σ σ' : JH) : Prop := jh_n σ ≤ jh_n σ' ∧ jh_w σ ≤ jh_w σ'
theorem jmono.rf (σ : JH) : jmono σ σ := ⟨Nat.le_refl _, Nat.le_refl _⟩
theorem jmono.tr {a b c : JH} (h : jmono a b) (h' : jmono b c) : jmono a c := ⟨Nat.le_trans h.1 h'.1, Nat.le_trans h.2 h'.2⟩
/-- F is what the code does from place i to place j -/
def JSl (G : JG) (own : Nat) (ini : Bool) (cc : ByteArray) (d nL i j : Nat) (F : JN) : Prop :=
  (∀ S S', F S = some S' → jmono S.2.2 S'.2.2) ∧
  ∀ (p : Program) (e : Env) (R : Room) (s : State) (m : MethodId) (args : Array Value) (below : List Frame) (meth : Method) (c : Code) (n0 w0 nE wE : Nat) (Q : State → Prop),
    JX G p R s m meth c cc nL n0 w0 nE wE own ini → JD R d → ∀ S S', F S = some S' → JK G p e R s m args below meth c nL n0 w0 nE wE Q j S' → JK G p e R s m args below meth c nL n0 w0 nE wE Q i S
def jn (F F' : JN) : JN := fun s => (F s).bind F'
def jx_cv (n ci : Nat) (f : JF) : JN := fun s => match (s.2.1.take n).reverse with
  | .ref a :: r => match s.2.2.1[a]? with
    | some (t, _) => if t = ci ∧ ((s.2.1.drop n).map (fun v => v.category)).sum ≤ 8 ∧ r.length + 1 = n then (f (.ref a :: r) s.2.2).bind (fun q => some (s.1, q.1.toList ++ s.2.1.drop n, q.2)) else none
    | none => none
  | _ => none
def jx_ci (n : Nat) (f : JF) : JN := fun s => match (s.2.1.take n).reverse with
  | .ref a :: r => if ((s.2.1.drop n).map (fun v => v.category)).sum ≤ 8 ∧ r.length + 1 = n then (f (.ref a :: r) s.2.2).bind (fun q => some (s.1, q.1.toList ++ s.2.1.drop n, q.2)) else none
  | _ => none
def jx_cs (n : Nat) (f : JF) : JN := fun s => if ((s.2.1.drop n).map (fun v => v.category)).sum ≤ 8 ∧ (s.2.1.take n).length = n then (f (s.2.1.take n).reverse s.2.2).bind (fun q => some (s.1, q.1.toList ++ s.2.1.drop n, q.2)) else none
/-- Object's own constructor -/
def jx_oi : JN := fun s => match s.2.1 with
  | .ref _ :: st => if (st.map (fun v => v.category)).sum ≤ 8 then some (s.1, st, s.2.2) else none
  | _ => none
def jx_end (own : Nat) (ini : Bool) (cc : ByteArray) : Nat → List JO → Option Nat
  | pc, [] => some pc
  | pc, o :: r => match decode cc pc with
    | .ok (i, len) => if jx_of own ini i = some o ∧ len = jx_len i then jx_end own ini cc (pc + len) r else none
    | .error _ => none
theorem jh_set_mono {σ σ' : JH} (h : σ'.1 = σ.1) : jmono σ σ' := by
  unfold jmono jh_n jh_w
  rw [h]
  exact ⟨Nat.le_refl _, Nat.le_refl _⟩
theorem jh_new_mono (σ : JH) (t n : Nat) : jmono σ (jh_new σ t n) := ⟨by rw [jh_new_n]; omega, by rw [jh_new_w]; omega⟩
theorem jx_op_mono {o : JO} {S S' : JS} (h : jx_op o S = some S') : jmono S.2.2 S'.2.2 := by
  obtain ⟨F, hF⟩ : ∃ F, jx_op o = F := ⟨_, rfl⟩
  rw [hF] at h
  unfold jx_op at hF
  split at hF <;> subst hF
  all_goals first
    | (exact absurd (show (none : Option JS) = some S' from h) (by simp))
    | (cases h; exact jmono.rf _)
    | (obtain ⟨x, h1, rfl⟩ := jo_iload_i h; exact jmono.rf _)
    | (obtain ⟨x, h1, rfl⟩ := jo_lload_i h; exact jmono.rf _)
    | (obtain ⟨x, h1, rfl⟩ := jo_aload_i h; exact jmono.rf _)
    | (obtain ⟨x, st, h1, h2, rfl⟩ := jo_istore_i h; exact jmono.rf _)
    | (obtain ⟨x, st, h1, h2, rfl⟩ := jo_lstore_i h; exact jmono.rf _)
    | (obtain ⟨x, st, h1, h2, rfl⟩ := jo_astore_i h; exact jmono.rf _)
    | (obtain ⟨x, h1, rfl⟩ := jo_iinc_i h; exact jmono.rf _)
    | (obtain ⟨x, y, st, h1, rfl⟩ := jo_ii_i h; exact jmono.rf _)
    | (obtain ⟨x, y, st, h1, h2, rfl⟩ := jo_id_i h; exact jmono.rf _)
    | (obtain ⟨x, st, h1, rfl⟩ := jo_i_i h; exact jmono.rf _)
    | (obtain ⟨x, y, st, h1, rfl⟩ := jo_ll_i h; exact jmono.rf _)
    | (obtain ⟨x, y, st, h1, h2, rfl⟩ := jo_lq_i h; exact jmono.rf _)
    | (obtain ⟨x, y, st, h1, rfl⟩ := jo_li_i h; exact jmono.rf _)
    | (obtain ⟨x, y, st, h1, rfl⟩ := jo_lcmp_i h; exact jmono.rf _)
    | (obtain ⟨x, st, h1, rfl⟩ := jo_i2l_i h; exact jmono.rf _)
    | (obtain ⟨x, st, h1, rfl⟩ := jo_l2i_i h; exact jmono.rf _)
    | (obtain ⟨a, n, st, h1, h2, rfl⟩ := jo_getI_i h; exact jmono.rf _)
    | (obtain ⟨a, n, st, h1, h2, rfl⟩ := jo_getJ_i h; exact jmono.rf _)
    | (obtain ⟨a, n, st, h1, h2, rfl⟩ := jo_getR_i h; exact jmono.rf _)
    | (obtain ⟨x, a, n, st, h1, h2, h3, h4, rfl⟩ := jo_putI_i h; exact jh_set_mono rfl)
    | (obtain ⟨x, a, n, st, h1, h2, rfl⟩ := jo_putJ_i h; exact jh_set_mono rfl)
    | (obtain ⟨x, a, n, st, h1, h2, rfl⟩ := jo_putR_i h; exact jh_set_mono rfl)
    | (obtain ⟨i, a, t, n, st, h1, h2, h3, h4, rfl⟩ := jo_ldI_i h; exact jmono.rf _)
    | (obtain ⟨i, a, n, st, h1, h2, h3, rfl⟩ := jo_ldJ_i h; exact jmono.rf _)
    | (obtain ⟨i, a, t, n, st, h1, h2, h3, h4, rfl⟩ := jo_ldR_i h; exact jmono.rf _)
    | (obtain ⟨x, i, a, n, st, h1, h2, h3, rfl⟩ := jo_stI_i h; exact jh_set_mono rfl)
    | (obtain ⟨x, i, a, n, st, h1, h2, h3, rfl⟩ := jo_stJ_i h; exact jh_set_mono rfl)
    | (obtain ⟨x, i, a, t, n, st, h1, h2, h3, h4, rfl⟩ := jo_stB_i h; exact jh_set_mono rfl)
    | (obtain ⟨x, i, a, n, st, h1, h2, h3, h4, rfl⟩ := jo_stR_i h; exact jh_set_mono rfl)
    | (obtain ⟨a, t, n, st, h1, h2, h3, rfl⟩ := jo_len_i h; exact jmono.rf _)
    | (obtain ⟨n, st, h1, h2, h3, rfl⟩ := jo_newa_i h; exact jh_new_mono _ _ _)
    | (cases h; exact jh_new_mono _ _ _)
    | (obtain ⟨v, st, h1, h2, rfl⟩ := jo_dup_i h; exact jmono.rf _)
    | (obtain ⟨v, st, h1, h2, rfl⟩ := jo_pop_i h; exact jmono.rf _)
    | (obtain ⟨v, w, st, h1, h2, h3, rfl⟩ := jo_dup2_i h; exact jmono.rf _)
    | (obtain ⟨v, w, st, h1, h2, h3, rfl⟩ := jo_dupx1_i h; exact jmono.rf _)
section JW
variable {G : JG} {p : Program} {e : Env} {R : Room} {s : State} {m : MethodId} {args : Array Value} {below : List Frame} {meth : Method} {c : Code} {cc : ByteArray} {n0 w0 nE wE nL own d : Nat} {ini : Bool} {Q : State → Prop} {pc i j k : Nat} {σ : JH}
theorem jsl_run {ops : List JO} : ∀ {i : Nat}, jx_end own ini cc i ops = some j → JSl G own ini cc d nL i j (jx_run ops) := by
  induction ops with
  | nil =>
    intro i h
    cases h
    exact ⟨fun S S' h => by cases h; exact jmono.rf _, fun p e R s m args below meth c n0 w0 nE wE Q X D S S' h k => by cases h; exact k⟩
  | cons o r ih =>
    intro i h
    unfold jx_end at h
    split at h
    · rename_i ins len hd
      split at h
      · rename_i hc
        obtain ⟨h1, h2⟩ := hc
        subst h2
        have ih' := ih h
        refine ⟨fun S S' h => ?_, fun p e R s m args below meth c n0 w0 nE wE Q X D S S' h k => ?_⟩
        · obtain ⟨S1, g1, g2⟩ := Option.bind_eq_some_iff.mp h
          exact (jx_op_mono g1).tr (ih'.1 _ _ g2)
        · obtain ⟨S1, g1, g2⟩ := Option.bind_eq_some_iff.mp h
          exact jw_step X h1 hd g1 (ih'.2 p e R s m args below meth c n0 w0 nE wE Q X D S1 S' g2 k)
      · cases h
    · cases h
theorem jsl_n {F F' : JN} (h : JSl G own ini cc d nL i j F) (h' : JSl G own ini cc d nL j k F') : JSl G own ini cc d nL i k (jn F F') := by
  refine ⟨fun S S' q => ?_, fun p e R s m args below meth c n0 w0 nE wE Q X D S S' q kk => ?_⟩
  · obtain ⟨S1, g1, g2⟩ := Option.bind_eq_some_iff.mp q
    exact (h.1 _ _ g1).tr (h'.1 _ _ g2)
  · obtain ⟨S1, g1, g2⟩ := Option.bind_eq_some_iff.mp q
    exact h.2 p e R s m args below meth c n0 w0 nE wE Q X D S S1 g1 (h'.2 p e R s m args below meth c n0 w0 nE wE Q X D S1 S' g2 kk)
theorem jsl_oi {ix : Nat} (hl : Cond.methodLink (jt_own.getD own "") ix objectInit ∈ lw_tbl) (hd1 : 1 ≤ d) (hd : decode cc i = .ok (.invokespecial ix, 3)) : JSl G own ini cc d nL i (i + 3) jx_oi := by
  have inv : ∀ S S', jx_oi S = some S' → ∃ a st, S.2.1 = .ref a :: st ∧ (st.map (fun v => v.category)).sum ≤ 8 ∧ S' = (S.1, st, S.2.2) := by
    intro S S' h
    unfold jx_oi at h
    split at h
    · rename_i a st hs
      split at h
      · rename_i h8; cases h; exact ⟨a, st, hs, h8, rfl⟩
      · cases h
    · cases h
  refine ⟨fun S S' q => ?_, fun p e R s m args below meth c n0 w0 nE wE Q X D S S' q kk => ?_⟩
  · obtain ⟨a, st, h1, h2, rfl⟩ := inv S S' q
    exact jmono.rf _
  · obtain ⟨L, st0, σ⟩ := S
    obtain ⟨a, st, hs, h8, rfl⟩ := inv _ _ q
    have hs : st0 = _ := hs
    subst hs
    obtain ⟨hx, hb, hml, hown, hG, hRc, hRs, hini⟩ := id X
    refine jk_st (fun H locs ls cells slots hl5 hM k9 => ?_) kk
    exact W.objInit hx hb hown (jx_word hG hl rfl rfl) (jx_word hG (List.mem_of_getElem? (i := 152) (by decide +kernel)) rfl rfl) (jx_word hG (List.mem_of_getElem? (i := 153) (by decide +kernel)) rfl rfl) rfl (by rw [hml]; exact hl5.1) rfl hd (Nat.le_trans hd1 D.1)
      (by
        have e8 : ((st.map (jv G)).map fun v => v.category).sum ≤ 8 := by
          rw [List.map_map]
          rw [show ((fun v : Value => v.category) ∘ jv G) = (fun v : Value => v.category) from funext fun v => jv_cat v]
          exact h8
        have := D.2
        have e9 : 2 * (F0 m i ls (jv G (.ref a) :: st.map (jv G))).monitorRoom + ((st.map (jv G)).map fun v => v.category).sum ≤ 8 := lv_room e8
        show 2 * (F0 m i ls (jv G (.ref a) :: st.map (jv G))).monitorRoom + ((st.map (jv G)).map fun v => v.category).sum + 12 ≤ R.locals
        omega) k9
/-- what the tables say of a method that is called: its code, its class, how many parameters it has -/
def JMt (y : MethodName) (cY : ByteArray) (maxL : Nat) (ret : Option FieldType) (n : Nat) : Prop :=
  Cond.code y cY maxL ret ∈ lw_tbl ∧ Cond.initialized y.cls ∈ lw_tbl ∧ (y.cls ≠ "java/lang/invoke/MethodHandle" ∧ y.cls ≠ "java/lang/invoke/VarHandle") ∧ (parseMethodDescriptor y.desc).map (fun d => d.parameters.length) = some n ∧ maxL ≤ 45
theorem jm_cats {st : List Value} (h : (st.map (fun v => v.category)).sum ≤ 8) : ((st.map (jv G)).map fun v => v.category).sum ≤ 8 := by
  rw [List.map_map]
  rw [show ((fun v : Value => v.category) ∘ jv G) = (fun v : Value => v.category) from funext fun v => jv_cat v]
  exact h
theorem jm_room {d' maxL k n : Nat} (hd : d' + 1 ≤ d) (hmx : maxL ≤ 45) (D : JD R d) : (jrm d' k n).frames + 1 ≤ R.frames ∧ 8 + (maxL + 11) + (jrm d' k n).locals ≤ R.locals := by
  have h1 := D.1
  have h2 := D.2
  refine ⟨?_, ?_⟩
  · show d' + 1 ≤ R.frames
    omega
  · show 8 + (maxL + 11) + 64 * d' ≤ R.locals
    omega
theorem jm_par {y : MethodName} {n : Nat} (h : (parseMethodDescriptor y.desc).map (fun d => d.parameters.length) = some n) : ∀ sig, parseMethodDescriptor y.desc = some sig → n = sig.parameters.length := fun sig hs => by
  rw [hs] at h
  exact (Option.some.inj h).symm
theorem jm_words {y : MethodName} {cY : ByteArray} {maxL : Nat} {ret : Option FieldType} (hG : JGl G s) (hc : Cond.code y cY maxL ret ∈ lw_tbl) : ∀ w ∈ [Cond.code y cY maxL ret], ∀ (a' : Array Value) (U : State), s.WarmedH U.vm → w.before a' U = true := by
  intro w hw a' U hW
  rw [List.mem_singleton.mp hw]
  exact word_at (args := #[]) hW (Or.inl rfl) (hG.1 _ hc rfl)
theorem jx_cv_i {n ci : Nat} {f : JF} {S S' : JS} (h : jx_cv n ci f S = some S') : ∃ a r t v σ', (S.2.1.take n).reverse = .ref a :: r ∧ S.2.2.1[a]? = some (ci, t) ∧ ((S.2.1.drop n).map (fun v => v.category)).sum ≤ 8 ∧ r.length + 1 = n ∧ f (.ref a :: r) S.2.2 = some (v, σ') ∧ S' = (S.1, v.toList ++ S.2.1.drop n, σ') := by
  unfold jx_cv at h
  split at h
  · rename_i a r hr
    split at h
    · rename_i t n' ht
      split at h
      · rename_i hc
        obtain ⟨q, g1, g2⟩ := Option.bind_eq_some_iff.mp h
        obtain ⟨h1, h2, h3⟩ := hc
        subst h1
        cases g2
        exact ⟨a, r, n', q.1, q.2, hr, ht, h2, h3, g1, rfl⟩
      · cases h
    · cases h
  · cases h
theorem jx_ci_i {n : Nat} {f : JF} {S S' : JS} (h : jx_ci n f S = some S') : ∃ a r v σ', (S.2.1.take n).reverse = .ref a :: r ∧ ((S.2.1.drop n).map (fun v => v.category)).sum ≤ 8 ∧ r.length + 1 = n ∧ f (.ref a :: r) S.2.2 = some (v, σ') ∧ S' = (S.1, v.toList ++ S.2.1.drop n, σ') := by
  unfold jx_ci at h
  split at h
  · rename_i a r hr
    split at h
    · rename_i hc
      obtain ⟨q, g1, g2⟩ := Option.bind_eq_some_iff.mp h
      cases g2
      exact ⟨a, r, q.1, q.2, hr, hc.1, hc.2, g1, rfl⟩
    · cases h
  · cases h
theorem jx_cs_i {n : Nat} {f : JF} {S S' : JS} (h : jx_cs n f S = some S') : ∃ v σ', ((S.2.1.drop n).map (fun v => v.category)).sum ≤ 8 ∧ (S.2.1.take n).length = n ∧ f (S.2.1.take n).reverse S.2.2 = some (v, σ') ∧ S' = (S.1, v.toList ++ S.2.1.drop n, σ') := by
  unfold jx_cs at h
  split at h
  · rename_i hc
    obtain ⟨q, g1, g2⟩ := Option.bind_eq_some_iff.mp h
    cases g2
    exact ⟨q.1, q.2, hc.1, hc.2, g1, rfl⟩
  · cases h
theorem jst_split {st : List Value} {n : Nat} {a : Nat} {r : List Value} (h : (st.take n).reverse = .ref a :: r) : st.map (jv G) = (r.map (jv G)).reverse ++ .ref (jr G a) :: (st.drop n).map (jv G) := by
  have h1 : st.take n = (Value.ref a :: r).reverse := by rw [← h, List.reverse_reverse]
  have h2 : st = (Value.ref a :: r).reverse ++ st.drop n := by rw [← h1, List.take_append_drop]
  have h3 : st.map (jv G) = ((Value.ref a :: r).reverse ++ st.drop n).map (jv G) := congrArg _ h2
  rw [h3]
  simp [jv]
theorem jsl_cv {y : MethodName} {cY : ByteArray} {maxL d' n ci ix : Nat} {ret : Option FieldType} {f : JF} (hm : JMt y cY maxL ret n) (hin : Cond.instanceMethod y ∈ lw_tbl) (hse : Cond.selects y.cls y y ∈ lw_tbl) (hcls : y.cls = jt_C ci) (hci : ci < 12) (hS : JSem G y cY maxL ret d' f) (hdd : d' + 1 ≤ d)
    (hl : Cond.methodLink (jt_own.getD own "") ix y ∈ lw_tbl) (hd : decode cc i = .ok (.invokevirtual ix, 3)) : JSl G own ini cc d nL i (i + 3) (jx_cv (n + 1) ci f) := by
  refine ⟨fun S S' q => ?_, fun p e R s m args below meth c n0 w0 nE wE Q X D S S' q kk => ?_⟩
  · obtain ⟨a, r, t, v, σ', h1, h2, h3, h4, h5, rfl⟩ := jx_cv_i q
    obtain ⟨g1, g2, -⟩ := hS _ _ _ _ h5
    exact ⟨g1, g2⟩
  · obtain ⟨L, st0, σ⟩ := S
    obtain ⟨a, r, t, v, σ', h1, h2, h3, h4, h5, rfl⟩ := jx_cv_i q
    obtain ⟨hx, hb, hml, hown, hG, hRc, hRs, hini⟩ := id X
    refine jk_call X hS h5 (fun H locs ls cells slots hls hM hMet hcap hP => ?_) kk
    have hcell : ∃ cellB : Cell, H[jr G a]? = some cellB ∧ cellB.vm.isStatics = false ∧ s.vm.findClass (jt_C ci) = some cellB.cls := by
      obtain ⟨-, -, cell, q1, q2, q3, -⟩ := jm_obj hM h2 hci
      exact ⟨cell, q1, by rw [q3]; rfl, by rw [q2]; exact (hG.2.1.1 ci _ (jt_cls_at hci)).2.1⟩
    have hrm := jm_room (k := jh_n σ' - jh_n σ) (n := jh_w σ' - jh_w σ) hdd hm.2.2.2.2 D
    exact va_runV (Ts := []) (As := r.map (jv G)) (b := jr G a) (C := jt_C ci) ⟨hx, hb, hml, hown, fun w hw => absurd hw List.not_mem_nil⟩ hMet
      ⟨⟨rfl, rfl, hrm.1, hrm.2, jm_words hG hm.1, List.mem_cons_self, jx_word hG hm.1 rfl rfl, jx_word hG hm.2.1 rfl rfl, hm.2.2.1, jm_par hm.2.2.2.1, jx_word hG hl rfl rfl⟩, jx_word hG hin rfl rfl, by have h9 := jx_word (args := args) hG hse rfl rfl; rw [hcls] at h9; exact h9⟩
      ⟨jpc_blind, hcell, fun U hU hW => hP U hU hW⟩ rfl (by rw [List.length_map]; omega) hls (jst_split h1) (lv_room (jm_cats h3)) hd hcap
theorem jsl_ci {y : MethodName} {cY : ByteArray} {maxL d' n ix : Nat} {f : JF} (hm : JMt y cY maxL none n) (hin : Cond.instanceMethod y ∈ lw_tbl) (hy : y.name = "<init>") (hS : JSem G y cY maxL none d' f) (hdd : d' + 1 ≤ d)
    (hl : Cond.methodLink (jt_own.getD own "") ix y ∈ lw_tbl) (hd : decode cc i = .ok (.invokespecial ix, 3)) : JSl G own ini cc d nL i (i + 3) (jx_ci (n + 1) f) := by
  refine ⟨fun S S' q => ?_, fun p e R s m args below meth c n0 w0 nE wE Q X D S S' q kk => ?_⟩
  · obtain ⟨a, r, v, σ', h1, h3, h4, h5, rfl⟩ := jx_ci_i q
    obtain ⟨g1, g2, -⟩ := hS _ _ _ _ h5
    exact ⟨g1, g2⟩
  · obtain ⟨L, st0, σ⟩ := S
    obtain ⟨a, r, v, σ', h1, h3, h4, h5, rfl⟩ := jx_ci_i q
    obtain ⟨hx, hb, hml, hown, hG, hRc, hRs, hini⟩ := id X
    refine jk_call X hS h5 (fun H locs ls cells slots hls hM hMet hcap hP => ?_) kk
    have hrm := jm_room (k := jh_n σ' - jh_n σ) (n := jh_w σ' - jh_w σ) hdd hm.2.2.2.2 D
    exact va_runI (Ts := []) (As := r.map (jv G)) (b := jr G a) ⟨hx, hb, hml, hown, fun w hw => absurd hw List.not_mem_nil⟩ hMet
      ⟨⟨rfl, rfl, hrm.1, hrm.2, jm_words hG hm.1, List.mem_cons_self, jx_word hG hm.1 rfl rfl, jx_word hG hm.2.1 rfl rfl, hm.2.2.1, jm_par hm.2.2.2.1, jx_word hG hl rfl rfl⟩, hy, jx_word hG hin rfl rfl⟩
      ⟨jpc_blind, fun U hU hW => hP U hU hW⟩ rfl (by rw [List.length_map]; omega) hls (jst_split h1) (lv_room (jm_cats h3)) hd hcap
theorem jsl_ciN {y : MethodName} {cY : ByteArray} {maxL d' n ix : Nat} {f : JF} (hm : JMt y cY maxL none n) (hin : Cond.instanceMethod y ∈ lw_tbl) (hy : y.name = "<init>") (hS : JSem G y cY maxL none d' f) (hdd : d' + 1 ≤ d)
    (hl : Cond.methodLinkNest (jt_own.getD own "") ix y "CellarTurns" ∈ lw_tbl) (hd : decode cc i = .ok (.invokespecial ix, 3)) : JSl G own ini cc d nL i (i + 3) (jx_ci (n + 1) f) := by
  refine ⟨fun S S' q => ?_, fun p e R s m args below meth c n0 w0 nE wE Q X D S S' q kk => ?_⟩
  · obtain ⟨a, r, v, σ', h1, h3, h4, h5, rfl⟩ := jx_ci_i q
    obtain ⟨g1, g2, -⟩ := hS _ _ _ _ h5
    exact ⟨g1, g2⟩
  · obtain ⟨L, st0, σ⟩ := S
    obtain ⟨a, r, v, σ', h1, h3, h4, h5, rfl⟩ := jx_ci_i q
    obtain ⟨hx, hb, hml, hown, hG, hRc, hRs, hini⟩ := id X
    refine jk_call X hS h5 (fun H locs ls cells slots hls hM hMet hcap hP => ?_) kk
    have hrm := jm_room (k := jh_n σ' - jh_n σ) (n := jh_w σ' - jh_w σ) hdd hm.2.2.2.2 D
    exact va_runIN (Ts := []) (As := r.map (jv G)) (b := jr G a) (host := "CellarTurns") ⟨hx, hb, hml, hown, fun w hw => absurd hw List.not_mem_nil⟩ hMet
      ⟨⟨⟨rfl, rfl, hrm.1, hrm.2, jm_words hG hm.1, List.mem_cons_self⟩, jx_word hG hm.1 rfl rfl, jx_word hG hm.2.1 rfl rfl, hm.2.2.1, jm_par hm.2.2.2.1, jx_word hG hl rfl rfl⟩, hy, jx_word hG hin rfl rfl⟩
      ⟨jpc_blind, fun U hU hW => hP U hU hW⟩ rfl (by rw [List.length_map]; omega) hls (jst_split h1) (lv_room (jm_cats h3)) hd hcap
theorem jst_splitS {st : List Value} {n : Nat} : st.map (jv G) = (((st.take n).reverse).map (jv G)).reverse ++ (st.drop n).map (jv G) := by
  rw [← List.map_reverse, List.reverse_reverse, ← List.map_append, List.take_append_drop]
theorem jsl_cs {y : MethodName} {cY : ByteArray} {maxL d' n ix : Nat} {ret : Option FieldType} {f : JF} (hm : JMt y cY maxL ret n) (hst : Cond.static y ∈ lw_tbl) (hS : JSem G y cY maxL ret d' f) (hdd : d' + 1 ≤ d)
    (hl : Cond.methodLink (jt_own.getD own "") ix y ∈ lw_tbl) (hd : decode cc i = .ok (.invokestatic ix, 3)) : JSl G own ini cc d nL i (i + 3) (jx_cs n f) := by
  refine ⟨fun S S' q => ?_, fun p e R s m args below meth c n0 w0 nE wE Q X D S S' q kk => ?_⟩
  · obtain ⟨v, σ', h3, h4, h5, rfl⟩ := jx_cs_i q
    obtain ⟨g1, g2, -⟩ := hS _ _ _ _ h5
    exact ⟨g1, g2⟩
  · obtain ⟨L, st0, σ⟩ := S
    obtain ⟨v, σ', h3, h4, h5, rfl⟩ := jx_cs_i q
    obtain ⟨hx, hb, hml, hown, hG, hRc, hRs, hini⟩ := id X
    refine jk_call X hS h5 (fun H locs ls cells slots hls hM hMet hcap hP => ?_) kk
    have hrm := jm_room (k := jh_n σ' - jh_n σ) (n := jh_w σ' - jh_w σ) hdd hm.2.2.2.2 D
    exact va_runS (Ts := []) (As := (st0.take n).reverse.map (jv G)) ⟨hx, hb, hml, hown, fun w hw => absurd hw List.not_mem_nil⟩ hMet
      ⟨⟨rfl, rfl, hrm.1, hrm.2, jm_words hG hm.1, List.mem_cons_self, jx_word hG hm.1 rfl rfl, jx_word hG hm.2.1 rfl rfl, hm.2.2.1, jm_par hm.2.2.2.1, jx_word hG hl rfl rfl⟩, jx_word hG hst rfl rfl⟩
      ⟨jpc_blind, fun U hU hW => hP U hU hW⟩ rfl (by rw [List.length_map, List.length_reverse]; exact h4) hls jst_splitS (lv_room (jm_cats h3)) hd hcap
theorem jsl_csN {y : MethodName} {cY : ByteArray} {maxL d' n ix : Nat} {ret : Option FieldType} {f : JF} (hm : JMt y cY maxL ret n) (hst : Cond.static y ∈ lw_tbl) (hS : JSem G y cY maxL ret d' f) (hdd : d' + 1 ≤ d)
    (hl : Cond.methodLinkNest (jt_own.getD own "") ix y "CellarTurns" ∈ lw_tbl) (hd : decode cc i = .ok (.invokestatic ix, 3)) : JSl G own ini cc d nL i (i + 3) (jx_cs n f) := by
  refine ⟨fun S S' q => ?_, fun p e R s m args below meth c n0 w0 nE wE Q X D S S' q kk => ?_⟩
  · obtain ⟨v, σ', h3, h4, h5, rfl⟩ := jx_cs_i q
    obtain ⟨g1, g2, -⟩ := hS _ _ _ _ h5
    exact ⟨g1, g2⟩
  · obtain ⟨L, st0, σ⟩ := S
    obtain ⟨v, σ', h3, h4, h5, rfl⟩ := jx_cs_i q
    obtain ⟨hx, hb, hml, hown, hG, hRc, hRs, hini⟩ := id X
    refine jk_call X hS h5 (fun H locs ls cells slots hls hM hMet hcap hP => ?_) kk
    have hrm := jm_room (k := jh_n σ' - jh_n σ) (n := jh_w σ' - jh_w σ) hdd hm.2.2.2.2 D
    exact va_runSN (Ts := []) (As := (st0.take n).reverse.map (jv G)) (host := "CellarTurns") ⟨hx, hb, hml, hown, fun w hw => absurd hw List.not_mem_nil⟩ hMet
      ⟨⟨⟨rfl, rfl, hrm.1, hrm.2, jm_words hG hm.1, List.mem_cons_self⟩, jx_word hG hm.1 rfl rfl, jx_word hG hm.2.1 rfl rfl, hm.2.2.1, jm_par hm.2.2.2.1, jx_word hG hl rfl rfl⟩, jx_word hG hst rfl rfl, trivial⟩
      ⟨jpc_blind, fun U hU hW => hP U hU hW⟩ rfl (by rw [List.length_map, List.length_reverse]; exact h4) hls jst_splitS (lv_room (jm_cats h3)) hd hcap
end JW
end
section
/-! ===== branches, loops and ends: pieces that come out at a place that they say; 1000000 is the method's end ===== -/
def jt_t1 (f : Int32 → Bool) (s : JS) : Option (Bool × JS) := match s.2.1 with
  | .int x :: st => some (f x, s.1, st, s.2.2)
  | _ => none
def jt_t2 (f : Int32 → Int32 → Bool) (s : JS) : Option (Bool × JS) := match s.2.1 with
  | .int y :: .int x :: st => some (f x y, s.1, st, s.2.2)
  | _ => none
def jt_ta (f : Bool → Bool) (s : JS) : Option (Bool × JS) := match s.2.1 with
  | .ref y :: .ref x :: st => if x < 22 ∧ y < 22 then some (f (decide (x = y)), s.1, st, s.2.2) else none
  | _ => none
/-- the tests by their numbers -/
def jt_tst (c : Nat) : JS → Option (Bool × JS) := match c with
  | 0 => jt_t1 (fun x => decide (x = 0))
  | 1 => jt_t1 (fun x => !decide (x = 0))
  | 2 => jt_t1 (fun x => decide (x < 0))
  | 3 => jt_t1 (fun x => decide (0 ≤ x))
  | 4 => jt_t1 (fun x => decide (0 < x))
  | 5 => jt_t1 (fun x => decide (x ≤ 0))
  | 6 => jt_t2 (fun x y => decide (x = y))
  | 7 => jt_t2 (fun x y => !decide (x = y))
  | 8 => jt_t2 (fun x y => decide (x < y))
  | 9 => jt_t2 (fun x y => decide (y ≤ x))
  | 10 => jt_t2 (fun x y => decide (y < x))
  | 11 => jt_t2 (fun x y => decide (x ≤ y))
  | 12 => jt_ta (fun b => b)
  | 13 => jt_ta (fun b => !b)
  | _ => fun _ => none
def jx_tst (i : Instr) : Option (Nat × Int) := match i with
  | .ifCond .eq o => some (0, o)
  | .ifCond .ne o => some (1, o)
  | .ifCond .lt o => some (2, o)
  | .ifCond .ge o => some (3, o)
  | .ifCond .gt o => some (4, o)
  | .ifCond .le o => some (5, o)
  | .if_icmp .eq o => some (6, o)
  | .if_icmp .ne o => some (7, o)
  | .if_icmp .lt o => some (8, o)
  | .if_icmp .ge o => some (9, o)
  | .if_icmp .gt o => some (10, o)
  | .if_icmp .le o => some (11, o)
  | .if_acmp .eq o => some (12, o)
  | .if_acmp .ne o => some (13, o)
  | _ => none
def jb_go (F : JN) (t : Nat) : JP := fun s => (F s).bind (fun s' => some (t, s'))
def jb_if (F : JN) (c t f : Nat) : JP := fun s => (F s).bind (fun s' => (jt_tst c s').bind (fun q => some (if q.1 = true then t else f, q.2)))
def jb_sw (F : JN) (lo : Int) (ts : List Nat) (df : Nat) : JP := fun s => (F s).bind (fun s' => match s'.2.1 with
  | .int x :: st => some (if x.toInt < lo ∨ lo + ts.length ≤ x.toInt then df else ts.getD (x.toInt - lo).toNat df, s'.1, st, s'.2.2)
  | _ => none)
/-- a look-up: pairs of a number and a place -/
def jb_lk (F : JN) (ps : List (Int × Nat)) (df : Nat) : JP := fun s => (F s).bind (fun s' => match s'.2.1 with
  | .int x :: st => some ((ps.lookup x.toInt).getD df, s'.1, st, s'.2.2)
  | _ => none)
/-- the kinds of an end: 0 void, 1 int, 2 long, 3 a reference, 4 boolean (0 or 1) -/
def jb_rt (F : JN) (k : Nat) : JP := fun s => (F s).bind (fun s' => match k, s'.2.1 with
  | 0, [] => some (1000000, s')
  | 1, [.int _] => some (1000000, s')
  | 2, [.long _] => some (1000000, s')
  | 3, [.ref _] => some (1000000, s')
  | 4, [.int x] => if x = 0 ∨ x = 1 then some (1000000, s') else none
  | _, _ => none)
def jb_sq (P : JP) (h : Nat) (P' : JP) : JP := fun s => (P s).bind (fun q => if q.1 = h then P' q.2 else some q)
def jb_it (h : Nat) (P : JP) : Nat → JP
  | 0 => fun _ => none
  | n + 1 => fun s => (P s).bind (fun q => if q.1 = h then jb_it h P n q.2 else some q)
theorem jb_it_more {h : Nat} {P : JP} {n : Nat} : ∀ {s : JS} {r : Nat × JS}, jb_it h P n s = some r → jb_it h P (n + 1) s = some r := by
  induction n with
  | zero => intro s r hr; cases hr
  | succ n ih =>
    intro s r hr
    unfold jb_it at hr ⊢
    obtain ⟨q, h1, h2⟩ := Option.bind_eq_some_iff.mp hr
    refine Option.bind_eq_some_iff.mpr ⟨q, h1, ?_⟩
    split at h2
    · rename_i hq
      rw [if_pos hq]
      exact ih h2
    · rename_i hq
      rw [if_neg hq]
      exact h2
theorem jb_it_le {h : Nat} {P : JP} {n k : Nat} (hk : n ≤ k) {s : JS} {r : Nat × JS} (hr : jb_it h P n s = some r) : jb_it h P k s = some r := by
  induction hk with
  | refl => exact hr
  | step _ ih => exact jb_it_more ih
theorem jb_it_one {h : Nat} {P : JP} {n k : Nat} {s : JS} {r r' : Nat × JS} (h1 : jb_it h P n s = some r) (h2 : jb_it h P k s = some r') : r = r' := by
  have a := jb_it_le (Nat.le_max_left n k) h1
  have b := jb_it_le (Nat.le_max_right n k) h2
  exact Option.some.inj (a.symm.trans b)
/-- a loop that begins anew at h -/
noncomputable def jb_lp (h : Nat) (P : JP) : JP := fun s => @dite (Option (Nat × JS)) (∃ r n, jb_it h P n s = some r) (Classical.propDecidable _) (fun hx => some (Classical.choose hx)) (fun _ => none)
theorem jb_lp_of {h : Nat} {P : JP} {n : Nat} {s : JS} {r : Nat × JS} (hr : jb_it h P n s = some r) : jb_lp h P s = some r := by
  have hx : ∃ r n, jb_it h P n s = some r := ⟨r, n, hr⟩
  unfold jb_lp
  rw [dif_pos hx]
  obtain ⟨k, hk⟩ := Classical.choose_spec hx
  rw [jb_it_one hk hr]
theorem jb_lp_ex {h : Nat} {P : JP} {s : JS} {r : Nat × JS} (hr : jb_lp h P s = some r) : ∃ n, jb_it h P n s = some r := by
  by_cases hx : ∃ r n, jb_it h P n s = some r
  · obtain ⟨r', n, h1⟩ := hx
    have h2 := jb_lp_of h1
    rw [hr] at h2
    cases h2
    exact ⟨n, h1⟩
  · unfold jb_lp at hr
    rw [dif_neg hx] at hr
    cases hr
/-- a loop, by one more turn -/
theorem jb_lp_eq (h : Nat) (P : JP) (s : JS) : jb_lp h P s = (P s).bind (fun q => if q.1 = h then jb_lp h P q.2 else some q) := by
  cases hP : P s with
  | none =>
    cases hr : jb_lp h P s with
    | none => rfl
    | some r =>
      obtain ⟨n, hn⟩ := jb_lp_ex hr
      cases n with
      | zero => cases hn
      | succ n =>
        unfold jb_it at hn
        rw [hP] at hn
        cases hn
  | some q =>
    rw [Option.bind_some]
    by_cases hq : q.1 = h
    · rw [if_pos hq]
      cases hr : jb_lp h P q.2 with
      | none =>
        cases hr2 : jb_lp h P s with
        | none => rfl
        | some r =>
          obtain ⟨n, hn⟩ := jb_lp_ex hr2
          cases n with
          | zero => cases hn
          | succ n =>
            unfold jb_it at hn
            rw [hP, Option.bind_some, if_pos hq] at hn
            have := jb_lp_of hn
            rw [hr] at this
            cases this
      | some r =>
        obtain ⟨n, hn⟩ := jb_lp_ex hr
        refine jb_lp_of (n := n + 1) ?_
        unfold jb_it
        rw [hP, Option.bind_some, if_pos hq]
        exact hn
    · rw [if_neg hq]
      refine jb_lp_of (n := 1) ?_
      unfold jb_it
      rw [hP, Option.bind_some, if_neg hq]
/-- P is what the code does from place i on, until it comes out where P says -/
def JFr (G : JG) (own : Nat) (ini : Bool) (cc : ByteArray) (d nL : Nat) (ret : Option FieldType) (i : Nat) (P : JP) : Prop :=
  (∀ S q, P S = some q → jmono S.2.2 q.2.2.2) ∧
  ∀ (p : Program) (e : Env) (R : Room) (s : State) (m : MethodId) (args : Array Value) (below : List Frame) (meth : Method) (c : Code) (n0 w0 nE wE : Nat) (v : Option Value) (σE : JH),
    JX G p R s m meth c cc nL n0 w0 nE wE own ini → JD R d → meth.sig.returnType = ret → meth.locks = false → nE = jh_n σE → wE = jh_w σE → n0 ≤ nE → w0 ≤ wE → ∀ S q, P S = some q →
      (q.1 = 1000000 → q.2.2.1.head? = v ∧ q.2.2.2 = σE) →
      (¬ q.1 = 1000000 → JK G p e R s m args below meth c nL n0 w0 nE wE (MQ below (JQc G v σE) args s (nE - n0) (wE - w0) (fun a => jg_sz G ≤ a)) q.1 q.2) →
      JK G p e R s m args below meth c nL n0 w0 nE wE (MQ below (JQc G v σE) args s (nE - n0) (wE - w0) (fun a => jg_sz G ≤ a)) i S
section JW
variable {G : JG} {cc : ByteArray} {nL own d : Nat} {ini : Bool} {ret : Option FieldType} {i j k h : Nat}
theorem jfr_sq {P P' : JP} (h1 : JFr G own ini cc d nL ret i P) (h2 : JFr G own ini cc d nL ret h P') (hh : ¬ h = 1000000) : JFr G own ini cc d nL ret i (jb_sq P h P') := by
  refine ⟨fun S q hq => ?_, fun p e R s m args below meth c n0 w0 nE wE v σE X D hr hlk e1 e2 e3 e4 S q hq a b => ?_⟩
  · obtain ⟨q1, g1, g2⟩ := Option.bind_eq_some_iff.mp hq
    split at g2
    · exact (h1.1 _ _ g1).tr (h2.1 _ _ g2)
    · cases g2; exact h1.1 _ _ g1
  · obtain ⟨q1, g1, g2⟩ := Option.bind_eq_some_iff.mp hq
    split at g2
    · rename_i hq1
      refine h1.2 p e R s m args below meth c n0 w0 nE wE v σE X D hr hlk e1 e2 e3 e4 S q1 g1 (fun z => absurd (hq1 ▸ z) hh) (fun _ => ?_)
      rw [hq1]
      exact h2.2 p e R s m args below meth c n0 w0 nE wE v σE X D hr hlk e1 e2 e3 e4 q1.2 q g2 a b
    · cases g2
      exact h1.2 p e R s m args below meth c n0 w0 nE wE v σE X D hr hlk e1 e2 e3 e4 S _ g1 a b
theorem jfr_lp {P : JP} (h1 : JFr G own ini cc d nL ret h P) (hh : ¬ h = 1000000) : JFr G own ini cc d nL ret h (jb_lp h P) := by
  refine ⟨fun S q hq => ?_, fun p e R s m args below meth c n0 w0 nE wE v σE X D hr hlk e1 e2 e3 e4 S q hq a b => ?_⟩
  · obtain ⟨n, hn⟩ := jb_lp_ex hq
    clear hq
    induction n generalizing S with
    | zero => cases hn
    | succ n ih =>
      unfold jb_it at hn
      obtain ⟨q1, g1, g2⟩ := Option.bind_eq_some_iff.mp hn
      split at g2
      · exact (h1.1 _ _ g1).tr (ih _ g2)
      · cases g2; exact h1.1 _ _ g1
  · obtain ⟨n, hn⟩ := jb_lp_ex hq
    clear hq
    induction n generalizing S with
    | zero => cases hn
    | succ n ih =>
      unfold jb_it at hn
      obtain ⟨q1, g1, g2⟩ := Option.bind_eq_some_iff.mp hn
      split at g2
      · rename_i hq1
        refine h1.2 p e R s m args below meth c n0 w0 nE wE v σE X D hr hlk e1 e2 e3 e4 S q1 g1 (fun z => absurd (hq1 ▸ z) hh) (fun _ => ?_)
        rw [hq1]
        exact ih q1.2 g2
      · cases g2
        exact h1.2 p e R s m args below meth c n0 w0 nE wE v σE X D hr hlk e1 e2 e3 e4 S _ g1 a b
/-- a place that is t, or a jump to it -/
def jx_go (cc : ByteArray) (j t : Nat) : Bool := (j == t) || (match decode cc j with
  | .ok (.goto o, len) => len == 3 && (j : Int) + o == (t : Int)
  | _ => false)
theorem jk_go {p : Program} {e : Env} {R : Room} {s : State} {m : MethodId} {args : Array Value} {below : List Frame} {meth : Method} {c : Code} {n0 w0 nE wE : Nat} {Q : State → Prop} {t : Nat} {S : JS} (X : JX G p R s m meth c cc nL n0 w0 nE wE own ini) (hg : jx_go cc j t = true)
    (k : JK G p e R s m args below meth c nL n0 w0 nE wE Q t S) : JK G p e R s m args below meth c nL n0 w0 nE wE Q j S := by
  unfold jx_go at hg
  rw [Bool.or_eq_true] at hg
  rcases hg with hg | hg
  · rw [eq_of_beq hg]; exact k
  · split at hg
    · rename_i o len hd
      rw [Bool.and_eq_true] at hg
      have hl := eq_of_beq hg.1
      subst hl
      have ho : (j : Int) + o = (t : Int) := eq_of_beq hg.2
      obtain ⟨L, st, σ⟩ := S
      exact jk_st (fun H locs ls cells slots _ _ kk => lv_goto X.1 X.2.1 hd ho kk) k
    · cases hg
theorem jfr_go {F : JN} {t : Nat} (h1 : JSl G own ini cc d nL i j F) (hg : jx_go cc j t = true) (ht : ¬ t = 1000000) : JFr G own ini cc d nL ret i (jb_go F t) := by
  refine ⟨fun S q hq => ?_, fun p e R s m args below meth c n0 w0 nE wE v σE X D hr hlk e1 e2 e3 e4 S q hq a b => ?_⟩
  · obtain ⟨S1, g1, g2⟩ := Option.bind_eq_some_iff.mp hq
    cases g2
    exact h1.1 _ _ g1
  · obtain ⟨S1, g1, g2⟩ := Option.bind_eq_some_iff.mp hq
    cases g2
    exact h1.2 p e R s m args below meth c n0 w0 nE wE _ X D S S1 g1 (jk_go X hg (b ht))
/-- a test at place j: where it leads -/
def jx_if (cc : ByteArray) (j cn t f : Nat) : Bool := match decode cc j with
  | .ok (ins, len) => match jx_tst ins with
    | some (c', o) => c' == cn && len == 3 && (j : Int) + o == (t : Int) && j + 3 == f
    | none => false
  | .error _ => false
theorem jt_t1_i {f : Int32 → Bool} {S : JS} {q : Bool × JS} (h : jt_t1 f S = some q) : ∃ x st, S.2.1 = .int x :: st ∧ q = (f x, S.1, st, S.2.2) := by
  unfold jt_t1 at h
  split at h
  · rename_i x st hs; cases h; exact ⟨x, st, hs, rfl⟩
  · cases h
theorem jt_t2_i {f : Int32 → Int32 → Bool} {S : JS} {q : Bool × JS} (h : jt_t2 f S = some q) : ∃ x y st, S.2.1 = .int y :: .int x :: st ∧ q = (f x y, S.1, st, S.2.2) := by
  unfold jt_t2 at h
  split at h
  · rename_i y x st hs; cases h; exact ⟨x, y, st, hs, rfl⟩
  · cases h
theorem jt_ta_i {f : Bool → Bool} {S : JS} {q : Bool × JS} (h : jt_ta f S = some q) : ∃ x y st, S.2.1 = .ref y :: .ref x :: st ∧ x < 22 ∧ y < 22 ∧ q = (f (decide (x = y)), S.1, st, S.2.2) := by
  unfold jt_ta at h
  split at h
  · rename_i y x st hs
    split at h
    · rename_i hc; cases h; exact ⟨x, y, st, hs, hc.1, hc.2, rfl⟩
    · cases h
  · cases h
theorem jt_tst_mono {cn : Nat} {S : JS} {q : Bool × JS} (h : jt_tst cn S = some q) : q.2.2.2 = S.2.2 := by
  obtain ⟨F, hF⟩ : ∃ F, jt_tst cn = F := ⟨_, rfl⟩
  rw [hF] at h
  unfold jt_tst at hF
  split at hF <;> subst hF
  all_goals first
    | (exact absurd (show (none : Option (Bool × JS)) = some q from h) (by simp))
    | (obtain ⟨x, st, h1, rfl⟩ := jt_t1_i h; rfl)
    | (obtain ⟨x, y, st, h1, rfl⟩ := jt_t2_i h; rfl)
    | (obtain ⟨x, y, st, h1, h2, h3, rfl⟩ := jt_ta_i h; rfl)
end JW
-- touched 1
end
section
/-! ===== tests, switches, ends; a method out of its piece ===== -/
section JW
variable {G : JG} {cc : ByteArray} {nL own d : Nat} {ini : Bool} {ret : Option FieldType} {i j k h : Nat}
variable {p : Program} {e : Env} {R : Room} {s : State} {m : MethodId} {args : Array Value} {below : List Frame} {meth : Method} {c : Code} {n0 w0 nE wE : Nat} {Q : State → Prop}
theorem jk_br {pc t f : Nat} {b : Bool} {L : JL} {st st' : List Value} {σ : JH}
    (h : ∀ (H : Heap) (locs : List Loc) (ls : Array Slot) (cells slots : Nat), (b = true → W p (jg_l G) e R s m args below meth c H locs cells slots Q (F0 m t ls (st'.map (jv G)))) → (b = false → W p (jg_l G) e R s m args below meth c H locs cells slots Q (F0 m f ls (st'.map (jv G)))) → W p (jg_l G) e R s m args below meth c H locs cells slots Q (F0 m pc ls (st.map (jv G))))
    (k : JK G p e R s m args below meth c nL n0 w0 nE wE Q (if b = true then t else f) (L, st', σ)) : JK G p e R s m args below meth c nL n0 w0 nE wE Q pc (L, st, σ) := by
  refine ⟨k.1, k.2.1, fun H locs ls h1 h2 h3 h4 h5 => ?_⟩
  have k3 := k.2.2 H locs ls h1 h2 h3 h4 h5
  refine h H locs ls _ _ (fun hb => ?_) (fun hb => ?_)
  · rw [if_pos hb] at k3; exact k3
  · rw [if_neg (by rw [hb]; decide)] at k3; exact k3
theorem jk_if {cn t f : Nat} {S : JS} {q : Bool × JS} (X : JX G p R s m meth c cc nL n0 w0 nE wE own ini) (hj : jx_if cc j cn t f = true) (hq : jt_tst cn S = some q)
    (k : JK G p e R s m args below meth c nL n0 w0 nE wE Q (if q.1 = true then t else f) q.2) : JK G p e R s m args below meth c nL n0 w0 nE wE Q j S := by
  unfold jx_if at hj
  split at hj
  · rename_i ins len hd
    split at hj
    · rename_i c' o hi
      simp only [Bool.and_eq_true, beq_iff_eq] at hj
      obtain ⟨⟨⟨hc, hl⟩, ho⟩, hf⟩ := hj
      subst hc; subst hl; subst hf
      obtain ⟨L, st0, σ⟩ := S
      obtain ⟨hx, hb, -⟩ := id X
      unfold jx_tst at hi
      split at hi <;> cases hi
      · obtain ⟨x, st, hs, rfl⟩ := jt_t1_i (f := fun x => decide (x = 0)) hq
        have hs : st0 = _ := hs
        subst hs
        exact jk_br (fun H locs ls cells slots kt kf => lv_if_eq hx hb hd ho (fun z => kt (decide_eq_true z)) (fun z => kf (decide_eq_false z))) k
      · obtain ⟨x, st, hs, rfl⟩ := jt_t1_i (f := fun x => !decide (x = 0)) hq
        have hs : st0 = _ := hs
        subst hs
        exact jk_br (fun H locs ls cells slots kt kf => lv_if_ne hx hb hd ho (fun z => kt (by simp [z])) (fun z => kf (by simp [z]))) k
      · obtain ⟨x, st, hs, rfl⟩ := jt_t1_i (f := fun x => decide (x < 0)) hq
        have hs : st0 = _ := hs
        subst hs
        exact jk_br (fun H locs ls cells slots kt kf => lv_if_lt hx hb hd ho (fun z => kt (decide_eq_true z)) (fun z => kf (decide_eq_false z))) k
      · obtain ⟨x, st, hs, rfl⟩ := jt_t1_i (f := fun x => decide (0 ≤ x)) hq
        have hs : st0 = _ := hs
        subst hs
        exact jk_br (fun H locs ls cells slots kt kf => lv_if_ge hx hb hd ho (fun z => kt (decide_eq_true z)) (fun z => kf (decide_eq_false z))) k
      · obtain ⟨x, st, hs, rfl⟩ := jt_t1_i (f := fun x => decide (0 < x)) hq
        have hs : st0 = _ := hs
        subst hs
        exact jk_br (fun H locs ls cells slots kt kf => lv_if_gt hx hb hd ho (fun z => kt (decide_eq_true z)) (fun z => kf (decide_eq_false z))) k
      · obtain ⟨x, st, hs, rfl⟩ := jt_t1_i (f := fun x => decide (x ≤ 0)) hq
        have hs : st0 = _ := hs
        subst hs
        exact jk_br (fun H locs ls cells slots kt kf => lv_if_le hx hb hd ho (fun z => kt (decide_eq_true z)) (fun z => kf (decide_eq_false z))) k
      · obtain ⟨x, y, st, hs, rfl⟩ := jt_t2_i (f := fun x y => decide (x = y)) hq
        have hs : st0 = _ := hs
        subst hs
        exact jk_br (fun H locs ls cells slots kt kf => lv_icmp_eq hx hb hd ho (fun z => kt (decide_eq_true z)) (fun z => kf (decide_eq_false z))) k
      · obtain ⟨x, y, st, hs, rfl⟩ := jt_t2_i (f := fun x y => !decide (x = y)) hq
        have hs : st0 = _ := hs
        subst hs
        exact jk_br (fun H locs ls cells slots kt kf => lv_icmp_ne hx hb hd ho (fun z => kt (by simp [z])) (fun z => kf (by simp [z]))) k
      · obtain ⟨x, y, st, hs, rfl⟩ := jt_t2_i (f := fun x y => decide (x < y)) hq
        have hs : st0 = _ := hs
        subst hs
        exact jk_br (fun H locs ls cells slots kt kf => lv_icmp_lt hx hb hd ho (fun z => kt (decide_eq_true z)) (fun z => kf (decide_eq_false z))) k
      · obtain ⟨x, y, st, hs, rfl⟩ := jt_t2_i (f := fun x y => decide (y ≤ x)) hq
        have hs : st0 = _ := hs
        subst hs
        exact jk_br (fun H locs ls cells slots kt kf => lv_icmp_ge hx hb hd ho (fun z => kt (decide_eq_true z)) (fun z => kf (decide_eq_false z))) k
      · obtain ⟨x, y, st, hs, rfl⟩ := jt_t2_i (f := fun x y => decide (y < x)) hq
        have hs : st0 = _ := hs
        subst hs
        exact jk_br (fun H locs ls cells slots kt kf => lv_icmp_gt hx hb hd ho (fun z => kt (decide_eq_true z)) (fun z => kf (decide_eq_false z))) k
      · obtain ⟨x, y, st, hs, rfl⟩ := jt_t2_i (f := fun x y => decide (x ≤ y)) hq
        have hs : st0 = _ := hs
        subst hs
        exact jk_br (fun H locs ls cells slots kt kf => lv_icmp_le hx hb hd ho (fun z => kt (decide_eq_true z)) (fun z => kf (decide_eq_false z))) k
      · obtain ⟨x, y, st, hs, h1, h2, rfl⟩ := jt_ta_i (f := fun b => b) hq
        have hs : st0 = _ := hs
        subst hs
        have hr : ∀ r, r < 22 → jr G r = jg_sa G r := fun r hr => by unfold jr; rw [if_pos (by omega)]
        refine jk_br (fun H locs ls cells slots kt kf => lv_acmp_eq (rx := some (jr G x)) (ry := some (jr G y)) hx hb hd ho (fun z => kt (decide_eq_true ?_)) (fun z => kf (decide_eq_false fun q => z (by rw [q])))) k
        rw [hr x h1, hr y h2] at z
        exact X.2.2.2.2.1.2.2.2.2.2 x y h1 h2 (Option.some.inj z)
      · obtain ⟨x, y, st, hs, h1, h2, rfl⟩ := jt_ta_i (f := fun b => !b) hq
        have hs : st0 = _ := hs
        subst hs
        have hr : ∀ r, r < 22 → jr G r = jg_sa G r := fun r hr => by unfold jr; rw [if_pos (by omega)]
        refine jk_br (fun H locs ls cells slots kt kf => lv_acmp_ne (rx := some (jr G x)) (ry := some (jr G y)) hx hb hd ho (fun z => kt ?_) (fun z => kf ?_)) k
        · simp only [Bool.not_eq_true', decide_eq_false_iff_not]
          exact fun q => z (by rw [q])
        · simp only [Bool.not_eq_false', decide_eq_true_eq]
          rw [hr x h1, hr y h2] at z
          exact X.2.2.2.2.1.2.2.2.2.2 x y h1 h2 (Option.some.inj z)
    · cases hj
  · cases hj
theorem jfr_if {F : JN} {cn t f : Nat} (h1 : JSl G own ini cc d nL i j F) (hj : jx_if cc j cn t f = true) (ht : ¬ t = 1000000 ∧ ¬ f = 1000000) : JFr G own ini cc d nL ret i (jb_if F cn t f) := by
  refine ⟨fun S q hq => ?_, fun p e R s m args below meth c n0 w0 nE wE v σE X D hr hlk e1 e2 e3 e4 S q hq a b => ?_⟩
  · obtain ⟨S1, g1, g2⟩ := Option.bind_eq_some_iff.mp hq
    obtain ⟨q1, g3, g4⟩ := Option.bind_eq_some_iff.mp g2
    cases g4
    have := h1.1 _ _ g1
    rw [← jt_tst_mono g3] at this
    exact this
  · obtain ⟨S1, g1, g2⟩ := Option.bind_eq_some_iff.mp hq
    obtain ⟨q1, g3, g4⟩ := Option.bind_eq_some_iff.mp g2
    cases g4
    exact h1.2 p e R s m args below meth c n0 w0 nE wE _ X D S S1 g1 (jk_if X hj g3 (b (by
      show ¬ (if q1.1 = true then t else f) = 1000000
      split
      · exact ht.1
      · exact ht.2)))
/-- an end at place j -/
def jx_rt (cc : ByteArray) (j k : Nat) (ret : Option FieldType) : Bool := match k, ret, decode cc j with
  | 0, none, .ok (.return_, len) => len == 1
  | 1, some .int, .ok (.ireturn, len) => len == 1
  | 2, some .long, .ok (.lreturn, len) => len == 1
  | 3, some (.object _), .ok (.areturn, len) => len == 1
  | 4, some .boolean, .ok (.ireturn, len) => len == 1
  | _, _, _ => false
theorem jk_end {pc : Nat} {L : JL} {st : List Value} {σ : JH} {v : Option Value}
    (h : ∀ (H : Heap) (locs : List Loc) (ls : Array Slot), jm G σ s H → (∀ q ∈ locs, jg_sz G ≤ q.base) → (∀ t : State, t.heap = H → s.WarmedH t.vm → JQc G v σ args s (.returned (v.map (jv G))) t) →
      W p (jg_l G) e R s m args below meth c H locs (jh_n σ - n0) (jh_w σ - w0) (MQ below (JQc G v σ) args s (jh_n σ - n0) (jh_w σ - w0) (fun a => jg_sz G ≤ a)) (F0 m pc ls (st.map (jv G)))) :
    JK G p e R s m args below meth c nL n0 w0 (jh_n σ) (jh_w σ) (MQ below (JQc G v σ) args s (jh_n σ - n0) (jh_w σ - w0) (fun a => jg_sz G ≤ a)) pc (L, st, σ) :=
  ⟨Nat.le_refl _, Nat.le_refl _, fun H locs ls _ _ h3 h4 _ => h H locs ls h3 h4 (fun t ht hW => ⟨rfl, by rw [ht]; exact jm.moved hW.alike h3⟩)⟩
theorem jfr_rt {F : JN} {kd : Nat} (h1 : JSl G own ini cc d nL i j F) (hj : jx_rt cc j kd ret = true) : JFr G own ini cc d nL ret i (jb_rt F kd) := by
  have inv : ∀ S q, jb_rt F kd S = some q → ∃ S1, F S = some S1 ∧ q = (1000000, S1) ∧ ((kd = 0 ∧ S1.2.1 = []) ∨ (kd = 1 ∧ ∃ x, S1.2.1 = [.int x]) ∨ (kd = 2 ∧ ∃ x, S1.2.1 = [.long x]) ∨ (kd = 3 ∧ ∃ x, S1.2.1 = [.ref x]) ∨ (kd = 4 ∧ ∃ x, (x = 0 ∨ x = 1) ∧ S1.2.1 = [.int x])) := by
    intro S q hq
    obtain ⟨S1, g1, g2⟩ := Option.bind_eq_some_iff.mp hq
    refine ⟨S1, g1, ?_⟩
    split at g2
    · rename_i hs; cases g2; exact ⟨rfl, Or.inl ⟨rfl, hs⟩⟩
    · rename_i x hs; cases g2; exact ⟨rfl, Or.inr (Or.inl ⟨rfl, x, hs⟩)⟩
    · rename_i x hs; cases g2; exact ⟨rfl, Or.inr (Or.inr (Or.inl ⟨rfl, x, hs⟩))⟩
    · rename_i x hs; cases g2; exact ⟨rfl, Or.inr (Or.inr (Or.inr (Or.inl ⟨rfl, x, hs⟩)))⟩
    · rename_i x hs
      split at g2
      · rename_i hx; cases g2; exact ⟨rfl, Or.inr (Or.inr (Or.inr (Or.inr ⟨rfl, x, hx, hs⟩)))⟩
      · cases g2
    · cases g2
  refine ⟨fun S q hq => ?_, fun p e R s m args below meth c n0 w0 nE wE v σE X D hr hlk e1 e2 e3 e4 S q hq a b => ?_⟩
  · obtain ⟨S1, g1, rfl, -⟩ := inv S q hq
    exact h1.1 _ _ g1
  · obtain ⟨S1, g1, rfl, g2⟩ := inv S q hq
    obtain ⟨hv, hσ⟩ := a rfl
    refine h1.2 p e R s m args below meth c n0 w0 nE wE _ X D S S1 g1 ?_
    obtain ⟨L, st, σ⟩ := S1
    have hσ : σ = σE := hσ
    subst hσ
    subst e1; subst e2
    obtain ⟨hx, hb, -⟩ := id X
    unfold jx_rt at hj
    rcases g2 with ⟨rfl, hs⟩ | ⟨rfl, x, hs⟩ | ⟨rfl, x, hs⟩ | ⟨rfl, x, hs⟩ | ⟨rfl, x, h01, hs⟩
    · have hs : st = _ := hs
      subst hs
      cases hv
      split at hj <;> first | cases hj | skip
      all_goals first | (rename_i hz; omega) | skip
      rename_i hd
      cases eq_of_beq hj
      exact jk_end (v := none) fun H locs ls hM hlo hq => W.vret hx hb hr hq hlo hd hlk
    · have hs : st = _ := hs
      subst hs
      cases hv
      split at hj <;> first | cases hj | skip
      all_goals first | (rename_i hz; omega) | skip
      rename_i hd
      cases eq_of_beq hj
      exact jk_end (v := some (.int x)) fun H locs ls hM hlo hq => W.iret hx hb hr hq hlo hd hlk
    · have hs : st = _ := hs
      subst hs
      cases hv
      split at hj <;> first | cases hj | skip
      all_goals first | (rename_i hz; omega) | skip
      rename_i hd
      cases eq_of_beq hj
      exact jk_end (v := some (.long x)) fun H locs ls hM hlo hq => W.lret hx hb hr hq hlo hd hlk
    · have hs : st = _ := hs
      subst hs
      cases hv
      split at hj <;> first | cases hj | skip
      all_goals first | (rename_i hz; omega) | skip
      rename_i hd
      cases eq_of_beq hj
      exact jk_end (v := some (.ref x)) fun H locs ls hM hlo hq => W.aret hx hb hr (Or.inl ⟨_, rfl⟩) (Or.inr ⟨_, rfl⟩) hq hlo hd hlk
    · have hs : st = _ := hs
      subst hs
      cases hv
      split at hj <;> first | cases hj | skip
      all_goals first | (rename_i hz; omega) | skip
      rename_i hd
      cases eq_of_beq hj
      exact jk_end (v := some (.int x)) fun H locs ls hM hlo hq => W.zret hx hb hr (by rcases h01 with rfl | rfl <;> rfl) hq hlo hd hlk
end JW
end
section
/-! ===== a method's function out of its piece ===== -/
def jl_sl (vs : List Value) : JL := vs.flatMap fun v => if v.category = 2 then [some v, none] else [some v]
def jl_en (vs : List Value) (n : Nat) : JL := jl_sl vs ++ List.replicate (n - (jl_sl vs).length) none
/-- the function of a piece: its locals are the arguments, its answer what lies on the stack at the end -/
def jf_of (P : JP) (n : Nat) : JF := fun vs σ => if (jl_sl vs).length ≤ n then (P (jl_en vs n, [], σ)).bind (fun q => if q.1 = 1000000 then some (q.2.2.1.head?, q.2.2.2) else none) else none
section JW
variable {G : JG} {cc : ByteArray} {nL own d : Nat} {ini : Bool} {ret : Option FieldType} {i j k h : Nat}
theorem jl_sl_at (vs : List Value) : ∀ (i : Nat) (v : Value), (jl_sl vs)[i]? = some (some v) → (lg_sl (vs.map (jv G)))[i]? = some (.val (jv G v)) := by
  induction vs with
  | nil => intro i v h; cases h
  | cons w r ih =>
    intro i v h
    unfold jl_sl at h
    unfold lg_sl
    rw [List.flatMap_cons] at h
    rw [List.map_cons, List.flatMap_cons, jv_cat]
    by_cases hc : w.category = 2
    · rw [if_pos hc] at h ⊢
      match i, h with
      | 0, h => cases h; rfl
      | 1, h => cases h
      | i + 2, h => exact ih i v h
    · rw [if_neg hc] at h ⊢
      match i, h with
      | 0, h => cases h; rfl
      | i + 1, h => exact ih i v h
theorem jl_sl_len (vs : List Value) : (lg_sl (vs.map (jv G))).length = (jl_sl vs).length := by
  induction vs with
  | nil => rfl
  | cons w r ih =>
    unfold jl_sl lg_sl at *
    rw [List.map_cons, List.flatMap_cons, List.flatMap_cons, jv_cat, List.length_append, List.length_append, ih]
    split <;> rfl
theorem jl_en_ok {vs : List Value} (hle : (jl_sl vs).length ≤ nL) : jl G ((lg_sl (vs.map (jv G)) ++ List.replicate (nL - (lg_sl (vs.map (jv G))).length) Slot.unset).toArray) nL (jl_en vs nL) := by
  have h1 := lv_entry (vs.map (jv G)) (n := nL) (by rw [jl_sl_len]; exact hle)
  refine ⟨h1.1, h1.2.1, by unfold jl_en; rw [List.length_append, List.length_replicate]; omega, fun i v hv => ?_⟩
  unfold jl_en at hv
  by_cases hi : i < (jl_sl vs).length
  · rw [List.getElem?_append_left hi] at hv
    have h2 := jl_sl_at (G := G) vs i v hv
    rw [List.getElem?_toArray, List.getElem?_append_left (by rw [jl_sl_len]; exact hi)]
    exact h2
  · rw [List.getElem?_append_right (by omega)] at hv
    have := (List.getElem?_eq_some_iff.mp hv)
    obtain ⟨hk, hv⟩ := this
    rw [List.getElem_replicate] at hv
    cases hv
theorem jmet_of {l : Launch} {y : MethodName} {ws ws' : List Cond} {rm : Room} {Pc : Array Value → State → Prop} {Qc : Array Value → State → Outcome → State → Prop} {mc ms : Nat} {free : Addr → Prop} {cc : ByteArray} {maxL : Nat} {ret : Option FieldType}
    (hy : plainFor y = true) (hw : ws = Cond.code y cc maxL ret :: ws')
    (body : ∀ p e s m args below meth c s₁, BodyLoose p l y (headSpec ws rm) cc maxL ret e s m args below meth c s₁ → c.maxLocals = maxL → Pc args s →
      W p l e (headSpec ws rm).room s m args below meth c s.heap [] 0 0 (MQ below Qc args s mc ms free) (entryFrame m args maxL)) : Met l y ws rm Pc Qc mc ms free := by
  refine MetFree.of_bodySF (code := cc) (maxLocals := maxL) (ret := ret) hy ?_ ?_
  · intro args s m h hn
    obtain ⟨meth, c, h1, h2, h3, h4, h5, h6, -, -⟩ := Cond.code_spec hn (atoms_spec (ws := ws) h _ (by rw [hw]; exact List.mem_cons_self))
    exact ⟨meth, c, h1, h2, h3, h4, h5, h6⟩
  · intro p e s m args below meth c s₁ B hml hP _
    have hh0 : s₁.heap = s.heap := by rw [B.state]; rfl
    obtain ⟨t, a1, o, b1, b2, b3⟩ := body p e s m args below meth c s₁ B hml hP s₁ hh0 (Stand.of_body B)
    exact ⟨t, o, a1, b1, b2, ⟨b3.1, b3.2⟩⟩
theorem jsem_of {y : MethodName} {P : JP} (hy : plainFor y = true) (hown : y.cls = jt_own.getD own "") (hini : ini = true → y.name = "<init>") (hP : JFr G own ini cc d nL ret 0 P) : JSem G y cc nL ret d (jf_of P nL) := by
  intro av σ v σ' hf
  unfold jf_of at hf
  split at hf
  · rename_i hle
    obtain ⟨q, g1, g2⟩ := Option.bind_eq_some_iff.mp hf
    split at g2
    · rename_i hq
      cases g2
      obtain ⟨hn, hw⟩ := hP.1 _ _ g1
      have hn : jh_n σ ≤ jh_n q.2.2.2 := hn
      have hw : jh_w σ ≤ jh_w q.2.2.2 := hw
      refine ⟨hn, hw, ?_⟩
      refine jmet_of (cc := cc) (maxL := nL) (ret := ret) hy rfl ?_
      intro p e s m args below meth c s₁ B hml hv
      obtain ⟨rfl, hM, hG⟩ := hv
      have hownc : s.vm.findClass (jt_own.getD own "") = some m.cls := by rw [← hown]; exact findClass_of_methodNamed B.named
      have X : JX G p (headSpec [Cond.code y cc nL ret] (jrm d (jh_n q.2.2.2 - jh_n σ) (jh_w q.2.2.2 - jh_w σ))).room s m meth c cc nL (jh_n σ) (jh_w σ) (jh_n q.2.2.2) (jh_w q.2.2.2) own ini :=
        ⟨B.exec, B.bytes, hml, hownc, hG, rfl, rfl, fun h => (name_of_methodNamed B.named B.method).1.trans (hini h)⟩
      have hK := hP.2 p e _ s m (av.map (jv G)).toArray below meth c (jh_n σ) (jh_w σ) (jh_n q.2.2.2) (jh_w q.2.2.2) q.2.2.1.head? q.2.2.2 X ⟨Nat.le_refl _, Nat.le_refl _⟩ B.returns B.notSynchronized rfl rfl hn hw (jl_en av nL, [], σ) q g1 (fun _ => ⟨rfl, rfl⟩) (fun h => absurd hq h)
      have hW := hK.2.2 s.heap [] _ (Nat.le_refl _) (Nat.le_refl _) hM (fun q hq => absurd hq List.not_mem_nil) (jl_en_ok hle)
      rw [lg_entry_eq]
      have e0 : jh_n σ - jh_n σ = 0 := Nat.sub_self _
      have e1 : jh_w σ - jh_w σ = 0 := Nat.sub_self _
      show W p (jg_l G) e _ s m _ below meth c s.heap [] 0 0 _ _
      have hW2 : W p (jg_l G) e _ s m (av.map (jv G)).toArray below meth c s.heap [] (jh_n σ - jh_n σ) (jh_w σ - jh_w σ) _ _ := hW
      rw [e0, e1] at hW2
      exact hW2
    · cases g2
  · cases hf
end JW
end
section
/-! ===== switches ===== -/
section JW
variable {G : JG} {cc : ByteArray} {nL own d : Nat} {ini : Bool} {ret : Option FieldType} {i j k h : Nat}
variable {p : Program} {e : Env} {R : Room} {s : State} {m : MethodId} {args : Array Value} {below : List Frame} {meth : Method} {c : Code} {n0 w0 nE wE : Nat} {Q : State → Prop}
def jx_sw (cc : ByteArray) (j : Nat) (lo : Int) (ts : List Nat) (df : Nat) : Bool := match decode cc j with
  | .ok (.tableswitch dd l hh offs, _) => l == lo && hh + 1 == lo + (ts.length : Int) && (j : Int) + dd == (df : Int) && offs.toList.map (fun o => (j : Int) + o) == ts.map (fun t : Nat => (t : Int)) && !(ts.contains 1000000) && !(df == 1000000)
  | _ => false
theorem jfr_sw {F : JN} {lo : Int} {ts : List Nat} {df : Nat} (h1 : JSl G own ini cc d nL i j F) (hj : jx_sw cc j lo ts df = true) : JFr G own ini cc d nL ret i (jb_sw F lo ts df) := by
  have inv : ∀ S q, jb_sw F lo ts df S = some q → ∃ S1 x st, F S = some S1 ∧ S1.2.1 = .int x :: st ∧ q = (if x.toInt < lo ∨ lo + ts.length ≤ x.toInt then df else ts.getD (x.toInt - lo).toNat df, S1.1, st, S1.2.2) := by
    intro S q hq
    obtain ⟨S1, g1, g2⟩ := Option.bind_eq_some_iff.mp hq
    split at g2
    · rename_i x st hs; cases g2; exact ⟨S1, x, st, g1, hs, rfl⟩
    · cases g2
  unfold jx_sw at hj
  split at hj
  · rename_i dd l hh offs len hd
    simp only [Bool.and_eq_true, beq_iff_eq, Bool.not_eq_true'] at hj
    obtain ⟨⟨⟨⟨⟨hl, hhi⟩, hdf⟩, hof⟩, hno⟩, hnd⟩ := hj
    subst hl
    refine ⟨fun S q hq => ?_, fun p e R s m args below meth c n0 w0 nE wE v σE X D hr hlk e1 e2 e3 e4 S q hq a b => ?_⟩
    · obtain ⟨S1, x, st, g1, g2, rfl⟩ := inv S q hq
      have h9 := h1.1 S S1 g1
      exact h9
    · obtain ⟨S1, x, st, g1, g2, rfl⟩ := inv S q hq
      obtain ⟨L, st0, σ⟩ := S1
      have g2 : st0 = _ := g2
      subst g2
      obtain ⟨hx, hb, -⟩ := id X
      have hne : ∀ n, ¬ ts.getD n df = 1000000 := by
        intro n hn
        by_cases hl : n < ts.length
        · have : ts.getD n df ∈ ts := by
            rw [List.getD_eq_getElem?_getD, List.getElem?_eq_getElem hl]
            exact List.getElem_mem hl
          rw [hn] at this
          have h9 : ts.contains 1000000 = true := by simpa using this
          rw [h9] at hno
          cases hno
        · rw [List.getD_eq_getElem?_getD, List.getElem?_eq_none (by omega)] at hn
          have hn : df = 1000000 := hn
          rw [hn] at hnd
          cases hnd
      by_cases hout : x.toInt < l ∨ l + ts.length ≤ x.toInt
      · simp only [if_pos hout] at b
        refine h1.2 p e R s m args below meth c n0 w0 nE wE _ X D S _ g1 (jk_st (fun H locs ls cells slots _ _ kk => lv_tableOut hx hb hd ?_ hdf kk) (b (by intro z; rw [z] at hnd; cases hnd)))
        rcases hout with h9 | h9
        · exact Or.inl h9
        · exact Or.inr (by omega)
      · simp only [if_neg hout] at b
        have hlt : (x.toInt - l).toNat < ts.length := by omega
        have hm : (offs.toList.map (fun o => (j : Int) + o))[(x.toInt - l).toNat]? = (ts.map (fun t : Nat => (t : Int)))[(x.toInt - l).toNat]? := by rw [hof]
        rw [List.getElem?_map, List.getElem?_map, List.getElem?_eq_getElem hlt, Array.getElem?_toList] at hm
        cases ho : offs[(x.toInt - l).toNat]? with
        | none => rw [ho] at hm; cases hm
        | some off =>
          rw [ho] at hm
          have hm : (j : Int) + off = (ts[(x.toInt - l).toNat] : Int) := Option.some.inj hm
          have hg : ts.getD (x.toInt - l).toNat df = ts[(x.toInt - l).toNat] := by
            rw [List.getD_eq_getElem?_getD, List.getElem?_eq_getElem hlt]; rfl
          refine h1.2 p e R s m args below meth c n0 w0 nE wE _ X D S _ g1 (jk_st (fun H locs ls cells slots _ _ kk => lv_tableIn hx hb hd (fun z => hout (Or.inl z)) (fun z => hout (Or.inr (by omega))) ho (by rw [hg]; exact hm) kk) (b (hne _)))
  · cases hj
def jx_lk (cc : ByteArray) (j : Nat) (ps : List (Int × Nat)) (df : Nat) : Bool := match decode cc j with
  | .ok (.lookupswitch dd prs, _) => (prs.toList.zip (prs.toList.drop 1)).all (fun (a, next) => a.1 < next.1) && (j : Int) + dd == (df : Int) && prs.toList.map (fun q => (q.1, (j : Int) + q.2)) == ps.map (fun q : Int × Nat => (q.1, (q.2 : Int))) && !((ps.map (fun q => q.2)).contains 1000000) && !(df == 1000000)
  | _ => false
theorem jx_lk_off {prs : List (Int × Int)} {ps : List (Int × Nat)} {dd : Int} {df : Nat} {x : Int} (hd : (j : Int) + dd = (df : Int)) (h : prs.map (fun q => (q.1, (j : Int) + q.2)) = ps.map (fun q : Int × Nat => (q.1, (q.2 : Int)))) : (j : Int) + Op.lookupswitch.offset prs dd x = ((ps.lookup x).getD df : Nat) := by
  induction prs generalizing ps with
  | nil =>
    cases ps with
    | nil => exact hd
    | cons q r => cases h
  | cons a r ih =>
    cases ps with
    | nil => cases h
    | cons q r' =>
      obtain ⟨a1, a2⟩ := a
      obtain ⟨q1, q2⟩ := q
      rw [List.map_cons, List.map_cons] at h
      injection h with h1 h2
      have h3 : a1 = q1 := congrArg Prod.fst h1
      have h4 : (j : Int) + a2 = (q2 : Int) := congrArg Prod.snd h1
      subst h3
      rw [Op.lookupswitch.offset_cons, List.lookup_cons]
      by_cases hx : a1 = x
      · subst hx
        rw [if_pos rfl]
        simp [h4]
      · rw [if_neg hx, ih h2]
        have : (x == a1) = false := by simp [Ne.symm hx]
        rw [this]
theorem jfr_lk {F : JN} {ps : List (Int × Nat)} {df : Nat} (h1 : JSl G own ini cc d nL i j F) (hj : jx_lk cc j ps df = true) : JFr G own ini cc d nL ret i (jb_lk F ps df) := by
  have inv : ∀ S q, jb_lk F ps df S = some q → ∃ S1 x st, F S = some S1 ∧ S1.2.1 = .int x :: st ∧ q = ((ps.lookup x.toInt).getD df, S1.1, st, S1.2.2) := by
    intro S q hq
    obtain ⟨S1, g1, g2⟩ := Option.bind_eq_some_iff.mp hq
    split at g2
    · rename_i x st hs; cases g2; exact ⟨S1, x, st, g1, hs, rfl⟩
    · cases g2
  unfold jx_lk at hj
  split at hj
  · rename_i dd prs len hd
    simp only [Bool.and_eq_true, beq_iff_eq, Bool.not_eq_true'] at hj
    obtain ⟨⟨⟨⟨hall, hdf⟩, hof⟩, hno⟩, hnd⟩ := hj
    refine ⟨fun S q hq => ?_, fun p e R s m args below meth c n0 w0 nE wE v σE X D hr hlk e1 e2 e3 e4 S q hq a b => ?_⟩
    · obtain ⟨S1, x, st, g1, g2, rfl⟩ := inv S q hq
      have h9 := h1.1 S S1 g1
      exact h9
    · obtain ⟨S1, x, st, g1, g2, rfl⟩ := inv S q hq
      obtain ⟨L, st0, σ⟩ := S1
      have g2 : st0 = _ := g2
      subst g2
      obtain ⟨hx, hb, -⟩ := id X
      have hne : ¬ (ps.lookup x.toInt).getD df = 1000000 := by
        intro hn
        cases hl : ps.lookup x.toInt with
        | none =>
          rw [hl] at hn
          have hn : df = 1000000 := hn
          rw [hn] at hnd
          cases hnd
        | some t =>
          rw [hl] at hn
          have hn : t = 1000000 := hn
          have : t ∈ ps.map (fun q => q.2) := List.mem_map.mpr ⟨_, jt_look hl, rfl⟩
          rw [hn] at this
          have h9 : (ps.map (fun q => q.2)).contains 1000000 = true := by simpa using this
          rw [h9] at hno
          cases hno
      exact h1.2 p e R s m args below meth c n0 w0 nE wE _ X D S _ g1 (jk_st (fun H locs ls cells slots _ _ kk => lv_lookup hx hb hd hall rfl (jx_lk_off hdf hof) kk) (b hne))
  · cases hj
end JW
end
section
/-! ===== printed by wip/whole/emit.py: methods as pieces ===== -/
def y_Ma_min : MethodName := ⟨"java/lang/Math", "min", "(II)I"⟩
abbrev c_Ma_min : ByteArray := prog_24_method_69_code
theorem mt_Ma_min : JMt y_Ma_min c_Ma_min 2 (some .int) 2 := ⟨(List.mem_of_getElem? (i := 264) (by decide +kernel)), (List.mem_of_getElem? (i := 125) (by decide +kernel)), ⟨by decide +kernel, by decide +kernel⟩, by decide +kernel, by decide⟩
theorem st_Ma_min : Cond.static y_Ma_min ∈ lw_tbl := (List.mem_of_getElem? (i := 263) (by decide +kernel))
noncomputable def qp_Ma_min : JP := (jb_sq (jb_sq (jb_sq (jb_if (jx_run [(2, 0, 0), (2, 1, 0)]) 10 9 5) 5 (jb_go (jx_run [(2, 0, 0)]) 10)) 9 (jb_go (jx_run [(2, 1, 0)]) 10)) 10 (jb_rt (jx_run []) 1))
noncomputable def q_Ma_min : JF := jf_of qp_Ma_min 2
set_option maxRecDepth 20000 in
theorem fr_Ma_min (G : JG) : JFr G 14 false c_Ma_min 0 2 (some .int) 0 qp_Ma_min := (jfr_sq (jfr_sq (jfr_sq (jfr_if (j := 2) (jsl_run (by decide +kernel)) (by decide +kernel) (by decide)) (jfr_go (j := 6) (jsl_run (by decide +kernel)) (by decide +kernel) (by decide)) (by decide)) (jfr_go (j := 10) (jsl_run (by decide +kernel)) (by decide +kernel) (by decide)) (by decide)) (jfr_rt (j := 10) (jsl_run (by decide +kernel)) (by decide +kernel)) (by decide))
theorem se_Ma_min (G : JG) : JSem G y_Ma_min c_Ma_min 2 (some .int) 0 q_Ma_min := jsem_of (by decide +kernel) rfl (by intro h; cases h) (fr_Ma_min G)
def y_In_bitCount : MethodName := ⟨"java/lang/Integer", "bitCount", "(I)I"⟩
abbrev c_In_bitCount : ByteArray := prog_22_method_49_code
theorem mt_In_bitCount : JMt y_In_bitCount c_In_bitCount 1 (some .int) 1 := ⟨(List.mem_of_getElem? (i := 422) (by decide +kernel)), (List.mem_of_getElem? (i := 131) (by decide +kernel)), ⟨by decide +kernel, by decide +kernel⟩, by decide +kernel, by decide⟩
theorem st_In_bitCount : Cond.static y_In_bitCount ∈ lw_tbl := (List.mem_of_getElem? (i := 421) (by decide +kernel))
noncomputable def qp_In_bitCount : JP := (jb_rt (jx_run [(2, 0, 0), (2, 0, 0), (0, 0, 1), (21, 0, 0), (0, 0, 1431655765), (16, 0, 0), (11, 0, 0), (5, 0, 0), (2, 0, 0), (0, 0, 858993459), (16, 0, 0), (2, 0, 0), (0, 0, 2), (21, 0, 0), (0, 0, 858993459), (16, 0, 0), (10, 0, 0), (5, 0, 0), (2, 0, 0), (2, 0, 0), (0, 0, 4), (21, 0, 0), (10, 0, 0), (0, 0, 252645135), (16, 0, 0), (5, 0, 0), (2, 0, 0), (2, 0, 0), (0, 0, 8), (21, 0, 0), (10, 0, 0), (5, 0, 0), (2, 0, 0), (2, 0, 0), (0, 0, 16), (21, 0, 0), (10, 0, 0), (5, 0, 0), (2, 0, 0), (0, 0, 63), (16, 0, 0)]) 1)
noncomputable def q_In_bitCount : JF := jf_of qp_In_bitCount 1
set_option maxRecDepth 20000 in
theorem fr_In_bitCount (G : JG) : JFr G 15 false c_In_bitCount 0 1 (some .int) 0 qp_In_bitCount := (jfr_rt (j := 52) (jsl_run (by decide +kernel)) (by decide +kernel))
theorem se_In_bitCount (G : JG) : JSem G y_In_bitCount c_In_bitCount 1 (some .int) 0 q_In_bitCount := jsem_of (by decide +kernel) rfl (by intro h; cases h) (fr_In_bitCount G)
def y_Ma_max : MethodName := ⟨"java/lang/Math", "max", "(II)I"⟩
abbrev c_Ma_max : ByteArray := prog_24_method_65_code
theorem mt_Ma_max : JMt y_Ma_max c_Ma_max 2 (some .int) 2 := ⟨(List.mem_of_getElem? (i := 685) (by decide +kernel)), (List.mem_of_getElem? (i := 125) (by decide +kernel)), ⟨by decide +kernel, by decide +kernel⟩, by decide +kernel, by decide⟩
theorem st_Ma_max : Cond.static y_Ma_max ∈ lw_tbl := (List.mem_of_getElem? (i := 684) (by decide +kernel))
noncomputable def qp_Ma_max : JP := (jb_sq (jb_sq (jb_sq (jb_if (jx_run [(2, 0, 0), (2, 1, 0)]) 8 9 5) 5 (jb_go (jx_run [(2, 0, 0)]) 10)) 9 (jb_go (jx_run [(2, 1, 0)]) 10)) 10 (jb_rt (jx_run []) 1))
noncomputable def q_Ma_max : JF := jf_of qp_Ma_max 2
set_option maxRecDepth 20000 in
theorem fr_Ma_max (G : JG) : JFr G 14 false c_Ma_max 0 2 (some .int) 0 qp_Ma_max := (jfr_sq (jfr_sq (jfr_sq (jfr_if (j := 2) (jsl_run (by decide +kernel)) (by decide +kernel) (by decide)) (jfr_go (j := 6) (jsl_run (by decide +kernel)) (by decide +kernel) (by decide)) (by decide)) (jfr_go (j := 10) (jsl_run (by decide +kernel)) (by decide +kernel) (by decide)) (by decide)) (jfr_rt (j := 10) (jsl_run (by decide +kernel)) (by decide +kernel)) (by decide))
theorem se_Ma_max (G : JG) : JSem G y_Ma_max c_Ma_max 2 (some .int) 0 q_Ma_max := jsem_of (by decide +kernel) rfl (by intro h; cases h) (fr_Ma_max G)
def y_Lo_bitCount : MethodName := ⟨"java/lang/Long", "bitCount", "(J)I"⟩
abbrev c_Lo_bitCount : ByteArray := prog_23_method_50_code
theorem mt_Lo_bitCount : JMt y_Lo_bitCount c_Lo_bitCount 2 (some .int) 1 := ⟨(List.mem_of_getElem? (i := 1062) (by decide +kernel)), (List.mem_of_getElem? (i := 141) (by decide +kernel)), ⟨by decide +kernel, by decide +kernel⟩, by decide +kernel, by decide⟩
theorem st_Lo_bitCount : Cond.static y_Lo_bitCount ∈ lw_tbl := (List.mem_of_getElem? (i := 1061) (by decide +kernel))
noncomputable def qp_Lo_bitCount : JP := (jb_rt (jx_run [(3, 0, 0), (3, 0, 0), (0, 0, 1), (32, 0, 0), (1, 0, 6148914691236517205), (27, 0, 0), (23, 0, 0), (6, 0, 0), (3, 0, 0), (1, 0, 3689348814741910323), (27, 0, 0), (3, 0, 0), (0, 0, 2), (32, 0, 0), (1, 0, 3689348814741910323), (27, 0, 0), (22, 0, 0), (6, 0, 0), (3, 0, 0), (3, 0, 0), (0, 0, 4), (32, 0, 0), (22, 0, 0), (1, 0, 1085102592571150095), (27, 0, 0), (6, 0, 0), (3, 0, 0), (3, 0, 0), (0, 0, 8), (32, 0, 0), (22, 0, 0), (6, 0, 0), (3, 0, 0), (3, 0, 0), (0, 0, 16), (32, 0, 0), (22, 0, 0), (6, 0, 0), (3, 0, 0), (3, 0, 0), (0, 0, 32), (32, 0, 0), (22, 0, 0), (6, 0, 0), (3, 0, 0), (35, 0, 0), (0, 0, 127), (16, 0, 0)]) 1)
noncomputable def q_Lo_bitCount : JF := jf_of qp_Lo_bitCount 2
set_option maxRecDepth 20000 in
theorem fr_Lo_bitCount (G : JG) : JFr G 16 false c_Lo_bitCount 0 2 (some .int) 0 qp_Lo_bitCount := (jfr_rt (j := 60) (jsl_run (by decide +kernel)) (by decide +kernel))
theorem se_Lo_bitCount (G : JG) : JSem G y_Lo_bitCount c_Lo_bitCount 2 (some .int) 0 q_Lo_bitCount := jsem_of (by decide +kernel) rfl (by intro h; cases h) (fr_Lo_bitCount G)
def y_In_numberOfTrailingZeros : MethodName := ⟨"java/lang/Integer", "numberOfTrailingZeros", "(I)I"⟩
abbrev c_In_numberOfTrailingZeros : ByteArray := prog_22_method_48_code
theorem mt_In_numberOfTrailingZeros : JMt y_In_numberOfTrailingZeros c_In_numberOfTrailingZeros 2 (some .int) 1 := ⟨(List.mem_of_getElem? (i := 1121) (by decide +kernel)), (List.mem_of_getElem? (i := 131) (by decide +kernel)), ⟨by decide +kernel, by decide +kernel⟩, by decide +kernel, by decide⟩
theorem st_In_numberOfTrailingZeros : Cond.static y_In_numberOfTrailingZeros ∈ lw_tbl := (List.mem_of_getElem? (i := 1120) (by decide +kernel))
noncomputable def qp_In_numberOfTrailingZeros : JP := (jb_sq (jb_sq (jb_if (jx_run [(2, 0, 0), (0, 0, -1), (18, 0, 0), (2, 0, 0), (0, 0, 1), (11, 0, 0), (16, 0, 0), (5, 0, 0), (2, 0, 0)]) 4 17 12) 12 (jb_rt (jx_run [(2, 0, 0), (0, 0, 32), (16, 0, 0)]) 1)) 17 (jb_sq (jb_sq (jb_if (jx_run [(0, 0, 1), (5, 1, 0), (2, 0, 0), (0, 0, 65536)]) 11 34 26) 26 (jb_go (jx_run [(8, 1, 16), (2, 0, 0), (0, 0, 16), (21, 0, 0), (5, 0, 0)]) 34)) 34 (jb_sq (jb_sq (jb_if (jx_run [(2, 0, 0), (0, 0, 256)]) 11 49 41) 41 (jb_go (jx_run [(8, 1, 8), (2, 0, 0), (0, 0, 8), (21, 0, 0), (5, 0, 0)]) 49)) 49 (jb_sq (jb_sq (jb_if (jx_run [(2, 0, 0), (0, 0, 16)]) 11 62 55) 55 (jb_go (jx_run [(8, 1, 4), (2, 0, 0), (0, 0, 4), (21, 0, 0), (5, 0, 0)]) 62)) 62 (jb_sq (jb_sq (jb_if (jx_run [(2, 0, 0), (0, 0, 4)]) 11 74 67) 67 (jb_go (jx_run [(8, 1, 2), (2, 0, 0), (0, 0, 2), (21, 0, 0), (5, 0, 0)]) 74)) 74 (jb_rt (jx_run [(2, 1, 0), (2, 0, 0), (0, 0, 1), (21, 0, 0), (10, 0, 0)]) 1))))))
noncomputable def q_In_numberOfTrailingZeros : JF := jf_of qp_In_numberOfTrailingZeros 2
set_option maxRecDepth 20000 in
theorem fr_In_numberOfTrailingZeros (G : JG) : JFr G 15 false c_In_numberOfTrailingZeros 0 2 (some .int) 0 qp_In_numberOfTrailingZeros := (jfr_sq (jfr_sq (jfr_if (j := 9) (jsl_run (by decide +kernel)) (by decide +kernel) (by decide)) (jfr_rt (j := 16) (jsl_run (by decide +kernel)) (by decide +kernel)) (by decide)) (jfr_sq (jfr_sq (jfr_if (j := 23) (jsl_run (by decide +kernel)) (by decide +kernel) (by decide)) (jfr_go (j := 34) (jsl_run (by decide +kernel)) (by decide +kernel) (by decide)) (by decide)) (jfr_sq (jfr_sq (jfr_if (j := 38) (jsl_run (by decide +kernel)) (by decide +kernel) (by decide)) (jfr_go (j := 49) (jsl_run (by decide +kernel)) (by decide +kernel) (by decide)) (by decide)) (jfr_sq (jfr_sq (jfr_if (j := 52) (jsl_run (by decide +kernel)) (by decide +kernel) (by decide)) (jfr_go (j := 62) (jsl_run (by decide +kernel)) (by decide +kernel) (by decide)) (by decide)) (jfr_sq (jfr_sq (jfr_if (j := 64) (jsl_run (by decide +kernel)) (by decide +kernel) (by decide)) (jfr_go (j := 74) (jsl_run (by decide +kernel)) (by decide +kernel) (by decide)) (by decide)) (jfr_rt (j := 79) (jsl_run (by decide +kernel)) (by decide +kernel)) (by decide)) (by decide)) (by decide)) (by decide)) (by decide))
theorem se_In_numberOfTrailingZeros (G : JG) : JSem G y_In_numberOfTrailingZeros c_In_numberOfTrailingZeros 2 (some .int) 0 q_In_numberOfTrailingZeros := jsem_of (by decide +kernel) rfl (by intro h; cases h) (fr_In_numberOfTrailingZeros G)
def y_Lo_numberOfTrailingZeros : MethodName := ⟨"java/lang/Long", "numberOfTrailingZeros", "(J)I"⟩
abbrev c_Lo_numberOfTrailingZeros : ByteArray := prog_23_method_49_code
theorem mt_Lo_numberOfTrailingZeros : JMt y_Lo_numberOfTrailingZeros c_Lo_numberOfTrailingZeros 3 (some .int) 1 := ⟨(List.mem_of_getElem? (i := 1118) (by decide +kernel)), (List.mem_of_getElem? (i := 141) (by decide +kernel)), ⟨by decide +kernel, by decide +kernel⟩, by decide +kernel, by decide⟩
theorem st_Lo_numberOfTrailingZeros : Cond.static y_Lo_numberOfTrailingZeros ∈ lw_tbl := (List.mem_of_getElem? (i := 1117) (by decide +kernel))
noncomputable def qp_Lo_numberOfTrailingZeros : JP := (jb_sq (jb_sq (jb_sq (jb_if (jx_run [(3, 0, 0), (35, 0, 0), (5, 2, 0), (2, 2, 0)]) 1 21 7) 7 (jb_go (jn (jx_run [(0, 0, 32), (3, 0, 0), (0, 0, 32), (32, 0, 0), (35, 0, 0)]) (jn (jx_cs 1 q_In_numberOfTrailingZeros) (jx_run [(10, 0, 0)]))) 25)) 21 (jb_go (jn (jx_run [(2, 2, 0)]) (jx_cs 1 q_In_numberOfTrailingZeros)) 25)) 25 (jb_rt (jx_run []) 1))
noncomputable def q_Lo_numberOfTrailingZeros : JF := jf_of qp_Lo_numberOfTrailingZeros 3
set_option maxRecDepth 20000 in
theorem fr_Lo_numberOfTrailingZeros (G : JG) : JFr G 16 false c_Lo_numberOfTrailingZeros 1 3 (some .int) 0 qp_Lo_numberOfTrailingZeros := (jfr_sq (jfr_sq (jfr_sq (jfr_if (j := 4) (jsl_run (by decide +kernel)) (by decide +kernel) (by decide)) (jfr_go (j := 18) (jsl_n (j := 14) (jsl_run (by decide +kernel)) (jsl_n (j := 17) (jsl_cs (ix := 311) mt_In_numberOfTrailingZeros st_In_numberOfTrailingZeros (se_In_numberOfTrailingZeros _) (by decide) (List.mem_of_getElem? (i := 1119) (by decide +kernel)) (by decide +kernel)) (jsl_run (by decide +kernel)))) (by decide +kernel) (by decide)) (by decide)) (jfr_go (j := 25) (jsl_n (j := 22) (jsl_run (by decide +kernel)) (jsl_cs (ix := 311) mt_In_numberOfTrailingZeros st_In_numberOfTrailingZeros (se_In_numberOfTrailingZeros _) (by decide) (List.mem_of_getElem? (i := 1119) (by decide +kernel)) (by decide +kernel))) (by decide +kernel) (by decide)) (by decide)) (jfr_rt (j := 25) (jsl_run (by decide +kernel)) (by decide +kernel)) (by decide))
theorem se_Lo_numberOfTrailingZeros (G : JG) : JSem G y_Lo_numberOfTrailingZeros c_Lo_numberOfTrailingZeros 3 (some .int) 1 q_Lo_numberOfTrailingZeros := jsem_of (by decide +kernel) rfl (by intro h; cases h) (fr_Lo_numberOfTrailingZeros G)
def y_Ma_floorMod : MethodName := ⟨"java/lang/Math", "floorMod", "(II)I"⟩
abbrev c_Ma_floorMod : ByteArray := prog_24_method_50_code
theorem mt_Ma_floorMod : JMt y_Ma_floorMod c_Ma_floorMod 3 (some .int) 2 := ⟨(List.mem_of_getElem? (i := 939) (by decide +kernel)), (List.mem_of_getElem? (i := 125) (by decide +kernel)), ⟨by decide +kernel, by decide +kernel⟩, by decide +kernel, by decide⟩
theorem st_Ma_floorMod : Cond.static y_Ma_floorMod ∈ lw_tbl := (List.mem_of_getElem? (i := 938) (by decide +kernel))
noncomputable def qp_Ma_floorMod : JP := (jb_sq (jb_sq (jb_if (jx_run [(2, 0, 0), (2, 1, 0), (14, 0, 0), (5, 2, 0), (2, 0, 0), (2, 1, 0), (18, 0, 0)]) 3 18 10) 10 (jb_sq (jb_if (jx_run [(2, 2, 0)]) 0 18 14) 14 (jb_rt (jx_run [(2, 2, 0), (2, 1, 0), (10, 0, 0)]) 1))) 18 (jb_rt (jx_run [(2, 2, 0)]) 1))
noncomputable def q_Ma_floorMod : JF := jf_of qp_Ma_floorMod 3
set_option maxRecDepth 20000 in
theorem fr_Ma_floorMod (G : JG) : JFr G 14 false c_Ma_floorMod 0 3 (some .int) 0 qp_Ma_floorMod := (jfr_sq (jfr_sq (jfr_if (j := 7) (jsl_run (by decide +kernel)) (by decide +kernel) (by decide)) (jfr_sq (jfr_if (j := 11) (jsl_run (by decide +kernel)) (by decide +kernel) (by decide)) (jfr_rt (j := 17) (jsl_run (by decide +kernel)) (by decide +kernel)) (by decide)) (by decide)) (jfr_rt (j := 19) (jsl_run (by decide +kernel)) (by decide +kernel)) (by decide))
theorem se_Ma_floorMod (G : JG) : JSem G y_Ma_floorMod c_Ma_floorMod 3 (some .int) 0 q_Ma_floorMod := jsem_of (by decide +kernel) rfl (by intro h; cases h) (fr_Ma_floorMod G)
end
section
/-! ===== printed by wip/whole/emit.py: methods as pieces ===== -/
def y_Md_standsAsAlways : MethodName := ⟨"CellarTurnsModel", "standsAsAlways", "(I)V"⟩
abbrev c_Md_standsAsAlways : ByteArray := prog_15_method_18_code
theorem mt_Md_standsAsAlways : JMt y_Md_standsAsAlways c_Md_standsAsAlways 3 none 1 := ⟨(List.mem_of_getElem? (i := 1451) (by decide +kernel)), (List.mem_of_getElem? (i := 133) (by decide +kernel)), ⟨by decide +kernel, by decide +kernel⟩, by decide +kernel, by decide⟩
theorem in_Md_standsAsAlways : Cond.instanceMethod y_Md_standsAsAlways ∈ lw_tbl := (List.mem_of_getElem? (i := 1450) (by decide +kernel))
theorem sl_Md_standsAsAlways : Cond.selects y_Md_standsAsAlways.cls y_Md_standsAsAlways y_Md_standsAsAlways ∈ lw_tbl := (List.mem_of_getElem? (i := 48) (by decide +kernel))
noncomputable def qp_Md_standsAsAlways : JP := (jb_sq (jb_go (jx_run [(0, 0, 0), (5, 2, 0)]) 2) 2 (jb_sq (jb_lp 2 (jb_sq (jb_if (jx_run [(2, 2, 0), (0, 0, 180)]) 9 24 9) 9 (jb_go (jx_run [(4, 0, 0), (42, 11, 10), (2, 1, 0), (2, 2, 0), (10, 0, 0), (0, 0, 0), (55, 0, 0), (8, 2, 1)]) 2))) 24 (jb_rt (jx_run [(4, 0, 0), (42, 11, 10), (2, 1, 0), (0, 0, 4), (10, 0, 0), (0, 0, 9), (55, 0, 0), (4, 0, 0), (42, 11, 10), (2, 1, 0), (0, 0, 5), (10, 0, 0), (0, 0, -1), (55, 0, 0)]) 0)))
noncomputable def q_Md_standsAsAlways : JF := jf_of qp_Md_standsAsAlways 3
set_option maxRecDepth 20000 in
theorem fr_Md_standsAsAlways (G : JG) : JFr G 11 false c_Md_standsAsAlways 0 3 none 0 qp_Md_standsAsAlways := (jfr_sq (jfr_go (j := 2) (jsl_run (by decide +kernel)) (by decide +kernel) (by decide)) (jfr_sq (jfr_lp (jfr_sq (jfr_if (j := 6) (jsl_run (by decide +kernel)) (by decide +kernel) (by decide)) (jfr_go (j := 21) (jsl_run (by decide +kernel)) (by decide +kernel) (by decide)) (by decide)) (by decide)) (jfr_rt (j := 43) (jsl_run (by decide +kernel)) (by decide +kernel)) (by decide)) (by decide))
theorem se_Md_standsAsAlways (G : JG) : JSem G y_Md_standsAsAlways c_Md_standsAsAlways 3 none 0 q_Md_standsAsAlways := jsem_of (by decide +kernel) rfl (by intro h; cases h) (fr_Md_standsAsAlways G)
def y_Md_bodies : MethodName := ⟨"CellarTurnsModel", "bodies", "()I"⟩
abbrev c_Md_bodies : ByteArray := prog_15_method_46_code
theorem mt_Md_bodies : JMt y_Md_bodies c_Md_bodies 1 (some .int) 0 := ⟨(List.mem_of_getElem? (i := 1463) (by decide +kernel)), (List.mem_of_getElem? (i := 133) (by decide +kernel)), ⟨by decide +kernel, by decide +kernel⟩, by decide +kernel, by decide⟩
theorem in_Md_bodies : Cond.instanceMethod y_Md_bodies ∈ lw_tbl := (List.mem_of_getElem? (i := 1462) (by decide +kernel))
theorem sl_Md_bodies : Cond.selects y_Md_bodies.cls y_Md_bodies y_Md_bodies ∈ lw_tbl := (List.mem_of_getElem? (i := 51) (by decide +kernel))
noncomputable def qp_Md_bodies : JP := (jb_rt (jx_run [(4, 0, 0), (42, 11, 10), (0, 0, 0), (50, 0, 0)]) 1)
noncomputable def q_Md_bodies : JF := jf_of qp_Md_bodies 1
set_option maxRecDepth 20000 in
theorem fr_Md_bodies (G : JG) : JFr G 11 false c_Md_bodies 0 1 (some .int) 0 qp_Md_bodies := (jfr_rt (j := 6) (jsl_run (by decide +kernel)) (by decide +kernel))
theorem se_Md_bodies (G : JG) : JSem G y_Md_bodies c_Md_bodies 1 (some .int) 0 q_Md_bodies := jsem_of (by decide +kernel) rfl (by intro h; cases h) (fr_Md_bodies G)
def y_Md_bodyOf : MethodName := ⟨"CellarTurnsModel", "bodyOf", "(II)I"⟩
abbrev c_Md_bodyOf : ByteArray := prog_15_method_47_code
theorem mt_Md_bodyOf : JMt y_Md_bodyOf c_Md_bodyOf 3 (some .int) 2 := ⟨(List.mem_of_getElem? (i := 1467) (by decide +kernel)), (List.mem_of_getElem? (i := 133) (by decide +kernel)), ⟨by decide +kernel, by decide +kernel⟩, by decide +kernel, by decide⟩
theorem in_Md_bodyOf : Cond.instanceMethod y_Md_bodyOf ∈ lw_tbl := (List.mem_of_getElem? (i := 1466) (by decide +kernel))
theorem sl_Md_bodyOf : Cond.selects y_Md_bodyOf.cls y_Md_bodyOf y_Md_bodyOf ∈ lw_tbl := (List.mem_of_getElem? (i := 52) (by decide +kernel))
noncomputable def qp_Md_bodyOf : JP := (jb_rt (jx_run [(4, 0, 0), (42, 11, 10), (0, 0, 8), (0, 0, 4), (2, 1, 0), (12, 0, 0), (10, 0, 0), (2, 2, 0), (10, 0, 0), (50, 0, 0)]) 1)
noncomputable def q_Md_bodyOf : JF := jf_of qp_Md_bodyOf 3
set_option maxRecDepth 20000 in
theorem fr_Md_bodyOf (G : JG) : JFr G 11 false c_Md_bodyOf 0 3 (some .int) 0 qp_Md_bodyOf := (jfr_rt (j := 13) (jsl_run (by decide +kernel)) (by decide +kernel))
theorem se_Md_bodyOf (G : JG) : JSem G y_Md_bodyOf c_Md_bodyOf 3 (some .int) 0 q_Md_bodyOf := jsem_of (by decide +kernel) rfl (by intro h; cases h) (fr_Md_bodyOf G)
def y_Md_starts : MethodName := ⟨"CellarTurnsModel", "starts", "(I)V"⟩
abbrev c_Md_starts : ByteArray := prog_15_method_43_code
theorem mt_Md_starts : JMt y_Md_starts c_Md_starts 4 none 1 := ⟨(List.mem_of_getElem? (i := 1459) (by decide +kernel)), (List.mem_of_getElem? (i := 133) (by decide +kernel)), ⟨by decide +kernel, by decide +kernel⟩, by decide +kernel, by decide⟩
theorem in_Md_starts : Cond.instanceMethod y_Md_starts ∈ lw_tbl := (List.mem_of_getElem? (i := 1458) (by decide +kernel))
theorem sl_Md_starts : Cond.selects y_Md_starts.cls y_Md_starts y_Md_starts ∈ lw_tbl := (List.mem_of_getElem? (i := 50) (by decide +kernel))
noncomputable def qp_Md_starts : JP := (jb_sq (jb_go (jx_run [(0, 0, 0), (5, 2, 0)]) 2) 2 (jb_sq (jb_lp 2 (jb_sq (jb_if (jx_run [(2, 2, 0), (0, 0, 91)]) 9 23 8) 8 (jb_go (jx_run [(4, 0, 0), (42, 11, 23), (2, 1, 0), (2, 2, 0), (10, 0, 0), (0, 0, 0), (55, 0, 0), (8, 2, 1)]) 2))) 23 (jb_sq (jb_go (jx_run [(0, 0, 0), (5, 2, 0)]) 25) 25 (jb_sq (jb_lp 25 (jb_sq (jb_if (jn (jx_run [(2, 2, 0), (4, 0, 0)]) (jx_cv 1 11 q_Md_bodies)) 9 154 33) 33 (jb_sq (jb_go (jn (jx_run [(4, 0, 0), (42, 11, 23), (2, 1, 0), (0, 0, 3), (10, 0, 0), (2, 2, 0), (10, 0, 0), (4, 0, 0), (2, 2, 0), (0, 0, 3)]) (jn (jx_cv 3 11 q_Md_bodyOf) (jn (jx_run [(55, 0, 0), (4, 0, 0), (42, 11, 23), (2, 1, 0), (0, 0, 19), (10, 0, 0), (2, 2, 0), (10, 0, 0), (0, 0, 1), (4, 0, 0), (2, 2, 0), (0, 0, 1)]) (jn (jx_cv 3 11 q_Md_bodyOf) (jx_run [(11, 0, 0), (55, 0, 0), (0, 0, 0), (5, 3, 0)]))))) 70) 70 (jb_sq (jb_lp 70 (jb_sq (jb_if (jn (jx_run [(2, 3, 0), (4, 0, 0)]) (jx_cv 1 11 q_Md_bodies)) 9 148 78) 78 (jb_sq (jb_sq (jb_sq (jb_if (jx_run [(4, 0, 0), (42, 11, 23), (2, 1, 0), (0, 0, 27), (10, 0, 0), (0, 0, 8), (2, 2, 0), (12, 0, 0), (10, 0, 0), (2, 3, 0), (10, 0, 0), (4, 0, 0), (42, 11, 10), (0, 0, 40), (0, 0, 8), (2, 2, 0), (12, 0, 0), (10, 0, 0), (2, 3, 0), (10, 0, 0), (50, 0, 0), (55, 0, 0), (4, 0, 0), (42, 11, 23), (2, 1, 0), (0, 0, 2), (10, 0, 0), (72, 0, 0), (50, 0, 0), (2, 3, 0), (2, 2, 0)]) 9 139 122) 122 (jb_go (jx_run [(4, 0, 0), (42, 11, 10), (0, 0, 40), (0, 0, 8), (2, 2, 0), (12, 0, 0), (10, 0, 0), (2, 3, 0), (10, 0, 0), (50, 0, 0)]) 140)) 139 (jb_go (jx_run [(0, 0, 0)]) 140)) 140 (jb_go (jx_run [(10, 0, 0), (55, 0, 0), (8, 3, 1)]) 70)))) 148 (jb_go (jx_run [(8, 2, 1)]) 25))))) 154 (jb_rt (jx_run []) 0)))))
noncomputable def q_Md_starts : JF := jf_of qp_Md_starts 4
set_option maxRecDepth 20000 in
theorem fr_Md_starts (G : JG) : JFr G 11 false c_Md_starts 1 4 none 0 qp_Md_starts := (jfr_sq (jfr_go (j := 2) (jsl_run (by decide +kernel)) (by decide +kernel) (by decide)) (jfr_sq (jfr_lp (jfr_sq (jfr_if (j := 5) (jsl_run (by decide +kernel)) (by decide +kernel) (by decide)) (jfr_go (j := 20) (jsl_run (by decide +kernel)) (by decide +kernel) (by decide)) (by decide)) (by decide)) (jfr_sq (jfr_go (j := 25) (jsl_run (by decide +kernel)) (by decide +kernel) (by decide)) (jfr_sq (jfr_lp (jfr_sq (jfr_if (j := 30) (jsl_n (j := 27) (jsl_run (by decide +kernel)) (jsl_cv (ix := 279) mt_Md_bodies in_Md_bodies sl_Md_bodies rfl (by decide) (se_Md_bodies _) (by decide) (List.mem_of_getElem? (i := 1460) (by decide +kernel)) (by decide +kernel))) (by decide +kernel) (by decide)) (jfr_sq (jfr_go (j := 70) (jsl_n (j := 45) (jsl_run (by decide +kernel)) (jsl_n (j := 48) (jsl_cv (ix := 282) mt_Md_bodyOf in_Md_bodyOf sl_Md_bodyOf rfl (by decide) (se_Md_bodyOf _) (by decide) (List.mem_of_getElem? (i := 1464) (by decide +kernel)) (by decide +kernel)) (jsl_n (j := 63) (jsl_run (by decide +kernel)) (jsl_n (j := 66) (jsl_cv (ix := 282) mt_Md_bodyOf in_Md_bodyOf sl_Md_bodyOf rfl (by decide) (se_Md_bodyOf _) (by decide) (List.mem_of_getElem? (i := 1464) (by decide +kernel)) (by decide +kernel)) (jsl_run (by decide +kernel)))))) (by decide +kernel) (by decide)) (jfr_sq (jfr_lp (jfr_sq (jfr_if (j := 75) (jsl_n (j := 72) (jsl_run (by decide +kernel)) (jsl_cv (ix := 279) mt_Md_bodies in_Md_bodies sl_Md_bodies rfl (by decide) (se_Md_bodies _) (by decide) (List.mem_of_getElem? (i := 1460) (by decide +kernel)) (by decide +kernel))) (by decide +kernel) (by decide)) (jfr_sq (jfr_sq (jfr_sq (jfr_if (j := 119) (jsl_run (by decide +kernel)) (by decide +kernel) (by decide)) (jfr_go (j := 136) (jsl_run (by decide +kernel)) (by decide +kernel) (by decide)) (by decide)) (jfr_go (j := 140) (jsl_run (by decide +kernel)) (by decide +kernel) (by decide)) (by decide)) (jfr_go (j := 145) (jsl_run (by decide +kernel)) (by decide +kernel) (by decide)) (by decide)) (by decide)) (by decide)) (jfr_go (j := 151) (jsl_run (by decide +kernel)) (by decide +kernel) (by decide)) (by decide)) (by decide)) (by decide)) (by decide)) (jfr_rt (j := 154) (jsl_run (by decide +kernel)) (by decide +kernel)) (by decide)) (by decide)) (by decide)) (by decide))
theorem se_Md_starts (G : JG) : JSem G y_Md_starts c_Md_starts 4 none 1 q_Md_starts := jsem_of (by decide +kernel) rfl (by intro h; cases h) (fr_Md_starts G)
def y_Md_begins : MethodName := ⟨"CellarTurnsModel", "begins", "()V"⟩
abbrev c_Md_begins : ByteArray := prog_15_method_44_code
theorem mt_Md_begins : JMt y_Md_begins c_Md_begins 2 none 0 := ⟨(List.mem_of_getElem? (i := 1455) (by decide +kernel)), (List.mem_of_getElem? (i := 133) (by decide +kernel)), ⟨by decide +kernel, by decide +kernel⟩, by decide +kernel, by decide⟩
theorem in_Md_begins : Cond.instanceMethod y_Md_begins ∈ lw_tbl := (List.mem_of_getElem? (i := 1454) (by decide +kernel))
theorem sl_Md_begins : Cond.selects y_Md_begins.cls y_Md_begins y_Md_begins ∈ lw_tbl := (List.mem_of_getElem? (i := 49) (by decide +kernel))
noncomputable def qp_Md_begins : JP := (jb_sq (jb_go (jn (jx_run [(4, 0, 0), (0, 0, 0)]) (jn (jx_cv 2 11 q_Md_starts) (jx_run [(4, 0, 0), (42, 11, 23), (0, 0, 91), (0, 0, 0), (55, 0, 0), (4, 0, 0), (42, 11, 20), (0, 0, 0), (0, 0, 0), (55, 0, 0), (4, 0, 0), (0, 0, 0), (43, 11, 24), (0, 0, 0), (5, 1, 0)]))) 27) 27 (jb_sq (jb_lp 27 (jb_sq (jb_if (jx_run [(2, 1, 0), (0, 0, 4)]) 9 45 32) 32 (jb_go (jx_run [(4, 0, 0), (42, 11, 25), (2, 1, 0), (0, 0, 0), (57, 0, 0), (8, 1, 1)]) 27))) 45 (jb_rt (jx_run []) 0)))
noncomputable def q_Md_begins : JF := jf_of qp_Md_begins 2
set_option maxRecDepth 20000 in
theorem fr_Md_begins (G : JG) : JFr G 11 false c_Md_begins 2 2 none 0 qp_Md_begins := (jfr_sq (jfr_go (j := 27) (jsl_n (j := 2) (jsl_run (by decide +kernel)) (jsl_n (j := 5) (jsl_cv (ix := 285) mt_Md_starts in_Md_starts sl_Md_starts rfl (by decide) (se_Md_starts _) (by decide) (List.mem_of_getElem? (i := 1456) (by decide +kernel)) (by decide +kernel)) (jsl_run (by decide +kernel)))) (by decide +kernel) (by decide)) (jfr_sq (jfr_lp (jfr_sq (jfr_if (j := 29) (jsl_run (by decide +kernel)) (by decide +kernel) (by decide)) (jfr_go (j := 42) (jsl_run (by decide +kernel)) (by decide +kernel) (by decide)) (by decide)) (by decide)) (jfr_rt (j := 45) (jsl_run (by decide +kernel)) (by decide +kernel)) (by decide)) (by decide))
theorem se_Md_begins (G : JG) : JSem G y_Md_begins c_Md_begins 2 none 2 q_Md_begins := jsem_of (by decide +kernel) rfl (by intro h; cases h) (fr_Md_begins G)
def y_Md_init : MethodName := ⟨"CellarTurnsModel", "<init>", "()V"⟩
abbrev c_Md_init : ByteArray := prog_15_method_4_code
theorem mt_Md_init : JMt y_Md_init c_Md_init 1 none 0 := ⟨(List.mem_of_getElem? (i := 1425) (by decide +kernel)), (List.mem_of_getElem? (i := 133) (by decide +kernel)), ⟨by decide +kernel, by decide +kernel⟩, by decide +kernel, by decide⟩
theorem in_Md_init : Cond.instanceMethod y_Md_init ∈ lw_tbl := (List.mem_of_getElem? (i := 1424) (by decide +kernel))
noncomputable def qp_Md_init : JP := (jb_rt (jn (jx_run [(4, 0, 0)]) (jn jx_oi (jn (jx_run [(4, 0, 0), (0, 0, 1000), (62, 100, 0), (48, 11, 1), (4, 0, 0), (0, 0, 1002), (62, 100, 0), (48, 11, 4), (4, 0, 0), (0, 0, 1002), (62, 100, 0), (48, 11, 5), (4, 0, 0), (0, 0, 1002), (62, 101, 0), (48, 11, 6), (4, 0, 0), (0, 0, 21), (62, 101, 0), (70, 0, 0), (0, 0, 0), (1, 0, 1119812451), (56, 0, 0), (70, 0, 0), (0, 0, 1), (1, 0, 19374), (56, 0, 0), (70, 0, 0), (0, 0, 2), (1, 0, 30910767), (56, 0, 0), (70, 0, 0), (0, 0, 3), (1, 0, 924600), (56, 0, 0), (70, 0, 0), (0, 0, 4), (1, 0, 108350), (56, 0, 0), (70, 0, 0), (0, 0, 5), (1, 0, 2793), (56, 0, 0), (70, 0, 0), (0, 0, 6), (1, 0, 28443912), (56, 0, 0), (70, 0, 0), (0, 0, 7), (1, 0, 6409048), (56, 0, 0), (70, 0, 0), (0, 0, 8), (1, 0, 1042489), (56, 0, 0), (70, 0, 0), (0, 0, 9), (1, 0, 34523964), (56, 0, 0), (70, 0, 0), (0, 0, 10), (1, 0, 11525730), (56, 0, 0), (70, 0, 0), (0, 0, 11), (1, 0, 30596128), (56, 0, 0), (70, 0, 0), (0, 0, 12), (1, 0, 12777), (56, 0, 0), (70, 0, 0), (0, 0, 13), (1, 0, 26332), (56, 0, 0), (70, 0, 0), (0, 0, 14), (1, 0, 4164), (56, 0, 0), (70, 0, 0), (0, 0, 15), (1, 0, 19741), (56, 0, 0), (70, 0, 0), (0, 0, 16), (1, 0, 1891), (56, 0, 0), (70, 0, 0), (0, 0, 17), (1, 0, 573), (56, 0, 0), (70, 0, 0), (0, 0, 18), (1, 0, 44038517), (56, 0, 0), (70, 0, 0), (0, 0, 19), (1, 0, 38572112), (56, 0, 0), (70, 0, 0), (0, 0, 20), (1, 0, 18002), (56, 0, 0), (48, 11, 9), (4, 0, 0), (0, 0, 360), (62, 100, 0), (48, 11, 10), (4, 0, 0), (0, 0, 2200), (62, 100, 0), (48, 11, 11), (4, 0, 0), (0, 0, 2200), (62, 100, 0), (48, 11, 12), (4, 0, 0), (0, 0, 8), (62, 101, 0), (48, 11, 14), (4, 0, 0), (0, 0, 8), (62, 101, 0), (48, 11, 15), (4, 0, 0), (0, 0, 250), (62, 100, 0), (48, 11, 20), (4, 0, 0), (0, 0, 3), (62, 100, 0), (48, 11, 21), (4, 0, 0), (0, 0, 1100), (62, 100, 0), (48, 11, 22), (4, 0, 0), (0, 0, 2484), (62, 100, 0), (48, 11, 23), (4, 0, 0), (0, 0, 4), (62, 103, 0), (48, 11, 25), (4, 0, 0), (0, 0, 40), (62, 100, 0), (48, 11, 26), (4, 0, 0), (0, 0, 40), (62, 100, 0), (48, 11, 27), (4, 0, 0), (0, 0, 8), (62, 100, 0), (48, 11, 32), (4, 0, 0), (0, 0, 10), (62, 100, 0), (48, 11, 33), (4, 0, 0), (0, 0, 5), (62, 100, 0), (48, 11, 35), (4, 0, 0), (0, 0, 5), (62, 100, 0), (48, 11, 36), (4, 0, 0), (0, 0, 800), (62, 101, 0), (48, 11, 39), (4, 0, 0), (0, 0, 64), (62, 100, 0), (48, 11, 42), (4, 0, 0), (0, 0, 64), (62, 100, 0), (48, 11, 43), (4, 0, 0), (0, 0, 0)]) (jn (jx_cv 2 11 q_Md_standsAsAlways) (jn (jx_run [(4, 0, 0)]) (jx_cv 1 11 q_Md_begins)))))) 0)
noncomputable def q_Md_init : JF := jf_of qp_Md_init 1
set_option maxRecDepth 20000 in
theorem fr_Md_init (G : JG) : JFr G 11 true c_Md_init 3 1 none 0 qp_Md_init := (jfr_rt (j := 353) (jsl_n (j := 1) (jsl_run (by decide +kernel)) (jsl_n (j := 4) (jsl_oi (ix := 18) (List.mem_of_getElem? (i := 1426) (by decide +kernel)) (by decide) (by decide +kernel)) (jsl_n (j := 346) (jsl_run (by decide +kernel)) (jsl_n (j := 349) (jsl_cv (ix := 137) mt_Md_standsAsAlways in_Md_standsAsAlways sl_Md_standsAsAlways rfl (by decide) (se_Md_standsAsAlways _) (by decide) (List.mem_of_getElem? (i := 1448) (by decide +kernel)) (by decide +kernel)) (jsl_n (j := 350) (jsl_run (by decide +kernel)) (jsl_cv (ix := 141) mt_Md_begins in_Md_begins sl_Md_begins rfl (by decide) (se_Md_begins _) (by decide) (List.mem_of_getElem? (i := 1452) (by decide +kernel)) (by decide +kernel))))))) (by decide +kernel))
theorem se_Md_init (G : JG) : JSem G y_Md_init c_Md_init 1 none 3 q_Md_init := jsem_of (by decide +kernel) rfl (by intro _; rfl) (fr_Md_init G)
def y_Md_adds : MethodName := ⟨"CellarTurnsModel", "adds", "(II)V"⟩
abbrev c_Md_adds : ByteArray := prog_15_method_72_code
theorem mt_Md_adds : JMt y_Md_adds c_Md_adds 3 none 2 := ⟨(List.mem_of_getElem? (i := 1857) (by decide +kernel)), (List.mem_of_getElem? (i := 133) (by decide +kernel)), ⟨by decide +kernel, by decide +kernel⟩, by decide +kernel, by decide⟩
theorem in_Md_adds : Cond.instanceMethod y_Md_adds ∈ lw_tbl := (List.mem_of_getElem? (i := 1856) (by decide +kernel))
theorem sl_Md_adds : Cond.selects y_Md_adds.cls y_Md_adds y_Md_adds ∈ lw_tbl := (List.mem_of_getElem? (i := 99) (by decide +kernel))
noncomputable def qp_Md_adds : JP := (jb_rt (jx_run [(4, 0, 0), (42, 11, 26), (4, 0, 0), (40, 11, 28), (2, 1, 0), (55, 0, 0), (4, 0, 0), (42, 11, 27), (4, 0, 0), (40, 11, 28), (2, 2, 0), (55, 0, 0), (4, 0, 0), (70, 0, 0), (40, 11, 28), (0, 0, 1), (10, 0, 0), (43, 11, 28)]) 0)
noncomputable def q_Md_adds : JF := jf_of qp_Md_adds 3
set_option maxRecDepth 20000 in
theorem fr_Md_adds (G : JG) : JFr G 11 false c_Md_adds 0 3 none 0 qp_Md_adds := (jfr_rt (j := 30) (jsl_run (by decide +kernel)) (by decide +kernel))
theorem se_Md_adds (G : JG) : JSem G y_Md_adds c_Md_adds 3 none 0 q_Md_adds := jsem_of (by decide +kernel) rfl (by intro h; cases h) (fr_Md_adds G)
def y_Md_isWord : MethodName := ⟨"CellarTurnsModel", "isWord", "(I)Z"⟩
abbrev c_Md_isWord : ByteArray := prog_15_method_12_code
theorem mt_Md_isWord : JMt y_Md_isWord c_Md_isWord 2 (some .boolean) 1 := ⟨(List.mem_of_getElem? (i := 1635) (by decide +kernel)), (List.mem_of_getElem? (i := 133) (by decide +kernel)), ⟨by decide +kernel, by decide +kernel⟩, by decide +kernel, by decide⟩
theorem in_Md_isWord : Cond.instanceMethod y_Md_isWord ∈ lw_tbl := (List.mem_of_getElem? (i := 1634) (by decide +kernel))
theorem sl_Md_isWord : Cond.selects y_Md_isWord.cls y_Md_isWord y_Md_isWord ∈ lw_tbl := (List.mem_of_getElem? (i := 55) (by decide +kernel))
noncomputable def qp_Md_isWord : JP := (jb_sq (jb_sq (jb_sq (jb_if (jx_run [(4, 0, 0), (40, 11, 8)]) 1 43 7) 7 (jb_sq (jb_if (jx_run [(4, 0, 0), (42, 11, 4), (4, 0, 0), (40, 11, 7), (50, 0, 0), (0, 0, 1)]) 7 43 20) 20 (jb_sq (jb_if (jx_run [(4, 0, 0), (42, 11, 6), (4, 0, 0), (40, 11, 7), (51, 0, 0), (4, 0, 0), (42, 11, 9), (2, 1, 0), (51, 0, 0), (33, 0, 0)]) 1 43 39) 39 (jb_go (jx_run [(0, 0, 1)]) 44)))) 43 (jb_go (jx_run [(0, 0, 0)]) 44)) 44 (jb_rt (jx_run []) 4))
noncomputable def q_Md_isWord : JF := jf_of qp_Md_isWord 2
set_option maxRecDepth 20000 in
theorem fr_Md_isWord (G : JG) : JFr G 11 false c_Md_isWord 0 2 (some .boolean) 0 qp_Md_isWord := (jfr_sq (jfr_sq (jfr_sq (jfr_if (j := 4) (jsl_run (by decide +kernel)) (by decide +kernel) (by decide)) (jfr_sq (jfr_if (j := 17) (jsl_run (by decide +kernel)) (by decide +kernel) (by decide)) (jfr_sq (jfr_if (j := 36) (jsl_run (by decide +kernel)) (by decide +kernel) (by decide)) (jfr_go (j := 40) (jsl_run (by decide +kernel)) (by decide +kernel) (by decide)) (by decide)) (by decide)) (by decide)) (jfr_go (j := 44) (jsl_run (by decide +kernel)) (by decide +kernel) (by decide)) (by decide)) (jfr_rt (j := 44) (jsl_run (by decide +kernel)) (by decide +kernel)) (by decide))
theorem se_Md_isWord (G : JG) : JSem G y_Md_isWord c_Md_isWord 2 (some .boolean) 0 q_Md_isWord := jsem_of (by decide +kernel) rfl (by intro h; cases h) (fr_Md_isWord G)
def y_Md_wordHere : MethodName := ⟨"CellarTurnsModel", "wordHere", "(II)I"⟩
abbrev c_Md_wordHere : ByteArray := prog_15_method_20_code
theorem mt_Md_wordHere : JMt y_Md_wordHere c_Md_wordHere 5 (some .int) 2 := ⟨(List.mem_of_getElem? (i := 1651) (by decide +kernel)), (List.mem_of_getElem? (i := 133) (by decide +kernel)), ⟨by decide +kernel, by decide +kernel⟩, by decide +kernel, by decide⟩
theorem in_Md_wordHere : Cond.instanceMethod y_Md_wordHere ∈ lw_tbl := (List.mem_of_getElem? (i := 1650) (by decide +kernel))
theorem sl_Md_wordHere : Cond.selects y_Md_wordHere.cls y_Md_wordHere y_Md_wordHere ∈ lw_tbl := (List.mem_of_getElem? (i := 59) (by decide +kernel))
noncomputable def qp_Md_wordHere : JP := (jb_sq (jb_go (jx_run [(0, 0, -1), (5, 3, 0), (0, 0, 0), (5, 4, 0)]) 5) 5 (jb_sq (jb_lp 5 (jb_sq (jb_if (jx_run [(2, 4, 0), (2, 2, 0)]) 9 35 11) 11 (jb_sq (jb_sq (jb_sq (jb_if (jn (jx_run [(4, 0, 0), (2, 1, 0), (2, 4, 0), (10, 0, 0)]) (jx_cv 2 11 q_Md_isWord)) 0 27 22) 22 (jb_go (jx_run [(2, 4, 0)]) 28)) 27 (jb_go (jx_run [(2, 3, 0)]) 28)) 28 (jb_go (jx_run [(5, 3, 0), (8, 4, 1)]) 5)))) 35 (jb_rt (jx_run [(2, 3, 0)]) 1)))
noncomputable def q_Md_wordHere : JF := jf_of qp_Md_wordHere 5
set_option maxRecDepth 20000 in
theorem fr_Md_wordHere (G : JG) : JFr G 11 false c_Md_wordHere 1 5 (some .int) 0 qp_Md_wordHere := (jfr_sq (jfr_go (j := 5) (jsl_run (by decide +kernel)) (by decide +kernel) (by decide)) (jfr_sq (jfr_lp (jfr_sq (jfr_if (j := 8) (jsl_run (by decide +kernel)) (by decide +kernel) (by decide)) (jfr_sq (jfr_sq (jfr_sq (jfr_if (j := 19) (jsl_n (j := 16) (jsl_run (by decide +kernel)) (jsl_cv (ix := 179) mt_Md_isWord in_Md_isWord sl_Md_isWord rfl (by decide) (se_Md_isWord _) (by decide) (List.mem_of_getElem? (i := 1632) (by decide +kernel)) (by decide +kernel))) (by decide +kernel) (by decide)) (jfr_go (j := 24) (jsl_run (by decide +kernel)) (by decide +kernel) (by decide)) (by decide)) (jfr_go (j := 28) (jsl_run (by decide +kernel)) (by decide +kernel) (by decide)) (by decide)) (jfr_go (j := 32) (jsl_run (by decide +kernel)) (by decide +kernel) (by decide)) (by decide)) (by decide)) (by decide)) (jfr_rt (j := 36) (jsl_run (by decide +kernel)) (by decide +kernel)) (by decide)) (by decide))
theorem se_Md_wordHere (G : JG) : JSem G y_Md_wordHere c_Md_wordHere 5 (some .int) 1 q_Md_wordHere := jsem_of (by decide +kernel) rfl (by intro h; cases h) (fr_Md_wordHere G)
def y_Md_isSign : MethodName := ⟨"CellarTurnsModel", "isSign", "(I)Z"⟩
abbrev c_Md_isSign : ByteArray := prog_15_method_11_code
theorem mt_Md_isSign : JMt y_Md_isSign c_Md_isSign 2 (some .boolean) 1 := ⟨(List.mem_of_getElem? (i := 1711) (by decide +kernel)), (List.mem_of_getElem? (i := 133) (by decide +kernel)), ⟨by decide +kernel, by decide +kernel⟩, by decide +kernel, by decide⟩
theorem in_Md_isSign : Cond.instanceMethod y_Md_isSign ∈ lw_tbl := (List.mem_of_getElem? (i := 1710) (by decide +kernel))
theorem sl_Md_isSign : Cond.selects y_Md_isSign.cls y_Md_isSign y_Md_isSign ∈ lw_tbl := (List.mem_of_getElem? (i := 74) (by decide +kernel))
noncomputable def qp_Md_isSign : JP := (jb_sq (jb_sq (jb_sq (jb_if (jx_run [(4, 0, 0), (40, 11, 8)]) 1 39 7) 7 (jb_sq (jb_if (jx_run [(4, 0, 0), (42, 11, 4), (4, 0, 0), (40, 11, 7), (50, 0, 0), (0, 0, 3)]) 7 39 20) 20 (jb_sq (jb_if (jx_run [(4, 0, 0), (42, 11, 6), (4, 0, 0), (40, 11, 7), (51, 0, 0), (2, 1, 0), (34, 0, 0), (33, 0, 0)]) 1 39 35) 35 (jb_go (jx_run [(0, 0, 1)]) 40)))) 39 (jb_go (jx_run [(0, 0, 0)]) 40)) 40 (jb_rt (jx_run []) 4))
noncomputable def q_Md_isSign : JF := jf_of qp_Md_isSign 2
set_option maxRecDepth 20000 in
theorem fr_Md_isSign (G : JG) : JFr G 11 false c_Md_isSign 0 2 (some .boolean) 0 qp_Md_isSign := (jfr_sq (jfr_sq (jfr_sq (jfr_if (j := 4) (jsl_run (by decide +kernel)) (by decide +kernel) (by decide)) (jfr_sq (jfr_if (j := 17) (jsl_run (by decide +kernel)) (by decide +kernel) (by decide)) (jfr_sq (jfr_if (j := 32) (jsl_run (by decide +kernel)) (by decide +kernel) (by decide)) (jfr_go (j := 36) (jsl_run (by decide +kernel)) (by decide +kernel) (by decide)) (by decide)) (by decide)) (by decide)) (jfr_go (j := 40) (jsl_run (by decide +kernel)) (by decide +kernel) (by decide)) (by decide)) (jfr_rt (j := 40) (jsl_run (by decide +kernel)) (by decide +kernel)) (by decide))
theorem se_Md_isSign (G : JG) : JSem G y_Md_isSign c_Md_isSign 2 (some .boolean) 0 q_Md_isSign := jsem_of (by decide +kernel) rfl (by intro h; cases h) (fr_Md_isSign G)
def y_Md_wrong : MethodName := ⟨"CellarTurnsModel", "wrong", "(I)V"⟩
abbrev c_Md_wrong : ByteArray := prog_15_method_10_code
theorem mt_Md_wrong : JMt y_Md_wrong c_Md_wrong 2 none 1 := ⟨(List.mem_of_getElem? (i := 1643) (by decide +kernel)), (List.mem_of_getElem? (i := 133) (by decide +kernel)), ⟨by decide +kernel, by decide +kernel⟩, by decide +kernel, by decide⟩
theorem in_Md_wrong : Cond.instanceMethod y_Md_wrong ∈ lw_tbl := (List.mem_of_getElem? (i := 1642) (by decide +kernel))
theorem sl_Md_wrong : Cond.selects y_Md_wrong.cls y_Md_wrong y_Md_wrong ∈ lw_tbl := (List.mem_of_getElem? (i := 57) (by decide +kernel))
noncomputable def qp_Md_wrong : JP := (jb_sq (jb_sq (jb_if (jx_run [(4, 0, 0), (40, 11, 8)]) 1 25 7) 7 (jb_go (jx_run [(4, 0, 0), (2, 1, 0), (0, 0, 16), (4, 0, 0), (42, 11, 5), (4, 0, 0), (40, 11, 7), (50, 0, 0), (12, 0, 0), (10, 0, 0), (43, 11, 8)]) 25)) 25 (jb_rt (jx_run []) 0))
noncomputable def q_Md_wrong : JF := jf_of qp_Md_wrong 2
set_option maxRecDepth 20000 in
theorem fr_Md_wrong (G : JG) : JFr G 11 false c_Md_wrong 0 2 none 0 qp_Md_wrong := (jfr_sq (jfr_sq (jfr_if (j := 4) (jsl_run (by decide +kernel)) (by decide +kernel) (by decide)) (jfr_go (j := 25) (jsl_run (by decide +kernel)) (by decide +kernel) (by decide)) (by decide)) (jfr_rt (j := 25) (jsl_run (by decide +kernel)) (by decide +kernel)) (by decide))
theorem se_Md_wrong (G : JG) : JSem G y_Md_wrong c_Md_wrong 2 none 0 q_Md_wrong := jsem_of (by decide +kernel) rfl (by intro h; cases h) (fr_Md_wrong G)
def y_Md_hasWord : MethodName := ⟨"CellarTurnsModel", "hasWord", "(I)Z"⟩
abbrev c_Md_hasWord : ByteArray := prog_15_method_15_code
theorem mt_Md_hasWord : JMt y_Md_hasWord c_Md_hasWord 3 (some .boolean) 1 := ⟨(List.mem_of_getElem? (i := 1663) (by decide +kernel)), (List.mem_of_getElem? (i := 133) (by decide +kernel)), ⟨by decide +kernel, by decide +kernel⟩, by decide +kernel, by decide⟩
theorem in_Md_hasWord : Cond.instanceMethod y_Md_hasWord ∈ lw_tbl := (List.mem_of_getElem? (i := 1662) (by decide +kernel))
theorem sl_Md_hasWord : Cond.selects y_Md_hasWord.cls y_Md_hasWord y_Md_hasWord ∈ lw_tbl := (List.mem_of_getElem? (i := 62) (by decide +kernel))
noncomputable def qp_Md_hasWord : JP := (jb_sq (jb_sq (jb_sq (jb_if (jn (jx_run [(4, 0, 0), (2, 1, 0)]) (jn (jx_cv 2 11 q_Md_isWord) (jx_run [(5, 2, 0), (4, 0, 0), (70, 0, 0), (40, 11, 7), (2, 2, 0)]))) 0 19 15) 15 (jb_go (jx_run [(0, 0, 1)]) 20)) 19 (jb_go (jx_run [(0, 0, 0)]) 20)) 20 (jb_rt (jx_run [(10, 0, 0), (43, 11, 7), (2, 2, 0)]) 4))
noncomputable def q_Md_hasWord : JF := jf_of qp_Md_hasWord 3
set_option maxRecDepth 20000 in
theorem fr_Md_hasWord (G : JG) : JFr G 11 false c_Md_hasWord 1 3 (some .boolean) 0 qp_Md_hasWord := (jfr_sq (jfr_sq (jfr_sq (jfr_if (j := 12) (jsl_n (j := 2) (jsl_run (by decide +kernel)) (jsl_n (j := 5) (jsl_cv (ix := 179) mt_Md_isWord in_Md_isWord sl_Md_isWord rfl (by decide) (se_Md_isWord _) (by decide) (List.mem_of_getElem? (i := 1632) (by decide +kernel)) (by decide +kernel)) (jsl_run (by decide +kernel)))) (by decide +kernel) (by decide)) (jfr_go (j := 16) (jsl_run (by decide +kernel)) (by decide +kernel) (by decide)) (by decide)) (jfr_go (j := 20) (jsl_run (by decide +kernel)) (by decide +kernel) (by decide)) (by decide)) (jfr_rt (j := 25) (jsl_run (by decide +kernel)) (by decide +kernel)) (by decide))
theorem se_Md_hasWord (G : JG) : JSem G y_Md_hasWord c_Md_hasWord 3 (some .boolean) 1 q_Md_hasWord := jsem_of (by decide +kernel) rfl (by intro h; cases h) (fr_Md_hasWord G)
def y_Md_emit : MethodName := ⟨"CellarTurnsModel", "emit", "(II)V"⟩
abbrev c_Md_emit : ByteArray := prog_15_method_34_code
theorem mt_Md_emit : JMt y_Md_emit c_Md_emit 3 none 2 := ⟨(List.mem_of_getElem? (i := 1715) (by decide +kernel)), (List.mem_of_getElem? (i := 133) (by decide +kernel)), ⟨by decide +kernel, by decide +kernel⟩, by decide +kernel, by decide⟩
theorem in_Md_emit : Cond.instanceMethod y_Md_emit ∈ lw_tbl := (List.mem_of_getElem? (i := 1714) (by decide +kernel))
theorem sl_Md_emit : Cond.selects y_Md_emit.cls y_Md_emit y_Md_emit ∈ lw_tbl := (List.mem_of_getElem? (i := 75) (by decide +kernel))
noncomputable def qp_Md_emit : JP := (jb_rt (jx_run [(4, 0, 0), (42, 11, 11), (0, 0, 1100), (4, 0, 0), (40, 11, 13), (10, 0, 0), (2, 1, 0), (55, 0, 0), (4, 0, 0), (42, 11, 12), (0, 0, 1100), (4, 0, 0), (40, 11, 13), (10, 0, 0), (2, 2, 0), (55, 0, 0), (4, 0, 0), (70, 0, 0), (40, 11, 13), (0, 0, 1), (10, 0, 0), (43, 11, 13)]) 0)
noncomputable def q_Md_emit : JF := jf_of qp_Md_emit 3
set_option maxRecDepth 20000 in
theorem fr_Md_emit (G : JG) : JFr G 11 false c_Md_emit 0 3 none 0 qp_Md_emit := (jfr_rt (j := 38) (jsl_run (by decide +kernel)) (by decide +kernel))
theorem se_Md_emit (G : JG) : JSem G y_Md_emit c_Md_emit 3 none 0 q_Md_emit := jsem_of (by decide +kernel) rfl (by intro h; cases h) (fr_Md_emit G)
def y_Md_hasSign : MethodName := ⟨"CellarTurnsModel", "hasSign", "(I)Z"⟩
abbrev c_Md_hasSign : ByteArray := prog_15_method_14_code
theorem mt_Md_hasSign : JMt y_Md_hasSign c_Md_hasSign 3 (some .boolean) 1 := ⟨(List.mem_of_getElem? (i := 1719) (by decide +kernel)), (List.mem_of_getElem? (i := 133) (by decide +kernel)), ⟨by decide +kernel, by decide +kernel⟩, by decide +kernel, by decide⟩
theorem in_Md_hasSign : Cond.instanceMethod y_Md_hasSign ∈ lw_tbl := (List.mem_of_getElem? (i := 1718) (by decide +kernel))
theorem sl_Md_hasSign : Cond.selects y_Md_hasSign.cls y_Md_hasSign y_Md_hasSign ∈ lw_tbl := (List.mem_of_getElem? (i := 76) (by decide +kernel))
noncomputable def qp_Md_hasSign : JP := (jb_sq (jb_sq (jb_sq (jb_if (jn (jx_run [(4, 0, 0), (2, 1, 0)]) (jn (jx_cv 2 11 q_Md_isSign) (jx_run [(5, 2, 0), (4, 0, 0), (70, 0, 0), (40, 11, 7), (2, 2, 0)]))) 0 19 15) 15 (jb_go (jx_run [(0, 0, 1)]) 20)) 19 (jb_go (jx_run [(0, 0, 0)]) 20)) 20 (jb_rt (jx_run [(10, 0, 0), (43, 11, 7), (2, 2, 0)]) 4))
noncomputable def q_Md_hasSign : JF := jf_of qp_Md_hasSign 3
set_option maxRecDepth 20000 in
theorem fr_Md_hasSign (G : JG) : JFr G 11 false c_Md_hasSign 1 3 (some .boolean) 0 qp_Md_hasSign := (jfr_sq (jfr_sq (jfr_sq (jfr_if (j := 12) (jsl_n (j := 2) (jsl_run (by decide +kernel)) (jsl_n (j := 5) (jsl_cv (ix := 173) mt_Md_isSign in_Md_isSign sl_Md_isSign rfl (by decide) (se_Md_isSign _) (by decide) (List.mem_of_getElem? (i := 1708) (by decide +kernel)) (by decide +kernel)) (jsl_run (by decide +kernel)))) (by decide +kernel) (by decide)) (jfr_go (j := 16) (jsl_run (by decide +kernel)) (by decide +kernel) (by decide)) (by decide)) (jfr_go (j := 20) (jsl_run (by decide +kernel)) (by decide +kernel) (by decide)) (by decide)) (jfr_rt (j := 25) (jsl_run (by decide +kernel)) (by decide +kernel)) (by decide))
theorem se_Md_hasSign (G : JG) : JSem G y_Md_hasSign c_Md_hasSign 3 (some .boolean) 1 q_Md_hasSign := jsem_of (by decide +kernel) rfl (by intro h; cases h) (fr_Md_hasSign G)
def y_Md_takeSign : MethodName := ⟨"CellarTurnsModel", "takeSign", "(I)V"⟩
abbrev c_Md_takeSign : ByteArray := prog_15_method_13_code
theorem mt_Md_takeSign : JMt y_Md_takeSign c_Md_takeSign 2 none 1 := ⟨(List.mem_of_getElem? (i := 1723) (by decide +kernel)), (List.mem_of_getElem? (i := 133) (by decide +kernel)), ⟨by decide +kernel, by decide +kernel⟩, by decide +kernel, by decide⟩
theorem in_Md_takeSign : Cond.instanceMethod y_Md_takeSign ∈ lw_tbl := (List.mem_of_getElem? (i := 1722) (by decide +kernel))
theorem sl_Md_takeSign : Cond.selects y_Md_takeSign.cls y_Md_takeSign y_Md_takeSign ∈ lw_tbl := (List.mem_of_getElem? (i := 77) (by decide +kernel))
noncomputable def qp_Md_takeSign : JP := (jb_sq (jb_sq (jb_sq (jb_if (jn (jx_run [(4, 0, 0), (2, 1, 0)]) (jx_cv 2 11 q_Md_isSign)) 0 21 8) 8 (jb_go (jx_run [(4, 0, 0), (70, 0, 0), (40, 11, 7), (0, 0, 1), (10, 0, 0), (43, 11, 7)]) 26)) 21 (jb_go (jn (jx_run [(4, 0, 0), (0, 0, 1)]) (jx_cv 2 11 q_Md_wrong)) 26)) 26 (jb_rt (jx_run []) 0))
noncomputable def q_Md_takeSign : JF := jf_of qp_Md_takeSign 2
set_option maxRecDepth 20000 in
theorem fr_Md_takeSign (G : JG) : JFr G 11 false c_Md_takeSign 1 2 none 0 qp_Md_takeSign := (jfr_sq (jfr_sq (jfr_sq (jfr_if (j := 5) (jsl_n (j := 2) (jsl_run (by decide +kernel)) (jsl_cv (ix := 173) mt_Md_isSign in_Md_isSign sl_Md_isSign rfl (by decide) (se_Md_isSign _) (by decide) (List.mem_of_getElem? (i := 1708) (by decide +kernel)) (by decide +kernel))) (by decide +kernel) (by decide)) (jfr_go (j := 18) (jsl_run (by decide +kernel)) (by decide +kernel) (by decide)) (by decide)) (jfr_go (j := 26) (jsl_n (j := 23) (jsl_run (by decide +kernel)) (jsl_cv (ix := 176) mt_Md_wrong in_Md_wrong sl_Md_wrong rfl (by decide) (se_Md_wrong _) (by decide) (List.mem_of_getElem? (i := 1640) (by decide +kernel)) (by decide +kernel))) (by decide +kernel) (by decide)) (by decide)) (jfr_rt (j := 26) (jsl_run (by decide +kernel)) (by decide +kernel)) (by decide))
theorem se_Md_takeSign (G : JG) : JSem G y_Md_takeSign c_Md_takeSign 2 none 1 q_Md_takeSign := jsem_of (by decide +kernel) rfl (by intro h; cases h) (fr_Md_takeSign G)
def y_Md_all : MethodName := ⟨"CellarTurnsModel", "all", "(I)V"⟩
abbrev c_Md_all : ByteArray := prog_15_method_35_code
theorem mt_Md_all : JMt y_Md_all c_Md_all 3 none 1 := ⟨(List.mem_of_getElem? (i := 1691) (by decide +kernel)), (List.mem_of_getElem? (i := 133) (by decide +kernel)), ⟨by decide +kernel, by decide +kernel⟩, by decide +kernel, by decide⟩
theorem in_Md_all : Cond.instanceMethod y_Md_all ∈ lw_tbl := (List.mem_of_getElem? (i := 1690) (by decide +kernel))
theorem sl_Md_all : Cond.selects y_Md_all.cls y_Md_all y_Md_all ∈ lw_tbl := (List.mem_of_getElem? (i := 69) (by decide +kernel))
def y_Md_products : MethodName := ⟨"CellarTurnsModel", "products", "(I)V"⟩
abbrev c_Md_products : ByteArray := prog_15_method_38_code
theorem mt_Md_products : JMt y_Md_products c_Md_products 2 none 1 := ⟨(List.mem_of_getElem? (i := 1703) (by decide +kernel)), (List.mem_of_getElem? (i := 133) (by decide +kernel)), ⟨by decide +kernel, by decide +kernel⟩, by decide +kernel, by decide⟩
theorem in_Md_products : Cond.instanceMethod y_Md_products ∈ lw_tbl := (List.mem_of_getElem? (i := 1702) (by decide +kernel))
theorem sl_Md_products : Cond.selects y_Md_products.cls y_Md_products y_Md_products ∈ lw_tbl := (List.mem_of_getElem? (i := 72) (by decide +kernel))
def y_Md_sums : MethodName := ⟨"CellarTurnsModel", "sums", "(I)V"⟩
abbrev c_Md_sums : ByteArray := prog_15_method_37_code
theorem mt_Md_sums : JMt y_Md_sums c_Md_sums 3 none 1 := ⟨(List.mem_of_getElem? (i := 1699) (by decide +kernel)), (List.mem_of_getElem? (i := 133) (by decide +kernel)), ⟨by decide +kernel, by decide +kernel⟩, by decide +kernel, by decide⟩
theorem in_Md_sums : Cond.instanceMethod y_Md_sums ∈ lw_tbl := (List.mem_of_getElem? (i := 1698) (by decide +kernel))
theorem sl_Md_sums : Cond.selects y_Md_sums.cls y_Md_sums y_Md_sums ∈ lw_tbl := (List.mem_of_getElem? (i := 71) (by decide +kernel))
def y_Md_takePart : MethodName := ⟨"CellarTurnsModel", "takePart", "(I)V"⟩
abbrev c_Md_takePart : ByteArray := prog_15_method_39_code
theorem mt_Md_takePart : JMt y_Md_takePart c_Md_takePart 4 none 1 := ⟨(List.mem_of_getElem? (i := 1707) (by decide +kernel)), (List.mem_of_getElem? (i := 133) (by decide +kernel)), ⟨by decide +kernel, by decide +kernel⟩, by decide +kernel, by decide⟩
theorem in_Md_takePart : Cond.instanceMethod y_Md_takePart ∈ lw_tbl := (List.mem_of_getElem? (i := 1706) (by decide +kernel))
theorem sl_Md_takePart : Cond.selects y_Md_takePart.cls y_Md_takePart y_Md_takePart ∈ lw_tbl := (List.mem_of_getElem? (i := 73) (by decide +kernel))
def y_Md_test : MethodName := ⟨"CellarTurnsModel", "test", "(I)V"⟩
abbrev c_Md_test : ByteArray := prog_15_method_36_code
theorem mt_Md_test : JMt y_Md_test c_Md_test 3 none 1 := ⟨(List.mem_of_getElem? (i := 1695) (by decide +kernel)), (List.mem_of_getElem? (i := 133) (by decide +kernel)), ⟨by decide +kernel, by decide +kernel⟩, by decide +kernel, by decide⟩
theorem in_Md_test : Cond.instanceMethod y_Md_test ∈ lw_tbl := (List.mem_of_getElem? (i := 1694) (by decide +kernel))
theorem sl_Md_test : Cond.selects y_Md_test.cls y_Md_test y_Md_test ∈ lw_tbl := (List.mem_of_getElem? (i := 70) (by decide +kernel))
noncomputable def qp_Md_all (Ψ : Nat → JF) : JP := (jb_sq (jb_go (jn (jx_run [(4, 0, 0), (2, 1, 0)]) (jx_cv 2 11 (Ψ 4))) 5) 5 (jb_lp 5 (jb_sq (jb_sq (jb_if (jn (jx_run [(4, 0, 0), (0, 0, 16)]) (jx_cv 2 11 q_Md_isWord)) 1 23 14) 14 (jb_sq (jb_if (jn (jx_run [(4, 0, 0), (0, 0, 17)]) (jx_cv 2 11 q_Md_isWord)) 0 64 23) 64 (jb_rt (jx_run []) 0))) 23 (jb_sq (jb_sq (jb_sq (jb_if (jn (jx_run [(4, 0, 0), (0, 0, 16)]) (jn (jx_cv 2 11 q_Md_isWord) (jn (jx_run [(5, 2, 0), (4, 0, 0), (70, 0, 0), (40, 11, 7), (0, 0, 1), (10, 0, 0), (43, 11, 7), (4, 0, 0), (2, 1, 0)]) (jn (jx_cv 2 11 (Ψ 4)) (jx_run [(4, 0, 0), (2, 2, 0)]))))) 0 55 50) 50 (jb_go (jx_run [(0, 0, 9)]) 57)) 55 (jb_go (jx_run [(0, 0, 10)]) 57)) 57 (jb_go (jn (jx_run [(0, 0, 0)]) (jx_cv 3 11 q_Md_emit)) 5)))))
noncomputable def qp_Md_products (Ψ : Nat → JF) : JP := (jb_sq (jb_go (jn (jx_run [(4, 0, 0), (2, 1, 0)]) (jx_cv 2 11 (Ψ 3))) 5) 5 (jb_sq (jb_lp 5 (jb_sq (jb_if (jn (jx_run [(4, 0, 0), (0, 0, 42)]) (jx_cv 2 11 q_Md_hasSign)) 0 29 14) 14 (jb_go (jn (jx_run [(4, 0, 0), (2, 1, 0)]) (jn (jx_cv 2 11 (Ψ 3)) (jn (jx_run [(4, 0, 0), (0, 0, 6), (0, 0, 0)]) (jx_cv 3 11 q_Md_emit)))) 5))) 29 (jb_rt (jx_run []) 0)))
noncomputable def qp_Md_sums (Ψ : Nat → JF) : JP := (jb_sq (jb_go (jn (jx_run [(4, 0, 0), (2, 1, 0)]) (jx_cv 2 11 (Ψ 1))) 5) 5 (jb_lp 5 (jb_sq (jb_sq (jb_if (jn (jx_run [(4, 0, 0), (0, 0, 43)]) (jx_cv 2 11 q_Md_isSign)) 1 23 14) 14 (jb_sq (jb_if (jn (jx_run [(4, 0, 0), (0, 0, 45)]) (jx_cv 2 11 q_Md_isSign)) 0 62 23) 62 (jb_rt (jx_run []) 0))) 23 (jb_sq (jb_sq (jb_sq (jb_if (jn (jx_run [(4, 0, 0), (0, 0, 43)]) (jn (jx_cv 2 11 q_Md_isSign) (jn (jx_run [(5, 2, 0), (4, 0, 0), (70, 0, 0), (40, 11, 7), (0, 0, 1), (10, 0, 0), (43, 11, 7), (4, 0, 0), (2, 1, 0)]) (jn (jx_cv 2 11 (Ψ 1)) (jx_run [(4, 0, 0), (2, 2, 0)]))))) 0 54 50) 50 (jb_go (jx_run [(0, 0, 4)]) 55)) 54 (jb_go (jx_run [(0, 0, 5)]) 55)) 55 (jb_go (jn (jx_run [(0, 0, 0)]) (jx_cv 3 11 q_Md_emit)) 5)))))
noncomputable def qp_Md_takePart (Ψ : Nat → JF) : JP := (jb_sq (jb_sq (jb_if (jx_run [(4, 0, 0), (40, 11, 8)]) 5 8 7) 7 (jb_rt (jx_run []) 0)) 8 (jb_sq (jb_sq (jb_sq (jb_if (jx_run [(4, 0, 0), (42, 11, 4), (4, 0, 0), (40, 11, 7), (50, 0, 0), (0, 0, 2)]) 7 25 21) 21 (jb_go (jx_run [(0, 0, 1)]) 26)) 25 (jb_go (jx_run [(0, 0, 0)]) 26)) 26 (jb_sq (jb_sq (jb_sq (jb_if (jn (jx_run [(5, 2, 0), (4, 0, 0), (0, 0, 18), (0, 0, 3)]) (jn (jx_cv 3 11 q_Md_wordHere) (jx_run [(5, 3, 0), (2, 3, 0)]))) 3 69 39) 39 (jb_sq (jb_if (jx_run [(2, 2, 0)]) 1 69 43) 43 (jb_sq (jb_if (jn (jx_run [(4, 0, 0), (0, 0, 40)]) (jx_cv 2 11 q_Md_isSign)) 1 69 52) 52 (jb_sq (jb_if (jn (jx_run [(4, 0, 0), (0, 0, 15)]) (jx_cv 2 11 q_Md_isWord)) 1 69 61) 61 (jb_go (jn (jx_run [(4, 0, 0), (0, 0, 1)]) (jx_cv 2 11 q_Md_wrong)) 79))))) 69 (jb_sq (jb_if (jx_run [(2, 1, 0), (0, 0, 5)]) 7 79 74) 74 (jb_go (jn (jx_run [(4, 0, 0), (0, 0, 5)]) (jx_cv 2 11 q_Md_wrong)) 79))) 79 (jb_sq (jb_sq (jb_if (jx_run [(4, 0, 0), (40, 11, 8)]) 5 87 86) 86 (jb_rt (jx_run []) 0)) 87 (jb_sq (jb_sq (jb_sq (jb_if (jn (jx_run [(4, 0, 0), (0, 0, 15)]) (jx_cv 2 11 q_Md_hasWord)) 0 112 96) 96 (jb_go (jn (jx_run [(4, 0, 0), (2, 1, 0), (0, 0, 1), (10, 0, 0)]) (jn (jx_cv 2 11 (Ψ 3)) (jn (jx_run [(4, 0, 0), (0, 0, 3), (0, 0, 0)]) (jx_cv 3 11 q_Md_emit)))) 178)) 112 (jb_sq (jb_sq (jb_if (jn (jx_run [(4, 0, 0), (0, 0, 40)]) (jx_cv 2 11 q_Md_hasSign)) 0 137 121) 121 (jb_go (jn (jx_run [(4, 0, 0), (2, 1, 0), (0, 0, 1), (10, 0, 0)]) (jn (jx_cv 2 11 (Ψ 0)) (jn (jx_run [(4, 0, 0), (0, 0, 41)]) (jx_cv 2 11 q_Md_takeSign)))) 178)) 137 (jb_sq (jb_sq (jb_sq (jb_if (jx_run [(4, 0, 0), (2, 2, 0)]) 0 146 142) 142 (jb_go (jx_run [(0, 0, 1)]) 147)) 146 (jb_go (jx_run [(0, 0, 2)]) 147)) 147 (jb_sq (jb_sq (jb_sq (jb_if (jx_run [(2, 2, 0)]) 0 164 151) 151 (jb_go (jx_run [(4, 0, 0), (42, 11, 6), (4, 0, 0), (40, 11, 7), (51, 0, 0), (35, 0, 0)]) 165)) 164 (jb_go (jx_run [(2, 3, 0)]) 165)) 165 (jb_go (jn (jx_cv 3 11 q_Md_emit) (jx_run [(4, 0, 0), (70, 0, 0), (40, 11, 7), (0, 0, 1), (10, 0, 0), (43, 11, 7)])) 178))))) 178 (jb_rt (jx_run []) 0))))))
noncomputable def qp_Md_test (Ψ : Nat → JF) : JP := (jb_sq (jb_sq (jb_sq (jb_if (jn (jx_run [(4, 0, 0), (2, 1, 0)]) (jn (jx_cv 2 11 (Ψ 2)) (jn (jx_run [(4, 0, 0), (0, 0, 60)]) (jn (jx_cv 2 11 q_Md_isSign) (jn (jx_run [(5, 2, 0), (4, 0, 0), (0, 0, 60)]) (jx_cv 2 11 q_Md_hasSign)))))) 1 30 21) 21 (jb_if (jn (jx_run [(4, 0, 0), (0, 0, 61)]) (jx_cv 2 11 q_Md_hasSign)) 0 51 30)) 30 (jb_sq (jb_sq (jb_sq (jb_if (jn (jx_run [(4, 0, 0), (2, 1, 0)]) (jn (jx_cv 2 11 (Ψ 2)) (jx_run [(4, 0, 0), (2, 2, 0)]))) 0 45 40) 40 (jb_go (jx_run [(0, 0, 7)]) 47)) 45 (jb_go (jx_run [(0, 0, 8)]) 47)) 47 (jb_go (jn (jx_run [(0, 0, 0)]) (jx_cv 3 11 q_Md_emit)) 51))) 51 (jb_rt (jx_run []) 0))
noncomputable def g_Md_all : Nat → Nat → JF
  | 0 => fun _ _ _ => none
  | n + 1 => fun w => match w with
    | 0 => jf_of (qp_Md_all (g_Md_all n)) 3
    | 1 => jf_of (qp_Md_products (g_Md_all n)) 2
    | 2 => jf_of (qp_Md_sums (g_Md_all n)) 3
    | 3 => jf_of (qp_Md_takePart (g_Md_all n)) 4
    | 4 => jf_of (qp_Md_test (g_Md_all n)) 3
    | _ => fun _ _ => none
set_option maxRecDepth 20000 in
theorem fr_Md_all (G : JG) (Ψ : Nat → JF) (d : Nat) (hd : 2 ≤ d + 1) (hΨ0 : JSem G y_Md_all c_Md_all 3 none d (Ψ 0)) (hΨ1 : JSem G y_Md_products c_Md_products 2 none d (Ψ 1)) (hΨ2 : JSem G y_Md_sums c_Md_sums 3 none d (Ψ 2)) (hΨ3 : JSem G y_Md_takePart c_Md_takePart 4 none d (Ψ 3)) (hΨ4 : JSem G y_Md_test c_Md_test 3 none d (Ψ 4)) : JFr G 11 false c_Md_all (d + 1) 3 none 0 (qp_Md_all Ψ) := (jfr_sq (jfr_go (j := 5) (jsl_n (j := 2) (jsl_run (by decide +kernel)) (jsl_cv (ix := 260) mt_Md_test in_Md_test sl_Md_test rfl (by decide) (hΨ4) (by omega) (List.mem_of_getElem? (i := 1692) (by decide +kernel)) (by decide +kernel))) (by decide +kernel) (by decide)) (jfr_lp (jfr_sq (jfr_sq (jfr_if (j := 11) (jsl_n (j := 8) (jsl_run (by decide +kernel)) (jsl_cv (ix := 179) mt_Md_isWord in_Md_isWord sl_Md_isWord rfl (by decide) (se_Md_isWord _) (by omega) (List.mem_of_getElem? (i := 1632) (by decide +kernel)) (by decide +kernel))) (by decide +kernel) (by decide)) (jfr_sq (jfr_if (j := 20) (jsl_n (j := 17) (jsl_run (by decide +kernel)) (jsl_cv (ix := 179) mt_Md_isWord in_Md_isWord sl_Md_isWord rfl (by decide) (se_Md_isWord _) (by omega) (List.mem_of_getElem? (i := 1632) (by decide +kernel)) (by decide +kernel))) (by decide +kernel) (by decide)) (jfr_rt (j := 64) (jsl_run (by decide +kernel)) (by decide +kernel)) (by decide)) (by decide)) (jfr_sq (jfr_sq (jfr_sq (jfr_if (j := 47) (jsl_n (j := 26) (jsl_run (by decide +kernel)) (jsl_n (j := 29) (jsl_cv (ix := 179) mt_Md_isWord in_Md_isWord sl_Md_isWord rfl (by decide) (se_Md_isWord _) (by omega) (List.mem_of_getElem? (i := 1632) (by decide +kernel)) (by decide +kernel)) (jsl_n (j := 42) (jsl_run (by decide +kernel)) (jsl_n (j := 45) (jsl_cv (ix := 260) mt_Md_test in_Md_test sl_Md_test rfl (by decide) (hΨ4) (by omega) (List.mem_of_getElem? (i := 1692) (by decide +kernel)) (by decide +kernel)) (jsl_run (by decide +kernel)))))) (by decide +kernel) (by decide)) (jfr_go (j := 52) (jsl_run (by decide +kernel)) (by decide +kernel) (by decide)) (by decide)) (jfr_go (j := 57) (jsl_run (by decide +kernel)) (by decide +kernel) (by decide)) (by decide)) (jfr_go (j := 61) (jsl_n (j := 58) (jsl_run (by decide +kernel)) (jsl_cv (ix := 250) mt_Md_emit in_Md_emit sl_Md_emit rfl (by decide) (se_Md_emit _) (by omega) (List.mem_of_getElem? (i := 1712) (by decide +kernel)) (by decide +kernel))) (by decide +kernel) (by decide)) (by decide)) (by decide)) (by decide)) (by decide))
set_option maxRecDepth 20000 in
theorem fr_Md_products (G : JG) (Ψ : Nat → JF) (d : Nat) (hd : 2 ≤ d + 1) (hΨ0 : JSem G y_Md_all c_Md_all 3 none d (Ψ 0)) (hΨ1 : JSem G y_Md_products c_Md_products 2 none d (Ψ 1)) (hΨ2 : JSem G y_Md_sums c_Md_sums 3 none d (Ψ 2)) (hΨ3 : JSem G y_Md_takePart c_Md_takePart 4 none d (Ψ 3)) (hΨ4 : JSem G y_Md_test c_Md_test 3 none d (Ψ 4)) : JFr G 11 false c_Md_products (d + 1) 2 none 0 (qp_Md_products Ψ) := (jfr_sq (jfr_go (j := 5) (jsl_n (j := 2) (jsl_run (by decide +kernel)) (jsl_cv (ix := 272) mt_Md_takePart in_Md_takePart sl_Md_takePart rfl (by decide) (hΨ3) (by omega) (List.mem_of_getElem? (i := 1704) (by decide +kernel)) (by decide +kernel))) (by decide +kernel) (by decide)) (jfr_sq (jfr_lp (jfr_sq (jfr_if (j := 11) (jsl_n (j := 8) (jsl_run (by decide +kernel)) (jsl_cv (ix := 266) mt_Md_hasSign in_Md_hasSign sl_Md_hasSign rfl (by decide) (se_Md_hasSign _) (by omega) (List.mem_of_getElem? (i := 1716) (by decide +kernel)) (by decide +kernel))) (by decide +kernel) (by decide)) (jfr_go (j := 26) (jsl_n (j := 16) (jsl_run (by decide +kernel)) (jsl_n (j := 19) (jsl_cv (ix := 272) mt_Md_takePart in_Md_takePart sl_Md_takePart rfl (by decide) (hΨ3) (by omega) (List.mem_of_getElem? (i := 1704) (by decide +kernel)) (by decide +kernel)) (jsl_n (j := 23) (jsl_run (by decide +kernel)) (jsl_cv (ix := 250) mt_Md_emit in_Md_emit sl_Md_emit rfl (by decide) (se_Md_emit _) (by omega) (List.mem_of_getElem? (i := 1712) (by decide +kernel)) (by decide +kernel))))) (by decide +kernel) (by decide)) (by decide)) (by decide)) (jfr_rt (j := 29) (jsl_run (by decide +kernel)) (by decide +kernel)) (by decide)) (by decide))
set_option maxRecDepth 20000 in
theorem fr_Md_sums (G : JG) (Ψ : Nat → JF) (d : Nat) (hd : 2 ≤ d + 1) (hΨ0 : JSem G y_Md_all c_Md_all 3 none d (Ψ 0)) (hΨ1 : JSem G y_Md_products c_Md_products 2 none d (Ψ 1)) (hΨ2 : JSem G y_Md_sums c_Md_sums 3 none d (Ψ 2)) (hΨ3 : JSem G y_Md_takePart c_Md_takePart 4 none d (Ψ 3)) (hΨ4 : JSem G y_Md_test c_Md_test 3 none d (Ψ 4)) : JFr G 11 false c_Md_sums (d + 1) 3 none 0 (qp_Md_sums Ψ) := (jfr_sq (jfr_go (j := 5) (jsl_n (j := 2) (jsl_run (by decide +kernel)) (jsl_cv (ix := 269) mt_Md_products in_Md_products sl_Md_products rfl (by decide) (hΨ1) (by omega) (List.mem_of_getElem? (i := 1700) (by decide +kernel)) (by decide +kernel))) (by decide +kernel) (by decide)) (jfr_lp (jfr_sq (jfr_sq (jfr_if (j := 11) (jsl_n (j := 8) (jsl_run (by decide +kernel)) (jsl_cv (ix := 173) mt_Md_isSign in_Md_isSign sl_Md_isSign rfl (by decide) (se_Md_isSign _) (by omega) (List.mem_of_getElem? (i := 1708) (by decide +kernel)) (by decide +kernel))) (by decide +kernel) (by decide)) (jfr_sq (jfr_if (j := 20) (jsl_n (j := 17) (jsl_run (by decide +kernel)) (jsl_cv (ix := 173) mt_Md_isSign in_Md_isSign sl_Md_isSign rfl (by decide) (se_Md_isSign _) (by omega) (List.mem_of_getElem? (i := 1708) (by decide +kernel)) (by decide +kernel))) (by decide +kernel) (by decide)) (jfr_rt (j := 62) (jsl_run (by decide +kernel)) (by decide +kernel)) (by decide)) (by decide)) (jfr_sq (jfr_sq (jfr_sq (jfr_if (j := 47) (jsl_n (j := 26) (jsl_run (by decide +kernel)) (jsl_n (j := 29) (jsl_cv (ix := 173) mt_Md_isSign in_Md_isSign sl_Md_isSign rfl (by decide) (se_Md_isSign _) (by omega) (List.mem_of_getElem? (i := 1708) (by decide +kernel)) (by decide +kernel)) (jsl_n (j := 42) (jsl_run (by decide +kernel)) (jsl_n (j := 45) (jsl_cv (ix := 269) mt_Md_products in_Md_products sl_Md_products rfl (by decide) (hΨ1) (by omega) (List.mem_of_getElem? (i := 1700) (by decide +kernel)) (by decide +kernel)) (jsl_run (by decide +kernel)))))) (by decide +kernel) (by decide)) (jfr_go (j := 51) (jsl_run (by decide +kernel)) (by decide +kernel) (by decide)) (by decide)) (jfr_go (j := 55) (jsl_run (by decide +kernel)) (by decide +kernel) (by decide)) (by decide)) (jfr_go (j := 59) (jsl_n (j := 56) (jsl_run (by decide +kernel)) (jsl_cv (ix := 250) mt_Md_emit in_Md_emit sl_Md_emit rfl (by decide) (se_Md_emit _) (by omega) (List.mem_of_getElem? (i := 1712) (by decide +kernel)) (by decide +kernel))) (by decide +kernel) (by decide)) (by decide)) (by decide)) (by decide)) (by decide))
set_option maxRecDepth 20000 in
theorem fr_Md_takePart (G : JG) (Ψ : Nat → JF) (d : Nat) (hd : 2 ≤ d + 1) (hΨ0 : JSem G y_Md_all c_Md_all 3 none d (Ψ 0)) (hΨ1 : JSem G y_Md_products c_Md_products 2 none d (Ψ 1)) (hΨ2 : JSem G y_Md_sums c_Md_sums 3 none d (Ψ 2)) (hΨ3 : JSem G y_Md_takePart c_Md_takePart 4 none d (Ψ 3)) (hΨ4 : JSem G y_Md_test c_Md_test 3 none d (Ψ 4)) : JFr G 11 false c_Md_takePart (d + 1) 4 none 0 (qp_Md_takePart Ψ) := (jfr_sq (jfr_sq (jfr_if (j := 4) (jsl_run (by decide +kernel)) (by decide +kernel) (by decide)) (jfr_rt (j := 7) (jsl_run (by decide +kernel)) (by decide +kernel)) (by decide)) (jfr_sq (jfr_sq (jfr_sq (jfr_if (j := 18) (jsl_run (by decide +kernel)) (by decide +kernel) (by decide)) (jfr_go (j := 22) (jsl_run (by decide +kernel)) (by decide +kernel) (by decide)) (by decide)) (jfr_go (j := 26) (jsl_run (by decide +kernel)) (by decide +kernel) (by decide)) (by decide)) (jfr_sq (jfr_sq (jfr_sq (jfr_if (j := 36) (jsl_n (j := 31) (jsl_run (by decide +kernel)) (jsl_n (j := 34) (jsl_cv (ix := 185) mt_Md_wordHere in_Md_wordHere sl_Md_wordHere rfl (by decide) (se_Md_wordHere _) (by omega) (List.mem_of_getElem? (i := 1648) (by decide +kernel)) (by decide +kernel)) (jsl_run (by decide +kernel)))) (by decide +kernel) (by decide)) (jfr_sq (jfr_if (j := 40) (jsl_run (by decide +kernel)) (by decide +kernel) (by decide)) (jfr_sq (jfr_if (j := 49) (jsl_n (j := 46) (jsl_run (by decide +kernel)) (jsl_cv (ix := 173) mt_Md_isSign in_Md_isSign sl_Md_isSign rfl (by decide) (se_Md_isSign _) (by omega) (List.mem_of_getElem? (i := 1708) (by decide +kernel)) (by decide +kernel))) (by decide +kernel) (by decide)) (jfr_sq (jfr_if (j := 58) (jsl_n (j := 55) (jsl_run (by decide +kernel)) (jsl_cv (ix := 179) mt_Md_isWord in_Md_isWord sl_Md_isWord rfl (by decide) (se_Md_isWord _) (by omega) (List.mem_of_getElem? (i := 1632) (by decide +kernel)) (by decide +kernel))) (by decide +kernel) (by decide)) (jfr_go (j := 66) (jsl_n (j := 63) (jsl_run (by decide +kernel)) (jsl_cv (ix := 176) mt_Md_wrong in_Md_wrong sl_Md_wrong rfl (by decide) (se_Md_wrong _) (by omega) (List.mem_of_getElem? (i := 1640) (by decide +kernel)) (by decide +kernel))) (by decide +kernel) (by decide)) (by decide)) (by decide)) (by decide)) (by decide)) (jfr_sq (jfr_if (j := 71) (jsl_run (by decide +kernel)) (by decide +kernel) (by decide)) (jfr_go (j := 79) (jsl_n (j := 76) (jsl_run (by decide +kernel)) (jsl_cv (ix := 176) mt_Md_wrong in_Md_wrong sl_Md_wrong rfl (by decide) (se_Md_wrong _) (by omega) (List.mem_of_getElem? (i := 1640) (by decide +kernel)) (by decide +kernel))) (by decide +kernel) (by decide)) (by decide)) (by decide)) (jfr_sq (jfr_sq (jfr_if (j := 83) (jsl_run (by decide +kernel)) (by decide +kernel) (by decide)) (jfr_rt (j := 86) (jsl_run (by decide +kernel)) (by decide +kernel)) (by decide)) (jfr_sq (jfr_sq (jfr_sq (jfr_if (j := 93) (jsl_n (j := 90) (jsl_run (by decide +kernel)) (jsl_cv (ix := 182) mt_Md_hasWord in_Md_hasWord sl_Md_hasWord rfl (by decide) (se_Md_hasWord _) (by omega) (List.mem_of_getElem? (i := 1660) (by decide +kernel)) (by decide +kernel))) (by decide +kernel) (by decide)) (jfr_go (j := 109) (jsl_n (j := 100) (jsl_run (by decide +kernel)) (jsl_n (j := 103) (jsl_cv (ix := 272) mt_Md_takePart in_Md_takePart sl_Md_takePart rfl (by decide) (hΨ3) (by omega) (List.mem_of_getElem? (i := 1704) (by decide +kernel)) (by decide +kernel)) (jsl_n (j := 106) (jsl_run (by decide +kernel)) (jsl_cv (ix := 250) mt_Md_emit in_Md_emit sl_Md_emit rfl (by decide) (se_Md_emit _) (by omega) (List.mem_of_getElem? (i := 1712) (by decide +kernel)) (by decide +kernel))))) (by decide +kernel) (by decide)) (by decide)) (jfr_sq (jfr_sq (jfr_if (j := 118) (jsl_n (j := 115) (jsl_run (by decide +kernel)) (jsl_cv (ix := 266) mt_Md_hasSign in_Md_hasSign sl_Md_hasSign rfl (by decide) (se_Md_hasSign _) (by omega) (List.mem_of_getElem? (i := 1716) (by decide +kernel)) (by decide +kernel))) (by decide +kernel) (by decide)) (jfr_go (j := 134) (jsl_n (j := 125) (jsl_run (by decide +kernel)) (jsl_n (j := 128) (jsl_cv (ix := 247) mt_Md_all in_Md_all sl_Md_all rfl (by decide) (hΨ0) (by omega) (List.mem_of_getElem? (i := 1688) (by decide +kernel)) (by decide +kernel)) (jsl_n (j := 131) (jsl_run (by decide +kernel)) (jsl_cv (ix := 218) mt_Md_takeSign in_Md_takeSign sl_Md_takeSign rfl (by decide) (se_Md_takeSign _) (by omega) (List.mem_of_getElem? (i := 1720) (by decide +kernel)) (by decide +kernel))))) (by decide +kernel) (by decide)) (by decide)) (jfr_sq (jfr_sq (jfr_sq (jfr_if (j := 139) (jsl_run (by decide +kernel)) (by decide +kernel) (by decide)) (jfr_go (j := 143) (jsl_run (by decide +kernel)) (by decide +kernel) (by decide)) (by decide)) (jfr_go (j := 147) (jsl_run (by decide +kernel)) (by decide +kernel) (by decide)) (by decide)) (jfr_sq (jfr_sq (jfr_sq (jfr_if (j := 148) (jsl_run (by decide +kernel)) (by decide +kernel) (by decide)) (jfr_go (j := 161) (jsl_run (by decide +kernel)) (by decide +kernel) (by decide)) (by decide)) (jfr_go (j := 165) (jsl_run (by decide +kernel)) (by decide +kernel) (by decide)) (by decide)) (jfr_go (j := 178) (jsl_n (j := 168) (jsl_cv (ix := 250) mt_Md_emit in_Md_emit sl_Md_emit rfl (by decide) (se_Md_emit _) (by omega) (List.mem_of_getElem? (i := 1712) (by decide +kernel)) (by decide +kernel)) (jsl_run (by decide +kernel))) (by decide +kernel) (by decide)) (by decide)) (by decide)) (by decide)) (by decide)) (jfr_rt (j := 178) (jsl_run (by decide +kernel)) (by decide +kernel)) (by decide)) (by decide)) (by decide)) (by decide)) (by decide))
set_option maxRecDepth 20000 in
theorem fr_Md_test (G : JG) (Ψ : Nat → JF) (d : Nat) (hd : 2 ≤ d + 1) (hΨ0 : JSem G y_Md_all c_Md_all 3 none d (Ψ 0)) (hΨ1 : JSem G y_Md_products c_Md_products 2 none d (Ψ 1)) (hΨ2 : JSem G y_Md_sums c_Md_sums 3 none d (Ψ 2)) (hΨ3 : JSem G y_Md_takePart c_Md_takePart 4 none d (Ψ 3)) (hΨ4 : JSem G y_Md_test c_Md_test 3 none d (Ψ 4)) : JFr G 11 false c_Md_test (d + 1) 3 none 0 (qp_Md_test Ψ) := (jfr_sq (jfr_sq (jfr_sq (jfr_if (j := 18) (jsl_n (j := 2) (jsl_run (by decide +kernel)) (jsl_n (j := 5) (jsl_cv (ix := 263) mt_Md_sums in_Md_sums sl_Md_sums rfl (by decide) (hΨ2) (by omega) (List.mem_of_getElem? (i := 1696) (by decide +kernel)) (by decide +kernel)) (jsl_n (j := 8) (jsl_run (by decide +kernel)) (jsl_n (j := 11) (jsl_cv (ix := 173) mt_Md_isSign in_Md_isSign sl_Md_isSign rfl (by decide) (se_Md_isSign _) (by omega) (List.mem_of_getElem? (i := 1708) (by decide +kernel)) (by decide +kernel)) (jsl_n (j := 15) (jsl_run (by decide +kernel)) (jsl_cv (ix := 266) mt_Md_hasSign in_Md_hasSign sl_Md_hasSign rfl (by decide) (se_Md_hasSign _) (by omega) (List.mem_of_getElem? (i := 1716) (by decide +kernel)) (by decide +kernel))))))) (by decide +kernel) (by decide)) (jfr_if (j := 27) (jsl_n (j := 24) (jsl_run (by decide +kernel)) (jsl_cv (ix := 266) mt_Md_hasSign in_Md_hasSign sl_Md_hasSign rfl (by decide) (se_Md_hasSign _) (by omega) (List.mem_of_getElem? (i := 1716) (by decide +kernel)) (by decide +kernel))) (by decide +kernel) (by decide)) (by decide)) (jfr_sq (jfr_sq (jfr_sq (jfr_if (j := 37) (jsl_n (j := 32) (jsl_run (by decide +kernel)) (jsl_n (j := 35) (jsl_cv (ix := 263) mt_Md_sums in_Md_sums sl_Md_sums rfl (by decide) (hΨ2) (by omega) (List.mem_of_getElem? (i := 1696) (by decide +kernel)) (by decide +kernel)) (jsl_run (by decide +kernel)))) (by decide +kernel) (by decide)) (jfr_go (j := 42) (jsl_run (by decide +kernel)) (by decide +kernel) (by decide)) (by decide)) (jfr_go (j := 47) (jsl_run (by decide +kernel)) (by decide +kernel) (by decide)) (by decide)) (jfr_go (j := 51) (jsl_n (j := 48) (jsl_run (by decide +kernel)) (jsl_cv (ix := 250) mt_Md_emit in_Md_emit sl_Md_emit rfl (by decide) (se_Md_emit _) (by omega) (List.mem_of_getElem? (i := 1712) (by decide +kernel)) (by decide +kernel))) (by decide +kernel) (by decide)) (by decide)) (by decide)) (jfr_rt (j := 51) (jsl_run (by decide +kernel)) (by decide +kernel)) (by decide))
theorem se_g_Md_all (G : JG) (n : Nat) : JSem G y_Md_all c_Md_all 3 none (2 + n) (g_Md_all n 0) ∧ JSem G y_Md_products c_Md_products 2 none (2 + n) (g_Md_all n 1) ∧ JSem G y_Md_sums c_Md_sums 3 none (2 + n) (g_Md_all n 2) ∧ JSem G y_Md_takePart c_Md_takePart 4 none (2 + n) (g_Md_all n 3) ∧ JSem G y_Md_test c_Md_test 3 none (2 + n) (g_Md_all n 4) := by
  induction n with
  | zero => exact ⟨fun _ _ _ _ h => (by cases h), fun _ _ _ _ h => (by cases h), fun _ _ _ _ h => (by cases h), fun _ _ _ _ h => (by cases h), fun _ _ _ _ h => (by cases h)⟩
  | succ n ih =>
    obtain ⟨h0, h1, h2, h3, h4⟩ := ih
    exact ⟨jsem_of (by decide +kernel) rfl (by intro h; cases h) (fr_Md_all G (g_Md_all n) (2 + n) (by omega) h0 h1 h2 h3 h4), jsem_of (by decide +kernel) rfl (by intro h; cases h) (fr_Md_products G (g_Md_all n) (2 + n) (by omega) h0 h1 h2 h3 h4), jsem_of (by decide +kernel) rfl (by intro h; cases h) (fr_Md_sums G (g_Md_all n) (2 + n) (by omega) h0 h1 h2 h3 h4), jsem_of (by decide +kernel) rfl (by intro h; cases h) (fr_Md_takePart G (g_Md_all n) (2 + n) (by omega) h0 h1 h2 h3 h4), jsem_of (by decide +kernel) rfl (by intro h; cases h) (fr_Md_test G (g_Md_all n) (2 + n) (by omega) h0 h1 h2 h3 h4)⟩
noncomputable abbrev q_Md_all : JF := g_Md_all 40 0
theorem se_Md_all (G : JG) : JSem G y_Md_all c_Md_all 3 none 42 q_Md_all := (se_g_Md_all G 40).1
noncomputable abbrev q_Md_products : JF := g_Md_all 40 1
theorem se_Md_products (G : JG) : JSem G y_Md_products c_Md_products 2 none 42 q_Md_products := (se_g_Md_all G 40).2.1
noncomputable abbrev q_Md_sums : JF := g_Md_all 40 2
theorem se_Md_sums (G : JG) : JSem G y_Md_sums c_Md_sums 3 none 42 q_Md_sums := (se_g_Md_all G 40).2.2.1
noncomputable abbrev q_Md_takePart : JF := g_Md_all 40 3
theorem se_Md_takePart (G : JG) : JSem G y_Md_takePart c_Md_takePart 4 none 42 q_Md_takePart := (se_g_Md_all G 40).2.2.2.1
noncomputable abbrev q_Md_test : JF := g_Md_all 40 4
theorem se_Md_test (G : JG) : JSem G y_Md_test c_Md_test 3 none 42 q_Md_test := (se_g_Md_all G 40).2.2.2.2
def y_Md_copies : MethodName := ⟨"CellarTurnsModel", "copies", "(III)V"⟩
abbrev c_Md_copies : ByteArray := prog_15_method_42_code
theorem mt_Md_copies : JMt y_Md_copies c_Md_copies 5 none 3 := ⟨(List.mem_of_getElem? (i := 1782) (by decide +kernel)), (List.mem_of_getElem? (i := 133) (by decide +kernel)), ⟨by decide +kernel, by decide +kernel⟩, by decide +kernel, by decide⟩
theorem in_Md_copies : Cond.instanceMethod y_Md_copies ∈ lw_tbl := (List.mem_of_getElem? (i := 1781) (by decide +kernel))
theorem sl_Md_copies : Cond.selects y_Md_copies.cls y_Md_copies y_Md_copies ∈ lw_tbl := (List.mem_of_getElem? (i := 86) (by decide +kernel))
noncomputable def qp_Md_copies : JP := (jb_sq (jb_go (jx_run [(0, 0, 0), (5, 4, 0)]) 3) 3 (jb_sq (jb_lp 3 (jb_sq (jb_if (jx_run [(2, 4, 0), (2, 3, 0)]) 9 33 9) 9 (jb_go (jx_run [(4, 0, 0), (42, 11, 23), (2, 2, 0), (2, 4, 0), (10, 0, 0), (4, 0, 0), (42, 11, 23), (2, 1, 0), (2, 4, 0), (10, 0, 0), (50, 0, 0), (55, 0, 0), (8, 4, 1)]) 3))) 33 (jb_rt (jx_run []) 0)))
noncomputable def q_Md_copies : JF := jf_of qp_Md_copies 5
set_option maxRecDepth 20000 in
theorem fr_Md_copies (G : JG) : JFr G 11 false c_Md_copies 0 5 none 0 qp_Md_copies := (jfr_sq (jfr_go (j := 3) (jsl_run (by decide +kernel)) (by decide +kernel) (by decide)) (jfr_sq (jfr_lp (jfr_sq (jfr_if (j := 6) (jsl_run (by decide +kernel)) (by decide +kernel) (by decide)) (jfr_go (j := 30) (jsl_run (by decide +kernel)) (by decide +kernel) (by decide)) (by decide)) (by decide)) (jfr_rt (j := 33) (jsl_run (by decide +kernel)) (by decide +kernel)) (by decide)) (by decide))
theorem se_Md_copies (G : JG) : JSem G y_Md_copies c_Md_copies 5 none 0 q_Md_copies := jsem_of (by decide +kernel) rfl (by intro h; cases h) (fr_Md_copies G)
def y_Md_isThere : MethodName := ⟨"CellarTurnsModel", "isThere", "(II)Z"⟩
abbrev c_Md_isThere : ByteArray := prog_15_method_49_code
theorem mt_Md_isThere : JMt y_Md_isThere c_Md_isThere 3 (some .boolean) 2 := ⟨(List.mem_of_getElem? (i := 1754) (by decide +kernel)), (List.mem_of_getElem? (i := 133) (by decide +kernel)), ⟨by decide +kernel, by decide +kernel⟩, by decide +kernel, by decide⟩
theorem in_Md_isThere : Cond.instanceMethod y_Md_isThere ∈ lw_tbl := (List.mem_of_getElem? (i := 1753) (by decide +kernel))
theorem sl_Md_isThere : Cond.selects y_Md_isThere.cls y_Md_isThere y_Md_isThere ∈ lw_tbl := (List.mem_of_getElem? (i := 82) (by decide +kernel))
noncomputable def qp_Md_isThere : JP := (jb_sq (jb_sq (jb_sq (jb_if (jx_run [(4, 0, 0), (42, 11, 23), (2, 1, 0), (0, 0, 19), (10, 0, 0), (2, 2, 0), (10, 0, 0), (50, 0, 0), (0, 0, 1)]) 7 19 15) 15 (jb_go (jx_run [(0, 0, 1)]) 20)) 19 (jb_go (jx_run [(0, 0, 0)]) 20)) 20 (jb_rt (jx_run []) 4))
noncomputable def q_Md_isThere : JF := jf_of qp_Md_isThere 3
set_option maxRecDepth 20000 in
theorem fr_Md_isThere (G : JG) : JFr G 11 false c_Md_isThere 0 3 (some .boolean) 0 qp_Md_isThere := (jfr_sq (jfr_sq (jfr_sq (jfr_if (j := 12) (jsl_run (by decide +kernel)) (by decide +kernel) (by decide)) (jfr_go (j := 16) (jsl_run (by decide +kernel)) (by decide +kernel) (by decide)) (by decide)) (jfr_go (j := 20) (jsl_run (by decide +kernel)) (by decide +kernel) (by decide)) (by decide)) (jfr_rt (j := 20) (jsl_run (by decide +kernel)) (by decide +kernel)) (by decide))
theorem se_Md_isThere (G : JG) : JSem G y_Md_isThere c_Md_isThere 3 (some .boolean) 0 q_Md_isThere := jsem_of (by decide +kernel) rfl (by intro h; cases h) (fr_Md_isThere G)
def y_Md_limitOf : MethodName := ⟨"CellarTurnsModel", "limitOf", "(I)I"⟩
abbrev c_Md_limitOf : ByteArray := prog_15_method_50_code
theorem mt_Md_limitOf : JMt y_Md_limitOf c_Md_limitOf 3 (some .int) 1 := ⟨(List.mem_of_getElem? (i := 1770) (by decide +kernel)), (List.mem_of_getElem? (i := 133) (by decide +kernel)), ⟨by decide +kernel, by decide +kernel⟩, by decide +kernel, by decide⟩
theorem in_Md_limitOf : Cond.instanceMethod y_Md_limitOf ∈ lw_tbl := (List.mem_of_getElem? (i := 1769) (by decide +kernel))
theorem sl_Md_limitOf : Cond.selects y_Md_limitOf.cls y_Md_limitOf y_Md_limitOf ∈ lw_tbl := (List.mem_of_getElem? (i := 84) (by decide +kernel))
noncomputable def qp_Md_limitOf : JP := (jb_sq (jb_sq (jb_sq (jb_if (jn (jx_run [(4, 0, 0), (42, 11, 10), (0, 0, 4), (50, 0, 0), (5, 2, 0), (4, 0, 0), (2, 1, 0), (0, 0, 0)]) (jn (jx_cv 3 11 q_Md_bodyOf) (jx_run [(0, 0, 2)]))) 7 26 17) 17 (jb_sq (jb_if (jx_run [(2, 2, 0), (0, 0, 2)]) 11 26 22) 22 (jb_go (jx_run [(0, 0, 2)]) 27))) 26 (jb_go (jx_run [(2, 2, 0)]) 27)) 27 (jb_rt (jx_run []) 1))
noncomputable def q_Md_limitOf : JF := jf_of qp_Md_limitOf 3
set_option maxRecDepth 20000 in
theorem fr_Md_limitOf (G : JG) : JFr G 11 false c_Md_limitOf 1 3 (some .int) 0 qp_Md_limitOf := (jfr_sq (jfr_sq (jfr_sq (jfr_if (j := 14) (jsl_n (j := 10) (jsl_run (by decide +kernel)) (jsl_n (j := 13) (jsl_cv (ix := 282) mt_Md_bodyOf in_Md_bodyOf sl_Md_bodyOf rfl (by decide) (se_Md_bodyOf _) (by decide) (List.mem_of_getElem? (i := 1464) (by decide +kernel)) (by decide +kernel)) (jsl_run (by decide +kernel)))) (by decide +kernel) (by decide)) (jfr_sq (jfr_if (j := 19) (jsl_run (by decide +kernel)) (by decide +kernel) (by decide)) (jfr_go (j := 23) (jsl_run (by decide +kernel)) (by decide +kernel) (by decide)) (by decide)) (by decide)) (jfr_go (j := 27) (jsl_run (by decide +kernel)) (by decide +kernel) (by decide)) (by decide)) (jfr_rt (j := 27) (jsl_run (by decide +kernel)) (by decide +kernel)) (by decide))
theorem se_Md_limitOf (G : JG) : JSem G y_Md_limitOf c_Md_limitOf 3 (some .int) 1 q_Md_limitOf := jsem_of (by decide +kernel) rfl (by intro h; cases h) (fr_Md_limitOf G)
def y_Md_mayTurn : MethodName := ⟨"CellarTurnsModel", "mayTurn", "(III)Z"⟩
abbrev c_Md_mayTurn : ByteArray := prog_15_method_51_code
theorem mt_Md_mayTurn : JMt y_Md_mayTurn c_Md_mayTurn 7 (some .boolean) 3 := ⟨(List.mem_of_getElem? (i := 1766) (by decide +kernel)), (List.mem_of_getElem? (i := 133) (by decide +kernel)), ⟨by decide +kernel, by decide +kernel⟩, by decide +kernel, by decide⟩
theorem in_Md_mayTurn : Cond.instanceMethod y_Md_mayTurn ∈ lw_tbl := (List.mem_of_getElem? (i := 1765) (by decide +kernel))
theorem sl_Md_mayTurn : Cond.selects y_Md_mayTurn.cls y_Md_mayTurn y_Md_mayTurn ∈ lw_tbl := (List.mem_of_getElem? (i := 83) (by decide +kernel))
noncomputable def qp_Md_mayTurn : JP := (jb_sq (jb_sq (jb_sq (jb_if (jx_run [(2, 2, 0), (2, 3, 0)]) 6 27 5) 5 (jb_sq (jb_if (jn (jx_run [(4, 0, 0), (2, 1, 0), (2, 2, 0)]) (jx_cv 3 11 q_Md_isThere)) 0 27 14) 14 (jb_sq (jb_if (jn (jx_run [(4, 0, 0), (2, 1, 0), (2, 3, 0)]) (jx_cv 3 11 q_Md_isThere)) 0 27 23) 23 (jb_go (jx_run [(0, 0, 1)]) 28)))) 27 (jb_go (jx_run [(0, 0, 0)]) 28)) 28 (jb_sq (jb_sq (jb_sq (jb_if (jx_run [(5, 4, 0), (2, 4, 0)]) 0 59 35) 35 (jb_sq (jb_if (jn (jx_run [(4, 0, 0), (2, 2, 0), (0, 0, 0)]) (jn (jx_cv 3 11 q_Md_bodyOf) (jx_run [(0, 0, 1)]))) 6 59 45) 45 (jb_sq (jb_if (jn (jx_run [(4, 0, 0), (2, 3, 0), (0, 0, 0)]) (jn (jx_cv 3 11 q_Md_bodyOf) (jx_run [(0, 0, 1)]))) 6 59 55) 55 (jb_go (jx_run [(0, 0, 1)]) 60)))) 59 (jb_go (jx_run [(0, 0, 0)]) 60)) 60 (jb_sq (jb_sq (jb_sq (jb_if (jx_run [(5, 5, 0), (2, 5, 0)]) 0 107 67) 67 (jb_sq (jb_if (jx_run [(4, 0, 0), (42, 11, 10), (0, 0, 104), (0, 0, 8), (2, 2, 0), (12, 0, 0), (10, 0, 0), (2, 3, 0), (10, 0, 0), (50, 0, 0)]) 1 107 84) 84 (jb_sq (jb_if (jx_run [(4, 0, 0), (42, 11, 23), (2, 1, 0), (0, 0, 27), (10, 0, 0), (0, 0, 8), (2, 2, 0), (12, 0, 0), (10, 0, 0), (2, 3, 0), (10, 0, 0), (50, 0, 0)]) 1 107 103) 103 (jb_go (jx_run [(0, 0, 1)]) 108)))) 107 (jb_go (jx_run [(0, 0, 0)]) 108)) 108 (jb_sq (jb_sq (jb_sq (jb_if (jx_run [(5, 6, 0), (2, 6, 0)]) 0 157 115) 115 (jb_sq (jb_if (jn (jx_run [(4, 0, 0), (42, 11, 23), (2, 1, 0), (0, 0, 11), (10, 0, 0), (2, 2, 0), (10, 0, 0), (50, 0, 0), (4, 0, 0), (2, 2, 0)]) (jx_cv 2 11 q_Md_limitOf)) 9 157 134) 134 (jb_sq (jb_if (jn (jx_run [(4, 0, 0), (42, 11, 23), (2, 1, 0), (0, 0, 11), (10, 0, 0), (2, 3, 0), (10, 0, 0), (50, 0, 0), (4, 0, 0), (2, 3, 0)]) (jx_cv 2 11 q_Md_limitOf)) 9 157 153) 153 (jb_go (jx_run [(0, 0, 1)]) 158)))) 157 (jb_go (jx_run [(0, 0, 0)]) 158)) 158 (jb_rt (jx_run []) 4)))))
noncomputable def q_Md_mayTurn : JF := jf_of qp_Md_mayTurn 7
set_option maxRecDepth 20000 in
theorem fr_Md_mayTurn (G : JG) : JFr G 11 false c_Md_mayTurn 2 7 (some .boolean) 0 qp_Md_mayTurn := (jfr_sq (jfr_sq (jfr_sq (jfr_if (j := 2) (jsl_run (by decide +kernel)) (by decide +kernel) (by decide)) (jfr_sq (jfr_if (j := 11) (jsl_n (j := 8) (jsl_run (by decide +kernel)) (jsl_cv (ix := 295) mt_Md_isThere in_Md_isThere sl_Md_isThere rfl (by decide) (se_Md_isThere _) (by decide) (List.mem_of_getElem? (i := 1751) (by decide +kernel)) (by decide +kernel))) (by decide +kernel) (by decide)) (jfr_sq (jfr_if (j := 20) (jsl_n (j := 17) (jsl_run (by decide +kernel)) (jsl_cv (ix := 295) mt_Md_isThere in_Md_isThere sl_Md_isThere rfl (by decide) (se_Md_isThere _) (by decide) (List.mem_of_getElem? (i := 1751) (by decide +kernel)) (by decide +kernel))) (by decide +kernel) (by decide)) (jfr_go (j := 24) (jsl_run (by decide +kernel)) (by decide +kernel) (by decide)) (by decide)) (by decide)) (by decide)) (jfr_go (j := 28) (jsl_run (by decide +kernel)) (by decide +kernel) (by decide)) (by decide)) (jfr_sq (jfr_sq (jfr_sq (jfr_if (j := 32) (jsl_run (by decide +kernel)) (by decide +kernel) (by decide)) (jfr_sq (jfr_if (j := 42) (jsl_n (j := 38) (jsl_run (by decide +kernel)) (jsl_n (j := 41) (jsl_cv (ix := 282) mt_Md_bodyOf in_Md_bodyOf sl_Md_bodyOf rfl (by decide) (se_Md_bodyOf _) (by decide) (List.mem_of_getElem? (i := 1464) (by decide +kernel)) (by decide +kernel)) (jsl_run (by decide +kernel)))) (by decide +kernel) (by decide)) (jfr_sq (jfr_if (j := 52) (jsl_n (j := 48) (jsl_run (by decide +kernel)) (jsl_n (j := 51) (jsl_cv (ix := 282) mt_Md_bodyOf in_Md_bodyOf sl_Md_bodyOf rfl (by decide) (se_Md_bodyOf _) (by decide) (List.mem_of_getElem? (i := 1464) (by decide +kernel)) (by decide +kernel)) (jsl_run (by decide +kernel)))) (by decide +kernel) (by decide)) (jfr_go (j := 56) (jsl_run (by decide +kernel)) (by decide +kernel) (by decide)) (by decide)) (by decide)) (by decide)) (jfr_go (j := 60) (jsl_run (by decide +kernel)) (by decide +kernel) (by decide)) (by decide)) (jfr_sq (jfr_sq (jfr_sq (jfr_if (j := 64) (jsl_run (by decide +kernel)) (by decide +kernel) (by decide)) (jfr_sq (jfr_if (j := 81) (jsl_run (by decide +kernel)) (by decide +kernel) (by decide)) (jfr_sq (jfr_if (j := 100) (jsl_run (by decide +kernel)) (by decide +kernel) (by decide)) (jfr_go (j := 104) (jsl_run (by decide +kernel)) (by decide +kernel) (by decide)) (by decide)) (by decide)) (by decide)) (jfr_go (j := 108) (jsl_run (by decide +kernel)) (by decide +kernel) (by decide)) (by decide)) (jfr_sq (jfr_sq (jfr_sq (jfr_if (j := 112) (jsl_run (by decide +kernel)) (by decide +kernel) (by decide)) (jfr_sq (jfr_if (j := 131) (jsl_n (j := 128) (jsl_run (by decide +kernel)) (jsl_cv (ix := 299) mt_Md_limitOf in_Md_limitOf sl_Md_limitOf rfl (by decide) (se_Md_limitOf _) (by decide) (List.mem_of_getElem? (i := 1767) (by decide +kernel)) (by decide +kernel))) (by decide +kernel) (by decide)) (jfr_sq (jfr_if (j := 150) (jsl_n (j := 147) (jsl_run (by decide +kernel)) (jsl_cv (ix := 299) mt_Md_limitOf in_Md_limitOf sl_Md_limitOf rfl (by decide) (se_Md_limitOf _) (by decide) (List.mem_of_getElem? (i := 1767) (by decide +kernel)) (by decide +kernel))) (by decide +kernel) (by decide)) (jfr_go (j := 154) (jsl_run (by decide +kernel)) (by decide +kernel) (by decide)) (by decide)) (by decide)) (by decide)) (jfr_go (j := 158) (jsl_run (by decide +kernel)) (by decide +kernel) (by decide)) (by decide)) (jfr_rt (j := 158) (jsl_run (by decide +kernel)) (by decide +kernel)) (by decide)) (by decide)) (by decide)) (by decide))
theorem se_Md_mayTurn (G : JG) : JSem G y_Md_mayTurn c_Md_mayTurn 7 (some .boolean) 2 q_Md_mayTurn := jsem_of (by decide +kernel) rfl (by intro h; cases h) (fr_Md_mayTurn G)
def y_Md_swaps : MethodName := ⟨"CellarTurnsModel", "swaps", "(III)V"⟩
abbrev c_Md_swaps : ByteArray := prog_15_method_55_code
theorem mt_Md_swaps : JMt y_Md_swaps c_Md_swaps 5 none 3 := ⟨(List.mem_of_getElem? (i := 1790) (by decide +kernel)), (List.mem_of_getElem? (i := 133) (by decide +kernel)), ⟨by decide +kernel, by decide +kernel⟩, by decide +kernel, by decide⟩
theorem in_Md_swaps : Cond.instanceMethod y_Md_swaps ∈ lw_tbl := (List.mem_of_getElem? (i := 1789) (by decide +kernel))
theorem sl_Md_swaps : Cond.selects y_Md_swaps.cls y_Md_swaps y_Md_swaps ∈ lw_tbl := (List.mem_of_getElem? (i := 88) (by decide +kernel))
noncomputable def qp_Md_swaps : JP := (jb_rt (jx_run [(4, 0, 0), (42, 11, 23), (2, 1, 0), (0, 0, 3), (10, 0, 0), (2, 2, 0), (10, 0, 0), (50, 0, 0), (5, 4, 0), (4, 0, 0), (42, 11, 23), (2, 1, 0), (0, 0, 3), (10, 0, 0), (2, 2, 0), (10, 0, 0), (4, 0, 0), (42, 11, 23), (2, 1, 0), (0, 0, 3), (10, 0, 0), (2, 3, 0), (10, 0, 0), (50, 0, 0), (55, 0, 0), (4, 0, 0), (42, 11, 23), (2, 1, 0), (0, 0, 3), (10, 0, 0), (2, 3, 0), (10, 0, 0), (2, 4, 0), (55, 0, 0)]) 0)
noncomputable def q_Md_swaps : JF := jf_of qp_Md_swaps 5
set_option maxRecDepth 20000 in
theorem fr_Md_swaps (G : JG) : JFr G 11 false c_Md_swaps 0 5 none 0 qp_Md_swaps := (jfr_rt (j := 44) (jsl_run (by decide +kernel)) (by decide +kernel))
theorem se_Md_swaps (G : JG) : JSem G y_Md_swaps c_Md_swaps 5 none 0 q_Md_swaps := jsem_of (by decide +kernel) rfl (by intro h; cases h) (fr_Md_swaps G)
def y_Md_isWrong : MethodName := ⟨"CellarTurnsModel", "isWrong", "(II)Z"⟩
abbrev c_Md_isWrong : ByteArray := prog_15_method_52_code
theorem mt_Md_isWrong : JMt y_Md_isWrong c_Md_isWrong 3 (some .boolean) 2 := ⟨(List.mem_of_getElem? (i := 1750) (by decide +kernel)), (List.mem_of_getElem? (i := 133) (by decide +kernel)), ⟨by decide +kernel, by decide +kernel⟩, by decide +kernel, by decide⟩
theorem in_Md_isWrong : Cond.instanceMethod y_Md_isWrong ∈ lw_tbl := (List.mem_of_getElem? (i := 1749) (by decide +kernel))
theorem sl_Md_isWrong : Cond.selects y_Md_isWrong.cls y_Md_isWrong y_Md_isWrong ∈ lw_tbl := (List.mem_of_getElem? (i := 81) (by decide +kernel))
noncomputable def qp_Md_isWrong : JP := (jb_sq (jb_sq (jb_sq (jb_if (jn (jx_run [(4, 0, 0), (2, 1, 0), (2, 2, 0)]) (jx_cv 3 11 q_Md_isThere)) 0 37 9) 9 (jb_sq (jb_if (jn (jx_run [(4, 0, 0), (2, 2, 0), (0, 0, 0)]) (jn (jx_cv 3 11 q_Md_bodyOf) (jx_run [(0, 0, 3)]))) 6 37 19) 19 (jb_sq (jb_if (jx_run [(4, 0, 0), (42, 11, 23), (2, 1, 0), (0, 0, 3), (10, 0, 0), (2, 2, 0), (10, 0, 0), (50, 0, 0), (2, 2, 0)]) 6 37 33) 33 (jb_go (jx_run [(0, 0, 1)]) 38)))) 37 (jb_go (jx_run [(0, 0, 0)]) 38)) 38 (jb_rt (jx_run []) 4))
noncomputable def q_Md_isWrong : JF := jf_of qp_Md_isWrong 3
set_option maxRecDepth 20000 in
theorem fr_Md_isWrong (G : JG) : JFr G 11 false c_Md_isWrong 1 3 (some .boolean) 0 qp_Md_isWrong := (jfr_sq (jfr_sq (jfr_sq (jfr_if (j := 6) (jsl_n (j := 3) (jsl_run (by decide +kernel)) (jsl_cv (ix := 295) mt_Md_isThere in_Md_isThere sl_Md_isThere rfl (by decide) (se_Md_isThere _) (by decide) (List.mem_of_getElem? (i := 1751) (by decide +kernel)) (by decide +kernel))) (by decide +kernel) (by decide)) (jfr_sq (jfr_if (j := 16) (jsl_n (j := 12) (jsl_run (by decide +kernel)) (jsl_n (j := 15) (jsl_cv (ix := 282) mt_Md_bodyOf in_Md_bodyOf sl_Md_bodyOf rfl (by decide) (se_Md_bodyOf _) (by decide) (List.mem_of_getElem? (i := 1464) (by decide +kernel)) (by decide +kernel)) (jsl_run (by decide +kernel)))) (by decide +kernel) (by decide)) (jfr_sq (jfr_if (j := 30) (jsl_run (by decide +kernel)) (by decide +kernel) (by decide)) (jfr_go (j := 34) (jsl_run (by decide +kernel)) (by decide +kernel) (by decide)) (by decide)) (by decide)) (by decide)) (jfr_go (j := 38) (jsl_run (by decide +kernel)) (by decide +kernel) (by decide)) (by decide)) (jfr_rt (j := 38) (jsl_run (by decide +kernel)) (by decide +kernel)) (by decide))
theorem se_Md_isWrong (G : JG) : JSem G y_Md_isWrong c_Md_isWrong 3 (some .boolean) 1 q_Md_isWrong := jsem_of (by decide +kernel) rfl (by intro h; cases h) (fr_Md_isWrong G)
def y_Md_wrongs : MethodName := ⟨"CellarTurnsModel", "wrongs", "(I)I"⟩
abbrev c_Md_wrongs : ByteArray := prog_15_method_53_code
theorem mt_Md_wrongs : JMt y_Md_wrongs c_Md_wrongs 4 (some .int) 1 := ⟨(List.mem_of_getElem? (i := 1798) (by decide +kernel)), (List.mem_of_getElem? (i := 133) (by decide +kernel)), ⟨by decide +kernel, by decide +kernel⟩, by decide +kernel, by decide⟩
theorem in_Md_wrongs : Cond.instanceMethod y_Md_wrongs ∈ lw_tbl := (List.mem_of_getElem? (i := 1797) (by decide +kernel))
theorem sl_Md_wrongs : Cond.selects y_Md_wrongs.cls y_Md_wrongs y_Md_wrongs ∈ lw_tbl := (List.mem_of_getElem? (i := 90) (by decide +kernel))
noncomputable def qp_Md_wrongs : JP := (jb_sq (jb_go (jx_run [(0, 0, 0), (5, 2, 0), (0, 0, 0), (5, 3, 0)]) 4) 4 (jb_sq (jb_lp 4 (jb_sq (jb_if (jn (jx_run [(2, 3, 0), (4, 0, 0)]) (jx_cv 1 11 q_Md_bodies)) 9 35 12) 12 (jb_sq (jb_sq (jb_sq (jb_if (jn (jx_run [(2, 2, 0), (4, 0, 0), (2, 1, 0), (2, 3, 0)]) (jx_cv 3 11 q_Md_isWrong)) 0 26 22) 22 (jb_go (jx_run [(0, 0, 1)]) 27)) 26 (jb_go (jx_run [(0, 0, 0)]) 27)) 27 (jb_go (jx_run [(10, 0, 0), (5, 2, 0), (8, 3, 1)]) 4)))) 35 (jb_rt (jx_run [(2, 2, 0)]) 1)))
noncomputable def q_Md_wrongs : JF := jf_of qp_Md_wrongs 4
set_option maxRecDepth 20000 in
theorem fr_Md_wrongs (G : JG) : JFr G 11 false c_Md_wrongs 2 4 (some .int) 0 qp_Md_wrongs := (jfr_sq (jfr_go (j := 4) (jsl_run (by decide +kernel)) (by decide +kernel) (by decide)) (jfr_sq (jfr_lp (jfr_sq (jfr_if (j := 9) (jsl_n (j := 6) (jsl_run (by decide +kernel)) (jsl_cv (ix := 279) mt_Md_bodies in_Md_bodies sl_Md_bodies rfl (by decide) (se_Md_bodies _) (by decide) (List.mem_of_getElem? (i := 1460) (by decide +kernel)) (by decide +kernel))) (by decide +kernel) (by decide)) (jfr_sq (jfr_sq (jfr_sq (jfr_if (j := 19) (jsl_n (j := 16) (jsl_run (by decide +kernel)) (jsl_cv (ix := 302) mt_Md_isWrong in_Md_isWrong sl_Md_isWrong rfl (by decide) (se_Md_isWrong _) (by decide) (List.mem_of_getElem? (i := 1747) (by decide +kernel)) (by decide +kernel))) (by decide +kernel) (by decide)) (jfr_go (j := 23) (jsl_run (by decide +kernel)) (by decide +kernel) (by decide)) (by decide)) (jfr_go (j := 27) (jsl_run (by decide +kernel)) (by decide +kernel) (by decide)) (by decide)) (jfr_go (j := 32) (jsl_run (by decide +kernel)) (by decide +kernel) (by decide)) (by decide)) (by decide)) (by decide)) (jfr_rt (j := 36) (jsl_run (by decide +kernel)) (by decide +kernel)) (by decide)) (by decide))
theorem se_Md_wrongs (G : JG) : JSem G y_Md_wrongs c_Md_wrongs 4 (some .int) 2 q_Md_wrongs := jsem_of (by decide +kernel) rfl (by intro h; cases h) (fr_Md_wrongs G)
def y_Md_best : MethodName := ⟨"CellarTurnsModel", "best", "()I"⟩
abbrev c_Md_best : ByteArray := prog_15_method_81_code
theorem mt_Md_best : JMt y_Md_best c_Md_best 7 (some .int) 0 := ⟨(List.mem_of_getElem? (i := 1885) (by decide +kernel)), (List.mem_of_getElem? (i := 133) (by decide +kernel)), ⟨by decide +kernel, by decide +kernel⟩, by decide +kernel, by decide⟩
theorem in_Md_best : Cond.instanceMethod y_Md_best ∈ lw_tbl := (List.mem_of_getElem? (i := 1883) (by decide +kernel))
theorem sl_Md_best : Cond.selects y_Md_best.cls y_Md_best y_Md_best ∈ lw_tbl := (List.mem_of_getElem? (i := 1884) (by decide +kernel))
noncomputable def qp_Md_best : JP := (jb_sq (jb_go (jn (jx_run [(4, 0, 0), (0, 0, 0), (43, 11, 0), (4, 0, 0), (0, 0, 0), (0, 0, 2376), (0, 0, 91)]) (jn (jx_cv 4 11 q_Md_copies) (jx_run [(0, 0, -1), (5, 1, 0), (0, 0, 0), (5, 2, 0), (0, 0, 0), (5, 3, 0)]))) 21) 21 (jb_sq (jb_lp 21 (jb_sq (jb_if (jn (jx_run [(2, 3, 0), (4, 0, 0)]) (jx_cv 1 11 q_Md_bodies)) 9 143 29) 29 (jb_sq (jb_go (jx_run [(2, 3, 0), (0, 0, 1), (10, 0, 0), (5, 4, 0)]) 34) 34 (jb_sq (jb_lp 34 (jb_sq (jb_if (jn (jx_run [(2, 4, 0), (4, 0, 0)]) (jx_cv 1 11 q_Md_bodies)) 9 137 43) 43 (jb_sq (jb_sq (jb_if (jn (jx_run [(4, 0, 0), (0, 0, 2376), (2, 3, 0), (2, 4, 0)]) (jx_cv 4 11 q_Md_mayTurn)) 0 131 56) 56 (jb_sq (jb_sq (jb_sq (jb_if (jn (jx_run [(4, 0, 0), (0, 0, 2376), (2, 3, 0), (2, 4, 0)]) (jn (jx_cv 4 11 q_Md_swaps) (jn (jx_run [(4, 0, 0), (0, 0, 2376)]) (jn (jx_cv 2 11 q_Md_wrongs) (jn (jx_run [(5, 5, 0), (4, 0, 0), (0, 0, 2376), (2, 3, 0), (2, 4, 0)]) (jn (jx_cv 4 11 q_Md_swaps) (jx_run [(2, 1, 0)]))))))) 2 95 89) 89 (jb_sq (jb_if (jx_run [(2, 5, 0), (2, 2, 0)]) 9 99 95) 99 (jb_go (jx_run [(0, 0, 0)]) 100))) 95 (jb_go (jx_run [(0, 0, 1)]) 100)) 100 (jb_sq (jb_sq (jb_sq (jb_if (jx_run [(5, 6, 0), (2, 6, 0)]) 0 117 107) 107 (jb_go (jx_run [(0, 0, 8), (2, 3, 0), (12, 0, 0), (2, 4, 0), (10, 0, 0)]) 118)) 117 (jb_go (jx_run [(2, 1, 0)]) 118)) 118 (jb_sq (jb_sq (jb_sq (jb_if (jx_run [(5, 1, 0), (2, 6, 0)]) 0 129 124) 124 (jb_go (jx_run [(2, 5, 0)]) 130)) 129 (jb_go (jx_run [(2, 2, 0)]) 130)) 130 (jb_go (jx_run [(5, 2, 0)]) 131))))) 131 (jb_go (jx_run [(8, 4, 1)]) 34)))) 137 (jb_go (jx_run [(8, 3, 1)]) 21))))) 143 (jb_rt (jx_run [(2, 1, 0)]) 1)))
noncomputable def q_Md_best : JF := jf_of qp_Md_best 7
set_option maxRecDepth 20000 in
theorem fr_Md_best (G : JG) : JFr G 11 false c_Md_best 3 7 (some .int) 0 qp_Md_best := (jfr_sq (jfr_go (j := 21) (jsl_n (j := 12) (jsl_run (by decide +kernel)) (jsl_n (j := 15) (jsl_cv (ix := 291) mt_Md_copies in_Md_copies sl_Md_copies rfl (by decide) (se_Md_copies _) (by decide) (List.mem_of_getElem? (i := 1779) (by decide +kernel)) (by decide +kernel)) (jsl_run (by decide +kernel)))) (by decide +kernel) (by decide)) (jfr_sq (jfr_lp (jfr_sq (jfr_if (j := 26) (jsl_n (j := 23) (jsl_run (by decide +kernel)) (jsl_cv (ix := 279) mt_Md_bodies in_Md_bodies sl_Md_bodies rfl (by decide) (se_Md_bodies _) (by decide) (List.mem_of_getElem? (i := 1460) (by decide +kernel)) (by decide +kernel))) (by decide +kernel) (by decide)) (jfr_sq (jfr_go (j := 34) (jsl_run (by decide +kernel)) (by decide +kernel) (by decide)) (jfr_sq (jfr_lp (jfr_sq (jfr_if (j := 40) (jsl_n (j := 37) (jsl_run (by decide +kernel)) (jsl_cv (ix := 279) mt_Md_bodies in_Md_bodies sl_Md_bodies rfl (by decide) (se_Md_bodies _) (by decide) (List.mem_of_getElem? (i := 1460) (by decide +kernel)) (by decide +kernel))) (by decide +kernel) (by decide)) (jfr_sq (jfr_sq (jfr_if (j := 53) (jsl_n (j := 50) (jsl_run (by decide +kernel)) (jsl_cv (ix := 321) mt_Md_mayTurn in_Md_mayTurn sl_Md_mayTurn rfl (by decide) (se_Md_mayTurn _) (by decide) (List.mem_of_getElem? (i := 1763) (by decide +kernel)) (by decide +kernel))) (by decide +kernel) (by decide)) (jfr_sq (jfr_sq (jfr_sq (jfr_if (j := 86) (jsl_n (j := 63) (jsl_run (by decide +kernel)) (jsl_n (j := 66) (jsl_cv (ix := 311) mt_Md_swaps in_Md_swaps sl_Md_swaps rfl (by decide) (se_Md_swaps _) (by decide) (List.mem_of_getElem? (i := 1787) (by decide +kernel)) (by decide +kernel)) (jsl_n (j := 70) (jsl_run (by decide +kernel)) (jsl_n (j := 73) (jsl_cv (ix := 305) mt_Md_wrongs in_Md_wrongs sl_Md_wrongs rfl (by decide) (se_Md_wrongs _) (by decide) (List.mem_of_getElem? (i := 1795) (by decide +kernel)) (by decide +kernel)) (jsl_n (j := 82) (jsl_run (by decide +kernel)) (jsl_n (j := 85) (jsl_cv (ix := 311) mt_Md_swaps in_Md_swaps sl_Md_swaps rfl (by decide) (se_Md_swaps _) (by decide) (List.mem_of_getElem? (i := 1787) (by decide +kernel)) (by decide +kernel)) (jsl_run (by decide +kernel)))))))) (by decide +kernel) (by decide)) (jfr_sq (jfr_if (j := 92) (jsl_run (by decide +kernel)) (by decide +kernel) (by decide)) (jfr_go (j := 100) (jsl_run (by decide +kernel)) (by decide +kernel) (by decide)) (by decide)) (by decide)) (jfr_go (j := 96) (jsl_run (by decide +kernel)) (by decide +kernel) (by decide)) (by decide)) (jfr_sq (jfr_sq (jfr_sq (jfr_if (j := 104) (jsl_run (by decide +kernel)) (by decide +kernel) (by decide)) (jfr_go (j := 114) (jsl_run (by decide +kernel)) (by decide +kernel) (by decide)) (by decide)) (jfr_go (j := 118) (jsl_run (by decide +kernel)) (by decide +kernel) (by decide)) (by decide)) (jfr_sq (jfr_sq (jfr_sq (jfr_if (j := 121) (jsl_run (by decide +kernel)) (by decide +kernel) (by decide)) (jfr_go (j := 126) (jsl_run (by decide +kernel)) (by decide +kernel) (by decide)) (by decide)) (jfr_go (j := 130) (jsl_run (by decide +kernel)) (by decide +kernel) (by decide)) (by decide)) (jfr_go (j := 131) (jsl_run (by decide +kernel)) (by decide +kernel) (by decide)) (by decide)) (by decide)) (by decide)) (by decide)) (jfr_go (j := 134) (jsl_run (by decide +kernel)) (by decide +kernel) (by decide)) (by decide)) (by decide)) (by decide)) (jfr_go (j := 140) (jsl_run (by decide +kernel)) (by decide +kernel) (by decide)) (by decide)) (by decide)) (by decide)) (by decide)) (jfr_rt (j := 144) (jsl_run (by decide +kernel)) (by decide +kernel)) (by decide)) (by decide))
theorem se_Md_best (G : JG) : JSem G y_Md_best c_Md_best 7 (some .int) 3 q_Md_best := jsem_of (by decide +kernel) rfl (by intro h; cases h) (fr_Md_best G)
def y_Md_isBody : MethodName := ⟨"CellarTurnsModel", "isBody", "(I)Z"⟩
abbrev c_Md_isBody : ByteArray := prog_15_method_48_code
theorem mt_Md_isBody : JMt y_Md_isBody c_Md_isBody 2 (some .boolean) 1 := ⟨(List.mem_of_getElem? (i := 1743) (by decide +kernel)), (List.mem_of_getElem? (i := 133) (by decide +kernel)), ⟨by decide +kernel, by decide +kernel⟩, by decide +kernel, by decide⟩
theorem in_Md_isBody : Cond.instanceMethod y_Md_isBody ∈ lw_tbl := (List.mem_of_getElem? (i := 1742) (by decide +kernel))
theorem sl_Md_isBody : Cond.selects y_Md_isBody.cls y_Md_isBody y_Md_isBody ∈ lw_tbl := (List.mem_of_getElem? (i := 80) (by decide +kernel))
noncomputable def qp_Md_isBody : JP := (jb_sq (jb_sq (jb_sq (jb_if (jx_run [(2, 1, 0)]) 2 16 4) 4 (jb_sq (jb_if (jn (jx_run [(2, 1, 0), (4, 0, 0)]) (jx_cv 1 11 q_Md_bodies)) 9 16 12) 12 (jb_go (jx_run [(0, 0, 1)]) 17))) 16 (jb_go (jx_run [(0, 0, 0)]) 17)) 17 (jb_rt (jx_run []) 4))
noncomputable def q_Md_isBody : JF := jf_of qp_Md_isBody 2
set_option maxRecDepth 20000 in
theorem fr_Md_isBody (G : JG) : JFr G 11 false c_Md_isBody 1 2 (some .boolean) 0 qp_Md_isBody := (jfr_sq (jfr_sq (jfr_sq (jfr_if (j := 1) (jsl_run (by decide +kernel)) (by decide +kernel) (by decide)) (jfr_sq (jfr_if (j := 9) (jsl_n (j := 6) (jsl_run (by decide +kernel)) (jsl_cv (ix := 279) mt_Md_bodies in_Md_bodies sl_Md_bodies rfl (by decide) (se_Md_bodies _) (by decide) (List.mem_of_getElem? (i := 1460) (by decide +kernel)) (by decide +kernel))) (by decide +kernel) (by decide)) (jfr_go (j := 13) (jsl_run (by decide +kernel)) (by decide +kernel) (by decide)) (by decide)) (by decide)) (jfr_go (j := 17) (jsl_run (by decide +kernel)) (by decide +kernel) (by decide)) (by decide)) (jfr_rt (j := 17) (jsl_run (by decide +kernel)) (by decide +kernel)) (by decide))
theorem se_Md_isBody (G : JG) : JSem G y_Md_isBody c_Md_isBody 2 (some .boolean) 1 q_Md_isBody := jsem_of (by decide +kernel) rfl (by intro h; cases h) (fr_Md_isBody G)
def y_Md_within : MethodName := ⟨"CellarTurnsModel", "within", "(III)Z"⟩
abbrev c_Md_within : ByteArray := prog_15_method_17_code
theorem mt_Md_within : JMt y_Md_within c_Md_within 3 (some .boolean) 3 := ⟨(List.mem_of_getElem? (i := 1746) (by decide +kernel)), (List.mem_of_getElem? (i := 133) (by decide +kernel)), ⟨by decide +kernel, by decide +kernel⟩, by decide +kernel, by decide⟩
theorem st_Md_within : Cond.static y_Md_within ∈ lw_tbl := (List.mem_of_getElem? (i := 1745) (by decide +kernel))
noncomputable def qp_Md_within : JP := (jb_sq (jb_sq (jb_sq (jb_if (jx_run [(2, 0, 0), (2, 1, 0)]) 8 14 5) 5 (jb_sq (jb_if (jx_run [(2, 0, 0), (2, 2, 0)]) 10 14 10) 10 (jb_go (jx_run [(0, 0, 1)]) 15))) 14 (jb_go (jx_run [(0, 0, 0)]) 15)) 15 (jb_rt (jx_run []) 4))
noncomputable def q_Md_within : JF := jf_of qp_Md_within 3
set_option maxRecDepth 20000 in
theorem fr_Md_within (G : JG) : JFr G 11 false c_Md_within 0 3 (some .boolean) 0 qp_Md_within := (jfr_sq (jfr_sq (jfr_sq (jfr_if (j := 2) (jsl_run (by decide +kernel)) (by decide +kernel) (by decide)) (jfr_sq (jfr_if (j := 7) (jsl_run (by decide +kernel)) (by decide +kernel) (by decide)) (jfr_go (j := 11) (jsl_run (by decide +kernel)) (by decide +kernel) (by decide)) (by decide)) (by decide)) (jfr_go (j := 15) (jsl_run (by decide +kernel)) (by decide +kernel) (by decide)) (by decide)) (jfr_rt (j := 15) (jsl_run (by decide +kernel)) (by decide +kernel)) (by decide))
theorem se_Md_within (G : JG) : JSem G y_Md_within c_Md_within 3 (some .boolean) 0 q_Md_within := jsem_of (by decide +kernel) rfl (by intro h; cases h) (fr_Md_within G)
def y_Md_body : MethodName := ⟨"CellarTurnsModel", "body", "(II)I"⟩
abbrev c_Md_body : ByteArray := prog_15_method_63_code
theorem mt_Md_body : JMt y_Md_body c_Md_body 3 (some .int) 2 := ⟨(List.mem_of_getElem? (i := 1739) (by decide +kernel)), (List.mem_of_getElem? (i := 133) (by decide +kernel)), ⟨by decide +kernel, by decide +kernel⟩, by decide +kernel, by decide⟩
theorem in_Md_body : Cond.instanceMethod y_Md_body ∈ lw_tbl := (List.mem_of_getElem? (i := 1737) (by decide +kernel))
theorem sl_Md_body : Cond.selects y_Md_body.cls y_Md_body y_Md_body ∈ lw_tbl := (List.mem_of_getElem? (i := 1738) (by decide +kernel))
noncomputable def qp_Md_body : JP := (jb_sq (jb_sq (jb_if (jn (jx_run [(4, 0, 0), (0, 0, 0), (43, 11, 0), (4, 0, 0), (2, 1, 0)]) (jx_cv 2 11 q_Md_isBody)) 0 23 13) 13 (jb_sq (jb_if (jn (jx_run [(2, 2, 0), (0, 0, 0), (0, 0, 6)]) (jx_cs 3 q_Md_within)) 1 25 23) 25 (jb_sq (jb_sq (jb_sq (jb_sq (jb_sq (jb_sw (jx_run [(2, 2, 0)]) (3) [56, 66, 75, 85] 100) 85 (jb_sq (jb_sq (jb_sq (jb_if (jn (jx_run [(4, 0, 0), (0, 0, 0), (2, 1, 0)]) (jx_cv 3 11 q_Md_isWrong)) 0 98 94) 94 (jb_go (jx_run [(0, 0, 1)]) 99)) 98 (jb_go (jx_run [(0, 0, 0)]) 99)) 99 (jb_rt (jx_run []) 1))) 75 (jb_rt (jx_run [(4, 0, 0), (42, 11, 23), (0, 0, 11), (2, 1, 0), (10, 0, 0), (50, 0, 0)]) 1)) 66 (jb_rt (jx_run [(4, 0, 0), (42, 11, 23), (0, 0, 3), (2, 1, 0), (10, 0, 0), (50, 0, 0)]) 1)) 56 (jb_rt (jx_run [(4, 0, 0), (42, 11, 23), (0, 0, 19), (2, 1, 0), (10, 0, 0), (50, 0, 0)]) 1)) 100 (jb_rt (jn (jx_run [(4, 0, 0), (2, 1, 0), (2, 2, 0)]) (jx_cv 3 11 q_Md_bodyOf)) 1)))) 23 (jb_rt (jx_run [(0, 0, -1)]) 1))
noncomputable def q_Md_body : JF := jf_of qp_Md_body 3
set_option maxRecDepth 20000 in
theorem fr_Md_body (G : JG) : JFr G 11 false c_Md_body 2 3 (some .int) 0 qp_Md_body := (jfr_sq (jfr_sq (jfr_if (j := 10) (jsl_n (j := 7) (jsl_run (by decide +kernel)) (jsl_cv (ix := 325) mt_Md_isBody in_Md_isBody sl_Md_isBody rfl (by decide) (se_Md_isBody _) (by decide) (List.mem_of_getElem? (i := 1740) (by decide +kernel)) (by decide +kernel))) (by decide +kernel) (by decide)) (jfr_sq (jfr_if (j := 20) (jsl_n (j := 17) (jsl_run (by decide +kernel)) (jsl_cs (ix := 328) mt_Md_within st_Md_within (se_Md_within _) (by decide) (List.mem_of_getElem? (i := 1744) (by decide +kernel)) (by decide +kernel))) (by decide +kernel) (by decide)) (jfr_sq (jfr_sq (jfr_sq (jfr_sq (jfr_sq (jfr_sw (j := 26) (jsl_run (by decide +kernel)) (by decide +kernel)) (jfr_sq (jfr_sq (jfr_sq (jfr_if (j := 91) (jsl_n (j := 88) (jsl_run (by decide +kernel)) (jsl_cv (ix := 302) mt_Md_isWrong in_Md_isWrong sl_Md_isWrong rfl (by decide) (se_Md_isWrong _) (by decide) (List.mem_of_getElem? (i := 1747) (by decide +kernel)) (by decide +kernel))) (by decide +kernel) (by decide)) (jfr_go (j := 95) (jsl_run (by decide +kernel)) (by decide +kernel) (by decide)) (by decide)) (jfr_go (j := 99) (jsl_run (by decide +kernel)) (by decide +kernel) (by decide)) (by decide)) (jfr_rt (j := 99) (jsl_run (by decide +kernel)) (by decide +kernel)) (by decide)) (by decide)) (jfr_rt (j := 84) (jsl_run (by decide +kernel)) (by decide +kernel)) (by decide)) (jfr_rt (j := 74) (jsl_run (by decide +kernel)) (by decide +kernel)) (by decide)) (jfr_rt (j := 65) (jsl_run (by decide +kernel)) (by decide +kernel)) (by decide)) (jfr_rt (j := 106) (jsl_n (j := 103) (jsl_run (by decide +kernel)) (jsl_cv (ix := 282) mt_Md_bodyOf in_Md_bodyOf sl_Md_bodyOf rfl (by decide) (se_Md_bodyOf _) (by decide) (List.mem_of_getElem? (i := 1464) (by decide +kernel)) (by decide +kernel))) (by decide +kernel)) (by decide)) (by decide)) (by decide)) (jfr_rt (j := 24) (jsl_run (by decide +kernel)) (by decide +kernel)) (by decide))
theorem se_Md_body (G : JG) : JSem G y_Md_body c_Md_body 3 (some .int) 2 q_Md_body := jsem_of (by decide +kernel) rfl (by intro h; cases h) (fr_Md_body G)
def y_Md_isName : MethodName := ⟨"CellarTurnsModel", "isName", "()Z"⟩
abbrev c_Md_isName : ByteArray := prog_15_method_22_code
theorem mt_Md_isName : JMt y_Md_isName c_Md_isName 1 (some .boolean) 0 := ⟨(List.mem_of_getElem? (i := 1647) (by decide +kernel)), (List.mem_of_getElem? (i := 133) (by decide +kernel)), ⟨by decide +kernel, by decide +kernel⟩, by decide +kernel, by decide⟩
theorem in_Md_isName : Cond.instanceMethod y_Md_isName ∈ lw_tbl := (List.mem_of_getElem? (i := 1646) (by decide +kernel))
theorem sl_Md_isName : Cond.selects y_Md_isName.cls y_Md_isName y_Md_isName ∈ lw_tbl := (List.mem_of_getElem? (i := 58) (by decide +kernel))
noncomputable def qp_Md_isName : JP := (jb_sq (jb_sq (jb_sq (jb_if (jx_run [(4, 0, 0), (40, 11, 8)]) 1 34 7) 7 (jb_sq (jb_if (jx_run [(4, 0, 0), (42, 11, 4), (4, 0, 0), (40, 11, 7), (50, 0, 0), (0, 0, 1)]) 7 34 20) 20 (jb_sq (jb_if (jn (jx_run [(4, 0, 0), (0, 0, 0), (0, 0, 18)]) (jx_cv 3 11 q_Md_wordHere)) 3 34 30) 30 (jb_go (jx_run [(0, 0, 1)]) 35)))) 34 (jb_go (jx_run [(0, 0, 0)]) 35)) 35 (jb_rt (jx_run []) 4))
noncomputable def q_Md_isName : JF := jf_of qp_Md_isName 1
set_option maxRecDepth 20000 in
theorem fr_Md_isName (G : JG) : JFr G 11 false c_Md_isName 2 1 (some .boolean) 0 qp_Md_isName := (jfr_sq (jfr_sq (jfr_sq (jfr_if (j := 4) (jsl_run (by decide +kernel)) (by decide +kernel) (by decide)) (jfr_sq (jfr_if (j := 17) (jsl_run (by decide +kernel)) (by decide +kernel) (by decide)) (jfr_sq (jfr_if (j := 27) (jsl_n (j := 24) (jsl_run (by decide +kernel)) (jsl_cv (ix := 185) mt_Md_wordHere in_Md_wordHere sl_Md_wordHere rfl (by decide) (se_Md_wordHere _) (by decide) (List.mem_of_getElem? (i := 1648) (by decide +kernel)) (by decide +kernel))) (by decide +kernel) (by decide)) (jfr_go (j := 31) (jsl_run (by decide +kernel)) (by decide +kernel) (by decide)) (by decide)) (by decide)) (by decide)) (jfr_go (j := 35) (jsl_run (by decide +kernel)) (by decide +kernel) (by decide)) (by decide)) (jfr_rt (j := 35) (jsl_run (by decide +kernel)) (by decide +kernel)) (by decide))
theorem se_Md_isName (G : JG) : JSem G y_Md_isName c_Md_isName 1 (some .boolean) 2 q_Md_isName := jsem_of (by decide +kernel) rfl (by intro h; cases h) (fr_Md_isName G)
end
section
/-! ===== printed by wip/whole/emit.py: methods as pieces ===== -/
def y_Md_find : MethodName := ⟨"CellarTurnsModel", "find", "(Z)I"⟩
abbrev c_Md_find : ByteArray := prog_15_method_23_code
theorem mt_Md_find : JMt y_Md_find c_Md_find 4 (some .int) 1 := ⟨(List.mem_of_getElem? (i := 1655) (by decide +kernel)), (List.mem_of_getElem? (i := 133) (by decide +kernel)), ⟨by decide +kernel, by decide +kernel⟩, by decide +kernel, by decide⟩
theorem in_Md_find : Cond.instanceMethod y_Md_find ∈ lw_tbl := (List.mem_of_getElem? (i := 1654) (by decide +kernel))
theorem sl_Md_find : Cond.selects y_Md_find.cls y_Md_find y_Md_find ∈ lw_tbl := (List.mem_of_getElem? (i := 60) (by decide +kernel))
noncomputable def qp_Md_find : JP := (jb_sq (jb_go (jx_run [(0, 0, -1), (5, 2, 0), (0, 0, 0), (5, 3, 0)]) 4) 4 (jb_lp 4 (jb_sq (jb_sq (jb_sq (jb_if (jx_run [(2, 3, 0), (2, 1, 0)]) 0 16 9) 9 (jb_go (jx_run [(4, 0, 0), (40, 11, 17)]) 20)) 16 (jb_go (jx_run [(4, 0, 0), (40, 11, 16)]) 20)) 20 (jb_sq (jb_sq (jb_if (jx_run []) 9 67 23) 23 (jb_sq (jb_sq (jb_sq (jb_if (jx_run [(2, 1, 0)]) 0 36 27) 27 (jb_go (jx_run [(4, 0, 0), (42, 11, 15), (2, 3, 0), (51, 0, 0)]) 42)) 36 (jb_go (jx_run [(4, 0, 0), (42, 11, 14), (2, 3, 0), (51, 0, 0)]) 42)) 42 (jb_sq (jb_sq (jb_sq (jb_if (jx_run [(4, 0, 0), (42, 11, 6), (4, 0, 0), (40, 11, 7), (51, 0, 0), (33, 0, 0)]) 1 59 55) 55 (jb_go (jx_run [(2, 3, 0)]) 60)) 59 (jb_go (jx_run [(2, 2, 0)]) 60)) 60 (jb_go (jx_run [(5, 2, 0), (8, 3, 1)]) 4)))) 67 (jb_rt (jx_run [(2, 2, 0)]) 1)))))
noncomputable def q_Md_find : JF := jf_of qp_Md_find 4
set_option maxRecDepth 20000 in
theorem fr_Md_find (G : JG) : JFr G 11 false c_Md_find 0 4 (some .int) 0 qp_Md_find := (jfr_sq (jfr_go (j := 4) (jsl_run (by decide +kernel)) (by decide +kernel) (by decide)) (jfr_lp (jfr_sq (jfr_sq (jfr_sq (jfr_if (j := 6) (jsl_run (by decide +kernel)) (by decide +kernel) (by decide)) (jfr_go (j := 13) (jsl_run (by decide +kernel)) (by decide +kernel) (by decide)) (by decide)) (jfr_go (j := 20) (jsl_run (by decide +kernel)) (by decide +kernel) (by decide)) (by decide)) (jfr_sq (jfr_sq (jfr_if (j := 20) (jsl_run (by decide +kernel)) (by decide +kernel) (by decide)) (jfr_sq (jfr_sq (jfr_sq (jfr_if (j := 24) (jsl_run (by decide +kernel)) (by decide +kernel) (by decide)) (jfr_go (j := 33) (jsl_run (by decide +kernel)) (by decide +kernel) (by decide)) (by decide)) (jfr_go (j := 42) (jsl_run (by decide +kernel)) (by decide +kernel) (by decide)) (by decide)) (jfr_sq (jfr_sq (jfr_sq (jfr_if (j := 52) (jsl_run (by decide +kernel)) (by decide +kernel) (by decide)) (jfr_go (j := 56) (jsl_run (by decide +kernel)) (by decide +kernel) (by decide)) (by decide)) (jfr_go (j := 60) (jsl_run (by decide +kernel)) (by decide +kernel) (by decide)) (by decide)) (jfr_go (j := 64) (jsl_run (by decide +kernel)) (by decide +kernel) (by decide)) (by decide)) (by decide)) (by decide)) (jfr_rt (j := 68) (jsl_run (by decide +kernel)) (by decide +kernel)) (by decide)) (by decide)) (by decide)) (by decide))
theorem se_Md_find (G : JG) : JSem G y_Md_find c_Md_find 4 (some .int) 0 q_Md_find := jsem_of (by decide +kernel) rfl (by intro h; cases h) (fr_Md_find G)
def y_Md_bodyHere : MethodName := ⟨"CellarTurnsModel", "bodyHere", "(Z)I"⟩
abbrev c_Md_bodyHere : ByteArray := prog_15_method_25_code
theorem mt_Md_bodyHere : JMt y_Md_bodyHere c_Md_bodyHere 3 (some .int) 1 := ⟨(List.mem_of_getElem? (i := 1735) (by decide +kernel)), (List.mem_of_getElem? (i := 133) (by decide +kernel)), ⟨by decide +kernel, by decide +kernel⟩, by decide +kernel, by decide⟩
theorem in_Md_bodyHere : Cond.instanceMethod y_Md_bodyHere ∈ lw_tbl := (List.mem_of_getElem? (i := 1734) (by decide +kernel))
theorem sl_Md_bodyHere : Cond.selects y_Md_bodyHere.cls y_Md_bodyHere y_Md_bodyHere ∈ lw_tbl := (List.mem_of_getElem? (i := 79) (by decide +kernel))
noncomputable def qp_Md_bodyHere : JP := (jb_sq (jb_sq (jb_if (jx_run [(4, 0, 0), (40, 11, 8)]) 1 19 7) 7 (jb_sq (jb_if (jn (jx_run [(4, 0, 0)]) (jx_cv 1 11 q_Md_isName)) 1 19 14) 14 (jb_go (jn (jx_run [(4, 0, 0), (0, 0, 1)]) (jx_cv 2 11 q_Md_wrong)) 19))) 19 (jb_sq (jb_sq (jb_sq (jb_if (jx_run [(4, 0, 0), (40, 11, 8)]) 5 30 26) 26 (jb_go (jx_run [(0, 0, -1)]) 35)) 30 (jb_go (jn (jx_run [(4, 0, 0), (0, 0, 0)]) (jx_cv 2 11 q_Md_find)) 35)) 35 (jb_sq (jb_sq (jb_if (jx_run [(5, 2, 0), (4, 0, 0), (40, 11, 8)]) 1 72 43) 43 (jb_sq (jb_sq (jb_if (jx_run [(2, 2, 0)]) 2 67 47) 47 (jb_sq (jb_if (jx_run [(2, 1, 0)]) 0 72 51) 51 (jb_if (jx_run [(4, 0, 0), (42, 11, 10), (0, 0, 8), (0, 0, 4), (2, 2, 0), (12, 0, 0), (10, 0, 0), (0, 0, 1), (10, 0, 0), (50, 0, 0)]) 1 72 67))) 67 (jb_go (jn (jx_run [(4, 0, 0), (0, 0, 2)]) (jx_cv 2 11 q_Md_wrong)) 72))) 72 (jb_sq (jb_sq (jb_sq (jb_if (jx_run [(4, 0, 0), (40, 11, 8)]) 5 83 79) 79 (jb_go (jx_run [(0, 0, 0)]) 84)) 83 (jb_go (jx_run [(2, 2, 0)]) 84)) 84 (jb_rt (jx_run []) 1)))))
noncomputable def q_Md_bodyHere : JF := jf_of qp_Md_bodyHere 3
set_option maxRecDepth 20000 in
theorem fr_Md_bodyHere (G : JG) : JFr G 11 false c_Md_bodyHere 3 3 (some .int) 0 qp_Md_bodyHere := (jfr_sq (jfr_sq (jfr_if (j := 4) (jsl_run (by decide +kernel)) (by decide +kernel) (by decide)) (jfr_sq (jfr_if (j := 11) (jsl_n (j := 8) (jsl_run (by decide +kernel)) (jsl_cv (ix := 195) mt_Md_isName in_Md_isName sl_Md_isName rfl (by decide) (se_Md_isName _) (by decide) (List.mem_of_getElem? (i := 1644) (by decide +kernel)) (by decide +kernel))) (by decide +kernel) (by decide)) (jfr_go (j := 19) (jsl_n (j := 16) (jsl_run (by decide +kernel)) (jsl_cv (ix := 176) mt_Md_wrong in_Md_wrong sl_Md_wrong rfl (by decide) (se_Md_wrong _) (by decide) (List.mem_of_getElem? (i := 1640) (by decide +kernel)) (by decide +kernel))) (by decide +kernel) (by decide)) (by decide)) (by decide)) (jfr_sq (jfr_sq (jfr_sq (jfr_if (j := 23) (jsl_run (by decide +kernel)) (by decide +kernel) (by decide)) (jfr_go (j := 27) (jsl_run (by decide +kernel)) (by decide +kernel) (by decide)) (by decide)) (jfr_go (j := 35) (jsl_n (j := 32) (jsl_run (by decide +kernel)) (jsl_cv (ix := 199) mt_Md_find in_Md_find sl_Md_find rfl (by decide) (se_Md_find _) (by decide) (List.mem_of_getElem? (i := 1652) (by decide +kernel)) (by decide +kernel))) (by decide +kernel) (by decide)) (by decide)) (jfr_sq (jfr_sq (jfr_if (j := 40) (jsl_run (by decide +kernel)) (by decide +kernel) (by decide)) (jfr_sq (jfr_sq (jfr_if (j := 44) (jsl_run (by decide +kernel)) (by decide +kernel) (by decide)) (jfr_sq (jfr_if (j := 48) (jsl_run (by decide +kernel)) (by decide +kernel) (by decide)) (jfr_if (j := 64) (jsl_run (by decide +kernel)) (by decide +kernel) (by decide)) (by decide)) (by decide)) (jfr_go (j := 72) (jsl_n (j := 69) (jsl_run (by decide +kernel)) (jsl_cv (ix := 176) mt_Md_wrong in_Md_wrong sl_Md_wrong rfl (by decide) (se_Md_wrong _) (by decide) (List.mem_of_getElem? (i := 1640) (by decide +kernel)) (by decide +kernel))) (by decide +kernel) (by decide)) (by decide)) (by decide)) (jfr_sq (jfr_sq (jfr_sq (jfr_if (j := 76) (jsl_run (by decide +kernel)) (by decide +kernel) (by decide)) (jfr_go (j := 80) (jsl_run (by decide +kernel)) (by decide +kernel) (by decide)) (by decide)) (jfr_go (j := 84) (jsl_run (by decide +kernel)) (by decide +kernel) (by decide)) (by decide)) (jfr_rt (j := 84) (jsl_run (by decide +kernel)) (by decide +kernel)) (by decide)) (by decide)) (by decide)) (by decide))
theorem se_Md_bodyHere (G : JG) : JSem G y_Md_bodyHere c_Md_bodyHere 3 (some .int) 3 q_Md_bodyHere := jsem_of (by decide +kernel) rfl (by intro h; cases h) (fr_Md_bodyHere G)
def y_Md_both : MethodName := ⟨"CellarTurnsModel", "both", "(III)I"⟩
abbrev c_Md_both : ByteArray := prog_15_method_41_code
theorem mt_Md_both : JMt y_Md_both c_Md_both 3 (some .int) 3 := ⟨(List.mem_of_getElem? (i := 1805) (by decide +kernel)), (List.mem_of_getElem? (i := 133) (by decide +kernel)), ⟨by decide +kernel, by decide +kernel⟩, by decide +kernel, by decide⟩
theorem st_Md_both : Cond.static y_Md_both ∈ lw_tbl := (List.mem_of_getElem? (i := 1804) (by decide +kernel))
noncomputable def qp_Md_both : JP := (jb_sq (jb_sq (jb_sq (jb_sq (jb_sq (jb_sq (jb_sq (jb_sw (jx_run [(2, 0, 0)]) (4) [40, 44, 48, 52, 63, 74] 88) 74 (jb_sq (jb_sq (jb_sq (jb_if (jx_run [(2, 1, 0)]) 0 86 78) 78 (jb_sq (jb_if (jx_run [(2, 2, 0)]) 0 86 82) 82 (jb_go (jx_run [(0, 0, 1)]) 87))) 86 (jb_go (jx_run [(0, 0, 0)]) 87)) 87 (jb_rt (jx_run []) 1))) 63 (jb_sq (jb_sq (jb_sq (jb_if (jx_run [(2, 1, 0), (2, 2, 0)]) 7 72 68) 68 (jb_go (jx_run [(0, 0, 1)]) 73)) 72 (jb_go (jx_run [(0, 0, 0)]) 73)) 73 (jb_rt (jx_run []) 1))) 52 (jb_sq (jb_sq (jb_sq (jb_if (jx_run [(2, 1, 0), (2, 2, 0)]) 9 61 57) 57 (jb_go (jx_run [(0, 0, 1)]) 62)) 61 (jb_go (jx_run [(0, 0, 0)]) 62)) 62 (jb_rt (jx_run []) 1))) 48 (jb_rt (jx_run [(2, 1, 0), (2, 2, 0), (12, 0, 0)]) 1)) 44 (jb_rt (jx_run [(2, 1, 0), (2, 2, 0), (11, 0, 0)]) 1)) 40 (jb_rt (jx_run [(2, 1, 0), (2, 2, 0), (10, 0, 0)]) 1)) 88 (jb_sq (jb_sq (jb_sq (jb_if (jx_run [(2, 1, 0)]) 1 96 92) 92 (jb_sq (jb_if (jx_run [(2, 2, 0)]) 0 100 96) 100 (jb_go (jx_run [(0, 0, 0)]) 101))) 96 (jb_go (jx_run [(0, 0, 1)]) 101)) 101 (jb_rt (jx_run []) 1)))
noncomputable def q_Md_both : JF := jf_of qp_Md_both 3
set_option maxRecDepth 20000 in
theorem fr_Md_both (G : JG) : JFr G 11 false c_Md_both 0 3 (some .int) 0 qp_Md_both := (jfr_sq (jfr_sq (jfr_sq (jfr_sq (jfr_sq (jfr_sq (jfr_sq (jfr_sw (j := 1) (jsl_run (by decide +kernel)) (by decide +kernel)) (jfr_sq (jfr_sq (jfr_sq (jfr_if (j := 75) (jsl_run (by decide +kernel)) (by decide +kernel) (by decide)) (jfr_sq (jfr_if (j := 79) (jsl_run (by decide +kernel)) (by decide +kernel) (by decide)) (jfr_go (j := 83) (jsl_run (by decide +kernel)) (by decide +kernel) (by decide)) (by decide)) (by decide)) (jfr_go (j := 87) (jsl_run (by decide +kernel)) (by decide +kernel) (by decide)) (by decide)) (jfr_rt (j := 87) (jsl_run (by decide +kernel)) (by decide +kernel)) (by decide)) (by decide)) (jfr_sq (jfr_sq (jfr_sq (jfr_if (j := 65) (jsl_run (by decide +kernel)) (by decide +kernel) (by decide)) (jfr_go (j := 69) (jsl_run (by decide +kernel)) (by decide +kernel) (by decide)) (by decide)) (jfr_go (j := 73) (jsl_run (by decide +kernel)) (by decide +kernel) (by decide)) (by decide)) (jfr_rt (j := 73) (jsl_run (by decide +kernel)) (by decide +kernel)) (by decide)) (by decide)) (jfr_sq (jfr_sq (jfr_sq (jfr_if (j := 54) (jsl_run (by decide +kernel)) (by decide +kernel) (by decide)) (jfr_go (j := 58) (jsl_run (by decide +kernel)) (by decide +kernel) (by decide)) (by decide)) (jfr_go (j := 62) (jsl_run (by decide +kernel)) (by decide +kernel) (by decide)) (by decide)) (jfr_rt (j := 62) (jsl_run (by decide +kernel)) (by decide +kernel)) (by decide)) (by decide)) (jfr_rt (j := 51) (jsl_run (by decide +kernel)) (by decide +kernel)) (by decide)) (jfr_rt (j := 47) (jsl_run (by decide +kernel)) (by decide +kernel)) (by decide)) (jfr_rt (j := 43) (jsl_run (by decide +kernel)) (by decide +kernel)) (by decide)) (jfr_sq (jfr_sq (jfr_sq (jfr_if (j := 89) (jsl_run (by decide +kernel)) (by decide +kernel) (by decide)) (jfr_sq (jfr_if (j := 93) (jsl_run (by decide +kernel)) (by decide +kernel) (by decide)) (jfr_go (j := 101) (jsl_run (by decide +kernel)) (by decide +kernel) (by decide)) (by decide)) (by decide)) (jfr_go (j := 97) (jsl_run (by decide +kernel)) (by decide +kernel) (by decide)) (by decide)) (jfr_rt (j := 101) (jsl_run (by decide +kernel)) (by decide +kernel)) (by decide)) (by decide))
theorem se_Md_both (G : JG) : JSem G y_Md_both c_Md_both 3 (some .int) 0 q_Md_both := jsem_of (by decide +kernel) rfl (by intro h; cases h) (fr_Md_both G)
def y_Md_isLetter : MethodName := ⟨"CellarTurnsModel", "isLetter", "(I)Z"⟩
abbrev c_Md_isLetter : ByteArray := prog_15_method_5_code
theorem mt_Md_isLetter : JMt y_Md_isLetter c_Md_isLetter 1 (some .boolean) 1 := ⟨(List.mem_of_getElem? (i := 1615) (by decide +kernel)), (List.mem_of_getElem? (i := 133) (by decide +kernel)), ⟨by decide +kernel, by decide +kernel⟩, by decide +kernel, by decide⟩
theorem st_Md_isLetter : Cond.static y_Md_isLetter ∈ lw_tbl := (List.mem_of_getElem? (i := 1614) (by decide +kernel))
noncomputable def qp_Md_isLetter : JP := (jb_sq (jb_sq (jb_sq (jb_if (jx_run [(2, 0, 0), (0, 0, 97)]) 8 16 6) 6 (jb_sq (jb_if (jx_run [(2, 0, 0), (0, 0, 122)]) 10 16 12) 12 (jb_go (jx_run [(0, 0, 1)]) 17))) 16 (jb_go (jx_run [(0, 0, 0)]) 17)) 17 (jb_rt (jx_run []) 4))
noncomputable def q_Md_isLetter : JF := jf_of qp_Md_isLetter 1
set_option maxRecDepth 20000 in
theorem fr_Md_isLetter (G : JG) : JFr G 11 false c_Md_isLetter 0 1 (some .boolean) 0 qp_Md_isLetter := (jfr_sq (jfr_sq (jfr_sq (jfr_if (j := 3) (jsl_run (by decide +kernel)) (by decide +kernel) (by decide)) (jfr_sq (jfr_if (j := 9) (jsl_run (by decide +kernel)) (by decide +kernel) (by decide)) (jfr_go (j := 13) (jsl_run (by decide +kernel)) (by decide +kernel) (by decide)) (by decide)) (by decide)) (jfr_go (j := 17) (jsl_run (by decide +kernel)) (by decide +kernel) (by decide)) (by decide)) (jfr_rt (j := 17) (jsl_run (by decide +kernel)) (by decide +kernel)) (by decide))
theorem se_Md_isLetter (G : JG) : JSem G y_Md_isLetter c_Md_isLetter 1 (some .boolean) 0 q_Md_isLetter := jsem_of (by decide +kernel) rfl (by intro h; cases h) (fr_Md_isLetter G)
def y_Md_rank : MethodName := ⟨"CellarTurnsModel", "rank", "(I)I"⟩
abbrev c_Md_rank : ByteArray := prog_15_method_7_code
theorem mt_Md_rank : JMt y_Md_rank c_Md_rank 1 (some .int) 1 := ⟨(List.mem_of_getElem? (i := 1619) (by decide +kernel)), (List.mem_of_getElem? (i := 133) (by decide +kernel)), ⟨by decide +kernel, by decide +kernel⟩, by decide +kernel, by decide⟩
theorem st_Md_rank : Cond.static y_Md_rank ∈ lw_tbl := (List.mem_of_getElem? (i := 1618) (by decide +kernel))
noncomputable def qp_Md_rank : JP := (jb_sq (jb_sq (jb_sq (jb_if (jn (jx_run [(2, 0, 0)]) (jx_cs 1 q_Md_isLetter)) 0 14 7) 7 (jb_go (jx_run [(2, 0, 0), (0, 0, 96), (11, 0, 0)]) 18)) 14 (jb_go (jx_run [(2, 0, 0), (0, 0, 21), (11, 0, 0)]) 18)) 18 (jb_rt (jx_run []) 1))
noncomputable def q_Md_rank : JF := jf_of qp_Md_rank 1
set_option maxRecDepth 20000 in
theorem fr_Md_rank (G : JG) : JFr G 11 false c_Md_rank 1 1 (some .int) 0 qp_Md_rank := (jfr_sq (jfr_sq (jfr_sq (jfr_if (j := 4) (jsl_n (j := 1) (jsl_run (by decide +kernel)) (jsl_cs (ix := 144) mt_Md_isLetter st_Md_isLetter (se_Md_isLetter _) (by decide) (List.mem_of_getElem? (i := 1613) (by decide +kernel)) (by decide +kernel))) (by decide +kernel) (by decide)) (jfr_go (j := 11) (jsl_run (by decide +kernel)) (by decide +kernel) (by decide)) (by decide)) (jfr_go (j := 18) (jsl_run (by decide +kernel)) (by decide +kernel) (by decide)) (by decide)) (jfr_rt (j := 18) (jsl_run (by decide +kernel)) (by decide +kernel)) (by decide))
theorem se_Md_rank (G : JG) : JSem G y_Md_rank c_Md_rank 1 (some .int) 1 q_Md_rank := jsem_of (by decide +kernel) rfl (by intro h; cases h) (fr_Md_rank G)
def y_Md_isDigit : MethodName := ⟨"CellarTurnsModel", "isDigit", "(I)Z"⟩
abbrev c_Md_isDigit : ByteArray := prog_15_method_6_code
theorem mt_Md_isDigit : JMt y_Md_isDigit c_Md_isDigit 1 (some .boolean) 1 := ⟨(List.mem_of_getElem? (i := 1622) (by decide +kernel)), (List.mem_of_getElem? (i := 133) (by decide +kernel)), ⟨by decide +kernel, by decide +kernel⟩, by decide +kernel, by decide⟩
theorem st_Md_isDigit : Cond.static y_Md_isDigit ∈ lw_tbl := (List.mem_of_getElem? (i := 1621) (by decide +kernel))
noncomputable def qp_Md_isDigit : JP := (jb_sq (jb_sq (jb_sq (jb_if (jx_run [(2, 0, 0), (0, 0, 48)]) 8 16 6) 6 (jb_sq (jb_if (jx_run [(2, 0, 0), (0, 0, 57)]) 10 16 12) 12 (jb_go (jx_run [(0, 0, 1)]) 17))) 16 (jb_go (jx_run [(0, 0, 0)]) 17)) 17 (jb_rt (jx_run []) 4))
noncomputable def q_Md_isDigit : JF := jf_of qp_Md_isDigit 1
set_option maxRecDepth 20000 in
theorem fr_Md_isDigit (G : JG) : JFr G 11 false c_Md_isDigit 0 1 (some .boolean) 0 qp_Md_isDigit := (jfr_sq (jfr_sq (jfr_sq (jfr_if (j := 3) (jsl_run (by decide +kernel)) (by decide +kernel) (by decide)) (jfr_sq (jfr_if (j := 9) (jsl_run (by decide +kernel)) (by decide +kernel) (by decide)) (jfr_go (j := 13) (jsl_run (by decide +kernel)) (by decide +kernel) (by decide)) (by decide)) (by decide)) (jfr_go (j := 17) (jsl_run (by decide +kernel)) (by decide +kernel) (by decide)) (by decide)) (jfr_rt (j := 17) (jsl_run (by decide +kernel)) (by decide +kernel)) (by decide))
theorem se_Md_isDigit (G : JG) : JSem G y_Md_isDigit c_Md_isDigit 1 (some .boolean) 0 q_Md_isDigit := jsem_of (by decide +kernel) rfl (by intro h; cases h) (fr_Md_isDigit G)
def y_Md_isSignOf : MethodName := ⟨"CellarTurnsModel", "isSignOf", "(I)Z"⟩
abbrev c_Md_isSignOf : ByteArray := prog_15_method_8_code
theorem mt_Md_isSignOf : JMt y_Md_isSignOf c_Md_isSignOf 1 (some .boolean) 1 := ⟨(List.mem_of_getElem? (i := 1627) (by decide +kernel)), (List.mem_of_getElem? (i := 133) (by decide +kernel)), ⟨by decide +kernel, by decide +kernel⟩, by decide +kernel, by decide⟩
theorem st_Md_isSignOf : Cond.static y_Md_isSignOf ∈ lw_tbl := (List.mem_of_getElem? (i := 1626) (by decide +kernel))
noncomputable def qp_Md_isSignOf : JP := (jb_sq (jb_sq (jb_sq (jb_if (jx_run [(2, 0, 0), (0, 0, 40)]) 6 48 6) 6 (jb_sq (jb_if (jx_run [(2, 0, 0), (0, 0, 41)]) 6 48 12) 12 (jb_sq (jb_if (jx_run [(2, 0, 0), (0, 0, 59)]) 6 48 18) 18 (jb_sq (jb_if (jx_run [(2, 0, 0), (0, 0, 61)]) 6 48 24) 24 (jb_sq (jb_if (jx_run [(2, 0, 0), (0, 0, 60)]) 6 48 30) 30 (jb_sq (jb_if (jx_run [(2, 0, 0), (0, 0, 43)]) 6 48 36) 36 (jb_sq (jb_if (jx_run [(2, 0, 0), (0, 0, 45)]) 6 48 42) 42 (jb_sq (jb_if (jx_run [(2, 0, 0), (0, 0, 42)]) 7 52 48) 52 (jb_go (jx_run [(0, 0, 0)]) 53))))))))) 48 (jb_go (jx_run [(0, 0, 1)]) 53)) 53 (jb_rt (jx_run []) 4))
noncomputable def q_Md_isSignOf : JF := jf_of qp_Md_isSignOf 1
set_option maxRecDepth 20000 in
theorem fr_Md_isSignOf (G : JG) : JFr G 11 false c_Md_isSignOf 0 1 (some .boolean) 0 qp_Md_isSignOf := (jfr_sq (jfr_sq (jfr_sq (jfr_if (j := 3) (jsl_run (by decide +kernel)) (by decide +kernel) (by decide)) (jfr_sq (jfr_if (j := 9) (jsl_run (by decide +kernel)) (by decide +kernel) (by decide)) (jfr_sq (jfr_if (j := 15) (jsl_run (by decide +kernel)) (by decide +kernel) (by decide)) (jfr_sq (jfr_if (j := 21) (jsl_run (by decide +kernel)) (by decide +kernel) (by decide)) (jfr_sq (jfr_if (j := 27) (jsl_run (by decide +kernel)) (by decide +kernel) (by decide)) (jfr_sq (jfr_if (j := 33) (jsl_run (by decide +kernel)) (by decide +kernel) (by decide)) (jfr_sq (jfr_if (j := 39) (jsl_run (by decide +kernel)) (by decide +kernel) (by decide)) (jfr_sq (jfr_if (j := 45) (jsl_run (by decide +kernel)) (by decide +kernel) (by decide)) (jfr_go (j := 53) (jsl_run (by decide +kernel)) (by decide +kernel) (by decide)) (by decide)) (by decide)) (by decide)) (by decide)) (by decide)) (by decide)) (by decide)) (by decide)) (jfr_go (j := 49) (jsl_run (by decide +kernel)) (by decide +kernel) (by decide)) (by decide)) (jfr_rt (j := 53) (jsl_run (by decide +kernel)) (by decide +kernel)) (by decide))
theorem se_Md_isSignOf (G : JG) : JSem G y_Md_isSignOf c_Md_isSignOf 1 (some .boolean) 0 q_Md_isSignOf := jsem_of (by decide +kernel) rfl (by intro h; cases h) (fr_Md_isSignOf G)
def y_Md_cutAll : MethodName := ⟨"CellarTurnsModel", "cutAll", "()V"⟩
abbrev c_Md_cutAll : ByteArray := prog_15_method_9_code
theorem mt_Md_cutAll : JMt y_Md_cutAll c_Md_cutAll 7 none 0 := ⟨(List.mem_of_getElem? (i := 1612) (by decide +kernel)), (List.mem_of_getElem? (i := 133) (by decide +kernel)), ⟨by decide +kernel, by decide +kernel⟩, by decide +kernel, by decide⟩
theorem in_Md_cutAll : Cond.instanceMethod y_Md_cutAll ∈ lw_tbl := (List.mem_of_getElem? (i := 1611) (by decide +kernel))
theorem sl_Md_cutAll : Cond.selects y_Md_cutAll.cls y_Md_cutAll y_Md_cutAll ∈ lw_tbl := (List.mem_of_getElem? (i := 53) (by decide +kernel))
noncomputable def qp_Md_cutAll : JP := (jb_sq (jb_go (jx_run [(4, 0, 0), (4, 0, 0), (40, 11, 2), (43, 11, 3), (4, 0, 0), (0, 0, 0), (43, 11, 2), (0, 0, 0), (5, 1, 0), (0, 0, 0), (5, 2, 0)]) 17) 17 (jb_sq (jb_lp 17 (jb_sq (jb_if (jx_run [(2, 2, 0), (4, 0, 0), (40, 11, 3)]) 9 279 25) 25 (jb_sq (jb_sq (jb_if (jx_run [(4, 0, 0), (42, 11, 1), (2, 2, 0), (50, 0, 0), (5, 3, 0), (2, 3, 0), (0, 0, 10)]) 6 44 38) 38 (jb_sq (jb_if (jx_run [(2, 3, 0), (0, 0, 32)]) 7 50 44) 50 (jb_sq (jb_sq (jb_sq (jb_if (jn (jx_run [(2, 2, 0), (5, 4, 0), (1, 0, 0), (6, 5, 0), (4, 0, 0), (42, 11, 5), (2, 1, 0), (2, 2, 0), (55, 0, 0), (2, 3, 0)]) (jx_cs 1 q_Md_isLetter)) 0 152 70) 70 (jb_sq (jb_lp 70 (jb_sq (jb_if (jx_run [(2, 2, 0), (4, 0, 0), (40, 11, 3)]) 9 129 78) 78 (jb_sq (jb_if (jn (jx_run [(4, 0, 0), (42, 11, 1), (2, 2, 0), (50, 0, 0)]) (jx_cs 1 q_Md_isLetter)) 0 129 90) 90 (jb_sq (jb_sq (jb_sq (jb_if (jx_run [(2, 2, 0), (2, 4, 0), (11, 0, 0), (0, 0, 8)]) 9 119 99) 99 (jb_go (jn (jx_run [(1, 0, 37), (3, 5, 0), (24, 0, 0), (4, 0, 0), (42, 11, 1), (2, 2, 0), (50, 0, 0)]) (jn (jx_cs 1 q_Md_rank) (jx_run [(34, 0, 0), (22, 0, 0)]))) 121)) 119 (jb_go (jx_run [(3, 5, 0)]) 121)) 121 (jb_go (jx_run [(6, 5, 0), (8, 2, 1)]) 70))))) 129 (jb_sq (jb_sq (jb_sq (jb_if (jx_run [(4, 0, 0), (42, 11, 4), (2, 1, 0), (2, 2, 0), (2, 4, 0), (11, 0, 0), (0, 0, 8)]) 11 147 143) 143 (jb_go (jx_run [(0, 0, 4)]) 148)) 147 (jb_go (jx_run [(0, 0, 1)]) 148)) 148 (jb_go (jx_run [(55, 0, 0)]) 265)))) 152 (jb_sq (jb_sq (jb_if (jn (jx_run [(2, 3, 0)]) (jx_cs 1 q_Md_isDigit)) 0 240 159) 159 (jb_sq (jb_lp 159 (jb_sq (jb_if (jx_run [(2, 2, 0), (4, 0, 0), (40, 11, 3)]) 9 218 167) 167 (jb_sq (jb_if (jn (jx_run [(4, 0, 0), (42, 11, 1), (2, 2, 0), (50, 0, 0)]) (jx_cs 1 q_Md_isDigit)) 0 218 179) 179 (jb_sq (jb_sq (jb_sq (jb_if (jx_run [(2, 2, 0), (2, 4, 0), (11, 0, 0), (0, 0, 4)]) 9 208 187) 187 (jb_go (jx_run [(1, 0, 10), (3, 5, 0), (24, 0, 0), (4, 0, 0), (42, 11, 1), (2, 2, 0), (50, 0, 0), (34, 0, 0), (22, 0, 0), (1, 0, 48), (23, 0, 0)]) 210)) 208 (jb_go (jx_run [(3, 5, 0)]) 210)) 210 (jb_go (jx_run [(6, 5, 0), (8, 2, 1)]) 159))))) 218 (jb_sq (jb_sq (jb_sq (jb_if (jx_run [(4, 0, 0), (42, 11, 4), (2, 1, 0), (2, 2, 0), (2, 4, 0), (11, 0, 0), (0, 0, 4)]) 11 235 231) 231 (jb_go (jx_run [(0, 0, 4)]) 236)) 235 (jb_go (jx_run [(0, 0, 2)]) 236)) 236 (jb_go (jx_run [(55, 0, 0)]) 265)))) 240 (jb_sq (jb_sq (jb_sq (jb_if (jn (jx_run [(2, 3, 0), (34, 0, 0), (6, 5, 0), (4, 0, 0), (42, 11, 4), (2, 1, 0), (2, 3, 0)]) (jx_cs 1 q_Md_isSignOf)) 0 260 256) 256 (jb_go (jx_run [(0, 0, 3)]) 261)) 260 (jb_go (jx_run [(0, 0, 4)]) 261)) 261 (jb_go (jx_run [(55, 0, 0), (8, 2, 1)]) 265)))) 265 (jb_go (jx_run [(4, 0, 0), (42, 11, 6), (2, 1, 0), (3, 5, 0), (56, 0, 0), (8, 1, 1)]) 17)))) 44 (jb_go (jx_run [(8, 2, 1)]) 17)))) 279 (jb_rt (jx_run [(4, 0, 0), (42, 11, 4), (2, 1, 0), (0, 0, 0), (55, 0, 0), (4, 0, 0), (42, 11, 5), (2, 1, 0), (4, 0, 0), (40, 11, 3), (55, 0, 0), (4, 0, 0), (0, 0, 0), (43, 11, 7), (4, 0, 0), (0, 0, 0), (43, 11, 8)]) 0)))
noncomputable def q_Md_cutAll : JF := jf_of qp_Md_cutAll 7
set_option maxRecDepth 20000 in
theorem fr_Md_cutAll (G : JG) : JFr G 11 false c_Md_cutAll 2 7 none 0 qp_Md_cutAll := (jfr_sq (jfr_go (j := 17) (jsl_run (by decide +kernel)) (by decide +kernel) (by decide)) (jfr_sq (jfr_lp (jfr_sq (jfr_if (j := 22) (jsl_run (by decide +kernel)) (by decide +kernel) (by decide)) (jfr_sq (jfr_sq (jfr_if (j := 35) (jsl_run (by decide +kernel)) (by decide +kernel) (by decide)) (jfr_sq (jfr_if (j := 41) (jsl_run (by decide +kernel)) (by decide +kernel) (by decide)) (jfr_sq (jfr_sq (jfr_sq (jfr_if (j := 67) (jsl_n (j := 64) (jsl_run (by decide +kernel)) (jsl_cs (ix := 144) mt_Md_isLetter st_Md_isLetter (se_Md_isLetter _) (by decide) (List.mem_of_getElem? (i := 1613) (by decide +kernel)) (by decide +kernel))) (by decide +kernel) (by decide)) (jfr_sq (jfr_lp (jfr_sq (jfr_if (j := 75) (jsl_run (by decide +kernel)) (by decide +kernel) (by decide)) (jfr_sq (jfr_if (j := 87) (jsl_n (j := 84) (jsl_run (by decide +kernel)) (jsl_cs (ix := 144) mt_Md_isLetter st_Md_isLetter (se_Md_isLetter _) (by decide) (List.mem_of_getElem? (i := 1613) (by decide +kernel)) (by decide +kernel))) (by decide +kernel) (by decide)) (jfr_sq (jfr_sq (jfr_sq (jfr_if (j := 96) (jsl_run (by decide +kernel)) (by decide +kernel) (by decide)) (jfr_go (j := 116) (jsl_n (j := 111) (jsl_run (by decide +kernel)) (jsl_n (j := 114) (jsl_cs (ix := 153) mt_Md_rank st_Md_rank (se_Md_rank _) (by decide) (List.mem_of_getElem? (i := 1617) (by decide +kernel)) (by decide +kernel)) (jsl_run (by decide +kernel)))) (by decide +kernel) (by decide)) (by decide)) (jfr_go (j := 121) (jsl_run (by decide +kernel)) (by decide +kernel) (by decide)) (by decide)) (jfr_go (j := 126) (jsl_run (by decide +kernel)) (by decide +kernel) (by decide)) (by decide)) (by decide)) (by decide)) (by decide)) (jfr_sq (jfr_sq (jfr_sq (jfr_if (j := 140) (jsl_run (by decide +kernel)) (by decide +kernel) (by decide)) (jfr_go (j := 144) (jsl_run (by decide +kernel)) (by decide +kernel) (by decide)) (by decide)) (jfr_go (j := 148) (jsl_run (by decide +kernel)) (by decide +kernel) (by decide)) (by decide)) (jfr_go (j := 149) (jsl_run (by decide +kernel)) (by decide +kernel) (by decide)) (by decide)) (by decide)) (by decide)) (jfr_sq (jfr_sq (jfr_if (j := 156) (jsl_n (j := 153) (jsl_run (by decide +kernel)) (jsl_cs (ix := 157) mt_Md_isDigit st_Md_isDigit (se_Md_isDigit _) (by decide) (List.mem_of_getElem? (i := 1620) (by decide +kernel)) (by decide +kernel))) (by decide +kernel) (by decide)) (jfr_sq (jfr_lp (jfr_sq (jfr_if (j := 164) (jsl_run (by decide +kernel)) (by decide +kernel) (by decide)) (jfr_sq (jfr_if (j := 176) (jsl_n (j := 173) (jsl_run (by decide +kernel)) (jsl_cs (ix := 157) mt_Md_isDigit st_Md_isDigit (se_Md_isDigit _) (by decide) (List.mem_of_getElem? (i := 1620) (by decide +kernel)) (by decide +kernel))) (by decide +kernel) (by decide)) (jfr_sq (jfr_sq (jfr_sq (jfr_if (j := 184) (jsl_run (by decide +kernel)) (by decide +kernel) (by decide)) (jfr_go (j := 205) (jsl_run (by decide +kernel)) (by decide +kernel) (by decide)) (by decide)) (jfr_go (j := 210) (jsl_run (by decide +kernel)) (by decide +kernel) (by decide)) (by decide)) (jfr_go (j := 215) (jsl_run (by decide +kernel)) (by decide +kernel) (by decide)) (by decide)) (by decide)) (by decide)) (by decide)) (jfr_sq (jfr_sq (jfr_sq (jfr_if (j := 228) (jsl_run (by decide +kernel)) (by decide +kernel) (by decide)) (jfr_go (j := 232) (jsl_run (by decide +kernel)) (by decide +kernel) (by decide)) (by decide)) (jfr_go (j := 236) (jsl_run (by decide +kernel)) (by decide +kernel) (by decide)) (by decide)) (jfr_go (j := 237) (jsl_run (by decide +kernel)) (by decide +kernel) (by decide)) (by decide)) (by decide)) (by decide)) (jfr_sq (jfr_sq (jfr_sq (jfr_if (j := 253) (jsl_n (j := 250) (jsl_run (by decide +kernel)) (jsl_cs (ix := 164) mt_Md_isSignOf st_Md_isSignOf (se_Md_isSignOf _) (by decide) (List.mem_of_getElem? (i := 1625) (by decide +kernel)) (by decide +kernel))) (by decide +kernel) (by decide)) (jfr_go (j := 257) (jsl_run (by decide +kernel)) (by decide +kernel) (by decide)) (by decide)) (jfr_go (j := 261) (jsl_run (by decide +kernel)) (by decide +kernel) (by decide)) (by decide)) (jfr_go (j := 265) (jsl_run (by decide +kernel)) (by decide +kernel) (by decide)) (by decide)) (by decide)) (by decide)) (jfr_go (j := 276) (jsl_run (by decide +kernel)) (by decide +kernel) (by decide)) (by decide)) (by decide)) (by decide)) (jfr_go (j := 47) (jsl_run (by decide +kernel)) (by decide +kernel) (by decide)) (by decide)) (by decide)) (by decide)) (jfr_rt (j := 306) (jsl_run (by decide +kernel)) (by decide +kernel)) (by decide)) (by decide))
theorem se_Md_cutAll (G : JG) : JSem G y_Md_cutAll c_Md_cutAll 7 none 2 q_Md_cutAll := jsem_of (by decide +kernel) rfl (by intro h; cases h) (fr_Md_cutAll G)
def y_Md_takeWord : MethodName := ⟨"CellarTurnsModel", "takeWord", "(I)V"⟩
abbrev c_Md_takeWord : ByteArray := prog_15_method_16_code
theorem mt_Md_takeWord : JMt y_Md_takeWord c_Md_takeWord 2 none 1 := ⟨(List.mem_of_getElem? (i := 1659) (by decide +kernel)), (List.mem_of_getElem? (i := 133) (by decide +kernel)), ⟨by decide +kernel, by decide +kernel⟩, by decide +kernel, by decide⟩
theorem in_Md_takeWord : Cond.instanceMethod y_Md_takeWord ∈ lw_tbl := (List.mem_of_getElem? (i := 1658) (by decide +kernel))
theorem sl_Md_takeWord : Cond.selects y_Md_takeWord.cls y_Md_takeWord y_Md_takeWord ∈ lw_tbl := (List.mem_of_getElem? (i := 61) (by decide +kernel))
noncomputable def qp_Md_takeWord : JP := (jb_sq (jb_sq (jb_if (jn (jx_run [(4, 0, 0), (2, 1, 0)]) (jx_cv 2 11 q_Md_hasWord)) 1 13 8) 8 (jb_go (jn (jx_run [(4, 0, 0), (0, 0, 1)]) (jx_cv 2 11 q_Md_wrong)) 13)) 13 (jb_rt (jx_run []) 0))
noncomputable def q_Md_takeWord : JF := jf_of qp_Md_takeWord 2
set_option maxRecDepth 20000 in
theorem fr_Md_takeWord (G : JG) : JFr G 11 false c_Md_takeWord 2 2 none 0 qp_Md_takeWord := (jfr_sq (jfr_sq (jfr_if (j := 5) (jsl_n (j := 2) (jsl_run (by decide +kernel)) (jsl_cv (ix := 182) mt_Md_hasWord in_Md_hasWord sl_Md_hasWord rfl (by decide) (se_Md_hasWord _) (by decide) (List.mem_of_getElem? (i := 1660) (by decide +kernel)) (by decide +kernel))) (by decide +kernel) (by decide)) (jfr_go (j := 13) (jsl_n (j := 10) (jsl_run (by decide +kernel)) (jsl_cv (ix := 176) mt_Md_wrong in_Md_wrong sl_Md_wrong rfl (by decide) (se_Md_wrong _) (by decide) (List.mem_of_getElem? (i := 1640) (by decide +kernel)) (by decide +kernel))) (by decide +kernel) (by decide)) (by decide)) (jfr_rt (j := 13) (jsl_run (by decide +kernel)) (by decide +kernel)) (by decide))
theorem se_Md_takeWord (G : JG) : JSem G y_Md_takeWord c_Md_takeWord 2 none 2 q_Md_takeWord := jsem_of (by decide +kernel) rfl (by intro h; cases h) (fr_Md_takeWord G)
def y_Md_takeNumber : MethodName := ⟨"CellarTurnsModel", "takeNumber", "(II)I"⟩
abbrev c_Md_takeNumber : ByteArray := prog_15_method_19_code
theorem mt_Md_takeNumber : JMt y_Md_takeNumber c_Md_takeNumber 3 (some .int) 2 := ⟨(List.mem_of_getElem? (i := 1667) (by decide +kernel)), (List.mem_of_getElem? (i := 133) (by decide +kernel)), ⟨by decide +kernel, by decide +kernel⟩, by decide +kernel, by decide⟩
theorem in_Md_takeNumber : Cond.instanceMethod y_Md_takeNumber ∈ lw_tbl := (List.mem_of_getElem? (i := 1666) (by decide +kernel))
theorem sl_Md_takeNumber : Cond.selects y_Md_takeNumber.cls y_Md_takeNumber y_Md_takeNumber ∈ lw_tbl := (List.mem_of_getElem? (i := 63) (by decide +kernel))
noncomputable def qp_Md_takeNumber : JP := (jb_sq (jb_sq (jb_sq (jb_if (jx_run [(4, 0, 0), (40, 11, 8)]) 1 28 7) 7 (jb_sq (jb_if (jx_run [(4, 0, 0), (42, 11, 4), (4, 0, 0), (40, 11, 7), (50, 0, 0), (0, 0, 2)]) 6 28 20) 20 (jb_go (jn (jx_run [(4, 0, 0), (0, 0, 1)]) (jx_cv 2 11 q_Md_wrong)) 70))) 28 (jb_sq (jb_if (jx_run [(4, 0, 0), (40, 11, 8)]) 1 70 35) 35 (jb_sq (jb_sq (jb_if (jx_run [(4, 0, 0), (42, 11, 6), (4, 0, 0), (40, 11, 7), (51, 0, 0), (2, 1, 0), (34, 0, 0), (33, 0, 0)]) 2 65 50) 50 (jb_if (jx_run [(4, 0, 0), (42, 11, 6), (4, 0, 0), (40, 11, 7), (51, 0, 0), (2, 2, 0), (34, 0, 0), (33, 0, 0)]) 5 70 65)) 65 (jb_go (jn (jx_run [(4, 0, 0), (0, 0, 4)]) (jx_cv 2 11 q_Md_wrong)) 70)))) 70 (jb_sq (jb_sq (jb_if (jx_run [(4, 0, 0), (40, 11, 8)]) 5 79 77) 77 (jb_rt (jx_run [(0, 0, 0)]) 1)) 79 (jb_rt (jx_run [(4, 0, 0), (70, 0, 0), (40, 11, 7), (0, 0, 1), (10, 0, 0), (43, 11, 7), (4, 0, 0), (42, 11, 6), (4, 0, 0), (40, 11, 7), (0, 0, 1), (11, 0, 0), (51, 0, 0), (35, 0, 0)]) 1)))
noncomputable def q_Md_takeNumber : JF := jf_of qp_Md_takeNumber 3
set_option maxRecDepth 20000 in
theorem fr_Md_takeNumber (G : JG) : JFr G 11 false c_Md_takeNumber 1 3 (some .int) 0 qp_Md_takeNumber := (jfr_sq (jfr_sq (jfr_sq (jfr_if (j := 4) (jsl_run (by decide +kernel)) (by decide +kernel) (by decide)) (jfr_sq (jfr_if (j := 17) (jsl_run (by decide +kernel)) (by decide +kernel) (by decide)) (jfr_go (j := 25) (jsl_n (j := 22) (jsl_run (by decide +kernel)) (jsl_cv (ix := 176) mt_Md_wrong in_Md_wrong sl_Md_wrong rfl (by decide) (se_Md_wrong _) (by decide) (List.mem_of_getElem? (i := 1640) (by decide +kernel)) (by decide +kernel))) (by decide +kernel) (by decide)) (by decide)) (by decide)) (jfr_sq (jfr_if (j := 32) (jsl_run (by decide +kernel)) (by decide +kernel) (by decide)) (jfr_sq (jfr_sq (jfr_if (j := 47) (jsl_run (by decide +kernel)) (by decide +kernel) (by decide)) (jfr_if (j := 62) (jsl_run (by decide +kernel)) (by decide +kernel) (by decide)) (by decide)) (jfr_go (j := 70) (jsl_n (j := 67) (jsl_run (by decide +kernel)) (jsl_cv (ix := 176) mt_Md_wrong in_Md_wrong sl_Md_wrong rfl (by decide) (se_Md_wrong _) (by decide) (List.mem_of_getElem? (i := 1640) (by decide +kernel)) (by decide +kernel))) (by decide +kernel) (by decide)) (by decide)) (by decide)) (by decide)) (jfr_sq (jfr_sq (jfr_if (j := 74) (jsl_run (by decide +kernel)) (by decide +kernel) (by decide)) (jfr_rt (j := 78) (jsl_run (by decide +kernel)) (by decide +kernel)) (by decide)) (jfr_rt (j := 101) (jsl_run (by decide +kernel)) (by decide +kernel)) (by decide)) (by decide))
theorem se_Md_takeNumber (G : JG) : JSem G y_Md_takeNumber c_Md_takeNumber 3 (some .int) 1 q_Md_takeNumber := jsem_of (by decide +kernel) rfl (by intro h; cases h) (fr_Md_takeNumber G)
def y_Md_takeOne : MethodName := ⟨"CellarTurnsModel", "takeOne", "(II)I"⟩
abbrev c_Md_takeOne : ByteArray := prog_15_method_21_code
theorem mt_Md_takeOne : JMt y_Md_takeOne c_Md_takeOne 4 (some .int) 2 := ⟨(List.mem_of_getElem? (i := 1671) (by decide +kernel)), (List.mem_of_getElem? (i := 133) (by decide +kernel)), ⟨by decide +kernel, by decide +kernel⟩, by decide +kernel, by decide⟩
theorem in_Md_takeOne : Cond.instanceMethod y_Md_takeOne ∈ lw_tbl := (List.mem_of_getElem? (i := 1670) (by decide +kernel))
theorem sl_Md_takeOne : Cond.selects y_Md_takeOne.cls y_Md_takeOne y_Md_takeOne ∈ lw_tbl := (List.mem_of_getElem? (i := 64) (by decide +kernel))
noncomputable def qp_Md_takeOne : JP := (jb_sq (jb_sq (jb_sq (jb_if (jx_run [(4, 0, 0), (40, 11, 8)]) 5 11 7) 7 (jb_go (jx_run [(0, 0, -1)]) 17)) 11 (jb_go (jn (jx_run [(4, 0, 0), (2, 1, 0), (2, 2, 0)]) (jx_cv 3 11 q_Md_wordHere)) 17)) 17 (jb_sq (jb_sq (jb_if (jx_run [(5, 3, 0), (4, 0, 0), (40, 11, 8)]) 1 34 25) 25 (jb_sq (jb_if (jx_run [(2, 3, 0)]) 3 34 29) 29 (jb_go (jn (jx_run [(4, 0, 0), (0, 0, 1)]) (jx_cv 2 11 q_Md_wrong)) 34))) 34 (jb_sq (jb_sq (jb_sq (jb_if (jx_run [(4, 0, 0), (70, 0, 0), (40, 11, 7), (4, 0, 0), (40, 11, 8)]) 5 50 46) 46 (jb_go (jx_run [(0, 0, 0)]) 51)) 50 (jb_go (jx_run [(0, 0, 1)]) 51)) 51 (jb_sq (jb_sq (jb_sq (jb_if (jx_run [(10, 0, 0), (43, 11, 7), (4, 0, 0), (40, 11, 8)]) 5 66 62) 62 (jb_go (jx_run [(0, 0, 0)]) 67)) 66 (jb_go (jx_run [(2, 3, 0)]) 67)) 67 (jb_rt (jx_run []) 1)))))
noncomputable def q_Md_takeOne : JF := jf_of qp_Md_takeOne 4
set_option maxRecDepth 20000 in
theorem fr_Md_takeOne (G : JG) : JFr G 11 false c_Md_takeOne 2 4 (some .int) 0 qp_Md_takeOne := (jfr_sq (jfr_sq (jfr_sq (jfr_if (j := 4) (jsl_run (by decide +kernel)) (by decide +kernel) (by decide)) (jfr_go (j := 8) (jsl_run (by decide +kernel)) (by decide +kernel) (by decide)) (by decide)) (jfr_go (j := 17) (jsl_n (j := 14) (jsl_run (by decide +kernel)) (jsl_cv (ix := 185) mt_Md_wordHere in_Md_wordHere sl_Md_wordHere rfl (by decide) (se_Md_wordHere _) (by decide) (List.mem_of_getElem? (i := 1648) (by decide +kernel)) (by decide +kernel))) (by decide +kernel) (by decide)) (by decide)) (jfr_sq (jfr_sq (jfr_if (j := 22) (jsl_run (by decide +kernel)) (by decide +kernel) (by decide)) (jfr_sq (jfr_if (j := 26) (jsl_run (by decide +kernel)) (by decide +kernel) (by decide)) (jfr_go (j := 34) (jsl_n (j := 31) (jsl_run (by decide +kernel)) (jsl_cv (ix := 176) mt_Md_wrong in_Md_wrong sl_Md_wrong rfl (by decide) (se_Md_wrong _) (by decide) (List.mem_of_getElem? (i := 1640) (by decide +kernel)) (by decide +kernel))) (by decide +kernel) (by decide)) (by decide)) (by decide)) (jfr_sq (jfr_sq (jfr_sq (jfr_if (j := 43) (jsl_run (by decide +kernel)) (by decide +kernel) (by decide)) (jfr_go (j := 47) (jsl_run (by decide +kernel)) (by decide +kernel) (by decide)) (by decide)) (jfr_go (j := 51) (jsl_run (by decide +kernel)) (by decide +kernel) (by decide)) (by decide)) (jfr_sq (jfr_sq (jfr_sq (jfr_if (j := 59) (jsl_run (by decide +kernel)) (by decide +kernel) (by decide)) (jfr_go (j := 63) (jsl_run (by decide +kernel)) (by decide +kernel) (by decide)) (by decide)) (jfr_go (j := 67) (jsl_run (by decide +kernel)) (by decide +kernel) (by decide)) (by decide)) (jfr_rt (j := 67) (jsl_run (by decide +kernel)) (by decide +kernel)) (by decide)) (by decide)) (by decide)) (by decide))
theorem se_Md_takeOne (G : JG) : JSem G y_Md_takeOne c_Md_takeOne 4 (some .int) 2 q_Md_takeOne := jsem_of (by decide +kernel) rfl (by intro h; cases h) (fr_Md_takeOne G)
def y_Md_readBody : MethodName := ⟨"CellarTurnsModel", "readBody", "(Z)V"⟩
abbrev c_Md_readBody : ByteArray := prog_15_method_28_code
theorem mt_Md_readBody : JMt y_Md_readBody c_Md_readBody 4 none 1 := ⟨(List.mem_of_getElem? (i := 1639) (by decide +kernel)), (List.mem_of_getElem? (i := 133) (by decide +kernel)), ⟨by decide +kernel, by decide +kernel⟩, by decide +kernel, by decide⟩
theorem in_Md_readBody : Cond.instanceMethod y_Md_readBody ∈ lw_tbl := (List.mem_of_getElem? (i := 1638) (by decide +kernel))
theorem sl_Md_readBody : Cond.selects y_Md_readBody.cls y_Md_readBody y_Md_readBody ∈ lw_tbl := (List.mem_of_getElem? (i := 56) (by decide +kernel))
noncomputable def qp_Md_readBody : JP := (jb_sq (jb_sq (jb_sq (jb_if (jx_run [(0, 0, 180), (2, 1, 0)]) 0 11 7) 7 (jb_go (jx_run [(0, 0, 2)]) 12)) 11 (jb_go (jx_run [(0, 0, 1)]) 12)) 12 (jb_sq (jb_sq (jb_sq (jb_if (jx_run [(10, 0, 0), (5, 2, 0), (4, 0, 0), (42, 11, 10), (2, 2, 0), (50, 0, 0), (2, 1, 0)]) 0 28 24) 24 (jb_go (jx_run [(0, 0, 2)]) 30)) 28 (jb_go (jx_run [(0, 0, 6)]) 30)) 30 (jb_sq (jb_sq (jb_if (jx_run []) 7 39 33) 33 (jb_rt (jn (jx_run [(4, 0, 0), (0, 0, 5)]) (jx_cv 2 11 q_Md_wrong)) 0)) 39 (jb_sq (jb_sq (jb_sq (jb_if (jn (jx_run [(4, 0, 0), (70, 0, 0), (40, 11, 7), (0, 0, 1), (10, 0, 0), (43, 11, 7), (4, 0, 0)]) (jx_cv 1 11 q_Md_isName)) 1 64 56) 56 (jb_go (jn (jx_run [(4, 0, 0), (0, 0, 1)]) (jx_cv 2 11 q_Md_wrong)) 77)) 64 (jb_sq (jb_if (jn (jx_run [(4, 0, 0), (0, 0, 1)]) (jx_cv 2 11 q_Md_find)) 2 77 72) 72 (jb_go (jn (jx_run [(4, 0, 0), (0, 0, 3)]) (jx_cv 2 11 q_Md_wrong)) 77))) 77 (jb_sq (jb_sq (jb_if (jx_run [(4, 0, 0), (40, 11, 8)]) 5 85 84) 84 (jb_rt (jx_run []) 0)) 85 (jb_sq (jb_sq (jb_sq (jb_if (jx_run [(0, 0, 188), (0, 0, 4), (4, 0, 0), (40, 11, 17), (12, 0, 0), (10, 0, 0), (5, 3, 0), (4, 0, 0), (42, 11, 10), (2, 3, 0), (0, 0, 3), (10, 0, 0), (4, 0, 0), (40, 11, 17), (55, 0, 0), (4, 0, 0), (42, 11, 15), (4, 0, 0), (40, 11, 17), (4, 0, 0), (42, 11, 6), (4, 0, 0), (40, 11, 7), (51, 0, 0), (56, 0, 0), (4, 0, 0), (70, 0, 0), (40, 11, 17), (0, 0, 1), (10, 0, 0), (43, 11, 17), (4, 0, 0), (70, 0, 0), (40, 11, 7), (0, 0, 1), (10, 0, 0), (43, 11, 7), (4, 0, 0), (42, 11, 10), (2, 3, 0), (0, 0, 1), (10, 0, 0), (2, 1, 0)]) 0 161 157) 157 (jb_go (jx_run [(0, 0, 1)]) 162)) 161 (jb_go (jx_run [(0, 0, 0)]) 162)) 162 (jb_sq (jb_sq (jb_sq (jb_if (jx_run [(55, 0, 0), (2, 1, 0)]) 0 191 167) 167 (jb_go (jn (jx_run [(4, 0, 0), (0, 0, 2)]) (jn (jx_cv 2 11 q_Md_takeWord) (jn (jx_run [(4, 0, 0), (42, 11, 10), (2, 3, 0), (0, 0, 2), (10, 0, 0), (4, 0, 0), (0, 0, 0), (0, 0, 999)]) (jn (jx_cv 3 11 q_Md_takeNumber) (jx_run [(55, 0, 0)]))))) 204)) 191 (jb_go (jn (jx_run [(4, 0, 0), (42, 11, 10), (2, 3, 0), (4, 0, 0), (0, 0, 11), (0, 0, 4)]) (jn (jx_cv 3 11 q_Md_takeOne) (jx_run [(55, 0, 0)]))) 204)) 204 (jb_rt (jx_run [(4, 0, 0), (42, 11, 10), (2, 2, 0), (72, 0, 0), (50, 0, 0), (0, 0, 1), (10, 0, 0), (55, 0, 0), (4, 0, 0), (42, 11, 10), (0, 0, 180), (72, 0, 0), (50, 0, 0), (0, 0, 1), (10, 0, 0), (55, 0, 0)]) 0))))))))
noncomputable def q_Md_readBody : JF := jf_of qp_Md_readBody 4
set_option maxRecDepth 20000 in
theorem fr_Md_readBody (G : JG) : JFr G 11 false c_Md_readBody 3 4 none 0 qp_Md_readBody := (jfr_sq (jfr_sq (jfr_sq (jfr_if (j := 4) (jsl_run (by decide +kernel)) (by decide +kernel) (by decide)) (jfr_go (j := 8) (jsl_run (by decide +kernel)) (by decide +kernel) (by decide)) (by decide)) (jfr_go (j := 12) (jsl_run (by decide +kernel)) (by decide +kernel) (by decide)) (by decide)) (jfr_sq (jfr_sq (jfr_sq (jfr_if (j := 21) (jsl_run (by decide +kernel)) (by decide +kernel) (by decide)) (jfr_go (j := 25) (jsl_run (by decide +kernel)) (by decide +kernel) (by decide)) (by decide)) (jfr_go (j := 30) (jsl_run (by decide +kernel)) (by decide +kernel) (by decide)) (by decide)) (jfr_sq (jfr_sq (jfr_if (j := 30) (jsl_run (by decide +kernel)) (by decide +kernel) (by decide)) (jfr_rt (j := 38) (jsl_n (j := 35) (jsl_run (by decide +kernel)) (jsl_cv (ix := 176) mt_Md_wrong in_Md_wrong sl_Md_wrong rfl (by decide) (se_Md_wrong _) (by decide) (List.mem_of_getElem? (i := 1640) (by decide +kernel)) (by decide +kernel))) (by decide +kernel)) (by decide)) (jfr_sq (jfr_sq (jfr_sq (jfr_if (j := 53) (jsl_n (j := 50) (jsl_run (by decide +kernel)) (jsl_cv (ix := 195) mt_Md_isName in_Md_isName sl_Md_isName rfl (by decide) (se_Md_isName _) (by decide) (List.mem_of_getElem? (i := 1644) (by decide +kernel)) (by decide +kernel))) (by decide +kernel) (by decide)) (jfr_go (j := 61) (jsl_n (j := 58) (jsl_run (by decide +kernel)) (jsl_cv (ix := 176) mt_Md_wrong in_Md_wrong sl_Md_wrong rfl (by decide) (se_Md_wrong _) (by decide) (List.mem_of_getElem? (i := 1640) (by decide +kernel)) (by decide +kernel))) (by decide +kernel) (by decide)) (by decide)) (jfr_sq (jfr_if (j := 69) (jsl_n (j := 66) (jsl_run (by decide +kernel)) (jsl_cv (ix := 199) mt_Md_find in_Md_find sl_Md_find rfl (by decide) (se_Md_find _) (by decide) (List.mem_of_getElem? (i := 1652) (by decide +kernel)) (by decide +kernel))) (by decide +kernel) (by decide)) (jfr_go (j := 77) (jsl_n (j := 74) (jsl_run (by decide +kernel)) (jsl_cv (ix := 176) mt_Md_wrong in_Md_wrong sl_Md_wrong rfl (by decide) (se_Md_wrong _) (by decide) (List.mem_of_getElem? (i := 1640) (by decide +kernel)) (by decide +kernel))) (by decide +kernel) (by decide)) (by decide)) (by decide)) (jfr_sq (jfr_sq (jfr_if (j := 81) (jsl_run (by decide +kernel)) (by decide +kernel) (by decide)) (jfr_rt (j := 84) (jsl_run (by decide +kernel)) (by decide +kernel)) (by decide)) (jfr_sq (jfr_sq (jfr_sq (jfr_if (j := 154) (jsl_run (by decide +kernel)) (by decide +kernel) (by decide)) (jfr_go (j := 158) (jsl_run (by decide +kernel)) (by decide +kernel) (by decide)) (by decide)) (jfr_go (j := 162) (jsl_run (by decide +kernel)) (by decide +kernel) (by decide)) (by decide)) (jfr_sq (jfr_sq (jfr_sq (jfr_if (j := 164) (jsl_run (by decide +kernel)) (by decide +kernel) (by decide)) (jfr_go (j := 188) (jsl_n (j := 169) (jsl_run (by decide +kernel)) (jsl_n (j := 172) (jsl_cv (ix := 234) mt_Md_takeWord in_Md_takeWord sl_Md_takeWord rfl (by decide) (se_Md_takeWord _) (by decide) (List.mem_of_getElem? (i := 1656) (by decide +kernel)) (by decide +kernel)) (jsl_n (j := 184) (jsl_run (by decide +kernel)) (jsl_n (j := 187) (jsl_cv (ix := 237) mt_Md_takeNumber in_Md_takeNumber sl_Md_takeNumber rfl (by decide) (se_Md_takeNumber _) (by decide) (List.mem_of_getElem? (i := 1664) (by decide +kernel)) (by decide +kernel)) (jsl_run (by decide +kernel)))))) (by decide +kernel) (by decide)) (by decide)) (jfr_go (j := 204) (jsl_n (j := 200) (jsl_run (by decide +kernel)) (jsl_n (j := 203) (jsl_cv (ix := 240) mt_Md_takeOne in_Md_takeOne sl_Md_takeOne rfl (by decide) (se_Md_takeOne _) (by decide) (List.mem_of_getElem? (i := 1668) (by decide +kernel)) (by decide +kernel)) (jsl_run (by decide +kernel)))) (by decide +kernel) (by decide)) (by decide)) (jfr_rt (j := 226) (jsl_run (by decide +kernel)) (by decide +kernel)) (by decide)) (by decide)) (by decide)) (by decide)) (by decide)) (by decide)) (by decide))
theorem se_Md_readBody (G : JG) : JSem G y_Md_readBody c_Md_readBody 4 none 3 q_Md_readBody := jsem_of (by decide +kernel) rfl (by intro h; cases h) (fr_Md_readBody G)
def y_Md_personHere : MethodName := ⟨"CellarTurnsModel", "personHere", "()I"⟩
abbrev c_Md_personHere : ByteArray := prog_15_method_24_code
theorem mt_Md_personHere : JMt y_Md_personHere c_Md_personHere 2 (some .int) 0 := ⟨(List.mem_of_getElem? (i := 1679) (by decide +kernel)), (List.mem_of_getElem? (i := 133) (by decide +kernel)), ⟨by decide +kernel, by decide +kernel⟩, by decide +kernel, by decide⟩
theorem in_Md_personHere : Cond.instanceMethod y_Md_personHere ∈ lw_tbl := (List.mem_of_getElem? (i := 1678) (by decide +kernel))
theorem sl_Md_personHere : Cond.selects y_Md_personHere.cls y_Md_personHere y_Md_personHere ∈ lw_tbl := (List.mem_of_getElem? (i := 66) (by decide +kernel))
noncomputable def qp_Md_personHere : JP := (jb_sq (jb_sq (jb_if (jx_run [(4, 0, 0), (40, 11, 8)]) 1 19 7) 7 (jb_sq (jb_if (jn (jx_run [(4, 0, 0)]) (jx_cv 1 11 q_Md_isName)) 1 19 14) 14 (jb_go (jn (jx_run [(4, 0, 0), (0, 0, 1)]) (jx_cv 2 11 q_Md_wrong)) 19))) 19 (jb_sq (jb_sq (jb_sq (jb_if (jx_run [(4, 0, 0), (40, 11, 8)]) 5 30 26) 26 (jb_go (jx_run [(0, 0, -1)]) 35)) 30 (jb_go (jn (jx_run [(4, 0, 0), (0, 0, 1)]) (jx_cv 2 11 q_Md_find)) 35)) 35 (jb_sq (jb_sq (jb_if (jx_run [(5, 1, 0), (4, 0, 0), (40, 11, 8)]) 1 70 43) 43 (jb_sq (jb_sq (jb_if (jx_run [(2, 1, 0)]) 2 65 47) 47 (jb_if (jx_run [(4, 0, 0), (42, 11, 10), (0, 0, 188), (0, 0, 4), (2, 1, 0), (12, 0, 0), (10, 0, 0), (0, 0, 1), (10, 0, 0), (50, 0, 0), (0, 0, 1)]) 7 70 65)) 65 (jb_go (jn (jx_run [(4, 0, 0), (0, 0, 2)]) (jx_cv 2 11 q_Md_wrong)) 70))) 70 (jb_sq (jb_sq (jb_sq (jb_if (jx_run [(4, 0, 0), (40, 11, 8)]) 5 81 77) 77 (jb_go (jx_run [(0, 0, 0)]) 82)) 81 (jb_go (jx_run [(2, 1, 0)]) 82)) 82 (jb_rt (jx_run []) 1)))))
noncomputable def q_Md_personHere : JF := jf_of qp_Md_personHere 2
set_option maxRecDepth 20000 in
theorem fr_Md_personHere (G : JG) : JFr G 11 false c_Md_personHere 3 2 (some .int) 0 qp_Md_personHere := (jfr_sq (jfr_sq (jfr_if (j := 4) (jsl_run (by decide +kernel)) (by decide +kernel) (by decide)) (jfr_sq (jfr_if (j := 11) (jsl_n (j := 8) (jsl_run (by decide +kernel)) (jsl_cv (ix := 195) mt_Md_isName in_Md_isName sl_Md_isName rfl (by decide) (se_Md_isName _) (by decide) (List.mem_of_getElem? (i := 1644) (by decide +kernel)) (by decide +kernel))) (by decide +kernel) (by decide)) (jfr_go (j := 19) (jsl_n (j := 16) (jsl_run (by decide +kernel)) (jsl_cv (ix := 176) mt_Md_wrong in_Md_wrong sl_Md_wrong rfl (by decide) (se_Md_wrong _) (by decide) (List.mem_of_getElem? (i := 1640) (by decide +kernel)) (by decide +kernel))) (by decide +kernel) (by decide)) (by decide)) (by decide)) (jfr_sq (jfr_sq (jfr_sq (jfr_if (j := 23) (jsl_run (by decide +kernel)) (by decide +kernel) (by decide)) (jfr_go (j := 27) (jsl_run (by decide +kernel)) (by decide +kernel) (by decide)) (by decide)) (jfr_go (j := 35) (jsl_n (j := 32) (jsl_run (by decide +kernel)) (jsl_cv (ix := 199) mt_Md_find in_Md_find sl_Md_find rfl (by decide) (se_Md_find _) (by decide) (List.mem_of_getElem? (i := 1652) (by decide +kernel)) (by decide +kernel))) (by decide +kernel) (by decide)) (by decide)) (jfr_sq (jfr_sq (jfr_if (j := 40) (jsl_run (by decide +kernel)) (by decide +kernel) (by decide)) (jfr_sq (jfr_sq (jfr_if (j := 44) (jsl_run (by decide +kernel)) (by decide +kernel) (by decide)) (jfr_if (j := 62) (jsl_run (by decide +kernel)) (by decide +kernel) (by decide)) (by decide)) (jfr_go (j := 70) (jsl_n (j := 67) (jsl_run (by decide +kernel)) (jsl_cv (ix := 176) mt_Md_wrong in_Md_wrong sl_Md_wrong rfl (by decide) (se_Md_wrong _) (by decide) (List.mem_of_getElem? (i := 1640) (by decide +kernel)) (by decide +kernel))) (by decide +kernel) (by decide)) (by decide)) (by decide)) (jfr_sq (jfr_sq (jfr_sq (jfr_if (j := 74) (jsl_run (by decide +kernel)) (by decide +kernel) (by decide)) (jfr_go (j := 78) (jsl_run (by decide +kernel)) (by decide +kernel) (by decide)) (by decide)) (jfr_go (j := 82) (jsl_run (by decide +kernel)) (by decide +kernel) (by decide)) (by decide)) (jfr_rt (j := 82) (jsl_run (by decide +kernel)) (by decide +kernel)) (by decide)) (by decide)) (by decide)) (by decide))
theorem se_Md_personHere (G : JG) : JSem G y_Md_personHere c_Md_personHere 2 (some .int) 3 q_Md_personHere := jsem_of (by decide +kernel) rfl (by intro h; cases h) (fr_Md_personHere G)
def y_Md_readRing : MethodName := ⟨"CellarTurnsModel", "readRing", "()V"⟩
abbrev c_Md_readRing : ByteArray := prog_15_method_29_code
theorem mt_Md_readRing : JMt y_Md_readRing c_Md_readRing 5 none 0 := ⟨(List.mem_of_getElem? (i := 1675) (by decide +kernel)), (List.mem_of_getElem? (i := 133) (by decide +kernel)), ⟨by decide +kernel, by decide +kernel⟩, by decide +kernel, by decide⟩
theorem in_Md_readRing : Cond.instanceMethod y_Md_readRing ∈ lw_tbl := (List.mem_of_getElem? (i := 1674) (by decide +kernel))
theorem sl_Md_readRing : Cond.selects y_Md_readRing.cls y_Md_readRing y_Md_readRing ∈ lw_tbl := (List.mem_of_getElem? (i := 65) (by decide +kernel))
noncomputable def qp_Md_readRing : JP := (jb_sq (jb_go (jx_run [(4, 0, 0), (70, 0, 0), (40, 11, 7), (0, 0, 1), (10, 0, 0), (43, 11, 7), (0, 0, -1), (5, 1, 0), (0, 0, -1), (5, 2, 0), (0, 0, 0), (5, 3, 0)]) 16) 16 (jb_sq (jb_lp 16 (jb_sq (jb_if (jx_run [(4, 0, 0), (40, 11, 8)]) 1 157 23) 23 (jb_sq (jb_sq (jb_if (jx_run [(2, 3, 0), (0, 0, 2)]) 8 35 28) 28 (jb_if (jn (jx_run [(4, 0, 0)]) (jx_cv 1 11 q_Md_isName)) 0 157 35)) 35 (jb_sq (jb_sq (jb_sq (jb_if (jn (jx_run [(4, 0, 0)]) (jn (jx_cv 1 11 q_Md_personHere) (jx_run [(5, 4, 0), (4, 0, 0), (40, 11, 8)]))) 1 69 48) 48 (jb_sq (jb_if (jx_run [(4, 0, 0), (40, 11, 19), (2, 4, 0), (20, 0, 0), (0, 0, 1), (16, 0, 0), (0, 0, 1)]) 7 69 61) 61 (jb_go (jn (jx_run [(4, 0, 0), (0, 0, 3)]) (jx_cv 2 11 q_Md_wrong)) 87))) 69 (jb_sq (jb_if (jx_run [(4, 0, 0), (40, 11, 8)]) 1 87 76) 76 (jb_sq (jb_if (jx_run [(2, 3, 0), (0, 0, 6)]) 7 87 82) 82 (jb_go (jn (jx_run [(4, 0, 0), (0, 0, 5)]) (jx_cv 2 11 q_Md_wrong)) 87)))) 87 (jb_sq (jb_sq (jb_if (jx_run [(4, 0, 0), (40, 11, 8)]) 1 154 94) 94 (jb_sq (jb_sq (jb_if (jx_run [(4, 0, 0), (70, 0, 0), (40, 11, 19), (0, 0, 1), (2, 4, 0), (19, 0, 0), (17, 0, 0), (43, 11, 19), (2, 3, 0)]) 5 127 111) 111 (jb_go (jx_run [(4, 0, 0), (42, 11, 10), (0, 0, 188), (0, 0, 4), (2, 4, 0), (12, 0, 0), (10, 0, 0), (0, 0, 3), (10, 0, 0), (2, 2, 0), (55, 0, 0)]) 127)) 127 (jb_sq (jb_sq (jb_sq (jb_if (jx_run [(2, 3, 0)]) 1 136 131) 131 (jb_go (jx_run [(2, 4, 0)]) 137)) 136 (jb_go (jx_run [(2, 1, 0)]) 137)) 137 (jb_go (jx_run [(5, 1, 0), (2, 4, 0), (5, 2, 0), (8, 3, 1), (4, 0, 0), (70, 0, 0), (40, 11, 7), (0, 0, 1), (10, 0, 0), (43, 11, 7)]) 154)))) 154 (jb_go (jx_run []) 16)))))) 157 (jb_sq (jb_sq (jb_if (jx_run [(4, 0, 0), (40, 11, 8)]) 1 179 164) 164 (jb_go (jx_run [(4, 0, 0), (42, 11, 10), (0, 0, 188), (0, 0, 4), (2, 1, 0), (12, 0, 0), (10, 0, 0), (0, 0, 3), (10, 0, 0), (2, 2, 0), (55, 0, 0)]) 179)) 179 (jb_rt (jx_run []) 0))))
noncomputable def q_Md_readRing : JF := jf_of qp_Md_readRing 5
set_option maxRecDepth 20000 in
theorem fr_Md_readRing (G : JG) : JFr G 11 false c_Md_readRing 4 5 none 0 qp_Md_readRing := (jfr_sq (jfr_go (j := 16) (jsl_run (by decide +kernel)) (by decide +kernel) (by decide)) (jfr_sq (jfr_lp (jfr_sq (jfr_if (j := 20) (jsl_run (by decide +kernel)) (by decide +kernel) (by decide)) (jfr_sq (jfr_sq (jfr_if (j := 25) (jsl_run (by decide +kernel)) (by decide +kernel) (by decide)) (jfr_if (j := 32) (jsl_n (j := 29) (jsl_run (by decide +kernel)) (jsl_cv (ix := 195) mt_Md_isName in_Md_isName sl_Md_isName rfl (by decide) (se_Md_isName _) (by decide) (List.mem_of_getElem? (i := 1644) (by decide +kernel)) (by decide +kernel))) (by decide +kernel) (by decide)) (by decide)) (jfr_sq (jfr_sq (jfr_sq (jfr_if (j := 45) (jsl_n (j := 36) (jsl_run (by decide +kernel)) (jsl_n (j := 39) (jsl_cv (ix := 243) mt_Md_personHere in_Md_personHere sl_Md_personHere rfl (by decide) (se_Md_personHere _) (by decide) (List.mem_of_getElem? (i := 1676) (by decide +kernel)) (by decide +kernel)) (jsl_run (by decide +kernel)))) (by decide +kernel) (by decide)) (jfr_sq (jfr_if (j := 58) (jsl_run (by decide +kernel)) (by decide +kernel) (by decide)) (jfr_go (j := 66) (jsl_n (j := 63) (jsl_run (by decide +kernel)) (jsl_cv (ix := 176) mt_Md_wrong in_Md_wrong sl_Md_wrong rfl (by decide) (se_Md_wrong _) (by decide) (List.mem_of_getElem? (i := 1640) (by decide +kernel)) (by decide +kernel))) (by decide +kernel) (by decide)) (by decide)) (by decide)) (jfr_sq (jfr_if (j := 73) (jsl_run (by decide +kernel)) (by decide +kernel) (by decide)) (jfr_sq (jfr_if (j := 79) (jsl_run (by decide +kernel)) (by decide +kernel) (by decide)) (jfr_go (j := 87) (jsl_n (j := 84) (jsl_run (by decide +kernel)) (jsl_cv (ix := 176) mt_Md_wrong in_Md_wrong sl_Md_wrong rfl (by decide) (se_Md_wrong _) (by decide) (List.mem_of_getElem? (i := 1640) (by decide +kernel)) (by decide +kernel))) (by decide +kernel) (by decide)) (by decide)) (by decide)) (by decide)) (jfr_sq (jfr_sq (jfr_if (j := 91) (jsl_run (by decide +kernel)) (by decide +kernel) (by decide)) (jfr_sq (jfr_sq (jfr_if (j := 108) (jsl_run (by decide +kernel)) (by decide +kernel) (by decide)) (jfr_go (j := 127) (jsl_run (by decide +kernel)) (by decide +kernel) (by decide)) (by decide)) (jfr_sq (jfr_sq (jfr_sq (jfr_if (j := 128) (jsl_run (by decide +kernel)) (by decide +kernel) (by decide)) (jfr_go (j := 133) (jsl_run (by decide +kernel)) (by decide +kernel) (by decide)) (by decide)) (jfr_go (j := 137) (jsl_run (by decide +kernel)) (by decide +kernel) (by decide)) (by decide)) (jfr_go (j := 154) (jsl_run (by decide +kernel)) (by decide +kernel) (by decide)) (by decide)) (by decide)) (by decide)) (jfr_go (j := 154) (jsl_run (by decide +kernel)) (by decide +kernel) (by decide)) (by decide)) (by decide)) (by decide)) (by decide)) (by decide)) (jfr_sq (jfr_sq (jfr_if (j := 161) (jsl_run (by decide +kernel)) (by decide +kernel) (by decide)) (jfr_go (j := 179) (jsl_run (by decide +kernel)) (by decide +kernel) (by decide)) (by decide)) (jfr_rt (j := 179) (jsl_run (by decide +kernel)) (by decide +kernel)) (by decide)) (by decide)) (by decide))
theorem se_Md_readRing (G : JG) : JSem G y_Md_readRing c_Md_readRing 5 none 4 q_Md_readRing := jsem_of (by decide +kernel) rfl (by intro h; cases h) (fr_Md_readRing G)
def y_Md_readPair : MethodName := ⟨"CellarTurnsModel", "readPair", "(I)V"⟩
abbrev c_Md_readPair : ByteArray := prog_15_method_30_code
theorem mt_Md_readPair : JMt y_Md_readPair c_Md_readPair 4 none 1 := ⟨(List.mem_of_getElem? (i := 1683) (by decide +kernel)), (List.mem_of_getElem? (i := 133) (by decide +kernel)), ⟨by decide +kernel, by decide +kernel⟩, by decide +kernel, by decide⟩
theorem in_Md_readPair : Cond.instanceMethod y_Md_readPair ∈ lw_tbl := (List.mem_of_getElem? (i := 1682) (by decide +kernel))
theorem sl_Md_readPair : Cond.selects y_Md_readPair.cls y_Md_readPair y_Md_readPair ∈ lw_tbl := (List.mem_of_getElem? (i := 67) (by decide +kernel))
noncomputable def qp_Md_readPair : JP := (jb_sq (jb_sq (jb_sq (jb_if (jn (jx_run [(4, 0, 0), (70, 0, 0), (40, 11, 7), (0, 0, 1), (10, 0, 0), (43, 11, 7), (4, 0, 0)]) (jn (jx_cv 1 11 q_Md_personHere) (jx_run [(5, 2, 0), (4, 0, 0), (70, 0, 0), (40, 11, 7), (4, 0, 0), (40, 11, 8)]))) 5 31 27) 27 (jb_go (jx_run [(0, 0, 0)]) 32)) 31 (jb_go (jx_run [(0, 0, 1)]) 32)) 32 (jb_sq (jb_sq (jb_if (jn (jx_run [(10, 0, 0), (43, 11, 7), (4, 0, 0)]) (jn (jx_cv 1 11 q_Md_personHere) (jx_run [(5, 3, 0), (4, 0, 0), (40, 11, 8)]))) 1 79 48) 48 (jb_sq (jb_sq (jb_if (jx_run [(2, 2, 0), (2, 3, 0)]) 6 74 53) 53 (jb_if (jx_run [(4, 0, 0), (42, 11, 10), (0, 0, 180), (2, 1, 0), (10, 0, 0), (0, 0, 8), (2, 2, 0), (12, 0, 0), (10, 0, 0), (2, 3, 0), (10, 0, 0), (50, 0, 0), (0, 0, 1)]) 7 79 74)) 74 (jb_go (jn (jx_run [(4, 0, 0), (0, 0, 3)]) (jx_cv 2 11 q_Md_wrong)) 79))) 79 (jb_sq (jb_sq (jb_if (jx_run [(4, 0, 0), (40, 11, 8)]) 1 154 86) 86 (jb_sq (jb_sq (jb_sq (jb_if (jx_run [(4, 0, 0), (70, 0, 0), (40, 11, 7), (0, 0, 1), (10, 0, 0), (43, 11, 7), (4, 0, 0), (42, 11, 10), (0, 0, 180), (2, 1, 0), (10, 0, 0), (0, 0, 8), (2, 2, 0), (12, 0, 0), (10, 0, 0), (2, 3, 0), (10, 0, 0), (0, 0, 1), (55, 0, 0), (4, 0, 0), (42, 11, 10), (0, 0, 180), (2, 1, 0), (10, 0, 0), (0, 0, 8), (2, 3, 0), (12, 0, 0), (10, 0, 0), (2, 2, 0), (10, 0, 0), (0, 0, 1), (55, 0, 0), (4, 0, 0), (42, 11, 10), (0, 0, 183), (72, 0, 0), (50, 0, 0), (2, 1, 0), (0, 0, 104)]) 7 151 147) 147 (jb_go (jx_run [(0, 0, 1)]) 152)) 151 (jb_go (jx_run [(0, 0, 0)]) 152)) 152 (jb_go (jx_run [(10, 0, 0), (55, 0, 0)]) 154))) 154 (jb_rt (jx_run []) 0))))
noncomputable def q_Md_readPair : JF := jf_of qp_Md_readPair 4
set_option maxRecDepth 20000 in
theorem fr_Md_readPair (G : JG) : JFr G 11 false c_Md_readPair 4 4 none 0 qp_Md_readPair := (jfr_sq (jfr_sq (jfr_sq (jfr_if (j := 24) (jsl_n (j := 11) (jsl_run (by decide +kernel)) (jsl_n (j := 14) (jsl_cv (ix := 243) mt_Md_personHere in_Md_personHere sl_Md_personHere rfl (by decide) (se_Md_personHere _) (by decide) (List.mem_of_getElem? (i := 1676) (by decide +kernel)) (by decide +kernel)) (jsl_run (by decide +kernel)))) (by decide +kernel) (by decide)) (jfr_go (j := 28) (jsl_run (by decide +kernel)) (by decide +kernel) (by decide)) (by decide)) (jfr_go (j := 32) (jsl_run (by decide +kernel)) (by decide +kernel) (by decide)) (by decide)) (jfr_sq (jfr_sq (jfr_if (j := 45) (jsl_n (j := 37) (jsl_run (by decide +kernel)) (jsl_n (j := 40) (jsl_cv (ix := 243) mt_Md_personHere in_Md_personHere sl_Md_personHere rfl (by decide) (se_Md_personHere _) (by decide) (List.mem_of_getElem? (i := 1676) (by decide +kernel)) (by decide +kernel)) (jsl_run (by decide +kernel)))) (by decide +kernel) (by decide)) (jfr_sq (jfr_sq (jfr_if (j := 50) (jsl_run (by decide +kernel)) (by decide +kernel) (by decide)) (jfr_if (j := 71) (jsl_run (by decide +kernel)) (by decide +kernel) (by decide)) (by decide)) (jfr_go (j := 79) (jsl_n (j := 76) (jsl_run (by decide +kernel)) (jsl_cv (ix := 176) mt_Md_wrong in_Md_wrong sl_Md_wrong rfl (by decide) (se_Md_wrong _) (by decide) (List.mem_of_getElem? (i := 1640) (by decide +kernel)) (by decide +kernel))) (by decide +kernel) (by decide)) (by decide)) (by decide)) (jfr_sq (jfr_sq (jfr_if (j := 83) (jsl_run (by decide +kernel)) (by decide +kernel) (by decide)) (jfr_sq (jfr_sq (jfr_sq (jfr_if (j := 144) (jsl_run (by decide +kernel)) (by decide +kernel) (by decide)) (jfr_go (j := 148) (jsl_run (by decide +kernel)) (by decide +kernel) (by decide)) (by decide)) (jfr_go (j := 152) (jsl_run (by decide +kernel)) (by decide +kernel) (by decide)) (by decide)) (jfr_go (j := 154) (jsl_run (by decide +kernel)) (by decide +kernel) (by decide)) (by decide)) (by decide)) (jfr_rt (j := 154) (jsl_run (by decide +kernel)) (by decide +kernel)) (by decide)) (by decide)) (by decide))
theorem se_Md_readPair (G : JG) : JSem G y_Md_readPair c_Md_readPair 4 none 4 q_Md_readPair := jsem_of (by decide +kernel) rfl (by intro h; cases h) (fr_Md_readPair G)
def y_Md_readOnce : MethodName := ⟨"CellarTurnsModel", "readOnce", "()V"⟩
abbrev c_Md_readOnce : ByteArray := prog_15_method_31_code
theorem mt_Md_readOnce : JMt y_Md_readOnce c_Md_readOnce 2 none 0 := ⟨(List.mem_of_getElem? (i := 1687) (by decide +kernel)), (List.mem_of_getElem? (i := 133) (by decide +kernel)), ⟨by decide +kernel, by decide +kernel⟩, by decide +kernel, by decide⟩
theorem in_Md_readOnce : Cond.instanceMethod y_Md_readOnce ∈ lw_tbl := (List.mem_of_getElem? (i := 1686) (by decide +kernel))
theorem sl_Md_readOnce : Cond.selects y_Md_readOnce.cls y_Md_readOnce y_Md_readOnce ∈ lw_tbl := (List.mem_of_getElem? (i := 68) (by decide +kernel))
noncomputable def qp_Md_readOnce : JP := (jb_sq (jb_sq (jb_sq (jb_if (jn (jx_run [(4, 0, 0), (0, 0, 6), (0, 0, 2)]) (jn (jx_cv 3 11 q_Md_wordHere) (jx_run [(5, 1, 0), (2, 1, 0)]))) 3 20 12) 12 (jb_go (jn (jx_run [(4, 0, 0), (0, 0, 1)]) (jx_cv 2 11 q_Md_wrong)) 37)) 20 (jb_sq (jb_if (jx_run [(4, 0, 0), (40, 11, 18), (2, 1, 0), (20, 0, 0), (0, 0, 1), (16, 0, 0), (0, 0, 1)]) 7 37 32) 32 (jb_go (jn (jx_run [(4, 0, 0), (0, 0, 3)]) (jx_cv 2 11 q_Md_wrong)) 37))) 37 (jb_sq (jb_sq (jb_if (jx_run [(4, 0, 0), (40, 11, 8)]) 5 45 44) 44 (jb_rt (jx_run []) 0)) 45 (jb_sq (jb_sq (jb_sq (jb_if (jx_run [(4, 0, 0), (70, 0, 0), (40, 11, 18), (0, 0, 1), (2, 1, 0), (19, 0, 0), (17, 0, 0), (43, 11, 18), (4, 0, 0), (70, 0, 0), (40, 11, 7), (0, 0, 1), (10, 0, 0), (43, 11, 7), (2, 1, 0)]) 1 89 71) 71 (jb_go (jn (jx_run [(4, 0, 0), (42, 11, 10), (0, 0, 184), (4, 0, 0), (0, 0, 1), (0, 0, 9)]) (jn (jx_cv 3 11 q_Md_takeNumber) (jx_run [(55, 0, 0)]))) 112)) 89 (jb_go (jn (jx_run [(4, 0, 0), (42, 11, 10), (0, 0, 185), (4, 0, 0), (40, 11, 13), (55, 0, 0), (4, 0, 0), (0, 0, 0)]) (jn (jx_cv 2 11 q_Md_all) (jn (jx_run [(4, 0, 0), (0, 0, 0), (0, 0, 0)]) (jx_cv 3 11 q_Md_emit)))) 112)) 112 (jb_rt (jx_run []) 0))))
noncomputable def q_Md_readOnce : JF := jf_of qp_Md_readOnce 2
set_option maxRecDepth 20000 in
theorem fr_Md_readOnce (G : JG) : JFr G 11 false c_Md_readOnce 43 2 none 0 qp_Md_readOnce := (jfr_sq (jfr_sq (jfr_sq (jfr_if (j := 9) (jsl_n (j := 4) (jsl_run (by decide +kernel)) (jsl_n (j := 7) (jsl_cv (ix := 185) mt_Md_wordHere in_Md_wordHere sl_Md_wordHere rfl (by decide) (se_Md_wordHere _) (by decide) (List.mem_of_getElem? (i := 1648) (by decide +kernel)) (by decide +kernel)) (jsl_run (by decide +kernel)))) (by decide +kernel) (by decide)) (jfr_go (j := 17) (jsl_n (j := 14) (jsl_run (by decide +kernel)) (jsl_cv (ix := 176) mt_Md_wrong in_Md_wrong sl_Md_wrong rfl (by decide) (se_Md_wrong _) (by decide) (List.mem_of_getElem? (i := 1640) (by decide +kernel)) (by decide +kernel))) (by decide +kernel) (by decide)) (by decide)) (jfr_sq (jfr_if (j := 29) (jsl_run (by decide +kernel)) (by decide +kernel) (by decide)) (jfr_go (j := 37) (jsl_n (j := 34) (jsl_run (by decide +kernel)) (jsl_cv (ix := 176) mt_Md_wrong in_Md_wrong sl_Md_wrong rfl (by decide) (se_Md_wrong _) (by decide) (List.mem_of_getElem? (i := 1640) (by decide +kernel)) (by decide +kernel))) (by decide +kernel) (by decide)) (by decide)) (by decide)) (jfr_sq (jfr_sq (jfr_if (j := 41) (jsl_run (by decide +kernel)) (by decide +kernel) (by decide)) (jfr_rt (j := 44) (jsl_run (by decide +kernel)) (by decide +kernel)) (by decide)) (jfr_sq (jfr_sq (jfr_sq (jfr_if (j := 68) (jsl_run (by decide +kernel)) (by decide +kernel) (by decide)) (jfr_go (j := 86) (jsl_n (j := 82) (jsl_run (by decide +kernel)) (jsl_n (j := 85) (jsl_cv (ix := 237) mt_Md_takeNumber in_Md_takeNumber sl_Md_takeNumber rfl (by decide) (se_Md_takeNumber _) (by decide) (List.mem_of_getElem? (i := 1664) (by decide +kernel)) (by decide +kernel)) (jsl_run (by decide +kernel)))) (by decide +kernel) (by decide)) (by decide)) (jfr_go (j := 112) (jsl_n (j := 103) (jsl_run (by decide +kernel)) (jsl_n (j := 106) (jsl_cv (ix := 247) mt_Md_all in_Md_all sl_Md_all rfl (by decide) (se_Md_all _) (by decide) (List.mem_of_getElem? (i := 1688) (by decide +kernel)) (by decide +kernel)) (jsl_n (j := 109) (jsl_run (by decide +kernel)) (jsl_cv (ix := 250) mt_Md_emit in_Md_emit sl_Md_emit rfl (by decide) (se_Md_emit _) (by decide) (List.mem_of_getElem? (i := 1712) (by decide +kernel)) (by decide +kernel))))) (by decide +kernel) (by decide)) (by decide)) (jfr_rt (j := 112) (jsl_run (by decide +kernel)) (by decide +kernel)) (by decide)) (by decide)) (by decide))
theorem se_Md_readOnce (G : JG) : JSem G y_Md_readOnce c_Md_readOnce 2 none 43 q_Md_readOnce := jsem_of (by decide +kernel) rfl (by intro h; cases h) (fr_Md_readOnce G)
def y_Md_readLine : MethodName := ⟨"CellarTurnsModel", "readLine", "()V"⟩
abbrev c_Md_readLine : ByteArray := prog_15_method_27_code
theorem mt_Md_readLine : JMt y_Md_readLine c_Md_readLine 1 none 0 := ⟨(List.mem_of_getElem? (i := 1631) (by decide +kernel)), (List.mem_of_getElem? (i := 133) (by decide +kernel)), ⟨by decide +kernel, by decide +kernel⟩, by decide +kernel, by decide⟩
theorem in_Md_readLine : Cond.instanceMethod y_Md_readLine ∈ lw_tbl := (List.mem_of_getElem? (i := 1630) (by decide +kernel))
theorem sl_Md_readLine : Cond.selects y_Md_readLine.cls y_Md_readLine y_Md_readLine ∈ lw_tbl := (List.mem_of_getElem? (i := 54) (by decide +kernel))
noncomputable def qp_Md_readLine : JP := (jb_sq (jb_sq (jb_sq (jb_if (jn (jx_run [(4, 0, 0), (0, 0, 0)]) (jx_cv 2 11 q_Md_isWord)) 0 16 8) 8 (jb_go (jn (jx_run [(4, 0, 0), (0, 0, 0)]) (jx_cv 2 11 q_Md_readBody)) 85)) 16 (jb_sq (jb_sq (jb_if (jn (jx_run [(4, 0, 0), (0, 0, 1)]) (jx_cv 2 11 q_Md_isWord)) 0 32 24) 24 (jb_go (jn (jx_run [(4, 0, 0), (0, 0, 1)]) (jx_cv 2 11 q_Md_readBody)) 85)) 32 (jb_sq (jb_sq (jb_if (jn (jx_run [(4, 0, 0), (0, 0, 3)]) (jx_cv 2 11 q_Md_isWord)) 0 47 40) 40 (jb_go (jn (jx_run [(4, 0, 0)]) (jx_cv 1 11 q_Md_readRing)) 85)) 47 (jb_sq (jb_sq (jb_if (jn (jx_run [(4, 0, 0), (0, 0, 4)]) (jx_cv 2 11 q_Md_isWord)) 0 64 55) 55 (jb_go (jn (jx_run [(4, 0, 0), (0, 0, 40)]) (jx_cv 2 11 q_Md_readPair)) 85)) 64 (jb_sq (jb_sq (jb_if (jn (jx_run [(4, 0, 0), (0, 0, 5)]) (jx_cv 2 11 q_Md_isWord)) 0 81 72) 72 (jb_go (jn (jx_run [(4, 0, 0), (0, 0, 104)]) (jx_cv 2 11 q_Md_readPair)) 85)) 81 (jb_go (jn (jx_run [(4, 0, 0)]) (jx_cv 1 11 q_Md_readOnce)) 85)))))) 85 (jb_rt (jx_run []) 0))
noncomputable def q_Md_readLine : JF := jf_of qp_Md_readLine 1
set_option maxRecDepth 20000 in
theorem fr_Md_readLine (G : JG) : JFr G 11 false c_Md_readLine 44 1 none 0 qp_Md_readLine := (jfr_sq (jfr_sq (jfr_sq (jfr_if (j := 5) (jsl_n (j := 2) (jsl_run (by decide +kernel)) (jsl_cv (ix := 179) mt_Md_isWord in_Md_isWord sl_Md_isWord rfl (by decide) (se_Md_isWord _) (by decide) (List.mem_of_getElem? (i := 1632) (by decide +kernel)) (by decide +kernel))) (by decide +kernel) (by decide)) (jfr_go (j := 13) (jsl_n (j := 10) (jsl_run (by decide +kernel)) (jsl_cv (ix := 221) mt_Md_readBody in_Md_readBody sl_Md_readBody rfl (by decide) (se_Md_readBody _) (by decide) (List.mem_of_getElem? (i := 1636) (by decide +kernel)) (by decide +kernel))) (by decide +kernel) (by decide)) (by decide)) (jfr_sq (jfr_sq (jfr_if (j := 21) (jsl_n (j := 18) (jsl_run (by decide +kernel)) (jsl_cv (ix := 179) mt_Md_isWord in_Md_isWord sl_Md_isWord rfl (by decide) (se_Md_isWord _) (by decide) (List.mem_of_getElem? (i := 1632) (by decide +kernel)) (by decide +kernel))) (by decide +kernel) (by decide)) (jfr_go (j := 29) (jsl_n (j := 26) (jsl_run (by decide +kernel)) (jsl_cv (ix := 221) mt_Md_readBody in_Md_readBody sl_Md_readBody rfl (by decide) (se_Md_readBody _) (by decide) (List.mem_of_getElem? (i := 1636) (by decide +kernel)) (by decide +kernel))) (by decide +kernel) (by decide)) (by decide)) (jfr_sq (jfr_sq (jfr_if (j := 37) (jsl_n (j := 34) (jsl_run (by decide +kernel)) (jsl_cv (ix := 179) mt_Md_isWord in_Md_isWord sl_Md_isWord rfl (by decide) (se_Md_isWord _) (by decide) (List.mem_of_getElem? (i := 1632) (by decide +kernel)) (by decide +kernel))) (by decide +kernel) (by decide)) (jfr_go (j := 44) (jsl_n (j := 41) (jsl_run (by decide +kernel)) (jsl_cv (ix := 225) mt_Md_readRing in_Md_readRing sl_Md_readRing rfl (by decide) (se_Md_readRing _) (by decide) (List.mem_of_getElem? (i := 1672) (by decide +kernel)) (by decide +kernel))) (by decide +kernel) (by decide)) (by decide)) (jfr_sq (jfr_sq (jfr_if (j := 52) (jsl_n (j := 49) (jsl_run (by decide +kernel)) (jsl_cv (ix := 179) mt_Md_isWord in_Md_isWord sl_Md_isWord rfl (by decide) (se_Md_isWord _) (by decide) (List.mem_of_getElem? (i := 1632) (by decide +kernel)) (by decide +kernel))) (by decide +kernel) (by decide)) (jfr_go (j := 61) (jsl_n (j := 58) (jsl_run (by decide +kernel)) (jsl_cv (ix := 228) mt_Md_readPair in_Md_readPair sl_Md_readPair rfl (by decide) (se_Md_readPair _) (by decide) (List.mem_of_getElem? (i := 1680) (by decide +kernel)) (by decide +kernel))) (by decide +kernel) (by decide)) (by decide)) (jfr_sq (jfr_sq (jfr_if (j := 69) (jsl_n (j := 66) (jsl_run (by decide +kernel)) (jsl_cv (ix := 179) mt_Md_isWord in_Md_isWord sl_Md_isWord rfl (by decide) (se_Md_isWord _) (by decide) (List.mem_of_getElem? (i := 1632) (by decide +kernel)) (by decide +kernel))) (by decide +kernel) (by decide)) (jfr_go (j := 78) (jsl_n (j := 75) (jsl_run (by decide +kernel)) (jsl_cv (ix := 228) mt_Md_readPair in_Md_readPair sl_Md_readPair rfl (by decide) (se_Md_readPair _) (by decide) (List.mem_of_getElem? (i := 1680) (by decide +kernel)) (by decide +kernel))) (by decide +kernel) (by decide)) (by decide)) (jfr_go (j := 85) (jsl_n (j := 82) (jsl_run (by decide +kernel)) (jsl_cv (ix := 231) mt_Md_readOnce in_Md_readOnce sl_Md_readOnce rfl (by decide) (se_Md_readOnce _) (by decide) (List.mem_of_getElem? (i := 1684) (by decide +kernel)) (by decide +kernel))) (by decide +kernel) (by decide)) (by decide)) (by decide)) (by decide)) (by decide)) (by decide)) (jfr_rt (j := 85) (jsl_run (by decide +kernel)) (by decide +kernel)) (by decide))
theorem se_Md_readLine (G : JG) : JSem G y_Md_readLine c_Md_readLine 1 none 44 q_Md_readLine := jsem_of (by decide +kernel) rfl (by intro h; cases h) (fr_Md_readLine G)
def y_Md_cellar : MethodName := ⟨"CellarTurnsModel", "cellar", "()I"⟩
abbrev c_Md_cellar : ByteArray := prog_15_method_26_code
theorem mt_Md_cellar : JMt y_Md_cellar c_Md_cellar 2 (some .int) 0 := ⟨(List.mem_of_getElem? (i := 1608) (by decide +kernel)), (List.mem_of_getElem? (i := 133) (by decide +kernel)), ⟨by decide +kernel, by decide +kernel⟩, by decide +kernel, by decide⟩
theorem in_Md_cellar : Cond.instanceMethod y_Md_cellar ∈ lw_tbl := (List.mem_of_getElem? (i := 1606) (by decide +kernel))
theorem sl_Md_cellar : Cond.selects y_Md_cellar.cls y_Md_cellar y_Md_cellar ∈ lw_tbl := (List.mem_of_getElem? (i := 1607) (by decide +kernel))
noncomputable def qp_Md_cellar : JP := (jb_sq (jb_go (jn (jx_run [(4, 0, 0), (0, 0, 0), (43, 11, 0), (4, 0, 0)]) (jn (jx_cv 1 11 q_Md_cutAll) (jn (jx_run [(4, 0, 0), (0, 0, 0), (43, 11, 13), (4, 0, 0), (0, 0, 0), (43, 11, 17), (4, 0, 0), (0, 0, 0), (43, 11, 18), (4, 0, 0), (0, 0, 0), (43, 11, 19), (4, 0, 0), (0, 0, 180)]) (jx_cv 2 11 q_Md_standsAsAlways)))) 36) 36 (jb_sq (jb_lp 36 (jb_sq (jb_if (jx_run [(4, 0, 0), (40, 11, 8)]) 1 68 43) 43 (jb_sq (jb_if (jx_run [(4, 0, 0), (42, 11, 4), (4, 0, 0), (40, 11, 7), (50, 0, 0)]) 0 68 55) 55 (jb_go (jn (jx_run [(4, 0, 0)]) (jn (jx_cv 1 11 q_Md_readLine) (jn (jx_run [(4, 0, 0), (0, 0, 59)]) (jx_cv 2 11 q_Md_takeSign)))) 36)))) 68 (jb_sq (jb_sq (jb_if (jx_run [(4, 0, 0), (40, 11, 8)]) 5 80 75) 75 (jb_rt (jx_run [(4, 0, 0), (40, 11, 8)]) 1)) 80 (jb_sq (jb_go (jx_run [(0, 0, 0), (5, 1, 0)]) 82) 82 (jb_sq (jb_lp 82 (jb_sq (jb_if (jx_run [(2, 1, 0), (0, 0, 180)]) 9 111 89) 89 (jb_go (jx_run [(4, 0, 0), (42, 11, 10), (2, 1, 0), (4, 0, 0), (42, 11, 10), (0, 0, 180), (2, 1, 0), (10, 0, 0), (50, 0, 0), (55, 0, 0), (8, 1, 1)]) 82))) 111 (jb_sq (jb_go (jx_run [(0, 0, 0), (5, 1, 0)]) 113) 113 (jb_sq (jb_lp 113 (jb_sq (jb_if (jx_run [(2, 1, 0), (4, 0, 0), (40, 11, 13)]) 9 159 121) 121 (jb_go (jx_run [(4, 0, 0), (42, 11, 11), (2, 1, 0), (4, 0, 0), (42, 11, 11), (0, 0, 1100), (2, 1, 0), (10, 0, 0), (50, 0, 0), (55, 0, 0), (4, 0, 0), (42, 11, 12), (2, 1, 0), (4, 0, 0), (42, 11, 12), (0, 0, 1100), (2, 1, 0), (10, 0, 0), (50, 0, 0), (55, 0, 0), (8, 1, 1)]) 113))) 159 (jb_sq (jb_go (jx_run [(0, 0, 0), (5, 1, 0)]) 161) 161 (jb_sq (jb_lp 161 (jb_sq (jb_if (jx_run [(2, 1, 0), (4, 0, 0), (40, 11, 17)]) 9 187 169) 169 (jb_go (jx_run [(4, 0, 0), (42, 11, 14), (2, 1, 0), (4, 0, 0), (42, 11, 15), (2, 1, 0), (51, 0, 0), (56, 0, 0), (8, 1, 1)]) 161))) 187 (jb_rt (jn (jx_run [(4, 0, 0), (4, 0, 0), (40, 11, 17), (43, 11, 16), (4, 0, 0)]) (jn (jx_cv 1 11 q_Md_begins) (jx_run [(0, 0, 0)]))) 1))))))))))
noncomputable def q_Md_cellar : JF := jf_of qp_Md_cellar 2
set_option maxRecDepth 20000 in
theorem fr_Md_cellar (G : JG) : JFr G 11 false c_Md_cellar 45 2 (some .int) 0 qp_Md_cellar := (jfr_sq (jfr_go (j := 36) (jsl_n (j := 6) (jsl_run (by decide +kernel)) (jsl_n (j := 9) (jsl_cv (ix := 203) mt_Md_cutAll in_Md_cutAll sl_Md_cutAll rfl (by decide) (se_Md_cutAll _) (by decide) (List.mem_of_getElem? (i := 1609) (by decide +kernel)) (by decide +kernel)) (jsl_n (j := 33) (jsl_run (by decide +kernel)) (jsl_cv (ix := 137) mt_Md_standsAsAlways in_Md_standsAsAlways sl_Md_standsAsAlways rfl (by decide) (se_Md_standsAsAlways _) (by decide) (List.mem_of_getElem? (i := 1448) (by decide +kernel)) (by decide +kernel))))) (by decide +kernel) (by decide)) (jfr_sq (jfr_lp (jfr_sq (jfr_if (j := 40) (jsl_run (by decide +kernel)) (by decide +kernel) (by decide)) (jfr_sq (jfr_if (j := 52) (jsl_run (by decide +kernel)) (by decide +kernel) (by decide)) (jfr_go (j := 65) (jsl_n (j := 56) (jsl_run (by decide +kernel)) (jsl_n (j := 59) (jsl_cv (ix := 215) mt_Md_readLine in_Md_readLine sl_Md_readLine rfl (by decide) (se_Md_readLine _) (by decide) (List.mem_of_getElem? (i := 1628) (by decide +kernel)) (by decide +kernel)) (jsl_n (j := 62) (jsl_run (by decide +kernel)) (jsl_cv (ix := 218) mt_Md_takeSign in_Md_takeSign sl_Md_takeSign rfl (by decide) (se_Md_takeSign _) (by decide) (List.mem_of_getElem? (i := 1720) (by decide +kernel)) (by decide +kernel))))) (by decide +kernel) (by decide)) (by decide)) (by decide)) (by decide)) (jfr_sq (jfr_sq (jfr_if (j := 72) (jsl_run (by decide +kernel)) (by decide +kernel) (by decide)) (jfr_rt (j := 79) (jsl_run (by decide +kernel)) (by decide +kernel)) (by decide)) (jfr_sq (jfr_go (j := 82) (jsl_run (by decide +kernel)) (by decide +kernel) (by decide)) (jfr_sq (jfr_lp (jfr_sq (jfr_if (j := 86) (jsl_run (by decide +kernel)) (by decide +kernel) (by decide)) (jfr_go (j := 108) (jsl_run (by decide +kernel)) (by decide +kernel) (by decide)) (by decide)) (by decide)) (jfr_sq (jfr_go (j := 113) (jsl_run (by decide +kernel)) (by decide +kernel) (by decide)) (jfr_sq (jfr_lp (jfr_sq (jfr_if (j := 118) (jsl_run (by decide +kernel)) (by decide +kernel) (by decide)) (jfr_go (j := 156) (jsl_run (by decide +kernel)) (by decide +kernel) (by decide)) (by decide)) (by decide)) (jfr_sq (jfr_go (j := 161) (jsl_run (by decide +kernel)) (by decide +kernel) (by decide)) (jfr_sq (jfr_lp (jfr_sq (jfr_if (j := 166) (jsl_run (by decide +kernel)) (by decide +kernel) (by decide)) (jfr_go (j := 184) (jsl_run (by decide +kernel)) (by decide +kernel) (by decide)) (by decide)) (by decide)) (jfr_rt (j := 200) (jsl_n (j := 196) (jsl_run (by decide +kernel)) (jsl_n (j := 199) (jsl_cv (ix := 141) mt_Md_begins in_Md_begins sl_Md_begins rfl (by decide) (se_Md_begins _) (by decide) (List.mem_of_getElem? (i := 1452) (by decide +kernel)) (by decide +kernel)) (jsl_run (by decide +kernel)))) (by decide +kernel)) (by decide)) (by decide)) (by decide)) (by decide)) (by decide)) (by decide)) (by decide)) (by decide)) (by decide))
theorem se_Md_cellar (G : JG) : JSem G y_Md_cellar c_Md_cellar 2 (some .int) 45 q_Md_cellar := jsem_of (by decide +kernel) rfl (by intro h; cases h) (fr_Md_cellar G)
def y_Md_pairsLeft : MethodName := ⟨"CellarTurnsModel", "pairsLeft", "(I)I"⟩
abbrev c_Md_pairsLeft : ByteArray := prog_15_method_75_code
theorem mt_Md_pairsLeft : JMt y_Md_pairsLeft c_Md_pairsLeft 5 (some .int) 1 := ⟨(List.mem_of_getElem? (i := 1865) (by decide +kernel)), (List.mem_of_getElem? (i := 133) (by decide +kernel)), ⟨by decide +kernel, by decide +kernel⟩, by decide +kernel, by decide⟩
theorem in_Md_pairsLeft : Cond.instanceMethod y_Md_pairsLeft ∈ lw_tbl := (List.mem_of_getElem? (i := 1864) (by decide +kernel))
theorem sl_Md_pairsLeft : Cond.selects y_Md_pairsLeft.cls y_Md_pairsLeft y_Md_pairsLeft ∈ lw_tbl := (List.mem_of_getElem? (i := 100) (by decide +kernel))
noncomputable def qp_Md_pairsLeft : JP := (jb_sq (jb_go (jx_run [(0, 0, 0), (5, 2, 0), (0, 0, 0), (5, 3, 0)]) 4) 4 (jb_sq (jb_lp 4 (jb_sq (jb_if (jn (jx_run [(2, 3, 0), (4, 0, 0)]) (jx_cv 1 11 q_Md_bodies)) 9 57 12) 12 (jb_sq (jb_go (jx_run [(2, 3, 0), (0, 0, 1), (10, 0, 0), (5, 4, 0)]) 17) 17 (jb_sq (jb_lp 17 (jb_sq (jb_if (jn (jx_run [(2, 4, 0), (4, 0, 0)]) (jx_cv 1 11 q_Md_bodies)) 9 51 26) 26 (jb_sq (jb_sq (jb_sq (jb_if (jn (jx_run [(2, 2, 0), (4, 0, 0), (2, 1, 0), (2, 3, 0), (2, 4, 0)]) (jx_cv 4 11 q_Md_mayTurn)) 0 42 38) 38 (jb_go (jx_run [(0, 0, 1)]) 43)) 42 (jb_go (jx_run [(0, 0, 0)]) 43)) 43 (jb_go (jx_run [(10, 0, 0), (5, 2, 0), (8, 4, 1)]) 17)))) 51 (jb_go (jx_run [(8, 3, 1)]) 4))))) 57 (jb_rt (jx_run [(2, 2, 0)]) 1)))
noncomputable def q_Md_pairsLeft : JF := jf_of qp_Md_pairsLeft 5
set_option maxRecDepth 20000 in
theorem fr_Md_pairsLeft (G : JG) : JFr G 11 false c_Md_pairsLeft 3 5 (some .int) 0 qp_Md_pairsLeft := (jfr_sq (jfr_go (j := 4) (jsl_run (by decide +kernel)) (by decide +kernel) (by decide)) (jfr_sq (jfr_lp (jfr_sq (jfr_if (j := 9) (jsl_n (j := 6) (jsl_run (by decide +kernel)) (jsl_cv (ix := 279) mt_Md_bodies in_Md_bodies sl_Md_bodies rfl (by decide) (se_Md_bodies _) (by decide) (List.mem_of_getElem? (i := 1460) (by decide +kernel)) (by decide +kernel))) (by decide +kernel) (by decide)) (jfr_sq (jfr_go (j := 17) (jsl_run (by decide +kernel)) (by decide +kernel) (by decide)) (jfr_sq (jfr_lp (jfr_sq (jfr_if (j := 23) (jsl_n (j := 20) (jsl_run (by decide +kernel)) (jsl_cv (ix := 279) mt_Md_bodies in_Md_bodies sl_Md_bodies rfl (by decide) (se_Md_bodies _) (by decide) (List.mem_of_getElem? (i := 1460) (by decide +kernel)) (by decide +kernel))) (by decide +kernel) (by decide)) (jfr_sq (jfr_sq (jfr_sq (jfr_if (j := 35) (jsl_n (j := 32) (jsl_run (by decide +kernel)) (jsl_cv (ix := 321) mt_Md_mayTurn in_Md_mayTurn sl_Md_mayTurn rfl (by decide) (se_Md_mayTurn _) (by decide) (List.mem_of_getElem? (i := 1763) (by decide +kernel)) (by decide +kernel))) (by decide +kernel) (by decide)) (jfr_go (j := 39) (jsl_run (by decide +kernel)) (by decide +kernel) (by decide)) (by decide)) (jfr_go (j := 43) (jsl_run (by decide +kernel)) (by decide +kernel) (by decide)) (by decide)) (jfr_go (j := 48) (jsl_run (by decide +kernel)) (by decide +kernel) (by decide)) (by decide)) (by decide)) (by decide)) (jfr_go (j := 54) (jsl_run (by decide +kernel)) (by decide +kernel) (by decide)) (by decide)) (by decide)) (by decide)) (by decide)) (jfr_rt (j := 58) (jsl_run (by decide +kernel)) (by decide +kernel)) (by decide)) (by decide))
theorem se_Md_pairsLeft (G : JG) : JSem G y_Md_pairsLeft c_Md_pairsLeft 5 (some .int) 3 q_Md_pairsLeft := jsem_of (by decide +kernel) rfl (by intro h; cases h) (fr_Md_pairsLeft G)
def y_Md_worthAt : MethodName := ⟨"CellarTurnsModel", "worthAt", "(I)I"⟩
abbrev c_Md_worthAt : ByteArray := prog_15_method_40_code
theorem mt_Md_worthAt : JMt y_Md_worthAt c_Md_worthAt 5 (some .int) 1 := ⟨(List.mem_of_getElem? (i := 1802) (by decide +kernel)), (List.mem_of_getElem? (i := 133) (by decide +kernel)), ⟨by decide +kernel, by decide +kernel⟩, by decide +kernel, by decide⟩
theorem in_Md_worthAt : Cond.instanceMethod y_Md_worthAt ∈ lw_tbl := (List.mem_of_getElem? (i := 1801) (by decide +kernel))
theorem sl_Md_worthAt : Cond.selects y_Md_worthAt.cls y_Md_worthAt y_Md_worthAt ∈ lw_tbl := (List.mem_of_getElem? (i := 91) (by decide +kernel))
noncomputable def qp_Md_worthAt : JP := (jb_sq (jb_go (jx_run [(0, 0, 0), (5, 2, 0), (2, 1, 0), (5, 3, 0)]) 4) 4 (jb_sq (jb_lp 4 (jb_sq (jb_if (jx_run [(4, 0, 0), (42, 11, 11), (2, 3, 0), (50, 0, 0)]) 0 140 13) 13 (jb_sq (jb_sq (jb_sq (jb_if (jx_run [(4, 0, 0), (42, 11, 11), (2, 3, 0), (50, 0, 0), (5, 4, 0), (2, 4, 0), (0, 0, 1)]) 6 33 27) 27 (jb_sq (jb_if (jx_run [(2, 4, 0), (0, 0, 2)]) 7 71 33) 71 (jb_sq (jb_sq (jb_if (jx_run [(2, 4, 0), (0, 0, 3)]) 7 104 77) 77 (jb_sq (jb_sq (jb_sq (jb_if (jx_run [(4, 0, 0), (42, 11, 22), (2, 2, 0), (0, 0, 1), (11, 0, 0), (4, 0, 0), (42, 11, 22), (2, 2, 0), (0, 0, 1), (11, 0, 0), (50, 0, 0)]) 1 99 95) 95 (jb_go (jx_run [(0, 0, 1)]) 100)) 99 (jb_go (jx_run [(0, 0, 0)]) 100)) 100 (jb_go (jx_run [(55, 0, 0)]) 134))) 104 (jb_go (jn (jx_run [(8, 2, -1), (4, 0, 0), (42, 11, 22), (2, 2, 0), (0, 0, 1), (11, 0, 0), (2, 4, 0), (4, 0, 0), (42, 11, 22), (2, 2, 0), (0, 0, 1), (11, 0, 0), (50, 0, 0), (4, 0, 0), (42, 11, 22), (2, 2, 0), (50, 0, 0)]) (jn (jx_cs 3 q_Md_both) (jx_run [(55, 0, 0)]))) 134)))) 33 (jb_sq (jb_sq (jb_sq (jb_if (jx_run [(4, 0, 0), (42, 11, 22), (2, 2, 0), (2, 4, 0), (0, 0, 1)]) 7 53 44) 44 (jb_go (jx_run [(4, 0, 0), (42, 11, 12), (2, 3, 0), (50, 0, 0)]) 64)) 53 (jb_go (jx_run [(4, 0, 0), (42, 11, 21), (4, 0, 0), (42, 11, 12), (2, 3, 0), (50, 0, 0), (50, 0, 0)]) 64)) 64 (jb_go (jx_run [(55, 0, 0), (8, 2, 1)]) 134))) 134 (jb_go (jx_run [(8, 3, 1)]) 4)))) 140 (jb_rt (jx_run [(4, 0, 0), (42, 11, 22), (0, 0, 0), (50, 0, 0)]) 1)))
noncomputable def q_Md_worthAt : JF := jf_of qp_Md_worthAt 5
set_option maxRecDepth 20000 in
theorem fr_Md_worthAt (G : JG) : JFr G 11 false c_Md_worthAt 1 5 (some .int) 0 qp_Md_worthAt := (jfr_sq (jfr_go (j := 4) (jsl_run (by decide +kernel)) (by decide +kernel) (by decide)) (jfr_sq (jfr_lp (jfr_sq (jfr_if (j := 10) (jsl_run (by decide +kernel)) (by decide +kernel) (by decide)) (jfr_sq (jfr_sq (jfr_sq (jfr_if (j := 24) (jsl_run (by decide +kernel)) (by decide +kernel) (by decide)) (jfr_sq (jfr_if (j := 30) (jsl_run (by decide +kernel)) (by decide +kernel) (by decide)) (jfr_sq (jfr_sq (jfr_if (j := 74) (jsl_run (by decide +kernel)) (by decide +kernel) (by decide)) (jfr_sq (jfr_sq (jfr_sq (jfr_if (j := 92) (jsl_run (by decide +kernel)) (by decide +kernel) (by decide)) (jfr_go (j := 96) (jsl_run (by decide +kernel)) (by decide +kernel) (by decide)) (by decide)) (jfr_go (j := 100) (jsl_run (by decide +kernel)) (by decide +kernel) (by decide)) (by decide)) (jfr_go (j := 101) (jsl_run (by decide +kernel)) (by decide +kernel) (by decide)) (by decide)) (by decide)) (jfr_go (j := 134) (jsl_n (j := 130) (jsl_run (by decide +kernel)) (jsl_n (j := 133) (jsl_cs (ix := 275) mt_Md_both st_Md_both (se_Md_both _) (by decide) (List.mem_of_getElem? (i := 1803) (by decide +kernel)) (by decide +kernel)) (jsl_run (by decide +kernel)))) (by decide +kernel) (by decide)) (by decide)) (by decide)) (by decide)) (jfr_sq (jfr_sq (jfr_sq (jfr_if (j := 41) (jsl_run (by decide +kernel)) (by decide +kernel) (by decide)) (jfr_go (j := 50) (jsl_run (by decide +kernel)) (by decide +kernel) (by decide)) (by decide)) (jfr_go (j := 64) (jsl_run (by decide +kernel)) (by decide +kernel) (by decide)) (by decide)) (jfr_go (j := 68) (jsl_run (by decide +kernel)) (by decide +kernel) (by decide)) (by decide)) (by decide)) (jfr_go (j := 137) (jsl_run (by decide +kernel)) (by decide +kernel) (by decide)) (by decide)) (by decide)) (by decide)) (jfr_rt (j := 146) (jsl_run (by decide +kernel)) (by decide +kernel)) (by decide)) (by decide))
theorem se_Md_worthAt (G : JG) : JSem G y_Md_worthAt c_Md_worthAt 5 (some .int) 1 q_Md_worthAt := jsem_of (by decide +kernel) rfl (by intro h; cases h) (fr_Md_worthAt G)
def y_Md_costNow : MethodName := ⟨"CellarTurnsModel", "costNow", "(II)I"⟩
abbrev c_Md_costNow : ByteArray := prog_15_method_54_code
theorem mt_Md_costNow : JMt y_Md_costNow c_Md_costNow 4 (some .int) 2 := ⟨(List.mem_of_getElem? (i := 1794) (by decide +kernel)), (List.mem_of_getElem? (i := 133) (by decide +kernel)), ⟨by decide +kernel, by decide +kernel⟩, by decide +kernel, by decide⟩
theorem in_Md_costNow : Cond.instanceMethod y_Md_costNow ∈ lw_tbl := (List.mem_of_getElem? (i := 1793) (by decide +kernel))
theorem sl_Md_costNow : Cond.selects y_Md_costNow.cls y_Md_costNow y_Md_costNow ∈ lw_tbl := (List.mem_of_getElem? (i := 89) (by decide +kernel))
noncomputable def qp_Md_costNow : JP := (jb_sq (jb_sq (jb_sq (jb_if (jn (jx_run [(4, 0, 0), (42, 11, 21), (0, 0, 0), (4, 0, 0), (2, 1, 0)]) (jn (jx_cv 2 11 q_Md_wrongs) (jx_run [(55, 0, 0), (4, 0, 0), (42, 11, 21), (0, 0, 1), (4, 0, 0), (42, 11, 23), (2, 1, 0), (0, 0, 0), (10, 0, 0), (50, 0, 0), (55, 0, 0), (4, 0, 0), (42, 11, 21), (0, 0, 2), (2, 2, 0), (55, 0, 0), (4, 0, 0), (42, 11, 10), (0, 0, 5), (50, 0, 0)]))) 3 50 41) 41 (jb_go (jx_run [(4, 0, 0), (42, 11, 21), (0, 0, 0), (50, 0, 0)]) 60)) 50 (jb_go (jn (jx_run [(4, 0, 0), (4, 0, 0), (42, 11, 10), (0, 0, 5), (50, 0, 0)]) (jx_cv 2 11 q_Md_worthAt)) 60)) 60 (jb_sq (jb_sq (jb_sq (jb_if (jx_run [(5, 3, 0), (2, 3, 0)]) 3 69 65) 65 (jb_go (jx_run [(0, 0, 0)]) 83)) 69 (jb_sq (jb_sq (jb_if (jx_run [(2, 3, 0), (0, 0, 999)]) 11 82 76) 76 (jb_go (jx_run [(0, 0, 999)]) 83)) 82 (jb_go (jx_run [(2, 3, 0)]) 83))) 83 (jb_rt (jx_run []) 1)))
noncomputable def q_Md_costNow : JF := jf_of qp_Md_costNow 4
set_option maxRecDepth 20000 in
theorem fr_Md_costNow (G : JG) : JFr G 11 false c_Md_costNow 3 4 (some .int) 0 qp_Md_costNow := (jfr_sq (jfr_sq (jfr_sq (jfr_if (j := 38) (jsl_n (j := 7) (jsl_run (by decide +kernel)) (jsl_n (j := 10) (jsl_cv (ix := 305) mt_Md_wrongs in_Md_wrongs sl_Md_wrongs rfl (by decide) (se_Md_wrongs _) (by decide) (List.mem_of_getElem? (i := 1795) (by decide +kernel)) (by decide +kernel)) (jsl_run (by decide +kernel)))) (by decide +kernel) (by decide)) (jfr_go (j := 47) (jsl_run (by decide +kernel)) (by decide +kernel) (by decide)) (by decide)) (jfr_go (j := 60) (jsl_n (j := 57) (jsl_run (by decide +kernel)) (jsl_cv (ix := 308) mt_Md_worthAt in_Md_worthAt sl_Md_worthAt rfl (by decide) (se_Md_worthAt _) (by decide) (List.mem_of_getElem? (i := 1799) (by decide +kernel)) (by decide +kernel))) (by decide +kernel) (by decide)) (by decide)) (jfr_sq (jfr_sq (jfr_sq (jfr_if (j := 62) (jsl_run (by decide +kernel)) (by decide +kernel) (by decide)) (jfr_go (j := 66) (jsl_run (by decide +kernel)) (by decide +kernel) (by decide)) (by decide)) (jfr_sq (jfr_sq (jfr_if (j := 73) (jsl_run (by decide +kernel)) (by decide +kernel) (by decide)) (jfr_go (j := 79) (jsl_run (by decide +kernel)) (by decide +kernel) (by decide)) (by decide)) (jfr_go (j := 83) (jsl_run (by decide +kernel)) (by decide +kernel) (by decide)) (by decide)) (by decide)) (jfr_rt (j := 83) (jsl_run (by decide +kernel)) (by decide +kernel)) (by decide)) (by decide))
theorem se_Md_costNow (G : JG) : JSem G y_Md_costNow c_Md_costNow 4 (some .int) 3 q_Md_costNow := jsem_of (by decide +kernel) rfl (by intro h; cases h) (fr_Md_costNow G)
def y_Md_meets : MethodName := ⟨"CellarTurnsModel", "meets", "(IIII)V"⟩
abbrev c_Md_meets : ByteArray := prog_15_method_56_code
theorem mt_Md_meets : JMt y_Md_meets c_Md_meets 5 none 4 := ⟨(List.mem_of_getElem? (i := 1809) (by decide +kernel)), (List.mem_of_getElem? (i := 133) (by decide +kernel)), ⟨by decide +kernel, by decide +kernel⟩, by decide +kernel, by decide⟩
theorem in_Md_meets : Cond.instanceMethod y_Md_meets ∈ lw_tbl := (List.mem_of_getElem? (i := 1808) (by decide +kernel))
theorem sl_Md_meets : Cond.selects y_Md_meets.cls y_Md_meets y_Md_meets ∈ lw_tbl := (List.mem_of_getElem? (i := 92) (by decide +kernel))
noncomputable def qp_Md_meets : JP := (jb_sq (jb_sq (jb_sq (jb_if (jx_run [(4, 0, 0), (42, 11, 23), (2, 1, 0), (0, 0, 27), (10, 0, 0), (0, 0, 8), (2, 2, 0), (12, 0, 0), (10, 0, 0), (2, 3, 0), (10, 0, 0), (2, 4, 0)]) 5 24 20) 20 (jb_go (jx_run [(0, 0, 1)]) 25)) 24 (jb_go (jx_run [(0, 0, 0)]) 25)) 25 (jb_sq (jb_sq (jb_sq (jb_if (jx_run [(55, 0, 0), (4, 0, 0), (42, 11, 23), (2, 1, 0), (0, 0, 27), (10, 0, 0), (0, 0, 8), (2, 3, 0), (12, 0, 0), (10, 0, 0), (2, 2, 0), (10, 0, 0), (2, 4, 0)]) 5 50 46) 46 (jb_go (jx_run [(0, 0, 1)]) 51)) 50 (jb_go (jx_run [(0, 0, 0)]) 51)) 51 (jb_rt (jx_run [(55, 0, 0), (4, 0, 0), (42, 11, 23), (2, 1, 0), (0, 0, 11), (10, 0, 0), (2, 2, 0), (10, 0, 0), (72, 0, 0), (50, 0, 0), (2, 4, 0), (10, 0, 0), (55, 0, 0), (4, 0, 0), (42, 11, 23), (2, 1, 0), (0, 0, 11), (10, 0, 0), (2, 3, 0), (10, 0, 0), (72, 0, 0), (50, 0, 0), (2, 4, 0), (10, 0, 0), (55, 0, 0), (4, 0, 0), (42, 11, 23), (2, 1, 0), (0, 0, 2), (10, 0, 0), (72, 0, 0), (50, 0, 0), (2, 4, 0), (10, 0, 0), (55, 0, 0)]) 0)))
noncomputable def q_Md_meets : JF := jf_of qp_Md_meets 5
set_option maxRecDepth 20000 in
theorem fr_Md_meets (G : JG) : JFr G 11 false c_Md_meets 0 5 none 0 qp_Md_meets := (jfr_sq (jfr_sq (jfr_sq (jfr_if (j := 17) (jsl_run (by decide +kernel)) (by decide +kernel) (by decide)) (jfr_go (j := 21) (jsl_run (by decide +kernel)) (by decide +kernel) (by decide)) (by decide)) (jfr_go (j := 25) (jsl_run (by decide +kernel)) (by decide +kernel) (by decide)) (by decide)) (jfr_sq (jfr_sq (jfr_sq (jfr_if (j := 43) (jsl_run (by decide +kernel)) (by decide +kernel) (by decide)) (jfr_go (j := 47) (jsl_run (by decide +kernel)) (by decide +kernel) (by decide)) (by decide)) (jfr_go (j := 51) (jsl_run (by decide +kernel)) (by decide +kernel) (by decide)) (by decide)) (jfr_rt (j := 97) (jsl_run (by decide +kernel)) (by decide +kernel)) (by decide)) (by decide))
theorem se_Md_meets (G : JG) : JSem G y_Md_meets c_Md_meets 5 none 0 q_Md_meets := jsem_of (by decide +kernel) rfl (by intro h; cases h) (fr_Md_meets G)
def y_Md_turns : MethodName := ⟨"CellarTurnsModel", "turns", "(III)I"⟩
abbrev c_Md_turns : ByteArray := prog_15_method_57_code
theorem mt_Md_turns : JMt y_Md_turns c_Md_turns 5 (some .int) 3 := ⟨(List.mem_of_getElem? (i := 1786) (by decide +kernel)), (List.mem_of_getElem? (i := 133) (by decide +kernel)), ⟨by decide +kernel, by decide +kernel⟩, by decide +kernel, by decide⟩
theorem in_Md_turns : Cond.instanceMethod y_Md_turns ∈ lw_tbl := (List.mem_of_getElem? (i := 1785) (by decide +kernel))
theorem sl_Md_turns : Cond.selects y_Md_turns.cls y_Md_turns y_Md_turns ∈ lw_tbl := (List.mem_of_getElem? (i := 87) (by decide +kernel))
noncomputable def qp_Md_turns : JP := (jb_rt (jn (jx_run [(4, 0, 0), (2, 1, 0), (2, 2, 0), (2, 3, 0)]) (jn (jx_cv 4 11 q_Md_swaps) (jn (jx_run [(4, 0, 0), (2, 1, 0), (4, 0, 0), (42, 11, 23), (2, 1, 0), (0, 0, 2), (10, 0, 0), (50, 0, 0)]) (jn (jx_cv 3 11 q_Md_costNow) (jn (jx_run [(5, 4, 0), (4, 0, 0), (2, 1, 0), (2, 2, 0), (2, 3, 0), (0, 0, 1)]) (jn (jx_cv 5 11 q_Md_meets) (jx_run [(4, 0, 0), (42, 11, 23), (2, 1, 0), (0, 0, 0), (10, 0, 0), (72, 0, 0), (50, 0, 0), (0, 0, 1), (10, 0, 0), (55, 0, 0), (4, 0, 0), (42, 11, 23), (2, 1, 0), (0, 0, 1), (10, 0, 0), (72, 0, 0), (50, 0, 0), (2, 4, 0), (10, 0, 0), (55, 0, 0), (2, 4, 0)]))))))) 1)
noncomputable def q_Md_turns : JF := jf_of qp_Md_turns 5
set_option maxRecDepth 20000 in
theorem fr_Md_turns (G : JG) : JFr G 11 false c_Md_turns 4 5 (some .int) 0 qp_Md_turns := (jfr_rt (j := 57) (jsl_n (j := 4) (jsl_run (by decide +kernel)) (jsl_n (j := 7) (jsl_cv (ix := 311) mt_Md_swaps in_Md_swaps sl_Md_swaps rfl (by decide) (se_Md_swaps _) (by decide) (List.mem_of_getElem? (i := 1787) (by decide +kernel)) (by decide +kernel)) (jsl_n (j := 17) (jsl_run (by decide +kernel)) (jsl_n (j := 20) (jsl_cv (ix := 314) mt_Md_costNow in_Md_costNow sl_Md_costNow rfl (by decide) (se_Md_costNow _) (by decide) (List.mem_of_getElem? (i := 1791) (by decide +kernel)) (by decide +kernel)) (jsl_n (j := 27) (jsl_run (by decide +kernel)) (jsl_n (j := 30) (jsl_cv (ix := 317) mt_Md_meets in_Md_meets sl_Md_meets rfl (by decide) (se_Md_meets _) (by decide) (List.mem_of_getElem? (i := 1806) (by decide +kernel)) (by decide +kernel)) (jsl_run (by decide +kernel)))))))) (by decide +kernel))
theorem se_Md_turns (G : JG) : JSem G y_Md_turns c_Md_turns 5 (some .int) 4 q_Md_turns := jsem_of (by decide +kernel) rfl (by intro h; cases h) (fr_Md_turns G)
def y_Md_unturns : MethodName := ⟨"CellarTurnsModel", "unturns", "(IIII)V"⟩
abbrev c_Md_unturns : ByteArray := prog_15_method_58_code
theorem mt_Md_unturns : JMt y_Md_unturns c_Md_unturns 5 none 4 := ⟨(List.mem_of_getElem? (i := 1897) (by decide +kernel)), (List.mem_of_getElem? (i := 133) (by decide +kernel)), ⟨by decide +kernel, by decide +kernel⟩, by decide +kernel, by decide⟩
theorem in_Md_unturns : Cond.instanceMethod y_Md_unturns ∈ lw_tbl := (List.mem_of_getElem? (i := 1896) (by decide +kernel))
theorem sl_Md_unturns : Cond.selects y_Md_unturns.cls y_Md_unturns y_Md_unturns ∈ lw_tbl := (List.mem_of_getElem? (i := 102) (by decide +kernel))
noncomputable def qp_Md_unturns : JP := (jb_rt (jn (jx_run [(4, 0, 0), (2, 1, 0), (2, 2, 0), (2, 3, 0)]) (jn (jx_cv 4 11 q_Md_swaps) (jn (jx_run [(4, 0, 0), (2, 1, 0), (2, 2, 0), (2, 3, 0), (0, 0, -1)]) (jn (jx_cv 5 11 q_Md_meets) (jx_run [(4, 0, 0), (42, 11, 23), (2, 1, 0), (0, 0, 0), (10, 0, 0), (72, 0, 0), (50, 0, 0), (0, 0, 1), (11, 0, 0), (55, 0, 0), (4, 0, 0), (42, 11, 23), (2, 1, 0), (0, 0, 1), (10, 0, 0), (72, 0, 0), (50, 0, 0), (2, 4, 0), (11, 0, 0), (55, 0, 0)]))))) 0)
noncomputable def q_Md_unturns : JF := jf_of qp_Md_unturns 5
set_option maxRecDepth 20000 in
theorem fr_Md_unturns (G : JG) : JFr G 11 false c_Md_unturns 1 5 none 0 qp_Md_unturns := (jfr_rt (j := 40) (jsl_n (j := 4) (jsl_run (by decide +kernel)) (jsl_n (j := 7) (jsl_cv (ix := 311) mt_Md_swaps in_Md_swaps sl_Md_swaps rfl (by decide) (se_Md_swaps _) (by decide) (List.mem_of_getElem? (i := 1787) (by decide +kernel)) (by decide +kernel)) (jsl_n (j := 12) (jsl_run (by decide +kernel)) (jsl_n (j := 15) (jsl_cv (ix := 317) mt_Md_meets in_Md_meets sl_Md_meets rfl (by decide) (se_Md_meets _) (by decide) (List.mem_of_getElem? (i := 1806) (by decide +kernel)) (by decide +kernel)) (jsl_run (by decide +kernel)))))) (by decide +kernel))
theorem se_Md_unturns (G : JG) : JSem G y_Md_unturns c_Md_unturns 5 none 1 q_Md_unturns := jsem_of (by decide +kernel) rfl (by intro h; cases h) (fr_Md_unturns G)
def y_Md_chanceFrom : MethodName := ⟨"CellarTurnsModel", "chanceFrom", "(II)I"⟩
abbrev c_Md_chanceFrom : ByteArray := prog_15_method_95_code
theorem mt_Md_chanceFrom : JMt y_Md_chanceFrom c_Md_chanceFrom 8 (some .int) 2 := ⟨(List.mem_of_getElem? (i := 1951) (by decide +kernel)), (List.mem_of_getElem? (i := 133) (by decide +kernel)), ⟨by decide +kernel, by decide +kernel⟩, by decide +kernel, by decide⟩
theorem in_Md_chanceFrom : Cond.instanceMethod y_Md_chanceFrom ∈ lw_tbl := (List.mem_of_getElem? (i := 1950) (by decide +kernel))
theorem sl_Md_chanceFrom : Cond.selects y_Md_chanceFrom.cls y_Md_chanceFrom y_Md_chanceFrom ∈ lw_tbl := (List.mem_of_getElem? (i := 109) (by decide +kernel))
noncomputable def qp_Md_chanceFrom (Ψ : Nat → JF) : JP := (jb_sq (jb_sq (jb_sq (jb_if (jx_run [(2, 1, 0)]) 1 8 4) 4 (jb_go (jx_run [(0, 0, 0)]) 15)) 8 (jb_go (jn (jx_run [(4, 0, 0), (0, 0, 2376)]) (jx_cv 2 11 q_Md_pairsLeft)) 15)) 15 (jb_sq (jb_sq (jb_if (jx_run [(5, 3, 0), (2, 3, 0)]) 1 36 20) 20 (jb_sq (jb_sq (jb_sq (jb_if (jn (jx_run [(4, 0, 0), (0, 0, 2376)]) (jx_cv 2 11 q_Md_wrongs)) 1 34 30) 30 (jb_go (jx_run [(2, 2, 0)]) 35)) 34 (jb_go (jx_run [(0, 0, 0)]) 35)) 35 (jb_rt (jx_run []) 1))) 36 (jb_sq (jb_go (jx_run [(0, 0, 0), (5, 4, 0), (0, 0, 0), (5, 5, 0)]) 42) 42 (jb_sq (jb_lp 42 (jb_sq (jb_if (jn (jx_run [(2, 5, 0), (4, 0, 0)]) (jx_cv 1 11 q_Md_bodies)) 9 133 51) 51 (jb_sq (jb_go (jx_run [(2, 5, 0), (0, 0, 1), (10, 0, 0), (5, 6, 0)]) 57) 57 (jb_sq (jb_lp 57 (jb_sq (jb_if (jn (jx_run [(2, 6, 0), (4, 0, 0)]) (jx_cv 1 11 q_Md_bodies)) 9 127 66) 66 (jb_sq (jb_sq (jb_if (jn (jx_run [(4, 0, 0), (0, 0, 2376), (2, 5, 0), (2, 6, 0)]) (jx_cv 4 11 q_Md_mayTurn)) 0 121 80) 80 (jb_go (jn (jx_run [(4, 0, 0), (0, 0, 2376), (2, 5, 0), (2, 6, 0)]) (jn (jx_cv 4 11 q_Md_turns) (jn (jx_run [(5, 7, 0), (2, 4, 0), (4, 0, 0), (2, 1, 0), (0, 0, 1), (11, 0, 0), (2, 2, 0), (2, 3, 0), (13, 0, 0)]) (jn (jx_cv 3 11 (Ψ 0)) (jn (jx_run [(10, 0, 0), (5, 4, 0), (4, 0, 0), (0, 0, 2376), (2, 5, 0), (2, 6, 0), (2, 7, 0)]) (jx_cv 5 11 q_Md_unturns)))))) 121)) 121 (jb_go (jx_run [(8, 6, 1)]) 57)))) 127 (jb_go (jx_run [(8, 5, 1)]) 42))))) 133 (jb_rt (jx_run [(2, 4, 0)]) 1)))))
noncomputable def g_Md_chanceFrom : Nat → Nat → JF
  | 0 => fun _ _ _ => none
  | n + 1 => fun w => match w with
    | 0 => jf_of (qp_Md_chanceFrom (g_Md_chanceFrom n)) 8
    | _ => fun _ _ => none
set_option maxRecDepth 20000 in
theorem fr_Md_chanceFrom (G : JG) (Ψ : Nat → JF) (d : Nat) (hd : 5 ≤ d + 1) (hΨ0 : JSem G y_Md_chanceFrom c_Md_chanceFrom 8 (some .int) d (Ψ 0)) : JFr G 11 false c_Md_chanceFrom (d + 1) 8 (some .int) 0 (qp_Md_chanceFrom Ψ) := (jfr_sq (jfr_sq (jfr_sq (jfr_if (j := 1) (jsl_run (by decide +kernel)) (by decide +kernel) (by decide)) (jfr_go (j := 5) (jsl_run (by decide +kernel)) (by decide +kernel) (by decide)) (by decide)) (jfr_go (j := 15) (jsl_n (j := 12) (jsl_run (by decide +kernel)) (jsl_cv (ix := 371) mt_Md_pairsLeft in_Md_pairsLeft sl_Md_pairsLeft rfl (by decide) (se_Md_pairsLeft _) (by omega) (List.mem_of_getElem? (i := 1862) (by decide +kernel)) (by decide +kernel))) (by decide +kernel) (by decide)) (by decide)) (jfr_sq (jfr_sq (jfr_if (j := 17) (jsl_run (by decide +kernel)) (by decide +kernel) (by decide)) (jfr_sq (jfr_sq (jfr_sq (jfr_if (j := 27) (jsl_n (j := 24) (jsl_run (by decide +kernel)) (jsl_cv (ix := 305) mt_Md_wrongs in_Md_wrongs sl_Md_wrongs rfl (by decide) (se_Md_wrongs _) (by omega) (List.mem_of_getElem? (i := 1795) (by decide +kernel)) (by decide +kernel))) (by decide +kernel) (by decide)) (jfr_go (j := 31) (jsl_run (by decide +kernel)) (by decide +kernel) (by decide)) (by decide)) (jfr_go (j := 35) (jsl_run (by decide +kernel)) (by decide +kernel) (by decide)) (by decide)) (jfr_rt (j := 35) (jsl_run (by decide +kernel)) (by decide +kernel)) (by decide)) (by decide)) (jfr_sq (jfr_go (j := 42) (jsl_run (by decide +kernel)) (by decide +kernel) (by decide)) (jfr_sq (jfr_lp (jfr_sq (jfr_if (j := 48) (jsl_n (j := 45) (jsl_run (by decide +kernel)) (jsl_cv (ix := 279) mt_Md_bodies in_Md_bodies sl_Md_bodies rfl (by decide) (se_Md_bodies _) (by omega) (List.mem_of_getElem? (i := 1460) (by decide +kernel)) (by decide +kernel))) (by decide +kernel) (by decide)) (jfr_sq (jfr_go (j := 57) (jsl_run (by decide +kernel)) (by decide +kernel) (by decide)) (jfr_sq (jfr_lp (jfr_sq (jfr_if (j := 63) (jsl_n (j := 60) (jsl_run (by decide +kernel)) (jsl_cv (ix := 279) mt_Md_bodies in_Md_bodies sl_Md_bodies rfl (by decide) (se_Md_bodies _) (by omega) (List.mem_of_getElem? (i := 1460) (by decide +kernel)) (by decide +kernel))) (by decide +kernel) (by decide)) (jfr_sq (jfr_sq (jfr_if (j := 77) (jsl_n (j := 74) (jsl_run (by decide +kernel)) (jsl_cv (ix := 321) mt_Md_mayTurn in_Md_mayTurn sl_Md_mayTurn rfl (by decide) (se_Md_mayTurn _) (by omega) (List.mem_of_getElem? (i := 1763) (by decide +kernel)) (by decide +kernel))) (by decide +kernel) (by decide)) (jfr_go (j := 121) (jsl_n (j := 88) (jsl_run (by decide +kernel)) (jsl_n (j := 91) (jsl_cv (ix := 334) mt_Md_turns in_Md_turns sl_Md_turns rfl (by decide) (se_Md_turns _) (by omega) (List.mem_of_getElem? (i := 1783) (by decide +kernel)) (by decide +kernel)) (jsl_n (j := 102) (jsl_run (by decide +kernel)) (jsl_n (j := 105) (jsl_cv (ix := 412) mt_Md_chanceFrom in_Md_chanceFrom sl_Md_chanceFrom rfl (by decide) (hΨ0) (by omega) (List.mem_of_getElem? (i := 1948) (by decide +kernel)) (by decide +kernel)) (jsl_n (j := 118) (jsl_run (by decide +kernel)) (jsl_cv (ix := 380) mt_Md_unturns in_Md_unturns sl_Md_unturns rfl (by decide) (se_Md_unturns _) (by omega) (List.mem_of_getElem? (i := 1894) (by decide +kernel)) (by decide +kernel))))))) (by decide +kernel) (by decide)) (by decide)) (jfr_go (j := 124) (jsl_run (by decide +kernel)) (by decide +kernel) (by decide)) (by decide)) (by decide)) (by decide)) (jfr_go (j := 130) (jsl_run (by decide +kernel)) (by decide +kernel) (by decide)) (by decide)) (by decide)) (by decide)) (by decide)) (jfr_rt (j := 135) (jsl_run (by decide +kernel)) (by decide +kernel)) (by decide)) (by decide)) (by decide)) (by decide))
theorem se_g_Md_chanceFrom (G : JG) (n : Nat) : JSem G y_Md_chanceFrom c_Md_chanceFrom 8 (some .int) (5 + n) (g_Md_chanceFrom n 0) := by
  induction n with
  | zero => exact fun _ _ _ _ h => by cases h
  | succ n ih =>
    have h0 := ih
    exact jsem_of (by decide +kernel) rfl (by intro h; cases h) (fr_Md_chanceFrom G (g_Md_chanceFrom n) (5 + n) (by omega) h0)
noncomputable abbrev q_Md_chanceFrom : JF := g_Md_chanceFrom 40 0
theorem se_Md_chanceFrom (G : JG) : JSem G y_Md_chanceFrom c_Md_chanceFrom 8 (some .int) 45 q_Md_chanceFrom := (se_g_Md_chanceFrom G 40)
def y_Md_chance : MethodName := ⟨"CellarTurnsModel", "chance", "(I)I"⟩
abbrev c_Md_chance : ByteArray := prog_15_method_96_code
theorem mt_Md_chance : JMt y_Md_chance c_Md_chance 2 (some .int) 1 := ⟨(List.mem_of_getElem? (i := 1946) (by decide +kernel)), (List.mem_of_getElem? (i := 133) (by decide +kernel)), ⟨by decide +kernel, by decide +kernel⟩, by decide +kernel, by decide⟩
theorem in_Md_chance : Cond.instanceMethod y_Md_chance ∈ lw_tbl := (List.mem_of_getElem? (i := 1944) (by decide +kernel))
theorem sl_Md_chance : Cond.selects y_Md_chance.cls y_Md_chance y_Md_chance ∈ lw_tbl := (List.mem_of_getElem? (i := 1945) (by decide +kernel))
noncomputable def qp_Md_chance : JP := (jb_sq (jb_sq (jb_if (jn (jx_run [(4, 0, 0), (0, 0, 0), (43, 11, 0), (2, 1, 0), (0, 0, 0), (0, 0, 3)]) (jx_cs 3 q_Md_within)) 1 16 14) 14 (jb_rt (jx_run [(0, 0, -1)]) 1)) 16 (jb_rt (jn (jx_run [(4, 0, 0), (0, 0, 0), (0, 0, 2376), (0, 0, 91)]) (jn (jx_cv 4 11 q_Md_copies) (jn (jx_run [(4, 0, 0), (2, 1, 0), (0, 0, 1000000)]) (jx_cv 3 11 q_Md_chanceFrom)))) 1))
noncomputable def q_Md_chance : JF := jf_of qp_Md_chance 2
set_option maxRecDepth 20000 in
theorem fr_Md_chance (G : JG) : JFr G 11 false c_Md_chance 46 2 (some .int) 0 qp_Md_chance := (jfr_sq (jfr_sq (jfr_if (j := 11) (jsl_n (j := 8) (jsl_run (by decide +kernel)) (jsl_cs (ix := 328) mt_Md_within st_Md_within (se_Md_within _) (by decide) (List.mem_of_getElem? (i := 1744) (by decide +kernel)) (by decide +kernel))) (by decide +kernel) (by decide)) (jfr_rt (j := 15) (jsl_run (by decide +kernel)) (by decide +kernel)) (by decide)) (jfr_rt (j := 34) (jsl_n (j := 23) (jsl_run (by decide +kernel)) (jsl_n (j := 26) (jsl_cv (ix := 291) mt_Md_copies in_Md_copies sl_Md_copies rfl (by decide) (se_Md_copies _) (by decide) (List.mem_of_getElem? (i := 1779) (by decide +kernel)) (by decide +kernel)) (jsl_n (j := 31) (jsl_run (by decide +kernel)) (jsl_cv (ix := 412) mt_Md_chanceFrom in_Md_chanceFrom sl_Md_chanceFrom rfl (by decide) (se_Md_chanceFrom _) (by decide) (List.mem_of_getElem? (i := 1948) (by decide +kernel)) (by decide +kernel))))) (by decide +kernel)) (by decide))
theorem se_Md_chance (G : JG) : JSem G y_Md_chance c_Md_chance 2 (some .int) 46 q_Md_chance := jsem_of (by decide +kernel) rfl (by intro h; cases h) (fr_Md_chance G)
def y_Md_keepsRow : MethodName := ⟨"CellarTurnsModel", "keepsRow", "(II)V"⟩
abbrev c_Md_keepsRow : ByteArray := prog_15_method_84_code
theorem mt_Md_keepsRow : JMt y_Md_keepsRow c_Md_keepsRow 4 none 2 := ⟨(List.mem_of_getElem? (i := 1913) (by decide +kernel)), (List.mem_of_getElem? (i := 133) (by decide +kernel)), ⟨by decide +kernel, by decide +kernel⟩, by decide +kernel, by decide⟩
theorem in_Md_keepsRow : Cond.instanceMethod y_Md_keepsRow ∈ lw_tbl := (List.mem_of_getElem? (i := 1912) (by decide +kernel))
theorem sl_Md_keepsRow : Cond.selects y_Md_keepsRow.cls y_Md_keepsRow y_Md_keepsRow ∈ lw_tbl := (List.mem_of_getElem? (i := 105) (by decide +kernel))
noncomputable def qp_Md_keepsRow : JP := (jb_sq (jb_go (jx_run [(4, 0, 0), (2, 1, 0), (43, 11, 37), (4, 0, 0), (2, 2, 0), (43, 11, 38), (0, 0, 0), (5, 3, 0)]) 12) 12 (jb_sq (jb_lp 12 (jb_sq (jb_if (jx_run [(2, 3, 0), (2, 1, 0)]) 9 35 17) 17 (jb_go (jx_run [(4, 0, 0), (42, 11, 36), (2, 3, 0), (4, 0, 0), (42, 11, 35), (2, 3, 0), (50, 0, 0), (55, 0, 0), (8, 3, 1)]) 12))) 35 (jb_rt (jx_run []) 0)))
noncomputable def q_Md_keepsRow : JF := jf_of qp_Md_keepsRow 4
set_option maxRecDepth 20000 in
theorem fr_Md_keepsRow (G : JG) : JFr G 11 false c_Md_keepsRow 0 4 none 0 qp_Md_keepsRow := (jfr_sq (jfr_go (j := 12) (jsl_run (by decide +kernel)) (by decide +kernel) (by decide)) (jfr_sq (jfr_lp (jfr_sq (jfr_if (j := 14) (jsl_run (by decide +kernel)) (by decide +kernel) (by decide)) (jfr_go (j := 32) (jsl_run (by decide +kernel)) (by decide +kernel) (by decide)) (by decide)) (by decide)) (jfr_rt (j := 35) (jsl_run (by decide +kernel)) (by decide +kernel)) (by decide)) (by decide))
theorem se_Md_keepsRow (G : JG) : JSem G y_Md_keepsRow c_Md_keepsRow 4 none 0 q_Md_keepsRow := jsem_of (by decide +kernel) rfl (by intro h; cases h) (fr_Md_keepsRow G)
def y_Md_cheapFrom : MethodName := ⟨"CellarTurnsModel", "cheapFrom", "(III)V"⟩
abbrev c_Md_cheapFrom : ByteArray := prog_15_method_91_code
theorem mt_Md_cheapFrom : JMt y_Md_cheapFrom c_Md_cheapFrom 8 none 3 := ⟨(List.mem_of_getElem? (i := 1933) (by decide +kernel)), (List.mem_of_getElem? (i := 133) (by decide +kernel)), ⟨by decide +kernel, by decide +kernel⟩, by decide +kernel, by decide⟩
theorem in_Md_cheapFrom : Cond.instanceMethod y_Md_cheapFrom ∈ lw_tbl := (List.mem_of_getElem? (i := 1932) (by decide +kernel))
theorem sl_Md_cheapFrom : Cond.selects y_Md_cheapFrom.cls y_Md_cheapFrom y_Md_cheapFrom ∈ lw_tbl := (List.mem_of_getElem? (i := 107) (by decide +kernel))
noncomputable def qp_Md_cheapFrom (Ψ : Nat → JF) : JP := (jb_sq (jb_sq (jb_if (jn (jx_run [(4, 0, 0), (0, 0, 2376)]) (jn (jx_cv 2 11 q_Md_wrongs) (jx_run [(5, 4, 0), (2, 4, 0), (0, 0, 2), (2, 2, 0), (12, 0, 0)]))) 10 48 17) 17 (jb_sq (jb_sq (jb_if (jx_run [(4, 0, 0), (40, 11, 38)]) 2 49 24) 24 (jb_sq (jb_if (jx_run [(2, 3, 0), (4, 0, 0), (40, 11, 38)]) 10 48 32) 32 (jb_sq (jb_if (jx_run [(2, 3, 0), (4, 0, 0), (40, 11, 38)]) 7 49 40) 40 (jb_if (jx_run [(2, 1, 0), (4, 0, 0), (40, 11, 37)]) 8 49 48)))) 49 (jb_sq (jb_sq (jb_if (jx_run [(2, 4, 0)]) 1 61 54) 54 (jb_rt (jn (jx_run [(4, 0, 0), (2, 1, 0), (2, 3, 0)]) (jx_cv 3 11 q_Md_keepsRow)) 0)) 61 (jb_sq (jb_go (jx_run [(0, 0, 0), (5, 5, 0)]) 64) 64 (jb_sq (jb_lp 64 (jb_sq (jb_if (jn (jx_run [(2, 5, 0), (4, 0, 0)]) (jx_cv 1 11 q_Md_bodies)) 9 172 73) 73 (jb_sq (jb_if (jx_run [(2, 2, 0)]) 5 172 77) 77 (jb_sq (jb_go (jx_run [(2, 5, 0), (0, 0, 1), (10, 0, 0), (5, 6, 0)]) 83) 83 (jb_sq (jb_lp 83 (jb_sq (jb_if (jn (jx_run [(2, 6, 0), (4, 0, 0)]) (jx_cv 1 11 q_Md_bodies)) 9 166 92) 92 (jb_sq (jb_sq (jb_if (jn (jx_run [(4, 0, 0), (0, 0, 2376), (2, 5, 0), (2, 6, 0)]) (jx_cv 4 11 q_Md_mayTurn)) 0 160 106) 106 (jb_go (jn (jx_run [(4, 0, 0), (0, 0, 2376), (2, 5, 0), (2, 6, 0)]) (jn (jx_cv 4 11 q_Md_turns) (jn (jx_run [(5, 7, 0), (4, 0, 0), (42, 11, 35), (2, 1, 0), (0, 0, 8), (2, 5, 0), (12, 0, 0), (2, 6, 0), (10, 0, 0), (55, 0, 0), (4, 0, 0), (2, 1, 0), (0, 0, 1), (10, 0, 0), (2, 2, 0), (0, 0, 1), (11, 0, 0), (2, 3, 0), (2, 7, 0), (10, 0, 0)]) (jn (jx_cv 4 11 (Ψ 0)) (jn (jx_run [(4, 0, 0), (0, 0, 2376), (2, 5, 0), (2, 6, 0), (2, 7, 0)]) (jx_cv 5 11 q_Md_unturns)))))) 160)) 160 (jb_go (jx_run [(8, 6, 1)]) 83)))) 166 (jb_go (jx_run [(8, 5, 1)]) 64)))))) 172 (jb_rt (jx_run []) 0)))))) 48 (jb_rt (jx_run []) 0))
noncomputable def g_Md_cheapFrom : Nat → Nat → JF
  | 0 => fun _ _ _ => none
  | n + 1 => fun w => match w with
    | 0 => jf_of (qp_Md_cheapFrom (g_Md_cheapFrom n)) 8
    | _ => fun _ _ => none
set_option maxRecDepth 20000 in
theorem fr_Md_cheapFrom (G : JG) (Ψ : Nat → JF) (d : Nat) (hd : 5 ≤ d + 1) (hΨ0 : JSem G y_Md_cheapFrom c_Md_cheapFrom 8 none d (Ψ 0)) : JFr G 11 false c_Md_cheapFrom (d + 1) 8 none 0 (qp_Md_cheapFrom Ψ) := (jfr_sq (jfr_sq (jfr_if (j := 14) (jsl_n (j := 4) (jsl_run (by decide +kernel)) (jsl_n (j := 7) (jsl_cv (ix := 305) mt_Md_wrongs in_Md_wrongs sl_Md_wrongs rfl (by decide) (se_Md_wrongs _) (by omega) (List.mem_of_getElem? (i := 1795) (by decide +kernel)) (by decide +kernel)) (jsl_run (by decide +kernel)))) (by decide +kernel) (by decide)) (jfr_sq (jfr_sq (jfr_if (j := 21) (jsl_run (by decide +kernel)) (by decide +kernel) (by decide)) (jfr_sq (jfr_if (j := 29) (jsl_run (by decide +kernel)) (by decide +kernel) (by decide)) (jfr_sq (jfr_if (j := 37) (jsl_run (by decide +kernel)) (by decide +kernel) (by decide)) (jfr_if (j := 45) (jsl_run (by decide +kernel)) (by decide +kernel) (by decide)) (by decide)) (by decide)) (by decide)) (jfr_sq (jfr_sq (jfr_if (j := 51) (jsl_run (by decide +kernel)) (by decide +kernel) (by decide)) (jfr_rt (j := 60) (jsl_n (j := 57) (jsl_run (by decide +kernel)) (jsl_cv (ix := 389) mt_Md_keepsRow in_Md_keepsRow sl_Md_keepsRow rfl (by decide) (se_Md_keepsRow _) (by omega) (List.mem_of_getElem? (i := 1910) (by decide +kernel)) (by decide +kernel))) (by decide +kernel)) (by decide)) (jfr_sq (jfr_go (j := 64) (jsl_run (by decide +kernel)) (by decide +kernel) (by decide)) (jfr_sq (jfr_lp (jfr_sq (jfr_if (j := 70) (jsl_n (j := 67) (jsl_run (by decide +kernel)) (jsl_cv (ix := 279) mt_Md_bodies in_Md_bodies sl_Md_bodies rfl (by decide) (se_Md_bodies _) (by omega) (List.mem_of_getElem? (i := 1460) (by decide +kernel)) (by decide +kernel))) (by decide +kernel) (by decide)) (jfr_sq (jfr_if (j := 74) (jsl_run (by decide +kernel)) (by decide +kernel) (by decide)) (jfr_sq (jfr_go (j := 83) (jsl_run (by decide +kernel)) (by decide +kernel) (by decide)) (jfr_sq (jfr_lp (jfr_sq (jfr_if (j := 89) (jsl_n (j := 86) (jsl_run (by decide +kernel)) (jsl_cv (ix := 279) mt_Md_bodies in_Md_bodies sl_Md_bodies rfl (by decide) (se_Md_bodies _) (by omega) (List.mem_of_getElem? (i := 1460) (by decide +kernel)) (by decide +kernel))) (by decide +kernel) (by decide)) (jfr_sq (jfr_sq (jfr_if (j := 103) (jsl_n (j := 100) (jsl_run (by decide +kernel)) (jsl_cv (ix := 321) mt_Md_mayTurn in_Md_mayTurn sl_Md_mayTurn rfl (by decide) (se_Md_mayTurn _) (by omega) (List.mem_of_getElem? (i := 1763) (by decide +kernel)) (by decide +kernel))) (by decide +kernel) (by decide)) (jfr_go (j := 160) (jsl_n (j := 114) (jsl_run (by decide +kernel)) (jsl_n (j := 117) (jsl_cv (ix := 334) mt_Md_turns in_Md_turns sl_Md_turns rfl (by decide) (se_Md_turns _) (by omega) (List.mem_of_getElem? (i := 1783) (by decide +kernel)) (by decide +kernel)) (jsl_n (j := 144) (jsl_run (by decide +kernel)) (jsl_n (j := 147) (jsl_cv (ix := 401) mt_Md_cheapFrom in_Md_cheapFrom sl_Md_cheapFrom rfl (by decide) (hΨ0) (by omega) (List.mem_of_getElem? (i := 1930) (by decide +kernel)) (by decide +kernel)) (jsl_n (j := 157) (jsl_run (by decide +kernel)) (jsl_cv (ix := 380) mt_Md_unturns in_Md_unturns sl_Md_unturns rfl (by decide) (se_Md_unturns _) (by omega) (List.mem_of_getElem? (i := 1894) (by decide +kernel)) (by decide +kernel))))))) (by decide +kernel) (by decide)) (by decide)) (jfr_go (j := 163) (jsl_run (by decide +kernel)) (by decide +kernel) (by decide)) (by decide)) (by decide)) (by decide)) (jfr_go (j := 169) (jsl_run (by decide +kernel)) (by decide +kernel) (by decide)) (by decide)) (by decide)) (by decide)) (by decide)) (by decide)) (jfr_rt (j := 172) (jsl_run (by decide +kernel)) (by decide +kernel)) (by decide)) (by decide)) (by decide)) (by decide)) (by decide)) (jfr_rt (j := 48) (jsl_run (by decide +kernel)) (by decide +kernel)) (by decide))
theorem se_g_Md_cheapFrom (G : JG) (n : Nat) : JSem G y_Md_cheapFrom c_Md_cheapFrom 8 none (5 + n) (g_Md_cheapFrom n 0) := by
  induction n with
  | zero => exact fun _ _ _ _ h => by cases h
  | succ n ih =>
    have h0 := ih
    exact jsem_of (by decide +kernel) rfl (by intro h; cases h) (fr_Md_cheapFrom G (g_Md_cheapFrom n) (5 + n) (by omega) h0)
noncomputable abbrev q_Md_cheapFrom : JF := g_Md_cheapFrom 40 0
theorem se_Md_cheapFrom (G : JG) : JSem G y_Md_cheapFrom c_Md_cheapFrom 8 none 45 q_Md_cheapFrom := (se_g_Md_cheapFrom G 40)
end
section
/-! ===== printed by wip/whole/emit.py: methods as pieces ===== -/
def y_Md_cheap : MethodName := ⟨"CellarTurnsModel", "cheap", "(II)I"⟩
abbrev c_Md_cheap : ByteArray := prog_15_method_92_code
theorem mt_Md_cheap : JMt y_Md_cheap c_Md_cheap 3 (some .int) 2 := ⟨(List.mem_of_getElem? (i := 1929) (by decide +kernel)), (List.mem_of_getElem? (i := 133) (by decide +kernel)), ⟨by decide +kernel, by decide +kernel⟩, by decide +kernel, by decide⟩
theorem in_Md_cheap : Cond.instanceMethod y_Md_cheap ∈ lw_tbl := (List.mem_of_getElem? (i := 1927) (by decide +kernel))
theorem sl_Md_cheap : Cond.selects y_Md_cheap.cls y_Md_cheap y_Md_cheap ∈ lw_tbl := (List.mem_of_getElem? (i := 1928) (by decide +kernel))
noncomputable def qp_Md_cheap : JP := (jb_sq (jb_sq (jb_if (jn (jx_run [(4, 0, 0), (0, 0, 0), (43, 11, 0), (2, 1, 0), (0, 0, 0), (0, 0, 5)]) (jx_cs 3 q_Md_within)) 0 18 14) 14 (jb_sq (jb_if (jx_run [(2, 2, 0)]) 3 20 18) 20 (jb_sq (jb_sq (jb_if (jn (jx_run [(4, 0, 0), (0, 0, 0), (0, 0, 2376), (0, 0, 91)]) (jn (jx_cv 4 11 q_Md_copies) (jn (jx_run [(4, 0, 0), (0, 0, -1), (43, 11, 38), (4, 0, 0), (0, 0, 0), (43, 11, 37), (4, 0, 0), (0, 0, 0), (2, 1, 0), (0, 0, 0)]) (jn (jx_cv 4 11 q_Md_cheapFrom) (jx_run [(4, 0, 0), (40, 11, 38)]))))) 3 56 54) 54 (jb_rt (jx_run [(0, 0, -1)]) 1)) 56 (jb_sq (jb_sq (jb_sq (jb_if (jx_run [(2, 2, 0)]) 1 67 60) 60 (jb_go (jx_run [(4, 0, 0), (40, 11, 38)]) 101)) 67 (jb_sq (jb_sq (jb_if (jx_run [(2, 2, 0), (0, 0, 1)]) 7 79 72) 72 (jb_go (jx_run [(4, 0, 0), (40, 11, 37)]) 101)) 79 (jb_sq (jb_sq (jb_if (jx_run [(2, 2, 0), (4, 0, 0), (40, 11, 37), (0, 0, 2), (10, 0, 0)]) 9 100 89) 89 (jb_go (jx_run [(4, 0, 0), (42, 11, 36), (2, 2, 0), (0, 0, 2), (11, 0, 0), (50, 0, 0)]) 101)) 100 (jb_go (jx_run [(0, 0, -1)]) 101)))) 101 (jb_rt (jx_run []) 1))))) 18 (jb_rt (jx_run [(0, 0, -1)]) 1))
noncomputable def q_Md_cheap : JF := jf_of qp_Md_cheap 3
set_option maxRecDepth 20000 in
theorem fr_Md_cheap (G : JG) : JFr G 11 false c_Md_cheap 46 3 (some .int) 0 qp_Md_cheap := (jfr_sq (jfr_sq (jfr_if (j := 11) (jsl_n (j := 8) (jsl_run (by decide +kernel)) (jsl_cs (ix := 328) mt_Md_within st_Md_within (se_Md_within _) (by decide) (List.mem_of_getElem? (i := 1744) (by decide +kernel)) (by decide +kernel))) (by decide +kernel) (by decide)) (jfr_sq (jfr_if (j := 15) (jsl_run (by decide +kernel)) (by decide +kernel) (by decide)) (jfr_sq (jfr_sq (jfr_if (j := 51) (jsl_n (j := 27) (jsl_run (by decide +kernel)) (jsl_n (j := 30) (jsl_cv (ix := 291) mt_Md_copies in_Md_copies sl_Md_copies rfl (by decide) (se_Md_copies _) (by decide) (List.mem_of_getElem? (i := 1779) (by decide +kernel)) (by decide +kernel)) (jsl_n (j := 44) (jsl_run (by decide +kernel)) (jsl_n (j := 47) (jsl_cv (ix := 401) mt_Md_cheapFrom in_Md_cheapFrom sl_Md_cheapFrom rfl (by decide) (se_Md_cheapFrom _) (by decide) (List.mem_of_getElem? (i := 1930) (by decide +kernel)) (by decide +kernel)) (jsl_run (by decide +kernel)))))) (by decide +kernel) (by decide)) (jfr_rt (j := 55) (jsl_run (by decide +kernel)) (by decide +kernel)) (by decide)) (jfr_sq (jfr_sq (jfr_sq (jfr_if (j := 57) (jsl_run (by decide +kernel)) (by decide +kernel) (by decide)) (jfr_go (j := 64) (jsl_run (by decide +kernel)) (by decide +kernel) (by decide)) (by decide)) (jfr_sq (jfr_sq (jfr_if (j := 69) (jsl_run (by decide +kernel)) (by decide +kernel) (by decide)) (jfr_go (j := 76) (jsl_run (by decide +kernel)) (by decide +kernel) (by decide)) (by decide)) (jfr_sq (jfr_sq (jfr_if (j := 86) (jsl_run (by decide +kernel)) (by decide +kernel) (by decide)) (jfr_go (j := 97) (jsl_run (by decide +kernel)) (by decide +kernel) (by decide)) (by decide)) (jfr_go (j := 101) (jsl_run (by decide +kernel)) (by decide +kernel) (by decide)) (by decide)) (by decide)) (by decide)) (jfr_rt (j := 101) (jsl_run (by decide +kernel)) (by decide +kernel)) (by decide)) (by decide)) (by decide)) (by decide)) (jfr_rt (j := 19) (jsl_run (by decide +kernel)) (by decide +kernel)) (by decide))
theorem se_Md_cheap (G : JG) : JSem G y_Md_cheap c_Md_cheap 3 (some .int) 46 q_Md_cheap := jsem_of (by decide +kernel) rfl (by intro h; cases h) (fr_Md_cheap G)
def y_Md_thereMany : MethodName := ⟨"CellarTurnsModel", "thereMany", "()I"⟩
abbrev c_Md_thereMany : ByteArray := prog_15_method_108_code
theorem mt_Md_thereMany : JMt y_Md_thereMany c_Md_thereMany 3 (some .int) 0 := ⟨(List.mem_of_getElem? (i := 2007) (by decide +kernel)), (List.mem_of_getElem? (i := 133) (by decide +kernel)), ⟨by decide +kernel, by decide +kernel⟩, by decide +kernel, by decide⟩
theorem in_Md_thereMany : Cond.instanceMethod y_Md_thereMany ∈ lw_tbl := (List.mem_of_getElem? (i := 2006) (by decide +kernel))
theorem sl_Md_thereMany : Cond.selects y_Md_thereMany.cls y_Md_thereMany y_Md_thereMany ∈ lw_tbl := (List.mem_of_getElem? (i := 115) (by decide +kernel))
noncomputable def qp_Md_thereMany : JP := (jb_sq (jb_go (jx_run [(0, 0, 0), (5, 1, 0), (0, 0, 0), (5, 2, 0)]) 4) 4 (jb_sq (jb_lp 4 (jb_sq (jb_if (jn (jx_run [(2, 2, 0), (4, 0, 0)]) (jx_cv 1 11 q_Md_bodies)) 9 30 12) 12 (jb_go (jx_run [(2, 1, 0), (4, 0, 0), (42, 11, 23), (0, 0, 19), (2, 2, 0), (10, 0, 0), (50, 0, 0), (10, 0, 0), (5, 1, 0), (8, 2, 1)]) 4))) 30 (jb_rt (jx_run [(2, 1, 0)]) 1)))
noncomputable def q_Md_thereMany : JF := jf_of qp_Md_thereMany 3
set_option maxRecDepth 20000 in
theorem fr_Md_thereMany (G : JG) : JFr G 11 false c_Md_thereMany 1 3 (some .int) 0 qp_Md_thereMany := (jfr_sq (jfr_go (j := 4) (jsl_run (by decide +kernel)) (by decide +kernel) (by decide)) (jfr_sq (jfr_lp (jfr_sq (jfr_if (j := 9) (jsl_n (j := 6) (jsl_run (by decide +kernel)) (jsl_cv (ix := 279) mt_Md_bodies in_Md_bodies sl_Md_bodies rfl (by decide) (se_Md_bodies _) (by decide) (List.mem_of_getElem? (i := 1460) (by decide +kernel)) (by decide +kernel))) (by decide +kernel) (by decide)) (jfr_go (j := 27) (jsl_run (by decide +kernel)) (by decide +kernel) (by decide)) (by decide)) (by decide)) (jfr_rt (j := 31) (jsl_run (by decide +kernel)) (by decide +kernel)) (by decide)) (by decide))
theorem se_Md_thereMany (G : JG) : JSem G y_Md_thereMany c_Md_thereMany 3 (some .int) 1 q_Md_thereMany := jsem_of (by decide +kernel) rfl (by intro h; cases h) (fr_Md_thereMany G)
def y_Md_count : MethodName := ⟨"CellarTurnsModel", "count", "(I)I"⟩
abbrev c_Md_count : ByteArray := prog_15_method_109_code
theorem mt_Md_count : JMt y_Md_count c_Md_count 2 (some .int) 1 := ⟨(List.mem_of_getElem? (i := 2003) (by decide +kernel)), (List.mem_of_getElem? (i := 133) (by decide +kernel)), ⟨by decide +kernel, by decide +kernel⟩, by decide +kernel, by decide⟩
theorem in_Md_count : Cond.instanceMethod y_Md_count ∈ lw_tbl := (List.mem_of_getElem? (i := 2001) (by decide +kernel))
theorem sl_Md_count : Cond.selects y_Md_count.cls y_Md_count y_Md_count ∈ lw_tbl := (List.mem_of_getElem? (i := 2002) (by decide +kernel))
noncomputable def qp_Md_count : JP := (jb_sq (jb_sq (jb_sq (jb_sq (jb_sq (jb_sq (jb_sq (jb_sq (jb_sq (jb_sq (jb_sq (jb_sq (jb_sq (jb_sq (jb_sw (jx_run [(4, 0, 0), (0, 0, 0), (43, 11, 0), (2, 1, 0)]) (0) [72, 77, 84, 89, 96, 103, 109, 116, 123, 130, 137, 145, 150] 155) 150 (jb_rt (jx_run [(4, 0, 0), (40, 11, 2)]) 1)) 145 (jb_rt (jx_run [(4, 0, 0), (40, 11, 24)]) 1)) 137 (jb_rt (jx_run [(4, 0, 0), (42, 11, 23), (0, 0, 91), (50, 0, 0)]) 1)) 130 (jb_rt (jx_run [(4, 0, 0), (42, 11, 20), (0, 0, 0), (50, 0, 0)]) 1)) 123 (jb_rt (jx_run [(4, 0, 0), (42, 11, 10), (0, 0, 3), (50, 0, 0)]) 1)) 116 (jb_rt (jx_run [(4, 0, 0), (42, 11, 10), (0, 0, 4), (50, 0, 0)]) 1)) 109 (jb_rt (jx_run [(4, 0, 0), (42, 11, 23), (0, 0, 1), (50, 0, 0)]) 1)) 103 (jb_rt (jn (jx_run [(4, 0, 0), (0, 0, 0)]) (jx_cv 2 11 q_Md_wrongs)) 1)) 96 (jb_rt (jx_run [(4, 0, 0), (42, 11, 23), (0, 0, 2), (50, 0, 0)]) 1)) 89 (jb_rt (jx_run [(4, 0, 0), (42, 11, 23), (0, 0, 0), (50, 0, 0)]) 1)) 84 (jb_rt (jn (jx_run [(4, 0, 0)]) (jx_cv 1 11 q_Md_thereMany)) 1)) 77 (jb_rt (jx_run [(4, 0, 0), (42, 11, 10), (0, 0, 2), (50, 0, 0)]) 1)) 72 (jb_rt (jn (jx_run [(4, 0, 0)]) (jx_cv 1 11 q_Md_bodies)) 1)) 155 (jb_rt (jx_run [(0, 0, -1)]) 1))
noncomputable def q_Md_count : JF := jf_of qp_Md_count 2
set_option maxRecDepth 20000 in
theorem fr_Md_count (G : JG) : JFr G 11 false c_Md_count 3 2 (some .int) 0 qp_Md_count := (jfr_sq (jfr_sq (jfr_sq (jfr_sq (jfr_sq (jfr_sq (jfr_sq (jfr_sq (jfr_sq (jfr_sq (jfr_sq (jfr_sq (jfr_sq (jfr_sq (jfr_sw (j := 6) (jsl_run (by decide +kernel)) (by decide +kernel)) (jfr_rt (j := 154) (jsl_run (by decide +kernel)) (by decide +kernel)) (by decide)) (jfr_rt (j := 149) (jsl_run (by decide +kernel)) (by decide +kernel)) (by decide)) (jfr_rt (j := 144) (jsl_run (by decide +kernel)) (by decide +kernel)) (by decide)) (jfr_rt (j := 136) (jsl_run (by decide +kernel)) (by decide +kernel)) (by decide)) (jfr_rt (j := 129) (jsl_run (by decide +kernel)) (by decide +kernel)) (by decide)) (jfr_rt (j := 122) (jsl_run (by decide +kernel)) (by decide +kernel)) (by decide)) (jfr_rt (j := 115) (jsl_run (by decide +kernel)) (by decide +kernel)) (by decide)) (jfr_rt (j := 108) (jsl_n (j := 105) (jsl_run (by decide +kernel)) (jsl_cv (ix := 305) mt_Md_wrongs in_Md_wrongs sl_Md_wrongs rfl (by decide) (se_Md_wrongs _) (by decide) (List.mem_of_getElem? (i := 1795) (by decide +kernel)) (by decide +kernel))) (by decide +kernel)) (by decide)) (jfr_rt (j := 102) (jsl_run (by decide +kernel)) (by decide +kernel)) (by decide)) (jfr_rt (j := 95) (jsl_run (by decide +kernel)) (by decide +kernel)) (by decide)) (jfr_rt (j := 88) (jsl_n (j := 85) (jsl_run (by decide +kernel)) (jsl_cv (ix := 446) mt_Md_thereMany in_Md_thereMany sl_Md_thereMany rfl (by decide) (se_Md_thereMany _) (by decide) (List.mem_of_getElem? (i := 2004) (by decide +kernel)) (by decide +kernel))) (by decide +kernel)) (by decide)) (jfr_rt (j := 83) (jsl_run (by decide +kernel)) (by decide +kernel)) (by decide)) (jfr_rt (j := 76) (jsl_n (j := 73) (jsl_run (by decide +kernel)) (jsl_cv (ix := 279) mt_Md_bodies in_Md_bodies sl_Md_bodies rfl (by decide) (se_Md_bodies _) (by decide) (List.mem_of_getElem? (i := 1460) (by decide +kernel)) (by decide +kernel))) (by decide +kernel)) (by decide)) (jfr_rt (j := 156) (jsl_run (by decide +kernel)) (by decide +kernel)) (by decide))
theorem se_Md_count (G : JG) : JSem G y_Md_count c_Md_count 2 (some .int) 3 q_Md_count := jsem_of (by decide +kernel) rfl (by intro h; cases h) (fr_Md_count G)
def y_Md_mayRound : MethodName := ⟨"CellarTurnsModel", "mayRound", "(IIII)Z"⟩
abbrev c_Md_mayRound : ByteArray := prog_15_method_59_code
theorem mt_Md_mayRound : JMt y_Md_mayRound c_Md_mayRound 6 (some .boolean) 4 := ⟨(List.mem_of_getElem? (i := 1817) (by decide +kernel)), (List.mem_of_getElem? (i := 133) (by decide +kernel)), ⟨by decide +kernel, by decide +kernel⟩, by decide +kernel, by decide⟩
theorem in_Md_mayRound : Cond.instanceMethod y_Md_mayRound ∈ lw_tbl := (List.mem_of_getElem? (i := 1816) (by decide +kernel))
theorem sl_Md_mayRound : Cond.selects y_Md_mayRound.cls y_Md_mayRound y_Md_mayRound ∈ lw_tbl := (List.mem_of_getElem? (i := 93) (by decide +kernel))
noncomputable def qp_Md_mayRound : JP := (jb_sq (jb_sq (jb_sq (jb_if (jn (jx_run [(4, 0, 0), (2, 1, 0), (2, 2, 0), (2, 3, 0)]) (jx_cv 4 11 q_Md_mayTurn)) 0 36 10) 10 (jb_sq (jb_if (jn (jx_run [(4, 0, 0), (2, 1, 0), (2, 3, 0), (2, 4, 0)]) (jx_cv 4 11 q_Md_mayTurn)) 0 36 21) 21 (jb_sq (jb_if (jn (jx_run [(4, 0, 0), (2, 1, 0), (2, 2, 0), (2, 4, 0)]) (jx_cv 4 11 q_Md_mayTurn)) 0 36 32) 32 (jb_go (jx_run [(0, 0, 1)]) 37)))) 36 (jb_go (jx_run [(0, 0, 0)]) 37)) 37 (jb_sq (jb_sq (jb_sq (jb_if (jx_run [(5, 5, 0), (2, 5, 0)]) 0 90 44) 44 (jb_sq (jb_if (jn (jx_run [(4, 0, 0), (42, 11, 23), (2, 1, 0), (0, 0, 11), (10, 0, 0), (2, 2, 0), (10, 0, 0), (50, 0, 0), (0, 0, 2), (10, 0, 0), (4, 0, 0), (2, 2, 0)]) (jx_cv 2 11 q_Md_limitOf)) 10 90 65) 65 (jb_sq (jb_if (jn (jx_run [(4, 0, 0), (42, 11, 23), (2, 1, 0), (0, 0, 11), (10, 0, 0), (2, 3, 0), (10, 0, 0), (50, 0, 0), (0, 0, 2), (10, 0, 0), (4, 0, 0), (2, 3, 0)]) (jx_cv 2 11 q_Md_limitOf)) 10 90 86) 86 (jb_go (jx_run [(0, 0, 1)]) 91)))) 90 (jb_go (jx_run [(0, 0, 0)]) 91)) 91 (jb_sq (jb_sq (jb_sq (jb_if (jx_run [(5, 5, 0), (2, 5, 0)]) 0 125 98) 98 (jb_sq (jb_if (jn (jx_run [(4, 0, 0), (42, 11, 23), (2, 1, 0), (0, 0, 11), (10, 0, 0), (2, 4, 0), (10, 0, 0), (50, 0, 0), (0, 0, 2), (10, 0, 0), (4, 0, 0), (2, 4, 0)]) (jx_cv 2 11 q_Md_limitOf)) 10 125 121) 121 (jb_go (jx_run [(0, 0, 1)]) 126))) 125 (jb_go (jx_run [(0, 0, 0)]) 126)) 126 (jb_rt (jx_run []) 4))))
noncomputable def q_Md_mayRound : JF := jf_of qp_Md_mayRound 6
set_option maxRecDepth 20000 in
theorem fr_Md_mayRound (G : JG) : JFr G 11 false c_Md_mayRound 3 6 (some .boolean) 0 qp_Md_mayRound := (jfr_sq (jfr_sq (jfr_sq (jfr_if (j := 7) (jsl_n (j := 4) (jsl_run (by decide +kernel)) (jsl_cv (ix := 321) mt_Md_mayTurn in_Md_mayTurn sl_Md_mayTurn rfl (by decide) (se_Md_mayTurn _) (by decide) (List.mem_of_getElem? (i := 1763) (by decide +kernel)) (by decide +kernel))) (by decide +kernel) (by decide)) (jfr_sq (jfr_if (j := 18) (jsl_n (j := 15) (jsl_run (by decide +kernel)) (jsl_cv (ix := 321) mt_Md_mayTurn in_Md_mayTurn sl_Md_mayTurn rfl (by decide) (se_Md_mayTurn _) (by decide) (List.mem_of_getElem? (i := 1763) (by decide +kernel)) (by decide +kernel))) (by decide +kernel) (by decide)) (jfr_sq (jfr_if (j := 29) (jsl_n (j := 26) (jsl_run (by decide +kernel)) (jsl_cv (ix := 321) mt_Md_mayTurn in_Md_mayTurn sl_Md_mayTurn rfl (by decide) (se_Md_mayTurn _) (by decide) (List.mem_of_getElem? (i := 1763) (by decide +kernel)) (by decide +kernel))) (by decide +kernel) (by decide)) (jfr_go (j := 33) (jsl_run (by decide +kernel)) (by decide +kernel) (by decide)) (by decide)) (by decide)) (by decide)) (jfr_go (j := 37) (jsl_run (by decide +kernel)) (by decide +kernel) (by decide)) (by decide)) (jfr_sq (jfr_sq (jfr_sq (jfr_if (j := 41) (jsl_run (by decide +kernel)) (by decide +kernel) (by decide)) (jfr_sq (jfr_if (j := 62) (jsl_n (j := 59) (jsl_run (by decide +kernel)) (jsl_cv (ix := 299) mt_Md_limitOf in_Md_limitOf sl_Md_limitOf rfl (by decide) (se_Md_limitOf _) (by decide) (List.mem_of_getElem? (i := 1767) (by decide +kernel)) (by decide +kernel))) (by decide +kernel) (by decide)) (jfr_sq (jfr_if (j := 83) (jsl_n (j := 80) (jsl_run (by decide +kernel)) (jsl_cv (ix := 299) mt_Md_limitOf in_Md_limitOf sl_Md_limitOf rfl (by decide) (se_Md_limitOf _) (by decide) (List.mem_of_getElem? (i := 1767) (by decide +kernel)) (by decide +kernel))) (by decide +kernel) (by decide)) (jfr_go (j := 87) (jsl_run (by decide +kernel)) (by decide +kernel) (by decide)) (by decide)) (by decide)) (by decide)) (jfr_go (j := 91) (jsl_run (by decide +kernel)) (by decide +kernel) (by decide)) (by decide)) (jfr_sq (jfr_sq (jfr_sq (jfr_if (j := 95) (jsl_run (by decide +kernel)) (by decide +kernel) (by decide)) (jfr_sq (jfr_if (j := 118) (jsl_n (j := 115) (jsl_run (by decide +kernel)) (jsl_cv (ix := 299) mt_Md_limitOf in_Md_limitOf sl_Md_limitOf rfl (by decide) (se_Md_limitOf _) (by decide) (List.mem_of_getElem? (i := 1767) (by decide +kernel)) (by decide +kernel))) (by decide +kernel) (by decide)) (jfr_go (j := 122) (jsl_run (by decide +kernel)) (by decide +kernel) (by decide)) (by decide)) (by decide)) (jfr_go (j := 126) (jsl_run (by decide +kernel)) (by decide +kernel) (by decide)) (by decide)) (jfr_rt (j := 126) (jsl_run (by decide +kernel)) (by decide +kernel)) (by decide)) (by decide)) (by decide))
theorem se_Md_mayRound (G : JG) : JSem G y_Md_mayRound c_Md_mayRound 6 (some .boolean) 3 q_Md_mayRound := jsem_of (by decide +kernel) rfl (by intro h; cases h) (fr_Md_mayRound G)
def y_Md_mayFetch : MethodName := ⟨"CellarTurnsModel", "mayFetch", "(II)Z"⟩
abbrev c_Md_mayFetch : ByteArray := prog_15_method_61_code
theorem mt_Md_mayFetch : JMt y_Md_mayFetch c_Md_mayFetch 3 (some .boolean) 2 := ⟨(List.mem_of_getElem? (i := 1829) (by decide +kernel)), (List.mem_of_getElem? (i := 133) (by decide +kernel)), ⟨by decide +kernel, by decide +kernel⟩, by decide +kernel, by decide⟩
theorem in_Md_mayFetch : Cond.instanceMethod y_Md_mayFetch ∈ lw_tbl := (List.mem_of_getElem? (i := 1828) (by decide +kernel))
theorem sl_Md_mayFetch : Cond.selects y_Md_mayFetch.cls y_Md_mayFetch y_Md_mayFetch ∈ lw_tbl := (List.mem_of_getElem? (i := 95) (by decide +kernel))
noncomputable def qp_Md_mayFetch : JP := (jb_sq (jb_sq (jb_sq (jb_if (jn (jx_run [(4, 0, 0), (2, 2, 0), (0, 0, 1)]) (jn (jx_cv 3 11 q_Md_bodyOf) (jx_run [(0, 0, 1)]))) 7 23 10) 10 (jb_sq (jb_if (jn (jx_run [(4, 0, 0), (2, 1, 0), (2, 2, 0)]) (jx_cv 3 11 q_Md_isThere)) 1 23 19) 19 (jb_go (jx_run [(0, 0, 1)]) 24))) 23 (jb_go (jx_run [(0, 0, 0)]) 24)) 24 (jb_rt (jx_run []) 4))
noncomputable def q_Md_mayFetch : JF := jf_of qp_Md_mayFetch 3
set_option maxRecDepth 20000 in
theorem fr_Md_mayFetch (G : JG) : JFr G 11 false c_Md_mayFetch 1 3 (some .boolean) 0 qp_Md_mayFetch := (jfr_sq (jfr_sq (jfr_sq (jfr_if (j := 7) (jsl_n (j := 3) (jsl_run (by decide +kernel)) (jsl_n (j := 6) (jsl_cv (ix := 282) mt_Md_bodyOf in_Md_bodyOf sl_Md_bodyOf rfl (by decide) (se_Md_bodyOf _) (by decide) (List.mem_of_getElem? (i := 1464) (by decide +kernel)) (by decide +kernel)) (jsl_run (by decide +kernel)))) (by decide +kernel) (by decide)) (jfr_sq (jfr_if (j := 16) (jsl_n (j := 13) (jsl_run (by decide +kernel)) (jsl_cv (ix := 295) mt_Md_isThere in_Md_isThere sl_Md_isThere rfl (by decide) (se_Md_isThere _) (by decide) (List.mem_of_getElem? (i := 1751) (by decide +kernel)) (by decide +kernel))) (by decide +kernel) (by decide)) (jfr_go (j := 20) (jsl_run (by decide +kernel)) (by decide +kernel) (by decide)) (by decide)) (by decide)) (jfr_go (j := 24) (jsl_run (by decide +kernel)) (by decide +kernel) (by decide)) (by decide)) (jfr_rt (j := 24) (jsl_run (by decide +kernel)) (by decide +kernel)) (by decide))
theorem se_Md_mayFetch (G : JG) : JSem G y_Md_mayFetch c_Md_mayFetch 3 (some .boolean) 1 q_Md_mayFetch := jsem_of (by decide +kernel) rfl (by intro h; cases h) (fr_Md_mayFetch G)
def y_Md_rounds : MethodName := ⟨"CellarTurnsModel", "rounds", "(IIII)V"⟩
abbrev c_Md_rounds : ByteArray := prog_15_method_60_code
theorem mt_Md_rounds : JMt y_Md_rounds c_Md_rounds 7 none 4 := ⟨(List.mem_of_getElem? (i := 1821) (by decide +kernel)), (List.mem_of_getElem? (i := 133) (by decide +kernel)), ⟨by decide +kernel, by decide +kernel⟩, by decide +kernel, by decide⟩
theorem in_Md_rounds : Cond.instanceMethod y_Md_rounds ∈ lw_tbl := (List.mem_of_getElem? (i := 1820) (by decide +kernel))
theorem sl_Md_rounds : Cond.selects y_Md_rounds.cls y_Md_rounds y_Md_rounds ∈ lw_tbl := (List.mem_of_getElem? (i := 94) (by decide +kernel))
noncomputable def qp_Md_rounds : JP := (jb_rt (jn (jx_run [(4, 0, 0), (42, 11, 23), (2, 1, 0), (0, 0, 3), (10, 0, 0), (2, 4, 0), (10, 0, 0), (50, 0, 0), (5, 5, 0), (4, 0, 0), (42, 11, 23), (2, 1, 0), (0, 0, 3), (10, 0, 0), (2, 4, 0), (10, 0, 0), (4, 0, 0), (42, 11, 23), (2, 1, 0), (0, 0, 3), (10, 0, 0), (2, 3, 0), (10, 0, 0), (50, 0, 0), (55, 0, 0), (4, 0, 0), (42, 11, 23), (2, 1, 0), (0, 0, 3), (10, 0, 0), (2, 3, 0), (10, 0, 0), (4, 0, 0), (42, 11, 23), (2, 1, 0), (0, 0, 3), (10, 0, 0), (2, 2, 0), (10, 0, 0), (50, 0, 0), (55, 0, 0), (4, 0, 0), (42, 11, 23), (2, 1, 0), (0, 0, 3), (10, 0, 0), (2, 2, 0), (10, 0, 0), (2, 5, 0), (55, 0, 0), (4, 0, 0), (2, 1, 0), (4, 0, 0), (42, 11, 23), (2, 1, 0), (0, 0, 2), (10, 0, 0), (50, 0, 0)]) (jn (jx_cv 3 11 q_Md_costNow) (jn (jx_run [(5, 6, 0), (4, 0, 0), (2, 1, 0), (2, 2, 0), (2, 3, 0), (0, 0, 1)]) (jn (jx_cv 5 11 q_Md_meets) (jn (jx_run [(4, 0, 0), (2, 1, 0), (2, 3, 0), (2, 4, 0), (0, 0, 1)]) (jn (jx_cv 5 11 q_Md_meets) (jn (jx_run [(4, 0, 0), (2, 1, 0), (2, 2, 0), (2, 4, 0), (0, 0, 1)]) (jn (jx_cv 5 11 q_Md_meets) (jx_run [(4, 0, 0), (42, 11, 23), (2, 1, 0), (0, 0, 0), (10, 0, 0), (72, 0, 0), (50, 0, 0), (0, 0, 1), (10, 0, 0), (55, 0, 0), (4, 0, 0), (42, 11, 23), (2, 1, 0), (0, 0, 1), (10, 0, 0), (72, 0, 0), (50, 0, 0), (2, 6, 0), (10, 0, 0), (55, 0, 0)]))))))))) 0)
noncomputable def q_Md_rounds : JF := jf_of qp_Md_rounds 7
set_option maxRecDepth 20000 in
theorem fr_Md_rounds (G : JG) : JFr G 11 false c_Md_rounds 4 7 none 0 qp_Md_rounds := (jfr_rt (j := 132) (jsl_n (j := 76) (jsl_run (by decide +kernel)) (jsl_n (j := 79) (jsl_cv (ix := 314) mt_Md_costNow in_Md_costNow sl_Md_costNow rfl (by decide) (se_Md_costNow _) (by decide) (List.mem_of_getElem? (i := 1791) (by decide +kernel)) (by decide +kernel)) (jsl_n (j := 86) (jsl_run (by decide +kernel)) (jsl_n (j := 89) (jsl_cv (ix := 317) mt_Md_meets in_Md_meets sl_Md_meets rfl (by decide) (se_Md_meets _) (by decide) (List.mem_of_getElem? (i := 1806) (by decide +kernel)) (by decide +kernel)) (jsl_n (j := 95) (jsl_run (by decide +kernel)) (jsl_n (j := 98) (jsl_cv (ix := 317) mt_Md_meets in_Md_meets sl_Md_meets rfl (by decide) (se_Md_meets _) (by decide) (List.mem_of_getElem? (i := 1806) (by decide +kernel)) (by decide +kernel)) (jsl_n (j := 104) (jsl_run (by decide +kernel)) (jsl_n (j := 107) (jsl_cv (ix := 317) mt_Md_meets in_Md_meets sl_Md_meets rfl (by decide) (se_Md_meets _) (by decide) (List.mem_of_getElem? (i := 1806) (by decide +kernel)) (by decide +kernel)) (jsl_run (by decide +kernel)))))))))) (by decide +kernel))
theorem se_Md_rounds (G : JG) : JSem G y_Md_rounds c_Md_rounds 7 none 4 q_Md_rounds := jsem_of (by decide +kernel) rfl (by intro h; cases h) (fr_Md_rounds G)
def y_Md_fetches : MethodName := ⟨"CellarTurnsModel", "fetches", "(II)V"⟩
abbrev c_Md_fetches : ByteArray := prog_15_method_62_code
theorem mt_Md_fetches : JMt y_Md_fetches c_Md_fetches 3 none 2 := ⟨(List.mem_of_getElem? (i := 1833) (by decide +kernel)), (List.mem_of_getElem? (i := 133) (by decide +kernel)), ⟨by decide +kernel, by decide +kernel⟩, by decide +kernel, by decide⟩
theorem in_Md_fetches : Cond.instanceMethod y_Md_fetches ∈ lw_tbl := (List.mem_of_getElem? (i := 1832) (by decide +kernel))
theorem sl_Md_fetches : Cond.selects y_Md_fetches.cls y_Md_fetches y_Md_fetches ∈ lw_tbl := (List.mem_of_getElem? (i := 96) (by decide +kernel))
noncomputable def qp_Md_fetches : JP := (jb_rt (jn (jx_run [(4, 0, 0), (42, 11, 23), (2, 1, 0), (0, 0, 19), (10, 0, 0), (2, 2, 0), (10, 0, 0), (0, 0, 1), (55, 0, 0), (4, 0, 0), (42, 11, 23), (2, 1, 0), (0, 0, 1), (10, 0, 0), (72, 0, 0), (50, 0, 0), (4, 0, 0), (2, 2, 0), (0, 0, 2)]) (jn (jx_cv 3 11 q_Md_bodyOf) (jx_run [(10, 0, 0), (55, 0, 0)]))) 0)
noncomputable def q_Md_fetches : JF := jf_of qp_Md_fetches 3
set_option maxRecDepth 20000 in
theorem fr_Md_fetches (G : JG) : JFr G 11 false c_Md_fetches 1 3 none 0 qp_Md_fetches := (jfr_rt (j := 29) (jsl_n (j := 24) (jsl_run (by decide +kernel)) (jsl_n (j := 27) (jsl_cv (ix := 282) mt_Md_bodyOf in_Md_bodyOf sl_Md_bodyOf rfl (by decide) (se_Md_bodyOf _) (by decide) (List.mem_of_getElem? (i := 1464) (by decide +kernel)) (by decide +kernel)) (jsl_run (by decide +kernel)))) (by decide +kernel))
theorem se_Md_fetches (G : JG) : JSem G y_Md_fetches c_Md_fetches 3 none 1 q_Md_fetches := jsem_of (by decide +kernel) rfl (by intro h; cases h) (fr_Md_fetches G)
def y_Md_does : MethodName := ⟨"CellarTurnsModel", "does", "(IIII)Z"⟩
abbrev c_Md_does : ByteArray := prog_15_method_70_code
theorem mt_Md_does : JMt y_Md_does c_Md_does 6 (some .boolean) 4 := ⟨(List.mem_of_getElem? (i := 1845) (by decide +kernel)), (List.mem_of_getElem? (i := 133) (by decide +kernel)), ⟨by decide +kernel, by decide +kernel⟩, by decide +kernel, by decide⟩
theorem in_Md_does : Cond.instanceMethod y_Md_does ∈ lw_tbl := (List.mem_of_getElem? (i := 1844) (by decide +kernel))
theorem sl_Md_does : Cond.selects y_Md_does.cls y_Md_does y_Md_does ∈ lw_tbl := (List.mem_of_getElem? (i := 97) (by decide +kernel))
noncomputable def qp_Md_does : JP := (jb_sq (jb_sq (jb_sq (jb_if (jx_run [(2, 1, 0)]) 1 16 4) 4 (jb_go (jn (jx_run [(4, 0, 0), (0, 0, 2268), (2, 2, 0), (2, 3, 0)]) (jx_cv 4 11 q_Md_mayTurn)) 43)) 16 (jb_sq (jb_sq (jb_if (jx_run [(2, 1, 0), (0, 0, 1)]) 7 35 21) 21 (jb_go (jn (jx_run [(4, 0, 0), (0, 0, 2268), (2, 2, 0), (2, 3, 0), (2, 4, 0)]) (jx_cv 5 11 q_Md_mayRound)) 43)) 35 (jb_go (jn (jx_run [(4, 0, 0), (0, 0, 2268), (2, 2, 0)]) (jx_cv 3 11 q_Md_mayFetch)) 43))) 43 (jb_sq (jb_sq (jb_sq (jb_if (jx_run [(5, 5, 0), (2, 5, 0)]) 0 67 50) 50 (jb_sq (jb_if (jx_run [(2, 1, 0)]) 1 67 54) 54 (jb_go (jn (jx_run [(4, 0, 0), (0, 0, 2268), (2, 2, 0), (2, 3, 0)]) (jn (jx_cv 4 11 q_Md_turns) (jx_run [(71, 0, 0)]))) 104))) 67 (jb_sq (jb_sq (jb_if (jx_run [(2, 5, 0)]) 0 91 72) 72 (jb_sq (jb_if (jx_run [(2, 1, 0), (0, 0, 1)]) 7 91 77) 77 (jb_go (jn (jx_run [(4, 0, 0), (0, 0, 2268), (2, 2, 0), (2, 3, 0), (2, 4, 0)]) (jx_cv 5 11 q_Md_rounds)) 104))) 91 (jb_sq (jb_if (jx_run [(2, 5, 0)]) 0 104 96) 96 (jb_go (jn (jx_run [(4, 0, 0), (0, 0, 2268), (2, 2, 0)]) (jx_cv 3 11 q_Md_fetches)) 104)))) 104 (jb_rt (jx_run [(2, 5, 0)]) 4)))
noncomputable def q_Md_does : JF := jf_of qp_Md_does 6
set_option maxRecDepth 20000 in
theorem fr_Md_does (G : JG) : JFr G 11 false c_Md_does 5 6 (some .boolean) 0 qp_Md_does := (jfr_sq (jfr_sq (jfr_sq (jfr_if (j := 1) (jsl_run (by decide +kernel)) (by decide +kernel) (by decide)) (jfr_go (j := 13) (jsl_n (j := 10) (jsl_run (by decide +kernel)) (jsl_cv (ix := 321) mt_Md_mayTurn in_Md_mayTurn sl_Md_mayTurn rfl (by decide) (se_Md_mayTurn _) (by decide) (List.mem_of_getElem? (i := 1763) (by decide +kernel)) (by decide +kernel))) (by decide +kernel) (by decide)) (by decide)) (jfr_sq (jfr_sq (jfr_if (j := 18) (jsl_run (by decide +kernel)) (by decide +kernel) (by decide)) (jfr_go (j := 32) (jsl_n (j := 29) (jsl_run (by decide +kernel)) (jsl_cv (ix := 337) mt_Md_mayRound in_Md_mayRound sl_Md_mayRound rfl (by decide) (se_Md_mayRound _) (by decide) (List.mem_of_getElem? (i := 1814) (by decide +kernel)) (by decide +kernel))) (by decide +kernel) (by decide)) (by decide)) (jfr_go (j := 43) (jsl_n (j := 40) (jsl_run (by decide +kernel)) (jsl_cv (ix := 344) mt_Md_mayFetch in_Md_mayFetch sl_Md_mayFetch rfl (by decide) (se_Md_mayFetch _) (by decide) (List.mem_of_getElem? (i := 1826) (by decide +kernel)) (by decide +kernel))) (by decide +kernel) (by decide)) (by decide)) (by decide)) (jfr_sq (jfr_sq (jfr_sq (jfr_if (j := 47) (jsl_run (by decide +kernel)) (by decide +kernel) (by decide)) (jfr_sq (jfr_if (j := 51) (jsl_run (by decide +kernel)) (by decide +kernel) (by decide)) (jfr_go (j := 64) (jsl_n (j := 60) (jsl_run (by decide +kernel)) (jsl_n (j := 63) (jsl_cv (ix := 334) mt_Md_turns in_Md_turns sl_Md_turns rfl (by decide) (se_Md_turns _) (by decide) (List.mem_of_getElem? (i := 1783) (by decide +kernel)) (by decide +kernel)) (jsl_run (by decide +kernel)))) (by decide +kernel) (by decide)) (by decide)) (by decide)) (jfr_sq (jfr_sq (jfr_if (j := 69) (jsl_run (by decide +kernel)) (by decide +kernel) (by decide)) (jfr_sq (jfr_if (j := 74) (jsl_run (by decide +kernel)) (by decide +kernel) (by decide)) (jfr_go (j := 88) (jsl_n (j := 85) (jsl_run (by decide +kernel)) (jsl_cv (ix := 341) mt_Md_rounds in_Md_rounds sl_Md_rounds rfl (by decide) (se_Md_rounds _) (by decide) (List.mem_of_getElem? (i := 1818) (by decide +kernel)) (by decide +kernel))) (by decide +kernel) (by decide)) (by decide)) (by decide)) (jfr_sq (jfr_if (j := 93) (jsl_run (by decide +kernel)) (by decide +kernel) (by decide)) (jfr_go (j := 104) (jsl_n (j := 101) (jsl_run (by decide +kernel)) (jsl_cv (ix := 347) mt_Md_fetches in_Md_fetches sl_Md_fetches rfl (by decide) (se_Md_fetches _) (by decide) (List.mem_of_getElem? (i := 1830) (by decide +kernel)) (by decide +kernel))) (by decide +kernel) (by decide)) (by decide)) (by decide)) (by decide)) (jfr_rt (j := 106) (jsl_run (by decide +kernel)) (by decide +kernel)) (by decide)) (by decide))
theorem se_Md_does (G : JG) : JSem G y_Md_does c_Md_does 6 (some .boolean) 5 q_Md_does := jsem_of (by decide +kernel) rfl (by intro h; cases h) (fr_Md_does G)
def y_Md_draw : MethodName := ⟨"CellarTurnsModel", "draw", "(I)I"⟩
abbrev c_Md_draw : ByteArray := prog_15_method_104_code
theorem mt_Md_draw : JMt y_Md_draw c_Md_draw 2 (some .int) 1 := ⟨(List.mem_of_getElem? (i := 1987) (by decide +kernel)), (List.mem_of_getElem? (i := 133) (by decide +kernel)), ⟨by decide +kernel, by decide +kernel⟩, by decide +kernel, by decide⟩
theorem in_Md_draw : Cond.instanceMethod y_Md_draw ∈ lw_tbl := (List.mem_of_getElem? (i := 1986) (by decide +kernel))
theorem sl_Md_draw : Cond.selects y_Md_draw.cls y_Md_draw y_Md_draw ∈ lw_tbl := (List.mem_of_getElem? (i := 113) (by decide +kernel))
noncomputable def qp_Md_draw : JP := (jb_rt (jx_run [(4, 0, 0), (4, 0, 0), (41, 11, 44), (1, 0, 1103515245), (24, 0, 0), (1, 0, 12345), (22, 0, 0), (1, 0, 2147483648), (26, 0, 0), (44, 11, 44), (4, 0, 0), (41, 11, 44), (1, 0, 65536), (25, 0, 0), (2, 1, 0), (34, 0, 0), (26, 0, 0), (35, 0, 0)]) 1)
noncomputable def q_Md_draw : JF := jf_of qp_Md_draw 2
set_option maxRecDepth 20000 in
theorem fr_Md_draw (G : JG) : JFr G 11 false c_Md_draw 0 2 (some .int) 0 qp_Md_draw := (jfr_rt (j := 32) (jsl_run (by decide +kernel)) (by decide +kernel))
theorem se_Md_draw (G : JG) : JSem G y_Md_draw c_Md_draw 2 (some .int) 0 q_Md_draw := jsem_of (by decide +kernel) rfl (by intro h; cases h) (fr_Md_draw G)
def y_Md_findRings : MethodName := ⟨"CellarTurnsModel", "findRings", "()V"⟩
abbrev c_Md_findRings : ByteArray := prog_15_method_73_code
theorem mt_Md_findRings : JMt y_Md_findRings c_Md_findRings 6 none 0 := ⟨(List.mem_of_getElem? (i := 1853) (by decide +kernel)), (List.mem_of_getElem? (i := 133) (by decide +kernel)), ⟨by decide +kernel, by decide +kernel⟩, by decide +kernel, by decide⟩
theorem in_Md_findRings : Cond.instanceMethod y_Md_findRings ∈ lw_tbl := (List.mem_of_getElem? (i := 1852) (by decide +kernel))
theorem sl_Md_findRings : Cond.selects y_Md_findRings.cls y_Md_findRings y_Md_findRings ∈ lw_tbl := (List.mem_of_getElem? (i := 98) (by decide +kernel))
noncomputable def qp_Md_findRings : JP := (jb_sq (jb_go (jx_run [(4, 0, 0), (0, 0, 0), (43, 11, 28), (4, 0, 0), (0, 0, 0), (43, 11, 29), (4, 0, 0), (0, 0, 0), (43, 11, 30), (4, 0, 0), (0, 0, 0), (43, 11, 31), (0, 0, 0), (5, 1, 0), (0, 0, 0), (5, 2, 0)]) 24) 24 (jb_sq (jb_lp 24 (jb_sq (jb_if (jn (jx_run [(2, 2, 0), (4, 0, 0)]) (jx_cv 1 11 q_Md_bodies)) 9 227 32) 32 (jb_sq (jb_sq (jb_if (jx_run [(2, 1, 0), (2, 2, 0), (20, 0, 0), (0, 0, 1), (16, 0, 0)]) 1 221 40) 40 (jb_sq (jb_if (jn (jx_run [(4, 0, 0), (0, 0, 0), (2, 2, 0)]) (jx_cv 3 11 q_Md_isThere)) 0 221 49) 49 (jb_sq (jb_if (jx_run [(4, 0, 0), (42, 11, 23), (0, 0, 3), (2, 2, 0), (10, 0, 0), (50, 0, 0), (2, 2, 0)]) 6 221 61) 61 (jb_sq (jb_go (jx_run [(0, 0, 0), (5, 3, 0), (2, 2, 0), (5, 4, 0)]) 66) 66 (jb_sq (jb_lp 66 (jb_sq (jb_if (jx_run [(2, 1, 0), (2, 4, 0), (20, 0, 0), (0, 0, 1), (16, 0, 0)]) 1 107 75) 75 (jb_go (jx_run [(2, 1, 0), (0, 0, 1), (2, 4, 0), (19, 0, 0), (17, 0, 0), (5, 1, 0), (4, 0, 0), (42, 11, 32), (2, 3, 0), (2, 4, 0), (55, 0, 0), (8, 3, 1), (4, 0, 0), (42, 11, 23), (0, 0, 3), (2, 4, 0), (10, 0, 0), (50, 0, 0), (5, 4, 0)]) 66))) 107 (jb_sq (jb_go (jx_run [(0, 0, 0), (5, 5, 0)]) 110) 110 (jb_sq (jb_lp 110 (jb_sq (jb_if (jx_run [(2, 5, 0), (2, 3, 0), (0, 0, 1), (11, 0, 0)]) 9 137 118) 118 (jb_go (jn (jx_run [(4, 0, 0), (0, 0, 8), (4, 0, 0), (42, 11, 32), (2, 5, 0), (50, 0, 0)]) (jn (jx_cv 3 11 q_Md_adds) (jx_run [(8, 5, 1)]))) 110))) 137 (jb_sq (jb_sq (jb_sq (jb_if (jn (jx_run [(4, 0, 0), (0, 0, 9), (4, 0, 0), (42, 11, 32), (2, 3, 0), (0, 0, 1), (11, 0, 0), (50, 0, 0)]) (jn (jx_cv 3 11 q_Md_adds) (jn (jx_run [(4, 0, 0), (0, 0, 8), (4, 0, 0), (42, 11, 32), (2, 3, 0), (0, 0, 1), (11, 0, 0), (50, 0, 0)]) (jn (jx_cv 3 11 q_Md_adds) (jn (jx_run [(4, 0, 0), (0, 0, 9), (4, 0, 0), (42, 11, 32), (0, 0, 0), (50, 0, 0)]) (jn (jx_cv 3 11 q_Md_adds) (jx_run [(4, 0, 0), (70, 0, 0), (40, 11, 29), (0, 0, 1), (10, 0, 0), (43, 11, 29), (4, 0, 0), (2, 3, 0), (4, 0, 0), (40, 11, 30)]))))))) 11 200 196) 196 (jb_go (jx_run [(2, 3, 0)]) 204)) 200 (jb_go (jx_run [(4, 0, 0), (40, 11, 30)]) 204)) 204 (jb_go (jx_run [(43, 11, 30), (4, 0, 0), (4, 0, 0), (40, 11, 31), (2, 3, 0), (10, 0, 0), (0, 0, 1), (11, 0, 0), (0, 0, 2), (14, 0, 0), (43, 11, 31)]) 221))))))))) 221 (jb_go (jx_run [(8, 2, 1)]) 24)))) 227 (jb_sq (jb_sq (jb_if (jx_run [(4, 0, 0), (40, 11, 29), (0, 0, 2), (14, 0, 0), (0, 0, 1)]) 7 245 237) 237 (jb_go (jn (jx_run [(4, 0, 0), (0, 0, 8), (0, 0, 9)]) (jx_cv 3 11 q_Md_adds)) 245)) 245 (jb_rt (jx_run []) 0))))
noncomputable def q_Md_findRings : JF := jf_of qp_Md_findRings 6
set_option maxRecDepth 20000 in
theorem fr_Md_findRings (G : JG) : JFr G 11 false c_Md_findRings 1 6 none 0 qp_Md_findRings := (jfr_sq (jfr_go (j := 24) (jsl_run (by decide +kernel)) (by decide +kernel) (by decide)) (jfr_sq (jfr_lp (jfr_sq (jfr_if (j := 29) (jsl_n (j := 26) (jsl_run (by decide +kernel)) (jsl_cv (ix := 279) mt_Md_bodies in_Md_bodies sl_Md_bodies rfl (by decide) (se_Md_bodies _) (by decide) (List.mem_of_getElem? (i := 1460) (by decide +kernel)) (by decide +kernel))) (by decide +kernel) (by decide)) (jfr_sq (jfr_sq (jfr_if (j := 37) (jsl_run (by decide +kernel)) (by decide +kernel) (by decide)) (jfr_sq (jfr_if (j := 46) (jsl_n (j := 43) (jsl_run (by decide +kernel)) (jsl_cv (ix := 295) mt_Md_isThere in_Md_isThere sl_Md_isThere rfl (by decide) (se_Md_isThere _) (by decide) (List.mem_of_getElem? (i := 1751) (by decide +kernel)) (by decide +kernel))) (by decide +kernel) (by decide)) (jfr_sq (jfr_if (j := 58) (jsl_run (by decide +kernel)) (by decide +kernel) (by decide)) (jfr_sq (jfr_go (j := 66) (jsl_run (by decide +kernel)) (by decide +kernel) (by decide)) (jfr_sq (jfr_lp (jfr_sq (jfr_if (j := 72) (jsl_run (by decide +kernel)) (by decide +kernel) (by decide)) (jfr_go (j := 104) (jsl_run (by decide +kernel)) (by decide +kernel) (by decide)) (by decide)) (by decide)) (jfr_sq (jfr_go (j := 110) (jsl_run (by decide +kernel)) (by decide +kernel) (by decide)) (jfr_sq (jfr_lp (jfr_sq (jfr_if (j := 115) (jsl_run (by decide +kernel)) (by decide +kernel) (by decide)) (jfr_go (j := 134) (jsl_n (j := 128) (jsl_run (by decide +kernel)) (jsl_n (j := 131) (jsl_cv (ix := 365) mt_Md_adds in_Md_adds sl_Md_adds rfl (by decide) (se_Md_adds _) (by decide) (List.mem_of_getElem? (i := 1854) (by decide +kernel)) (by decide +kernel)) (jsl_run (by decide +kernel)))) (by decide +kernel) (by decide)) (by decide)) (by decide)) (jfr_sq (jfr_sq (jfr_sq (jfr_if (j := 193) (jsl_n (j := 148) (jsl_run (by decide +kernel)) (jsl_n (j := 151) (jsl_cv (ix := 365) mt_Md_adds in_Md_adds sl_Md_adds rfl (by decide) (se_Md_adds _) (by decide) (List.mem_of_getElem? (i := 1854) (by decide +kernel)) (by decide +kernel)) (jsl_n (j := 162) (jsl_run (by decide +kernel)) (jsl_n (j := 165) (jsl_cv (ix := 365) mt_Md_adds in_Md_adds sl_Md_adds rfl (by decide) (se_Md_adds _) (by decide) (List.mem_of_getElem? (i := 1854) (by decide +kernel)) (by decide +kernel)) (jsl_n (j := 174) (jsl_run (by decide +kernel)) (jsl_n (j := 177) (jsl_cv (ix := 365) mt_Md_adds in_Md_adds sl_Md_adds rfl (by decide) (se_Md_adds _) (by decide) (List.mem_of_getElem? (i := 1854) (by decide +kernel)) (by decide +kernel)) (jsl_run (by decide +kernel)))))))) (by decide +kernel) (by decide)) (jfr_go (j := 197) (jsl_run (by decide +kernel)) (by decide +kernel) (by decide)) (by decide)) (jfr_go (j := 204) (jsl_run (by decide +kernel)) (by decide +kernel) (by decide)) (by decide)) (jfr_go (j := 221) (jsl_run (by decide +kernel)) (by decide +kernel) (by decide)) (by decide)) (by decide)) (by decide)) (by decide)) (by decide)) (by decide)) (by decide)) (by decide)) (jfr_go (j := 224) (jsl_run (by decide +kernel)) (by decide +kernel) (by decide)) (by decide)) (by decide)) (by decide)) (jfr_sq (jfr_sq (jfr_if (j := 234) (jsl_run (by decide +kernel)) (by decide +kernel) (by decide)) (jfr_go (j := 245) (jsl_n (j := 242) (jsl_run (by decide +kernel)) (jsl_cv (ix := 365) mt_Md_adds in_Md_adds sl_Md_adds rfl (by decide) (se_Md_adds _) (by decide) (List.mem_of_getElem? (i := 1854) (by decide +kernel)) (by decide +kernel))) (by decide +kernel) (by decide)) (by decide)) (jfr_rt (j := 245) (jsl_run (by decide +kernel)) (by decide +kernel)) (by decide)) (by decide)) (by decide))
theorem se_Md_findRings (G : JG) : JSem G y_Md_findRings c_Md_findRings 6 none 1 q_Md_findRings := jsem_of (by decide +kernel) rfl (by intro h; cases h) (fr_Md_findRings G)
def y_Md_enough : MethodName := ⟨"CellarTurnsModel", "enough", "(I)I"⟩
abbrev c_Md_enough : ByteArray := prog_15_method_77_code
theorem mt_Md_enough : JMt y_Md_enough c_Md_enough 2 (some .int) 1 := ⟨(List.mem_of_getElem? (i := 1869) (by decide +kernel)), (List.mem_of_getElem? (i := 133) (by decide +kernel)), ⟨by decide +kernel, by decide +kernel⟩, by decide +kernel, by decide⟩
theorem in_Md_enough : Cond.instanceMethod y_Md_enough ∈ lw_tbl := (List.mem_of_getElem? (i := 1867) (by decide +kernel))
theorem sl_Md_enough : Cond.selects y_Md_enough.cls y_Md_enough y_Md_enough ∈ lw_tbl := (List.mem_of_getElem? (i := 1868) (by decide +kernel))
noncomputable def qp_Md_enough : JP := (jb_sq (jb_sq (jb_if (jn (jx_run [(4, 0, 0), (0, 0, 0), (43, 11, 0), (4, 0, 0)]) (jn (jx_cv 1 11 q_Md_findRings) (jn (jx_run [(2, 1, 0), (0, 0, -1), (4, 0, 0), (40, 11, 28), (0, 0, 1), (11, 0, 0)]) (jx_cs 3 q_Md_within)))) 1 26 23) 23 (jb_rt (jx_run [(0, 0, -2)]) 1)) 26 (jb_sq (jb_sq (jb_sq (jb_if (jx_run [(2, 1, 0)]) 3 37 30) 30 (jb_go (jx_run [(4, 0, 0), (40, 11, 28)]) 53)) 37 (jb_go (jx_run [(0, 0, 10), (4, 0, 0), (42, 11, 26), (2, 1, 0), (50, 0, 0), (12, 0, 0), (4, 0, 0), (42, 11, 27), (2, 1, 0), (50, 0, 0), (10, 0, 0)]) 53)) 53 (jb_rt (jx_run []) 1)))
noncomputable def q_Md_enough : JF := jf_of qp_Md_enough 2
set_option maxRecDepth 20000 in
theorem fr_Md_enough (G : JG) : JFr G 11 false c_Md_enough 2 2 (some .int) 0 qp_Md_enough := (jfr_sq (jfr_sq (jfr_if (j := 20) (jsl_n (j := 6) (jsl_run (by decide +kernel)) (jsl_n (j := 9) (jsl_cv (ix := 368) mt_Md_findRings in_Md_findRings sl_Md_findRings rfl (by decide) (se_Md_findRings _) (by decide) (List.mem_of_getElem? (i := 1850) (by decide +kernel)) (by decide +kernel)) (jsl_n (j := 17) (jsl_run (by decide +kernel)) (jsl_cs (ix := 328) mt_Md_within st_Md_within (se_Md_within _) (by decide) (List.mem_of_getElem? (i := 1744) (by decide +kernel)) (by decide +kernel))))) (by decide +kernel) (by decide)) (jfr_rt (j := 25) (jsl_run (by decide +kernel)) (by decide +kernel)) (by decide)) (jfr_sq (jfr_sq (jfr_sq (jfr_if (j := 27) (jsl_run (by decide +kernel)) (by decide +kernel) (by decide)) (jfr_go (j := 34) (jsl_run (by decide +kernel)) (by decide +kernel) (by decide)) (by decide)) (jfr_go (j := 53) (jsl_run (by decide +kernel)) (by decide +kernel) (by decide)) (by decide)) (jfr_rt (j := 53) (jsl_run (by decide +kernel)) (by decide +kernel)) (by decide)) (by decide))
theorem se_Md_enough (G : JG) : JSem G y_Md_enough c_Md_enough 2 (some .int) 2 q_Md_enough := jsem_of (by decide +kernel) rfl (by intro h; cases h) (fr_Md_enough G)
def y_Md_readEvening : MethodName := ⟨"CellarTurnsModel", "readEvening", "(II)V"⟩
abbrev c_Md_readEvening : ByteArray := prog_15_method_33_code
theorem mt_Md_readEvening : JMt y_Md_readEvening c_Md_readEvening 6 none 2 := ⟨(List.mem_of_getElem? (i := 1731) (by decide +kernel)), (List.mem_of_getElem? (i := 133) (by decide +kernel)), ⟨by decide +kernel, by decide +kernel⟩, by decide +kernel, by decide⟩
theorem in_Md_readEvening : Cond.instanceMethod y_Md_readEvening ∈ lw_tbl := (List.mem_of_getElem? (i := 1730) (by decide +kernel))
theorem sl_Md_readEvening : Cond.selects y_Md_readEvening.cls y_Md_readEvening y_Md_readEvening ∈ lw_tbl := (List.mem_of_getElem? (i := 78) (by decide +kernel))
noncomputable def qp_Md_readEvening : JP := (jb_sq (jb_go (jx_run [(0, 0, 0), (5, 3, 0)]) 2) 2 (jb_lp 2 (jb_sq (jb_sq (jb_sq (jb_if (jx_run [(2, 3, 0), (2, 1, 0)]) 1 11 7) 7 (jb_go (jx_run [(0, 0, 2)]) 21)) 11 (jb_sq (jb_sq (jb_if (jx_run [(2, 1, 0), (0, 0, 1)]) 7 20 16) 16 (jb_go (jx_run [(0, 0, 3)]) 21)) 20 (jb_go (jx_run [(0, 0, 1)]) 21))) 21 (jb_sq (jb_sq (jb_if (jx_run []) 9 130 24) 24 (jb_sq (jb_sq (jb_sq (jb_if (jx_run [(4, 0, 0), (2, 1, 0), (0, 0, 2)]) 7 34 30) 30 (jb_go (jx_run [(0, 0, 1)]) 35)) 34 (jb_go (jx_run [(0, 0, 0)]) 35)) 35 (jb_sq (jb_sq (jb_sq (jb_sq (jb_if (jn (jx_cv 2 11 q_Md_bodyHere) (jx_run [(5, 4, 0), (2, 3, 0)])) 5 55 44) 44 (jb_if (jx_run [(4, 0, 0), (42, 11, 20), (2, 2, 0), (50, 0, 0), (2, 4, 0)]) 6 73 55)) 55 (jb_sq (jb_sq (jb_if (jx_run [(2, 3, 0), (0, 0, 1)]) 11 77 60) 60 (jb_if (jx_run [(4, 0, 0), (42, 11, 20), (2, 2, 0), (0, 0, 1), (10, 0, 0), (50, 0, 0), (2, 4, 0)]) 7 77 73)) 77 (jb_go (jx_run [(0, 0, 0)]) 78))) 73 (jb_go (jx_run [(0, 0, 1)]) 78)) 78 (jb_sq (jb_sq (jb_if (jx_run [(5, 5, 0), (4, 0, 0), (40, 11, 8)]) 1 97 87) 87 (jb_sq (jb_if (jx_run [(2, 5, 0)]) 0 97 92) 92 (jb_go (jn (jx_run [(4, 0, 0), (0, 0, 3)]) (jx_cv 2 11 q_Md_wrong)) 97))) 97 (jb_sq (jb_sq (jb_if (jx_run [(4, 0, 0), (40, 11, 8)]) 1 124 104) 104 (jb_go (jx_run [(4, 0, 0), (42, 11, 20), (2, 2, 0), (2, 3, 0), (10, 0, 0), (2, 4, 0), (55, 0, 0), (4, 0, 0), (70, 0, 0), (40, 11, 7), (0, 0, 1), (10, 0, 0), (43, 11, 7)]) 124)) 124 (jb_go (jx_run [(8, 3, 1)]) 2)))))) 130 (jb_rt (jx_run []) 0)))))
noncomputable def q_Md_readEvening : JF := jf_of qp_Md_readEvening 6
set_option maxRecDepth 20000 in
theorem fr_Md_readEvening (G : JG) : JFr G 11 false c_Md_readEvening 4 6 none 0 qp_Md_readEvening := (jfr_sq (jfr_go (j := 2) (jsl_run (by decide +kernel)) (by decide +kernel) (by decide)) (jfr_lp (jfr_sq (jfr_sq (jfr_sq (jfr_if (j := 4) (jsl_run (by decide +kernel)) (by decide +kernel) (by decide)) (jfr_go (j := 8) (jsl_run (by decide +kernel)) (by decide +kernel) (by decide)) (by decide)) (jfr_sq (jfr_sq (jfr_if (j := 13) (jsl_run (by decide +kernel)) (by decide +kernel) (by decide)) (jfr_go (j := 17) (jsl_run (by decide +kernel)) (by decide +kernel) (by decide)) (by decide)) (jfr_go (j := 21) (jsl_run (by decide +kernel)) (by decide +kernel) (by decide)) (by decide)) (by decide)) (jfr_sq (jfr_sq (jfr_if (j := 21) (jsl_run (by decide +kernel)) (by decide +kernel) (by decide)) (jfr_sq (jfr_sq (jfr_sq (jfr_if (j := 27) (jsl_run (by decide +kernel)) (by decide +kernel) (by decide)) (jfr_go (j := 31) (jsl_run (by decide +kernel)) (by decide +kernel) (by decide)) (by decide)) (jfr_go (j := 35) (jsl_run (by decide +kernel)) (by decide +kernel) (by decide)) (by decide)) (jfr_sq (jfr_sq (jfr_sq (jfr_sq (jfr_if (j := 41) (jsl_n (j := 38) (jsl_cv (ix := 257) mt_Md_bodyHere in_Md_bodyHere sl_Md_bodyHere rfl (by decide) (se_Md_bodyHere _) (by decide) (List.mem_of_getElem? (i := 1732) (by decide +kernel)) (by decide +kernel)) (jsl_run (by decide +kernel))) (by decide +kernel) (by decide)) (jfr_if (j := 52) (jsl_run (by decide +kernel)) (by decide +kernel) (by decide)) (by decide)) (jfr_sq (jfr_sq (jfr_if (j := 57) (jsl_run (by decide +kernel)) (by decide +kernel) (by decide)) (jfr_if (j := 70) (jsl_run (by decide +kernel)) (by decide +kernel) (by decide)) (by decide)) (jfr_go (j := 78) (jsl_run (by decide +kernel)) (by decide +kernel) (by decide)) (by decide)) (by decide)) (jfr_go (j := 74) (jsl_run (by decide +kernel)) (by decide +kernel) (by decide)) (by decide)) (jfr_sq (jfr_sq (jfr_if (j := 84) (jsl_run (by decide +kernel)) (by decide +kernel) (by decide)) (jfr_sq (jfr_if (j := 89) (jsl_run (by decide +kernel)) (by decide +kernel) (by decide)) (jfr_go (j := 97) (jsl_n (j := 94) (jsl_run (by decide +kernel)) (jsl_cv (ix := 176) mt_Md_wrong in_Md_wrong sl_Md_wrong rfl (by decide) (se_Md_wrong _) (by decide) (List.mem_of_getElem? (i := 1640) (by decide +kernel)) (by decide +kernel))) (by decide +kernel) (by decide)) (by decide)) (by decide)) (jfr_sq (jfr_sq (jfr_if (j := 101) (jsl_run (by decide +kernel)) (by decide +kernel) (by decide)) (jfr_go (j := 124) (jsl_run (by decide +kernel)) (by decide +kernel) (by decide)) (by decide)) (jfr_go (j := 127) (jsl_run (by decide +kernel)) (by decide +kernel) (by decide)) (by decide)) (by decide)) (by decide)) (by decide)) (by decide)) (jfr_rt (j := 130) (jsl_run (by decide +kernel)) (by decide +kernel)) (by decide)) (by decide)) (by decide)) (by decide))
theorem se_Md_readEvening (G : JG) : JSem G y_Md_readEvening c_Md_readEvening 6 none 4 q_Md_readEvening := jsem_of (by decide +kernel) rfl (by intro h; cases h) (fr_Md_readEvening G)
def y_Md_evening : MethodName := ⟨"CellarTurnsModel", "evening", "()I"⟩
abbrev c_Md_evening : ByteArray := prog_15_method_32_code
theorem mt_Md_evening : JMt y_Md_evening c_Md_evening 3 (some .int) 0 := ⟨(List.mem_of_getElem? (i := 1727) (by decide +kernel)), (List.mem_of_getElem? (i := 133) (by decide +kernel)), ⟨by decide +kernel, by decide +kernel⟩, by decide +kernel, by decide⟩
theorem in_Md_evening : Cond.instanceMethod y_Md_evening ∈ lw_tbl := (List.mem_of_getElem? (i := 1725) (by decide +kernel))
theorem sl_Md_evening : Cond.selects y_Md_evening.cls y_Md_evening y_Md_evening ∈ lw_tbl := (List.mem_of_getElem? (i := 1726) (by decide +kernel))
noncomputable def qp_Md_evening : JP := (jb_sq (jb_go (jn (jx_run [(4, 0, 0), (0, 0, 0), (43, 11, 0), (4, 0, 0)]) (jn (jx_cv 1 11 q_Md_cutAll) (jx_run [(0, 0, 0), (5, 1, 0)]))) 11) 11 (jb_sq (jb_lp 11 (jb_sq (jb_if (jx_run [(4, 0, 0), (40, 11, 8)]) 1 109 18) 18 (jb_sq (jb_if (jx_run [(4, 0, 0), (42, 11, 4), (4, 0, 0), (40, 11, 7), (50, 0, 0)]) 0 109 30) 30 (jb_sq (jb_sq (jb_sq (jb_if (jn (jx_run [(4, 0, 0), (0, 0, 8), (0, 0, 3)]) (jn (jx_cv 3 11 q_Md_wordHere) (jx_run [(5, 2, 0), (2, 2, 0)]))) 3 50 42) 42 (jb_go (jn (jx_run [(4, 0, 0), (0, 0, 1)]) (jx_cv 2 11 q_Md_wrong)) 100)) 50 (jb_sq (jb_sq (jb_if (jx_run [(2, 1, 0), (0, 0, 30)]) 7 64 56) 56 (jb_go (jn (jx_run [(4, 0, 0), (0, 0, 5)]) (jx_cv 2 11 q_Md_wrong)) 100)) 64 (jb_go (jn (jx_run [(4, 0, 0), (70, 0, 0), (40, 11, 7), (0, 0, 1), (10, 0, 0), (43, 11, 7), (4, 0, 0), (42, 11, 20), (0, 0, 125), (0, 0, 4), (2, 1, 0), (12, 0, 0), (10, 0, 0), (2, 2, 0), (55, 0, 0), (4, 0, 0), (2, 2, 0), (0, 0, 126), (0, 0, 4), (2, 1, 0), (12, 0, 0), (10, 0, 0)]) (jn (jx_cv 3 11 q_Md_readEvening) (jx_run [(8, 1, 1)]))) 100))) 100 (jb_go (jn (jx_run [(4, 0, 0), (0, 0, 59)]) (jx_cv 2 11 q_Md_takeSign)) 11))))) 109 (jb_sq (jb_sq (jb_if (jx_run [(4, 0, 0), (40, 11, 8)]) 5 121 116) 116 (jb_rt (jx_run [(4, 0, 0), (40, 11, 8)]) 1)) 121 (jb_sq (jb_go (jx_run [(4, 0, 0), (42, 11, 20), (0, 0, 0), (2, 1, 0), (55, 0, 0), (0, 0, 0), (5, 2, 0)]) 130) 130 (jb_sq (jb_lp 130 (jb_sq (jb_if (jx_run [(2, 2, 0), (0, 0, 4), (2, 1, 0), (12, 0, 0)]) 9 160 137) 137 (jb_go (jx_run [(4, 0, 0), (42, 11, 20), (0, 0, 1), (2, 2, 0), (10, 0, 0), (4, 0, 0), (42, 11, 20), (0, 0, 125), (2, 2, 0), (10, 0, 0), (50, 0, 0), (55, 0, 0), (8, 2, 1)]) 130))) 160 (jb_rt (jx_run [(0, 0, 0)]) 1))))))
noncomputable def q_Md_evening : JF := jf_of qp_Md_evening 3
set_option maxRecDepth 20000 in
theorem fr_Md_evening (G : JG) : JFr G 11 false c_Md_evening 5 3 (some .int) 0 qp_Md_evening := (jfr_sq (jfr_go (j := 11) (jsl_n (j := 6) (jsl_run (by decide +kernel)) (jsl_n (j := 9) (jsl_cv (ix := 203) mt_Md_cutAll in_Md_cutAll sl_Md_cutAll rfl (by decide) (se_Md_cutAll _) (by decide) (List.mem_of_getElem? (i := 1609) (by decide +kernel)) (by decide +kernel)) (jsl_run (by decide +kernel)))) (by decide +kernel) (by decide)) (jfr_sq (jfr_lp (jfr_sq (jfr_if (j := 15) (jsl_run (by decide +kernel)) (by decide +kernel) (by decide)) (jfr_sq (jfr_if (j := 27) (jsl_run (by decide +kernel)) (by decide +kernel) (by decide)) (jfr_sq (jfr_sq (jfr_sq (jfr_if (j := 39) (jsl_n (j := 34) (jsl_run (by decide +kernel)) (jsl_n (j := 37) (jsl_cv (ix := 185) mt_Md_wordHere in_Md_wordHere sl_Md_wordHere rfl (by decide) (se_Md_wordHere _) (by decide) (List.mem_of_getElem? (i := 1648) (by decide +kernel)) (by decide +kernel)) (jsl_run (by decide +kernel)))) (by decide +kernel) (by decide)) (jfr_go (j := 47) (jsl_n (j := 44) (jsl_run (by decide +kernel)) (jsl_cv (ix := 176) mt_Md_wrong in_Md_wrong sl_Md_wrong rfl (by decide) (se_Md_wrong _) (by decide) (List.mem_of_getElem? (i := 1640) (by decide +kernel)) (by decide +kernel))) (by decide +kernel) (by decide)) (by decide)) (jfr_sq (jfr_sq (jfr_if (j := 53) (jsl_run (by decide +kernel)) (by decide +kernel) (by decide)) (jfr_go (j := 61) (jsl_n (j := 58) (jsl_run (by decide +kernel)) (jsl_cv (ix := 176) mt_Md_wrong in_Md_wrong sl_Md_wrong rfl (by decide) (se_Md_wrong _) (by decide) (List.mem_of_getElem? (i := 1640) (by decide +kernel)) (by decide +kernel))) (by decide +kernel) (by decide)) (by decide)) (jfr_go (j := 100) (jsl_n (j := 94) (jsl_run (by decide +kernel)) (jsl_n (j := 97) (jsl_cv (ix := 254) mt_Md_readEvening in_Md_readEvening sl_Md_readEvening rfl (by decide) (se_Md_readEvening _) (by decide) (List.mem_of_getElem? (i := 1728) (by decide +kernel)) (by decide +kernel)) (jsl_run (by decide +kernel)))) (by decide +kernel) (by decide)) (by decide)) (by decide)) (jfr_go (j := 106) (jsl_n (j := 103) (jsl_run (by decide +kernel)) (jsl_cv (ix := 218) mt_Md_takeSign in_Md_takeSign sl_Md_takeSign rfl (by decide) (se_Md_takeSign _) (by decide) (List.mem_of_getElem? (i := 1720) (by decide +kernel)) (by decide +kernel))) (by decide +kernel) (by decide)) (by decide)) (by decide)) (by decide)) (by decide)) (jfr_sq (jfr_sq (jfr_if (j := 113) (jsl_run (by decide +kernel)) (by decide +kernel) (by decide)) (jfr_rt (j := 120) (jsl_run (by decide +kernel)) (by decide +kernel)) (by decide)) (jfr_sq (jfr_go (j := 130) (jsl_run (by decide +kernel)) (by decide +kernel) (by decide)) (jfr_sq (jfr_lp (jfr_sq (jfr_if (j := 134) (jsl_run (by decide +kernel)) (by decide +kernel) (by decide)) (jfr_go (j := 157) (jsl_run (by decide +kernel)) (by decide +kernel) (by decide)) (by decide)) (by decide)) (jfr_rt (j := 161) (jsl_run (by decide +kernel)) (by decide +kernel)) (by decide)) (by decide)) (by decide)) (by decide)) (by decide))
theorem se_Md_evening (G : JG) : JSem G y_Md_evening c_Md_evening 3 (some .int) 5 q_Md_evening := jsem_of (by decide +kernel) rfl (by intro h; cases h) (fr_Md_evening G)
def y_Md_turnsBy : MethodName := ⟨"CellarTurnsModel", "turnsBy", "(I)I"⟩
abbrev c_Md_turnsBy : ByteArray := prog_15_method_105_code
theorem mt_Md_turnsBy : JMt y_Md_turnsBy c_Md_turnsBy 5 (some .int) 1 := ⟨(List.mem_of_getElem? (i := 1995) (by decide +kernel)), (List.mem_of_getElem? (i := 133) (by decide +kernel)), ⟨by decide +kernel, by decide +kernel⟩, by decide +kernel, by decide⟩
theorem in_Md_turnsBy : Cond.instanceMethod y_Md_turnsBy ∈ lw_tbl := (List.mem_of_getElem? (i := 1994) (by decide +kernel))
theorem sl_Md_turnsBy : Cond.selects y_Md_turnsBy.cls y_Md_turnsBy y_Md_turnsBy ∈ lw_tbl := (List.mem_of_getElem? (i := 114) (by decide +kernel))
noncomputable def qp_Md_turnsBy : JP := (jb_sq (jb_go (jx_run [(2, 1, 0), (5, 2, 0), (0, 0, 0), (5, 3, 0)]) 4) 4 (jb_sq (jb_lp 4 (jb_sq (jb_if (jn (jx_run [(2, 3, 0), (4, 0, 0)]) (jx_cv 1 11 q_Md_bodies)) 9 69 12) 12 (jb_sq (jb_go (jx_run [(2, 3, 0), (0, 0, 1), (10, 0, 0), (5, 4, 0)]) 17) 17 (jb_sq (jb_lp 17 (jb_sq (jb_if (jn (jx_run [(2, 4, 0), (4, 0, 0)]) (jx_cv 1 11 q_Md_bodies)) 9 63 26) 26 (jb_sq (jb_sq (jb_if (jn (jx_run [(4, 0, 0), (0, 0, 2376), (2, 3, 0), (2, 4, 0)]) (jx_cv 4 11 q_Md_mayTurn)) 0 57 39) 39 (jb_sq (jb_sq (jb_if (jx_run [(2, 2, 0)]) 1 54 43) 43 (jb_rt (jn (jx_run [(4, 0, 0), (0, 0, 2376), (2, 3, 0), (2, 4, 0)]) (jx_cv 4 11 q_Md_turns)) 1)) 54 (jb_go (jx_run [(8, 2, -1)]) 57))) 57 (jb_go (jx_run [(8, 4, 1)]) 17)))) 63 (jb_go (jx_run [(8, 3, 1)]) 4))))) 69 (jb_rt (jx_run [(0, 0, 0)]) 1)))
noncomputable def q_Md_turnsBy : JF := jf_of qp_Md_turnsBy 5
set_option maxRecDepth 20000 in
theorem fr_Md_turnsBy (G : JG) : JFr G 11 false c_Md_turnsBy 5 5 (some .int) 0 qp_Md_turnsBy := (jfr_sq (jfr_go (j := 4) (jsl_run (by decide +kernel)) (by decide +kernel) (by decide)) (jfr_sq (jfr_lp (jfr_sq (jfr_if (j := 9) (jsl_n (j := 6) (jsl_run (by decide +kernel)) (jsl_cv (ix := 279) mt_Md_bodies in_Md_bodies sl_Md_bodies rfl (by decide) (se_Md_bodies _) (by decide) (List.mem_of_getElem? (i := 1460) (by decide +kernel)) (by decide +kernel))) (by decide +kernel) (by decide)) (jfr_sq (jfr_go (j := 17) (jsl_run (by decide +kernel)) (by decide +kernel) (by decide)) (jfr_sq (jfr_lp (jfr_sq (jfr_if (j := 23) (jsl_n (j := 20) (jsl_run (by decide +kernel)) (jsl_cv (ix := 279) mt_Md_bodies in_Md_bodies sl_Md_bodies rfl (by decide) (se_Md_bodies _) (by decide) (List.mem_of_getElem? (i := 1460) (by decide +kernel)) (by decide +kernel))) (by decide +kernel) (by decide)) (jfr_sq (jfr_sq (jfr_if (j := 36) (jsl_n (j := 33) (jsl_run (by decide +kernel)) (jsl_cv (ix := 321) mt_Md_mayTurn in_Md_mayTurn sl_Md_mayTurn rfl (by decide) (se_Md_mayTurn _) (by decide) (List.mem_of_getElem? (i := 1763) (by decide +kernel)) (by decide +kernel))) (by decide +kernel) (by decide)) (jfr_sq (jfr_sq (jfr_if (j := 40) (jsl_run (by decide +kernel)) (by decide +kernel) (by decide)) (jfr_rt (j := 53) (jsl_n (j := 50) (jsl_run (by decide +kernel)) (jsl_cv (ix := 334) mt_Md_turns in_Md_turns sl_Md_turns rfl (by decide) (se_Md_turns _) (by decide) (List.mem_of_getElem? (i := 1783) (by decide +kernel)) (by decide +kernel))) (by decide +kernel)) (by decide)) (jfr_go (j := 57) (jsl_run (by decide +kernel)) (by decide +kernel) (by decide)) (by decide)) (by decide)) (jfr_go (j := 60) (jsl_run (by decide +kernel)) (by decide +kernel) (by decide)) (by decide)) (by decide)) (by decide)) (jfr_go (j := 66) (jsl_run (by decide +kernel)) (by decide +kernel) (by decide)) (by decide)) (by decide)) (by decide)) (by decide)) (jfr_rt (j := 70) (jsl_run (by decide +kernel)) (by decide +kernel)) (by decide)) (by decide))
theorem se_Md_turnsBy (G : JG) : JSem G y_Md_turnsBy c_Md_turnsBy 5 (some .int) 5 q_Md_turnsBy := jsem_of (by decide +kernel) rfl (by intro h; cases h) (fr_Md_turnsBy G)
def y_Md_evenings : MethodName := ⟨"CellarTurnsModel", "evenings", "(III)I"⟩
abbrev c_Md_evenings : ByteArray := prog_15_method_106_code
theorem mt_Md_evenings : JMt y_Md_evenings c_Md_evenings 10 (some .int) 3 := ⟨(List.mem_of_getElem? (i := 1983) (by decide +kernel)), (List.mem_of_getElem? (i := 133) (by decide +kernel)), ⟨by decide +kernel, by decide +kernel⟩, by decide +kernel, by decide⟩
theorem in_Md_evenings : Cond.instanceMethod y_Md_evenings ∈ lw_tbl := (List.mem_of_getElem? (i := 1981) (by decide +kernel))
theorem sl_Md_evenings : Cond.selects y_Md_evenings.cls y_Md_evenings y_Md_evenings ∈ lw_tbl := (List.mem_of_getElem? (i := 1982) (by decide +kernel))
noncomputable def qp_Md_evenings : JP := (jb_sq (jb_sq (jb_if (jn (jx_run [(4, 0, 0), (0, 0, 0), (43, 11, 0), (2, 1, 0), (0, 0, 0), (0, 0, 9999)]) (jx_cs 3 q_Md_within)) 0 35 16) 16 (jb_sq (jb_if (jn (jx_run [(2, 2, 0), (0, 0, 1), (0, 0, 50)]) (jx_cs 3 q_Md_within)) 0 35 26) 26 (jb_sq (jb_if (jn (jx_run [(2, 3, 0), (0, 0, 0), (0, 0, 2)]) (jx_cs 3 q_Md_within)) 1 37 35) 37 (jb_sq (jb_go (jx_run [(4, 0, 0), (2, 1, 0), (34, 0, 0), (44, 11, 44), (0, 0, 0), (5, 4, 0), (0, 0, 0), (5, 5, 0), (0, 0, 0), (5, 6, 0), (0, 0, 0), (5, 7, 0)]) 55) 55 (jb_sq (jb_lp 55 (jb_sq (jb_if (jx_run [(2, 7, 0), (2, 2, 0)]) 9 158 61) 61 (jb_sq (jb_go (jn (jx_run [(4, 0, 0), (0, 0, 0), (0, 0, 2376), (0, 0, 91)]) (jn (jx_cv 4 11 q_Md_copies) (jx_run [(0, 0, 0), (5, 8, 0)]))) 74) 74 (jb_sq (jb_lp 74 (jb_sq (jb_if (jx_run [(2, 8, 0), (0, 0, 6)]) 9 120 81) 81 (jb_sq (jb_sq (jb_sq (jb_if (jn (jx_run [(4, 0, 0), (0, 0, 2376)]) (jn (jx_cv 2 11 q_Md_pairsLeft) (jx_run [(5, 9, 0), (2, 6, 0), (2, 9, 0)]))) 5 110 97) 97 (jb_go (jn (jx_run [(4, 0, 0), (4, 0, 0), (2, 9, 0)]) (jn (jx_cv 2 11 q_Md_draw) (jx_cv 2 11 q_Md_turnsBy))) 111)) 110 (jb_go (jx_run [(0, 0, 0)]) 111)) 111 (jb_go (jx_run [(10, 0, 0), (5, 6, 0), (8, 8, 1)]) 74)))) 120 (jb_sq (jb_sq (jb_sq (jb_if (jn (jx_run [(2, 4, 0), (4, 0, 0), (0, 0, 2376)]) (jn (jx_cv 2 11 q_Md_wrongs) (jn (jx_run [(10, 0, 0), (5, 4, 0), (2, 5, 0), (4, 0, 0), (0, 0, 2376)]) (jx_cv 2 11 q_Md_wrongs)))) 1 148 144) 144 (jb_go (jx_run [(0, 0, 1)]) 149)) 148 (jb_go (jx_run [(0, 0, 0)]) 149)) 149 (jb_go (jx_run [(10, 0, 0), (5, 5, 0), (8, 7, 1)]) 55)))))) 158 (jb_sq (jb_sq (jb_sq (jb_if (jx_run [(2, 3, 0)]) 1 167 162) 162 (jb_go (jx_run [(2, 4, 0)]) 179)) 167 (jb_sq (jb_sq (jb_if (jx_run [(2, 3, 0), (0, 0, 1)]) 7 177 172) 172 (jb_go (jx_run [(2, 5, 0)]) 179)) 177 (jb_go (jx_run [(2, 6, 0)]) 179))) 179 (jb_rt (jx_run []) 1))))))) 35 (jb_rt (jx_run [(0, 0, -1)]) 1))
noncomputable def q_Md_evenings : JF := jf_of qp_Md_evenings 10
set_option maxRecDepth 20000 in
theorem fr_Md_evenings (G : JG) : JFr G 11 false c_Md_evenings 6 10 (some .int) 0 qp_Md_evenings := (jfr_sq (jfr_sq (jfr_if (j := 13) (jsl_n (j := 10) (jsl_run (by decide +kernel)) (jsl_cs (ix := 328) mt_Md_within st_Md_within (se_Md_within _) (by decide) (List.mem_of_getElem? (i := 1744) (by decide +kernel)) (by decide +kernel))) (by decide +kernel) (by decide)) (jfr_sq (jfr_if (j := 23) (jsl_n (j := 20) (jsl_run (by decide +kernel)) (jsl_cs (ix := 328) mt_Md_within st_Md_within (se_Md_within _) (by decide) (List.mem_of_getElem? (i := 1744) (by decide +kernel)) (by decide +kernel))) (by decide +kernel) (by decide)) (jfr_sq (jfr_if (j := 32) (jsl_n (j := 29) (jsl_run (by decide +kernel)) (jsl_cs (ix := 328) mt_Md_within st_Md_within (se_Md_within _) (by decide) (List.mem_of_getElem? (i := 1744) (by decide +kernel)) (by decide +kernel))) (by decide +kernel) (by decide)) (jfr_sq (jfr_go (j := 55) (jsl_run (by decide +kernel)) (by decide +kernel) (by decide)) (jfr_sq (jfr_lp (jfr_sq (jfr_if (j := 58) (jsl_run (by decide +kernel)) (by decide +kernel) (by decide)) (jfr_sq (jfr_go (j := 74) (jsl_n (j := 68) (jsl_run (by decide +kernel)) (jsl_n (j := 71) (jsl_cv (ix := 291) mt_Md_copies in_Md_copies sl_Md_copies rfl (by decide) (se_Md_copies _) (by decide) (List.mem_of_getElem? (i := 1779) (by decide +kernel)) (by decide +kernel)) (jsl_run (by decide +kernel)))) (by decide +kernel) (by decide)) (jfr_sq (jfr_lp (jfr_sq (jfr_if (j := 78) (jsl_run (by decide +kernel)) (by decide +kernel) (by decide)) (jfr_sq (jfr_sq (jfr_sq (jfr_if (j := 94) (jsl_n (j := 85) (jsl_run (by decide +kernel)) (jsl_n (j := 88) (jsl_cv (ix := 371) mt_Md_pairsLeft in_Md_pairsLeft sl_Md_pairsLeft rfl (by decide) (se_Md_pairsLeft _) (by decide) (List.mem_of_getElem? (i := 1862) (by decide +kernel)) (by decide +kernel)) (jsl_run (by decide +kernel)))) (by decide +kernel) (by decide)) (jfr_go (j := 107) (jsl_n (j := 101) (jsl_run (by decide +kernel)) (jsl_n (j := 104) (jsl_cv (ix := 440) mt_Md_draw in_Md_draw sl_Md_draw rfl (by decide) (se_Md_draw _) (by decide) (List.mem_of_getElem? (i := 1984) (by decide +kernel)) (by decide +kernel)) (jsl_cv (ix := 443) mt_Md_turnsBy in_Md_turnsBy sl_Md_turnsBy rfl (by decide) (se_Md_turnsBy _) (by decide) (List.mem_of_getElem? (i := 1992) (by decide +kernel)) (by decide +kernel)))) (by decide +kernel) (by decide)) (by decide)) (jfr_go (j := 111) (jsl_run (by decide +kernel)) (by decide +kernel) (by decide)) (by decide)) (jfr_go (j := 117) (jsl_run (by decide +kernel)) (by decide +kernel) (by decide)) (by decide)) (by decide)) (by decide)) (jfr_sq (jfr_sq (jfr_sq (jfr_if (j := 141) (jsl_n (j := 126) (jsl_run (by decide +kernel)) (jsl_n (j := 129) (jsl_cv (ix := 305) mt_Md_wrongs in_Md_wrongs sl_Md_wrongs rfl (by decide) (se_Md_wrongs _) (by decide) (List.mem_of_getElem? (i := 1795) (by decide +kernel)) (by decide +kernel)) (jsl_n (j := 138) (jsl_run (by decide +kernel)) (jsl_cv (ix := 305) mt_Md_wrongs in_Md_wrongs sl_Md_wrongs rfl (by decide) (se_Md_wrongs _) (by decide) (List.mem_of_getElem? (i := 1795) (by decide +kernel)) (by decide +kernel))))) (by decide +kernel) (by decide)) (jfr_go (j := 145) (jsl_run (by decide +kernel)) (by decide +kernel) (by decide)) (by decide)) (jfr_go (j := 149) (jsl_run (by decide +kernel)) (by decide +kernel) (by decide)) (by decide)) (jfr_go (j := 155) (jsl_run (by decide +kernel)) (by decide +kernel) (by decide)) (by decide)) (by decide)) (by decide)) (by decide)) (by decide)) (jfr_sq (jfr_sq (jfr_sq (jfr_if (j := 159) (jsl_run (by decide +kernel)) (by decide +kernel) (by decide)) (jfr_go (j := 164) (jsl_run (by decide +kernel)) (by decide +kernel) (by decide)) (by decide)) (jfr_sq (jfr_sq (jfr_if (j := 169) (jsl_run (by decide +kernel)) (by decide +kernel) (by decide)) (jfr_go (j := 174) (jsl_run (by decide +kernel)) (by decide +kernel) (by decide)) (by decide)) (jfr_go (j := 179) (jsl_run (by decide +kernel)) (by decide +kernel) (by decide)) (by decide)) (by decide)) (jfr_rt (j := 179) (jsl_run (by decide +kernel)) (by decide +kernel)) (by decide)) (by decide)) (by decide)) (by decide)) (by decide)) (by decide)) (jfr_rt (j := 36) (jsl_run (by decide +kernel)) (by decide +kernel)) (by decide))
theorem se_Md_evenings (G : JG) : JSem G y_Md_evenings c_Md_evenings 10 (some .int) 6 q_Md_evenings := jsem_of (by decide +kernel) rfl (by intro h; cases h) (fr_Md_evenings G)
def y_Md_lay : MethodName := ⟨"CellarTurnsModel", "lay", "(J)V"⟩
abbrev c_Md_lay : ByteArray := prog_15_method_3_code
theorem mt_Md_lay : JMt y_Md_lay c_Md_lay 5 none 1 := ⟨(List.mem_of_getElem? (i := 1421) (by decide +kernel)), (List.mem_of_getElem? (i := 133) (by decide +kernel)), ⟨by decide +kernel, by decide +kernel⟩, by decide +kernel, by decide⟩
theorem in_Md_lay : Cond.instanceMethod y_Md_lay ∈ lw_tbl := (List.mem_of_getElem? (i := 1419) (by decide +kernel))
theorem sl_Md_lay : Cond.selects y_Md_lay.cls y_Md_lay y_Md_lay ∈ lw_tbl := (List.mem_of_getElem? (i := 47) (by decide +kernel))
noncomputable def qp_Md_lay : JP := (jb_sq (jb_go (jx_run [(0, 0, 56), (5, 3, 0)]) 3) 3 (jb_sq (jb_lp 3 (jb_sq (jb_if (jx_run [(2, 3, 0)]) 2 75 7) 7 (jb_sq (jb_sq (jb_sq (jb_if (jx_run [(3, 1, 0), (2, 3, 0), (31, 0, 0), (35, 0, 0), (0, 0, 255), (16, 0, 0), (5, 4, 0), (2, 4, 0), (0, 0, 10)]) 6 38 24) 24 (jb_sq (jb_if (jx_run [(2, 4, 0), (0, 0, 32)]) 8 69 31) 31 (jb_if (jx_run [(2, 4, 0), (0, 0, 126)]) 10 69 38))) 38 (jb_sq (jb_if (jx_run [(4, 0, 0), (40, 11, 2), (0, 0, 1000)]) 9 69 48) 48 (jb_go (jx_run [(4, 0, 0), (42, 11, 1), (4, 0, 0), (40, 11, 2), (2, 4, 0), (55, 0, 0), (4, 0, 0), (70, 0, 0), (40, 11, 2), (0, 0, 1), (10, 0, 0), (43, 11, 2)]) 69))) 69 (jb_go (jx_run [(8, 3, -8)]) 3)))) 75 (jb_rt (jx_run []) 0)))
noncomputable def q_Md_lay : JF := jf_of qp_Md_lay 5
set_option maxRecDepth 20000 in
theorem fr_Md_lay (G : JG) : JFr G 11 false c_Md_lay 0 5 none 0 qp_Md_lay := (jfr_sq (jfr_go (j := 3) (jsl_run (by decide +kernel)) (by decide +kernel) (by decide)) (jfr_sq (jfr_lp (jfr_sq (jfr_if (j := 4) (jsl_run (by decide +kernel)) (by decide +kernel) (by decide)) (jfr_sq (jfr_sq (jfr_sq (jfr_if (j := 21) (jsl_run (by decide +kernel)) (by decide +kernel) (by decide)) (jfr_sq (jfr_if (j := 28) (jsl_run (by decide +kernel)) (by decide +kernel) (by decide)) (jfr_if (j := 35) (jsl_run (by decide +kernel)) (by decide +kernel) (by decide)) (by decide)) (by decide)) (jfr_sq (jfr_if (j := 45) (jsl_run (by decide +kernel)) (by decide +kernel) (by decide)) (jfr_go (j := 69) (jsl_run (by decide +kernel)) (by decide +kernel) (by decide)) (by decide)) (by decide)) (jfr_go (j := 72) (jsl_run (by decide +kernel)) (by decide +kernel) (by decide)) (by decide)) (by decide)) (by decide)) (jfr_rt (j := 75) (jsl_run (by decide +kernel)) (by decide +kernel)) (by decide)) (by decide))
theorem se_Md_lay (G : JG) : JSem G y_Md_lay c_Md_lay 5 none 0 q_Md_lay := jsem_of (by decide +kernel) rfl (by intro h; cases h) (fr_Md_lay G)
def y_Md_feed : MethodName := ⟨"CellarTurnsModel", "feed", "(JJJ)I"⟩
abbrev c_Md_feed : ByteArray := prog_15_method_2_code
theorem mt_Md_feed : JMt y_Md_feed c_Md_feed 7 (some .int) 3 := ⟨(List.mem_of_getElem? (i := 1416) (by decide +kernel)), (List.mem_of_getElem? (i := 133) (by decide +kernel)), ⟨by decide +kernel, by decide +kernel⟩, by decide +kernel, by decide⟩
theorem in_Md_feed : Cond.instanceMethod y_Md_feed ∈ lw_tbl := (List.mem_of_getElem? (i := 1414) (by decide +kernel))
theorem sl_Md_feed : Cond.selects y_Md_feed.cls y_Md_feed y_Md_feed ∈ lw_tbl := (List.mem_of_getElem? (i := 1415) (by decide +kernel))
noncomputable def qp_Md_feed : JP := (jb_rt (jn (jx_run [(4, 0, 0), (0, 0, 0), (43, 11, 0), (4, 0, 0), (3, 1, 0)]) (jn (jx_cv 2 11 q_Md_lay) (jn (jx_run [(4, 0, 0), (3, 3, 0)]) (jn (jx_cv 2 11 q_Md_lay) (jn (jx_run [(4, 0, 0), (3, 5, 0)]) (jn (jx_cv 2 11 q_Md_lay) (jx_run [(4, 0, 0), (40, 11, 2)]))))))) 1)
noncomputable def q_Md_feed : JF := jf_of qp_Md_feed 7
set_option maxRecDepth 20000 in
theorem fr_Md_feed (G : JG) : JFr G 11 false c_Md_feed 1 7 (some .int) 0 qp_Md_feed := (jfr_rt (j := 25) (jsl_n (j := 7) (jsl_run (by decide +kernel)) (jsl_n (j := 10) (jsl_cv (ix := 7) mt_Md_lay in_Md_lay sl_Md_lay rfl (by decide) (se_Md_lay _) (by decide) (List.mem_of_getElem? (i := 1417) (by decide +kernel)) (by decide +kernel)) (jsl_n (j := 12) (jsl_run (by decide +kernel)) (jsl_n (j := 15) (jsl_cv (ix := 7) mt_Md_lay in_Md_lay sl_Md_lay rfl (by decide) (se_Md_lay _) (by decide) (List.mem_of_getElem? (i := 1417) (by decide +kernel)) (by decide +kernel)) (jsl_n (j := 18) (jsl_run (by decide +kernel)) (jsl_n (j := 21) (jsl_cv (ix := 7) mt_Md_lay in_Md_lay sl_Md_lay rfl (by decide) (se_Md_lay _) (by decide) (List.mem_of_getElem? (i := 1417) (by decide +kernel)) (by decide +kernel)) (jsl_run (by decide +kernel)))))))) (by decide +kernel))
theorem se_Md_feed (G : JG) : JSem G y_Md_feed c_Md_feed 7 (some .int) 1 q_Md_feed := jsem_of (by decide +kernel) rfl (by intro h; cases h) (fr_Md_feed G)
def y_Md_keeps : MethodName := ⟨"CellarTurnsModel", "keeps", "()V"⟩
abbrev c_Md_keeps : ByteArray := prog_15_method_45_code
theorem mt_Md_keeps : JMt y_Md_keeps c_Md_keeps 2 none 0 := ⟨(List.mem_of_getElem? (i := 1778) (by decide +kernel)), (List.mem_of_getElem? (i := 133) (by decide +kernel)), ⟨by decide +kernel, by decide +kernel⟩, by decide +kernel, by decide⟩
theorem in_Md_keeps : Cond.instanceMethod y_Md_keeps ∈ lw_tbl := (List.mem_of_getElem? (i := 1777) (by decide +kernel))
theorem sl_Md_keeps : Cond.selects y_Md_keeps.cls y_Md_keeps y_Md_keeps ∈ lw_tbl := (List.mem_of_getElem? (i := 85) (by decide +kernel))
noncomputable def qp_Md_keeps : JP := (jb_sq (jb_sq (jb_if (jx_run [(4, 0, 0), (40, 11, 24), (0, 0, 16)]) 7 53 9) 9 (jb_sq (jb_go (jx_run [(0, 0, 1), (5, 1, 0)]) 11) 11 (jb_sq (jb_lp 11 (jb_sq (jb_if (jx_run [(2, 1, 0), (0, 0, 16)]) 9 43 17) 17 (jb_go (jn (jx_run [(4, 0, 0), (0, 0, 108), (0, 0, 5), (2, 1, 0), (10, 0, 0), (12, 0, 0), (0, 0, 108), (0, 0, 5), (2, 1, 0), (10, 0, 0), (0, 0, 1), (11, 0, 0), (12, 0, 0), (0, 0, 91)]) (jn (jx_cv 4 11 q_Md_copies) (jx_run [(8, 1, 1)]))) 11))) 43 (jb_go (jx_run [(4, 0, 0), (70, 0, 0), (40, 11, 24), (0, 0, 1), (11, 0, 0), (43, 11, 24)]) 53)))) 53 (jb_rt (jn (jx_run [(4, 0, 0), (0, 0, 0), (0, 0, 108), (0, 0, 5), (4, 0, 0), (40, 11, 24), (10, 0, 0), (12, 0, 0), (0, 0, 91)]) (jn (jx_cv 4 11 q_Md_copies) (jx_run [(4, 0, 0), (70, 0, 0), (40, 11, 24), (0, 0, 1), (10, 0, 0), (43, 11, 24)]))) 0))
noncomputable def q_Md_keeps : JF := jf_of qp_Md_keeps 2
set_option maxRecDepth 20000 in
theorem fr_Md_keeps (G : JG) : JFr G 11 false c_Md_keeps 1 2 none 0 qp_Md_keeps := (jfr_sq (jfr_sq (jfr_if (j := 6) (jsl_run (by decide +kernel)) (by decide +kernel) (by decide)) (jfr_sq (jfr_go (j := 11) (jsl_run (by decide +kernel)) (by decide +kernel) (by decide)) (jfr_sq (jfr_lp (jfr_sq (jfr_if (j := 14) (jsl_run (by decide +kernel)) (by decide +kernel) (by decide)) (jfr_go (j := 40) (jsl_n (j := 34) (jsl_run (by decide +kernel)) (jsl_n (j := 37) (jsl_cv (ix := 291) mt_Md_copies in_Md_copies sl_Md_copies rfl (by decide) (se_Md_copies _) (by decide) (List.mem_of_getElem? (i := 1779) (by decide +kernel)) (by decide +kernel)) (jsl_run (by decide +kernel)))) (by decide +kernel) (by decide)) (by decide)) (by decide)) (jfr_go (j := 53) (jsl_run (by decide +kernel)) (by decide +kernel) (by decide)) (by decide)) (by decide)) (by decide)) (jfr_rt (j := 79) (jsl_n (j := 66) (jsl_run (by decide +kernel)) (jsl_n (j := 69) (jsl_cv (ix := 291) mt_Md_copies in_Md_copies sl_Md_copies rfl (by decide) (se_Md_copies _) (by decide) (List.mem_of_getElem? (i := 1779) (by decide +kernel)) (by decide +kernel)) (jsl_run (by decide +kernel)))) (by decide +kernel)) (by decide))
theorem se_Md_keeps (G : JG) : JSem G y_Md_keeps c_Md_keeps 2 none 1 q_Md_keeps := jsem_of (by decide +kernel) rfl (by intro h; cases h) (fr_Md_keeps G)
def y_Md_fetch : MethodName := ⟨"CellarTurnsModel", "fetch", "(I)Z"⟩
abbrev c_Md_fetch : ByteArray := prog_15_method_68_code
theorem mt_Md_fetch : JMt y_Md_fetch c_Md_fetch 2 (some .boolean) 1 := ⟨(List.mem_of_getElem? (i := 1825) (by decide +kernel)), (List.mem_of_getElem? (i := 133) (by decide +kernel)), ⟨by decide +kernel, by decide +kernel⟩, by decide +kernel, by decide⟩
theorem in_Md_fetch : Cond.instanceMethod y_Md_fetch ∈ lw_tbl := (List.mem_of_getElem? (i := 1823) (by decide +kernel))
theorem sl_Md_fetch : Cond.selects y_Md_fetch.cls y_Md_fetch y_Md_fetch ∈ lw_tbl := (List.mem_of_getElem? (i := 1824) (by decide +kernel))
noncomputable def qp_Md_fetch : JP := (jb_sq (jb_sq (jb_if (jn (jx_run [(4, 0, 0), (0, 0, 0), (43, 11, 0), (4, 0, 0), (2, 1, 0)]) (jx_cv 2 11 q_Md_isBody)) 0 22 13) 13 (jb_sq (jb_if (jn (jx_run [(4, 0, 0), (0, 0, 0), (2, 1, 0)]) (jx_cv 3 11 q_Md_mayFetch)) 1 24 22) 24 (jb_rt (jn (jx_run [(4, 0, 0)]) (jn (jx_cv 1 11 q_Md_keeps) (jn (jx_run [(4, 0, 0), (0, 0, 0), (2, 1, 0)]) (jn (jx_cv 3 11 q_Md_fetches) (jx_run [(0, 0, 1)]))))) 4))) 22 (jb_rt (jx_run [(0, 0, 0)]) 4))
noncomputable def q_Md_fetch : JF := jf_of qp_Md_fetch 2
set_option maxRecDepth 20000 in
theorem fr_Md_fetch (G : JG) : JFr G 11 false c_Md_fetch 2 2 (some .boolean) 0 qp_Md_fetch := (jfr_sq (jfr_sq (jfr_if (j := 10) (jsl_n (j := 7) (jsl_run (by decide +kernel)) (jsl_cv (ix := 325) mt_Md_isBody in_Md_isBody sl_Md_isBody rfl (by decide) (se_Md_isBody _) (by decide) (List.mem_of_getElem? (i := 1740) (by decide +kernel)) (by decide +kernel))) (by decide +kernel) (by decide)) (jfr_sq (jfr_if (j := 19) (jsl_n (j := 16) (jsl_run (by decide +kernel)) (jsl_cv (ix := 344) mt_Md_mayFetch in_Md_mayFetch sl_Md_mayFetch rfl (by decide) (se_Md_mayFetch _) (by decide) (List.mem_of_getElem? (i := 1826) (by decide +kernel)) (by decide +kernel))) (by decide +kernel) (by decide)) (jfr_rt (j := 35) (jsl_n (j := 25) (jsl_run (by decide +kernel)) (jsl_n (j := 28) (jsl_cv (ix := 331) mt_Md_keeps in_Md_keeps sl_Md_keeps rfl (by decide) (se_Md_keeps _) (by decide) (List.mem_of_getElem? (i := 1775) (by decide +kernel)) (by decide +kernel)) (jsl_n (j := 31) (jsl_run (by decide +kernel)) (jsl_n (j := 34) (jsl_cv (ix := 347) mt_Md_fetches in_Md_fetches sl_Md_fetches rfl (by decide) (se_Md_fetches _) (by decide) (List.mem_of_getElem? (i := 1830) (by decide +kernel)) (by decide +kernel)) (jsl_run (by decide +kernel)))))) (by decide +kernel)) (by decide)) (by decide)) (jfr_rt (j := 23) (jsl_run (by decide +kernel)) (by decide +kernel)) (by decide))
theorem se_Md_fetch (G : JG) : JSem G y_Md_fetch c_Md_fetch 2 (some .boolean) 2 q_Md_fetch := jsem_of (by decide +kernel) rfl (by intro h; cases h) (fr_Md_fetch G)
def y_Md_undoes : MethodName := ⟨"CellarTurnsModel", "undoes", "(II)Z"⟩
abbrev c_Md_undoes : ByteArray := prog_15_method_85_code
theorem mt_Md_undoes : JMt y_Md_undoes c_Md_undoes 8 (some .boolean) 2 := ⟨(List.mem_of_getElem? (i := 1909) (by decide +kernel)), (List.mem_of_getElem? (i := 133) (by decide +kernel)), ⟨by decide +kernel, by decide +kernel⟩, by decide +kernel, by decide⟩
theorem in_Md_undoes : Cond.instanceMethod y_Md_undoes ∈ lw_tbl := (List.mem_of_getElem? (i := 1908) (by decide +kernel))
theorem sl_Md_undoes : Cond.selects y_Md_undoes.cls y_Md_undoes y_Md_undoes ∈ lw_tbl := (List.mem_of_getElem? (i := 104) (by decide +kernel))
noncomputable def qp_Md_undoes (Ψ : Nat → JF) : JP := (jb_sq (jb_sq (jb_if (jn (jx_run [(4, 0, 0), (0, 0, 2376)]) (jn (jx_cv 2 11 q_Md_wrongs) (jx_run [(5, 3, 0), (2, 2, 0)]))) 1 24 12) 12 (jb_sq (jb_if (jx_run [(2, 3, 0)]) 1 24 16) 16 (jb_rt (jn (jx_run [(4, 0, 0), (2, 1, 0), (0, 0, 0)]) (jn (jx_cv 3 11 q_Md_keepsRow) (jx_run [(0, 0, 1)]))) 4))) 24 (jb_sq (jb_sq (jb_if (jx_run [(2, 3, 0), (0, 0, 2), (2, 2, 0), (12, 0, 0)]) 11 33 31) 31 (jb_rt (jx_run [(0, 0, 0)]) 4)) 33 (jb_sq (jb_go (jx_run [(0, 0, 0), (5, 4, 0)]) 36) 36 (jb_sq (jb_lp 36 (jb_sq (jb_if (jn (jx_run [(2, 4, 0), (4, 0, 0)]) (jx_cv 1 11 q_Md_bodies)) 9 149 45) 45 (jb_sq (jb_if (jx_run [(2, 2, 0)]) 5 149 49) 49 (jb_sq (jb_go (jx_run [(2, 4, 0), (0, 0, 1), (10, 0, 0), (5, 5, 0)]) 55) 55 (jb_sq (jb_lp 55 (jb_sq (jb_if (jn (jx_run [(2, 5, 0), (4, 0, 0)]) (jx_cv 1 11 q_Md_bodies)) 9 143 64) 64 (jb_sq (jb_sq (jb_if (jn (jx_run [(4, 0, 0), (0, 0, 2376), (2, 4, 0), (2, 5, 0)]) (jx_cv 4 11 q_Md_mayTurn)) 0 137 78) 78 (jb_sq (jb_if (jn (jx_run [(4, 0, 0), (0, 0, 2376), (2, 4, 0), (2, 5, 0)]) (jn (jx_cv 4 11 q_Md_turns) (jn (jx_run [(5, 6, 0), (4, 0, 0), (42, 11, 35), (2, 1, 0), (0, 0, 8), (2, 4, 0), (12, 0, 0), (2, 5, 0), (10, 0, 0), (55, 0, 0), (4, 0, 0), (2, 1, 0), (0, 0, 1), (10, 0, 0), (2, 2, 0), (0, 0, 1), (11, 0, 0)]) (jn (jx_cv 3 11 (Ψ 0)) (jn (jx_run [(5, 7, 0), (4, 0, 0), (0, 0, 2376), (2, 4, 0), (2, 5, 0), (2, 6, 0)]) (jn (jx_cv 5 11 q_Md_unturns) (jx_run [(2, 7, 0)]))))))) 0 137 135) 135 (jb_rt (jx_run [(0, 0, 1)]) 4))) 137 (jb_go (jx_run [(8, 5, 1)]) 55)))) 143 (jb_go (jx_run [(8, 4, 1)]) 36)))))) 149 (jb_rt (jx_run [(0, 0, 0)]) 4)))))
noncomputable def g_Md_undoes : Nat → Nat → JF
  | 0 => fun _ _ _ => none
  | n + 1 => fun w => match w with
    | 0 => jf_of (qp_Md_undoes (g_Md_undoes n)) 8
    | _ => fun _ _ => none
set_option maxRecDepth 20000 in
theorem fr_Md_undoes (G : JG) (Ψ : Nat → JF) (d : Nat) (hd : 5 ≤ d + 1) (hΨ0 : JSem G y_Md_undoes c_Md_undoes 8 (some .boolean) d (Ψ 0)) : JFr G 11 false c_Md_undoes (d + 1) 8 (some .boolean) 0 (qp_Md_undoes Ψ) := (jfr_sq (jfr_sq (jfr_if (j := 9) (jsl_n (j := 4) (jsl_run (by decide +kernel)) (jsl_n (j := 7) (jsl_cv (ix := 305) mt_Md_wrongs in_Md_wrongs sl_Md_wrongs rfl (by decide) (se_Md_wrongs _) (by omega) (List.mem_of_getElem? (i := 1795) (by decide +kernel)) (by decide +kernel)) (jsl_run (by decide +kernel)))) (by decide +kernel) (by decide)) (jfr_sq (jfr_if (j := 13) (jsl_run (by decide +kernel)) (by decide +kernel) (by decide)) (jfr_rt (j := 23) (jsl_n (j := 19) (jsl_run (by decide +kernel)) (jsl_n (j := 22) (jsl_cv (ix := 389) mt_Md_keepsRow in_Md_keepsRow sl_Md_keepsRow rfl (by decide) (se_Md_keepsRow _) (by omega) (List.mem_of_getElem? (i := 1910) (by decide +kernel)) (by decide +kernel)) (jsl_run (by decide +kernel)))) (by decide +kernel)) (by decide)) (by decide)) (jfr_sq (jfr_sq (jfr_if (j := 28) (jsl_run (by decide +kernel)) (by decide +kernel) (by decide)) (jfr_rt (j := 32) (jsl_run (by decide +kernel)) (by decide +kernel)) (by decide)) (jfr_sq (jfr_go (j := 36) (jsl_run (by decide +kernel)) (by decide +kernel) (by decide)) (jfr_sq (jfr_lp (jfr_sq (jfr_if (j := 42) (jsl_n (j := 39) (jsl_run (by decide +kernel)) (jsl_cv (ix := 279) mt_Md_bodies in_Md_bodies sl_Md_bodies rfl (by decide) (se_Md_bodies _) (by omega) (List.mem_of_getElem? (i := 1460) (by decide +kernel)) (by decide +kernel))) (by decide +kernel) (by decide)) (jfr_sq (jfr_if (j := 46) (jsl_run (by decide +kernel)) (by decide +kernel) (by decide)) (jfr_sq (jfr_go (j := 55) (jsl_run (by decide +kernel)) (by decide +kernel) (by decide)) (jfr_sq (jfr_lp (jfr_sq (jfr_if (j := 61) (jsl_n (j := 58) (jsl_run (by decide +kernel)) (jsl_cv (ix := 279) mt_Md_bodies in_Md_bodies sl_Md_bodies rfl (by decide) (se_Md_bodies _) (by omega) (List.mem_of_getElem? (i := 1460) (by decide +kernel)) (by decide +kernel))) (by decide +kernel) (by decide)) (jfr_sq (jfr_sq (jfr_if (j := 75) (jsl_n (j := 72) (jsl_run (by decide +kernel)) (jsl_cv (ix := 321) mt_Md_mayTurn in_Md_mayTurn sl_Md_mayTurn rfl (by decide) (se_Md_mayTurn _) (by omega) (List.mem_of_getElem? (i := 1763) (by decide +kernel)) (by decide +kernel))) (by decide +kernel) (by decide)) (jfr_sq (jfr_if (j := 132) (jsl_n (j := 86) (jsl_run (by decide +kernel)) (jsl_n (j := 89) (jsl_cv (ix := 334) mt_Md_turns in_Md_turns sl_Md_turns rfl (by decide) (se_Md_turns _) (by omega) (List.mem_of_getElem? (i := 1783) (by decide +kernel)) (by decide +kernel)) (jsl_n (j := 112) (jsl_run (by decide +kernel)) (jsl_n (j := 115) (jsl_cv (ix := 392) mt_Md_undoes in_Md_undoes sl_Md_undoes rfl (by decide) (hΨ0) (by omega) (List.mem_of_getElem? (i := 1906) (by decide +kernel)) (by decide +kernel)) (jsl_n (j := 127) (jsl_run (by decide +kernel)) (jsl_n (j := 130) (jsl_cv (ix := 380) mt_Md_unturns in_Md_unturns sl_Md_unturns rfl (by decide) (se_Md_unturns _) (by omega) (List.mem_of_getElem? (i := 1894) (by decide +kernel)) (by decide +kernel)) (jsl_run (by decide +kernel)))))))) (by decide +kernel) (by decide)) (jfr_rt (j := 136) (jsl_run (by decide +kernel)) (by decide +kernel)) (by decide)) (by decide)) (jfr_go (j := 140) (jsl_run (by decide +kernel)) (by decide +kernel) (by decide)) (by decide)) (by decide)) (by decide)) (jfr_go (j := 146) (jsl_run (by decide +kernel)) (by decide +kernel) (by decide)) (by decide)) (by decide)) (by decide)) (by decide)) (by decide)) (jfr_rt (j := 150) (jsl_run (by decide +kernel)) (by decide +kernel)) (by decide)) (by decide)) (by decide)) (by decide))
theorem se_g_Md_undoes (G : JG) (n : Nat) : JSem G y_Md_undoes c_Md_undoes 8 (some .boolean) (5 + n) (g_Md_undoes n 0) := by
  induction n with
  | zero => exact fun _ _ _ _ h => by cases h
  | succ n ih =>
    have h0 := ih
    exact jsem_of (by decide +kernel) rfl (by intro h; cases h) (fr_Md_undoes G (g_Md_undoes n) (5 + n) (by omega) h0)
noncomputable abbrev q_Md_undoes : JF := g_Md_undoes 40 0
theorem se_Md_undoes (G : JG) : JSem G y_Md_undoes c_Md_undoes 8 (some .boolean) 45 q_Md_undoes := (se_g_Md_undoes G 40)
def y_Md_fewestIn : MethodName := ⟨"CellarTurnsModel", "fewestIn", "(I)I"⟩
abbrev c_Md_fewestIn : ByteArray := prog_15_method_86_code
theorem mt_Md_fewestIn : JMt y_Md_fewestIn c_Md_fewestIn 3 (some .int) 1 := ⟨(List.mem_of_getElem? (i := 1905) (by decide +kernel)), (List.mem_of_getElem? (i := 133) (by decide +kernel)), ⟨by decide +kernel, by decide +kernel⟩, by decide +kernel, by decide⟩
theorem in_Md_fewestIn : Cond.instanceMethod y_Md_fewestIn ∈ lw_tbl := (List.mem_of_getElem? (i := 1904) (by decide +kernel))
theorem sl_Md_fewestIn : Cond.selects y_Md_fewestIn.cls y_Md_fewestIn y_Md_fewestIn ∈ lw_tbl := (List.mem_of_getElem? (i := 103) (by decide +kernel))
noncomputable def qp_Md_fewestIn : JP := (jb_sq (jb_go (jx_run [(0, 0, 0), (5, 2, 0)]) 2) 2 (jb_sq (jb_lp 2 (jb_sq (jb_if (jx_run [(2, 2, 0), (2, 1, 0)]) 10 24 7) 7 (jb_sq (jb_sq (jb_if (jn (jx_run [(4, 0, 0), (0, 0, 0), (2, 2, 0)]) (jx_cv 3 11 q_Md_undoes)) 0 18 16) 16 (jb_rt (jx_run [(2, 2, 0)]) 1)) 18 (jb_go (jx_run [(8, 2, 1)]) 2)))) 24 (jb_rt (jx_run [(0, 0, -1)]) 1)))
noncomputable def q_Md_fewestIn : JF := jf_of qp_Md_fewestIn 3
set_option maxRecDepth 20000 in
theorem fr_Md_fewestIn (G : JG) : JFr G 11 false c_Md_fewestIn 46 3 (some .int) 0 qp_Md_fewestIn := (jfr_sq (jfr_go (j := 2) (jsl_run (by decide +kernel)) (by decide +kernel) (by decide)) (jfr_sq (jfr_lp (jfr_sq (jfr_if (j := 4) (jsl_run (by decide +kernel)) (by decide +kernel) (by decide)) (jfr_sq (jfr_sq (jfr_if (j := 13) (jsl_n (j := 10) (jsl_run (by decide +kernel)) (jsl_cv (ix := 392) mt_Md_undoes in_Md_undoes sl_Md_undoes rfl (by decide) (se_Md_undoes _) (by decide) (List.mem_of_getElem? (i := 1906) (by decide +kernel)) (by decide +kernel))) (by decide +kernel) (by decide)) (jfr_rt (j := 17) (jsl_run (by decide +kernel)) (by decide +kernel)) (by decide)) (jfr_go (j := 21) (jsl_run (by decide +kernel)) (by decide +kernel) (by decide)) (by decide)) (by decide)) (by decide)) (jfr_rt (j := 25) (jsl_run (by decide +kernel)) (by decide +kernel)) (by decide)) (by decide))
theorem se_Md_fewestIn (G : JG) : JSem G y_Md_fewestIn c_Md_fewestIn 3 (some .int) 46 q_Md_fewestIn := jsem_of (by decide +kernel) rfl (by intro h; cases h) (fr_Md_fewestIn G)
def y_Md_fewest : MethodName := ⟨"CellarTurnsModel", "fewest", "(II)I"⟩
abbrev c_Md_fewest : ByteArray := prog_15_method_87_code
theorem mt_Md_fewest : JMt y_Md_fewest c_Md_fewest 4 (some .int) 2 := ⟨(List.mem_of_getElem? (i := 1901) (by decide +kernel)), (List.mem_of_getElem? (i := 133) (by decide +kernel)), ⟨by decide +kernel, by decide +kernel⟩, by decide +kernel, by decide⟩
theorem in_Md_fewest : Cond.instanceMethod y_Md_fewest ∈ lw_tbl := (List.mem_of_getElem? (i := 1899) (by decide +kernel))
theorem sl_Md_fewest : Cond.selects y_Md_fewest.cls y_Md_fewest y_Md_fewest ∈ lw_tbl := (List.mem_of_getElem? (i := 1900) (by decide +kernel))
noncomputable def qp_Md_fewest : JP := (jb_sq (jb_sq (jb_if (jn (jx_run [(4, 0, 0), (0, 0, 0), (43, 11, 0), (2, 1, 0), (0, 0, 0), (0, 0, 5)]) (jx_cs 3 q_Md_within)) 0 18 14) 14 (jb_sq (jb_if (jx_run [(2, 2, 0)]) 3 20 18) 20 (jb_sq (jb_sq (jb_sq (jb_if (jn (jx_run [(4, 0, 0), (0, 0, 0), (0, 0, 2376), (0, 0, 91)]) (jn (jx_cv 4 11 q_Md_copies) (jn (jx_run [(4, 0, 0), (2, 1, 0)]) (jn (jx_cv 2 11 q_Md_fewestIn) (jx_run [(5, 3, 0), (2, 3, 0)]))))) 2 44 40) 40 (jb_sq (jb_if (jx_run [(2, 2, 0)]) 1 48 44) 48 (jb_sq (jb_sq (jb_if (jx_run [(2, 2, 0), (2, 3, 0)]) 10 64 53) 53 (jb_go (jx_run [(4, 0, 0), (42, 11, 36), (2, 2, 0), (0, 0, 1), (11, 0, 0), (50, 0, 0)]) 65)) 64 (jb_go (jx_run [(0, 0, -1)]) 65)))) 44 (jb_go (jx_run [(2, 3, 0)]) 65)) 65 (jb_rt (jx_run []) 1)))) 18 (jb_rt (jx_run [(0, 0, -1)]) 1))
noncomputable def q_Md_fewest : JF := jf_of qp_Md_fewest 4
set_option maxRecDepth 20000 in
theorem fr_Md_fewest (G : JG) : JFr G 11 false c_Md_fewest 47 4 (some .int) 0 qp_Md_fewest := (jfr_sq (jfr_sq (jfr_if (j := 11) (jsl_n (j := 8) (jsl_run (by decide +kernel)) (jsl_cs (ix := 328) mt_Md_within st_Md_within (se_Md_within _) (by decide) (List.mem_of_getElem? (i := 1744) (by decide +kernel)) (by decide +kernel))) (by decide +kernel) (by decide)) (jfr_sq (jfr_if (j := 15) (jsl_run (by decide +kernel)) (by decide +kernel) (by decide)) (jfr_sq (jfr_sq (jfr_sq (jfr_if (j := 37) (jsl_n (j := 27) (jsl_run (by decide +kernel)) (jsl_n (j := 30) (jsl_cv (ix := 291) mt_Md_copies in_Md_copies sl_Md_copies rfl (by decide) (se_Md_copies _) (by decide) (List.mem_of_getElem? (i := 1779) (by decide +kernel)) (by decide +kernel)) (jsl_n (j := 32) (jsl_run (by decide +kernel)) (jsl_n (j := 35) (jsl_cv (ix := 395) mt_Md_fewestIn in_Md_fewestIn sl_Md_fewestIn rfl (by decide) (se_Md_fewestIn _) (by decide) (List.mem_of_getElem? (i := 1902) (by decide +kernel)) (by decide +kernel)) (jsl_run (by decide +kernel)))))) (by decide +kernel) (by decide)) (jfr_sq (jfr_if (j := 41) (jsl_run (by decide +kernel)) (by decide +kernel) (by decide)) (jfr_sq (jfr_sq (jfr_if (j := 50) (jsl_run (by decide +kernel)) (by decide +kernel) (by decide)) (jfr_go (j := 61) (jsl_run (by decide +kernel)) (by decide +kernel) (by decide)) (by decide)) (jfr_go (j := 65) (jsl_run (by decide +kernel)) (by decide +kernel) (by decide)) (by decide)) (by decide)) (by decide)) (jfr_go (j := 45) (jsl_run (by decide +kernel)) (by decide +kernel) (by decide)) (by decide)) (jfr_rt (j := 65) (jsl_run (by decide +kernel)) (by decide +kernel)) (by decide)) (by decide)) (by decide)) (jfr_rt (j := 19) (jsl_run (by decide +kernel)) (by decide +kernel)) (by decide))
theorem se_Md_fewest (G : JG) : JSem G y_Md_fewest c_Md_fewest 4 (some .int) 47 q_Md_fewest := jsem_of (by decide +kernel) rfl (by intro h; cases h) (fr_Md_fewest G)
def y_Md_isAsSeen : MethodName := ⟨"CellarTurnsModel", "isAsSeen", "()Z"⟩
abbrev c_Md_isAsSeen : ByteArray := prog_15_method_98_code
theorem mt_Md_isAsSeen : JMt y_Md_isAsSeen c_Md_isAsSeen 3 (some .boolean) 0 := ⟨(List.mem_of_getElem? (i := 1971) (by decide +kernel)), (List.mem_of_getElem? (i := 133) (by decide +kernel)), ⟨by decide +kernel, by decide +kernel⟩, by decide +kernel, by decide⟩
theorem in_Md_isAsSeen : Cond.instanceMethod y_Md_isAsSeen ∈ lw_tbl := (List.mem_of_getElem? (i := 1970) (by decide +kernel))
theorem sl_Md_isAsSeen : Cond.selects y_Md_isAsSeen.cls y_Md_isAsSeen y_Md_isAsSeen ∈ lw_tbl := (List.mem_of_getElem? (i := 112) (by decide +kernel))
noncomputable def qp_Md_isAsSeen : JP := (jb_sq (jb_go (jx_run [(0, 0, 1), (5, 1, 0), (0, 0, 0), (5, 2, 0)]) 4) 4 (jb_sq (jb_lp 4 (jb_sq (jb_if (jx_run [(2, 2, 0), (4, 0, 0), (42, 11, 23), (0, 0, 91), (50, 0, 0)]) 9 67 15) 15 (jb_sq (jb_sq (jb_sq (jb_if (jx_run [(2, 1, 0)]) 0 59 19) 19 (jb_sq (jb_if (jx_run [(4, 0, 0), (42, 11, 23), (0, 0, 2379), (4, 0, 0), (42, 11, 23), (0, 0, 92), (0, 0, 2), (2, 2, 0), (12, 0, 0), (10, 0, 0), (50, 0, 0), (10, 0, 0), (50, 0, 0), (4, 0, 0), (42, 11, 23), (0, 0, 92), (0, 0, 2), (2, 2, 0), (12, 0, 0), (10, 0, 0), (0, 0, 1), (10, 0, 0), (50, 0, 0)]) 7 59 55) 55 (jb_go (jx_run [(0, 0, 1)]) 60))) 59 (jb_go (jx_run [(0, 0, 0)]) 60)) 60 (jb_go (jx_run [(5, 1, 0), (8, 2, 1)]) 4)))) 67 (jb_rt (jx_run [(2, 1, 0)]) 4)))
noncomputable def q_Md_isAsSeen : JF := jf_of qp_Md_isAsSeen 3
set_option maxRecDepth 20000 in
theorem fr_Md_isAsSeen (G : JG) : JFr G 11 false c_Md_isAsSeen 0 3 (some .boolean) 0 qp_Md_isAsSeen := (jfr_sq (jfr_go (j := 4) (jsl_run (by decide +kernel)) (by decide +kernel) (by decide)) (jfr_sq (jfr_lp (jfr_sq (jfr_if (j := 12) (jsl_run (by decide +kernel)) (by decide +kernel) (by decide)) (jfr_sq (jfr_sq (jfr_sq (jfr_if (j := 16) (jsl_run (by decide +kernel)) (by decide +kernel) (by decide)) (jfr_sq (jfr_if (j := 52) (jsl_run (by decide +kernel)) (by decide +kernel) (by decide)) (jfr_go (j := 56) (jsl_run (by decide +kernel)) (by decide +kernel) (by decide)) (by decide)) (by decide)) (jfr_go (j := 60) (jsl_run (by decide +kernel)) (by decide +kernel) (by decide)) (by decide)) (jfr_go (j := 64) (jsl_run (by decide +kernel)) (by decide +kernel) (by decide)) (by decide)) (by decide)) (by decide)) (jfr_rt (j := 68) (jsl_run (by decide +kernel)) (by decide +kernel)) (by decide)) (by decide))
theorem se_Md_isAsSeen (G : JG) : JSem G y_Md_isAsSeen c_Md_isAsSeen 3 (some .boolean) 0 q_Md_isAsSeen := jsem_of (by decide +kernel) rfl (by intro h; cases h) (fr_Md_isAsSeen G)
def y_Md_rowsFrom : MethodName := ⟨"CellarTurnsModel", "rowsFrom", "(II)V"⟩
abbrev c_Md_rowsFrom : ByteArray := prog_15_method_99_code
theorem mt_Md_rowsFrom : JMt y_Md_rowsFrom c_Md_rowsFrom 6 none 2 := ⟨(List.mem_of_getElem? (i := 1967) (by decide +kernel)), (List.mem_of_getElem? (i := 133) (by decide +kernel)), ⟨by decide +kernel, by decide +kernel⟩, by decide +kernel, by decide⟩
theorem in_Md_rowsFrom : Cond.instanceMethod y_Md_rowsFrom ∈ lw_tbl := (List.mem_of_getElem? (i := 1966) (by decide +kernel))
theorem sl_Md_rowsFrom : Cond.selects y_Md_rowsFrom.cls y_Md_rowsFrom y_Md_rowsFrom ∈ lw_tbl := (List.mem_of_getElem? (i := 111) (by decide +kernel))
noncomputable def qp_Md_rowsFrom (Ψ : Nat → JF) : JP := (jb_sq (jb_sq (jb_if (jx_run [(2, 2, 0)]) 1 90 4) 4 (jb_sq (jb_sq (jb_if (jn (jx_run [(4, 0, 0)]) (jx_cv 1 11 q_Md_isAsSeen)) 0 89 11) 11 (jb_sq (jb_go (jx_run [(4, 0, 0), (70, 0, 0), (40, 11, 41), (0, 0, 1), (10, 0, 0), (43, 11, 41), (0, 0, 0), (5, 3, 0)]) 23) 23 (jb_sq (jb_lp 23 (jb_sq (jb_if (jx_run [(2, 3, 0), (2, 1, 0)]) 9 49 28) 28 (jb_go (jx_run [(4, 0, 0), (42, 11, 42), (4, 0, 0), (42, 11, 35), (2, 3, 0), (50, 0, 0), (72, 0, 0), (50, 0, 0), (0, 0, 1), (10, 0, 0), (55, 0, 0), (8, 3, 1)]) 23))) 49 (jb_sq (jb_go (jx_run [(0, 0, 0), (5, 3, 0)]) 51) 51 (jb_lp 51 (jb_sq (jb_if (jn (jx_run [(2, 3, 0), (4, 0, 0)]) (jx_cv 1 11 q_Md_bodies)) 9 89 59) 59 (jb_go (jx_run [(4, 0, 0), (42, 11, 43), (0, 0, 8), (2, 3, 0), (12, 0, 0), (4, 0, 0), (42, 11, 23), (0, 0, 2379), (2, 3, 0), (10, 0, 0), (50, 0, 0), (10, 0, 0), (72, 0, 0), (50, 0, 0), (0, 0, 1), (10, 0, 0), (55, 0, 0), (8, 3, 1)]) 51))))))) 89 (jb_rt (jx_run []) 0))) 90 (jb_sq (jb_go (jx_run [(0, 0, 0), (5, 3, 0)]) 92) 92 (jb_sq (jb_lp 92 (jb_sq (jb_if (jn (jx_run [(2, 3, 0), (4, 0, 0)]) (jx_cv 1 11 q_Md_bodies)) 9 186 100) 100 (jb_sq (jb_go (jx_run [(2, 3, 0), (0, 0, 1), (10, 0, 0), (5, 4, 0)]) 105) 105 (jb_sq (jb_lp 105 (jb_sq (jb_if (jn (jx_run [(2, 4, 0), (4, 0, 0)]) (jx_cv 1 11 q_Md_bodies)) 9 180 114) 114 (jb_sq (jb_sq (jb_if (jn (jx_run [(4, 0, 0), (0, 0, 2376), (2, 3, 0), (2, 4, 0)]) (jx_cv 4 11 q_Md_mayTurn)) 0 174 127) 127 (jb_go (jn (jx_run [(4, 0, 0), (0, 0, 2376), (2, 3, 0), (2, 4, 0)]) (jn (jx_cv 4 11 q_Md_turns) (jn (jx_run [(5, 5, 0), (4, 0, 0), (42, 11, 35), (2, 1, 0), (0, 0, 8), (2, 3, 0), (12, 0, 0), (2, 4, 0), (10, 0, 0), (55, 0, 0), (4, 0, 0), (2, 1, 0), (0, 0, 1), (10, 0, 0), (2, 2, 0), (0, 0, 1), (11, 0, 0)]) (jn (jx_cv 3 11 (Ψ 0)) (jn (jx_run [(4, 0, 0), (0, 0, 2376), (2, 3, 0), (2, 4, 0), (2, 5, 0)]) (jx_cv 5 11 q_Md_unturns)))))) 174)) 174 (jb_go (jx_run [(8, 4, 1)]) 105)))) 180 (jb_go (jx_run [(8, 3, 1)]) 92))))) 186 (jb_rt (jx_run []) 0))))
noncomputable def g_Md_rowsFrom : Nat → Nat → JF
  | 0 => fun _ _ _ => none
  | n + 1 => fun w => match w with
    | 0 => jf_of (qp_Md_rowsFrom (g_Md_rowsFrom n)) 6
    | _ => fun _ _ => none
set_option maxRecDepth 20000 in
theorem fr_Md_rowsFrom (G : JG) (Ψ : Nat → JF) (d : Nat) (hd : 5 ≤ d + 1) (hΨ0 : JSem G y_Md_rowsFrom c_Md_rowsFrom 6 none d (Ψ 0)) : JFr G 11 false c_Md_rowsFrom (d + 1) 6 none 0 (qp_Md_rowsFrom Ψ) := (jfr_sq (jfr_sq (jfr_if (j := 1) (jsl_run (by decide +kernel)) (by decide +kernel) (by decide)) (jfr_sq (jfr_sq (jfr_if (j := 8) (jsl_n (j := 5) (jsl_run (by decide +kernel)) (jsl_cv (ix := 416) mt_Md_isAsSeen in_Md_isAsSeen sl_Md_isAsSeen rfl (by decide) (se_Md_isAsSeen _) (by omega) (List.mem_of_getElem? (i := 1968) (by decide +kernel)) (by decide +kernel))) (by decide +kernel) (by decide)) (jfr_sq (jfr_go (j := 23) (jsl_run (by decide +kernel)) (by decide +kernel) (by decide)) (jfr_sq (jfr_lp (jfr_sq (jfr_if (j := 25) (jsl_run (by decide +kernel)) (by decide +kernel) (by decide)) (jfr_go (j := 46) (jsl_run (by decide +kernel)) (by decide +kernel) (by decide)) (by decide)) (by decide)) (jfr_sq (jfr_go (j := 51) (jsl_run (by decide +kernel)) (by decide +kernel) (by decide)) (jfr_lp (jfr_sq (jfr_if (j := 56) (jsl_n (j := 53) (jsl_run (by decide +kernel)) (jsl_cv (ix := 279) mt_Md_bodies in_Md_bodies sl_Md_bodies rfl (by decide) (se_Md_bodies _) (by omega) (List.mem_of_getElem? (i := 1460) (by decide +kernel)) (by decide +kernel))) (by decide +kernel) (by decide)) (jfr_go (j := 86) (jsl_run (by decide +kernel)) (by decide +kernel) (by decide)) (by decide)) (by decide)) (by decide)) (by decide)) (by decide)) (by decide)) (jfr_rt (j := 89) (jsl_run (by decide +kernel)) (by decide +kernel)) (by decide)) (by decide)) (jfr_sq (jfr_go (j := 92) (jsl_run (by decide +kernel)) (by decide +kernel) (by decide)) (jfr_sq (jfr_lp (jfr_sq (jfr_if (j := 97) (jsl_n (j := 94) (jsl_run (by decide +kernel)) (jsl_cv (ix := 279) mt_Md_bodies in_Md_bodies sl_Md_bodies rfl (by decide) (se_Md_bodies _) (by omega) (List.mem_of_getElem? (i := 1460) (by decide +kernel)) (by decide +kernel))) (by decide +kernel) (by decide)) (jfr_sq (jfr_go (j := 105) (jsl_run (by decide +kernel)) (by decide +kernel) (by decide)) (jfr_sq (jfr_lp (jfr_sq (jfr_if (j := 111) (jsl_n (j := 108) (jsl_run (by decide +kernel)) (jsl_cv (ix := 279) mt_Md_bodies in_Md_bodies sl_Md_bodies rfl (by decide) (se_Md_bodies _) (by omega) (List.mem_of_getElem? (i := 1460) (by decide +kernel)) (by decide +kernel))) (by decide +kernel) (by decide)) (jfr_sq (jfr_sq (jfr_if (j := 124) (jsl_n (j := 121) (jsl_run (by decide +kernel)) (jsl_cv (ix := 321) mt_Md_mayTurn in_Md_mayTurn sl_Md_mayTurn rfl (by decide) (se_Md_mayTurn _) (by omega) (List.mem_of_getElem? (i := 1763) (by decide +kernel)) (by decide +kernel))) (by decide +kernel) (by decide)) (jfr_go (j := 174) (jsl_n (j := 134) (jsl_run (by decide +kernel)) (jsl_n (j := 137) (jsl_cv (ix := 334) mt_Md_turns in_Md_turns sl_Md_turns rfl (by decide) (se_Md_turns _) (by omega) (List.mem_of_getElem? (i := 1783) (by decide +kernel)) (by decide +kernel)) (jsl_n (j := 159) (jsl_run (by decide +kernel)) (jsl_n (j := 162) (jsl_cv (ix := 422) mt_Md_rowsFrom in_Md_rowsFrom sl_Md_rowsFrom rfl (by decide) (hΨ0) (by omega) (List.mem_of_getElem? (i := 1964) (by decide +kernel)) (by decide +kernel)) (jsl_n (j := 171) (jsl_run (by decide +kernel)) (jsl_cv (ix := 380) mt_Md_unturns in_Md_unturns sl_Md_unturns rfl (by decide) (se_Md_unturns _) (by omega) (List.mem_of_getElem? (i := 1894) (by decide +kernel)) (by decide +kernel))))))) (by decide +kernel) (by decide)) (by decide)) (jfr_go (j := 177) (jsl_run (by decide +kernel)) (by decide +kernel) (by decide)) (by decide)) (by decide)) (by decide)) (jfr_go (j := 183) (jsl_run (by decide +kernel)) (by decide +kernel) (by decide)) (by decide)) (by decide)) (by decide)) (by decide)) (jfr_rt (j := 186) (jsl_run (by decide +kernel)) (by decide +kernel)) (by decide)) (by decide)) (by decide))
theorem se_g_Md_rowsFrom (G : JG) (n : Nat) : JSem G y_Md_rowsFrom c_Md_rowsFrom 6 none (5 + n) (g_Md_rowsFrom n 0) := by
  induction n with
  | zero => exact fun _ _ _ _ h => by cases h
  | succ n ih =>
    have h0 := ih
    exact jsem_of (by decide +kernel) rfl (by intro h; cases h) (fr_Md_rowsFrom G (g_Md_rowsFrom n) (5 + n) (by omega) h0)
noncomputable abbrev q_Md_rowsFrom : JF := g_Md_rowsFrom 40 0
theorem se_Md_rowsFrom (G : JG) : JSem G y_Md_rowsFrom c_Md_rowsFrom 6 none 45 q_Md_rowsFrom := (se_g_Md_rowsFrom G 40)
def y_Md_findRows : MethodName := ⟨"CellarTurnsModel", "findRows", "(I)V"⟩
abbrev c_Md_findRows : ByteArray := prog_15_method_100_code
theorem mt_Md_findRows : JMt y_Md_findRows c_Md_findRows 3 none 1 := ⟨(List.mem_of_getElem? (i := 1963) (by decide +kernel)), (List.mem_of_getElem? (i := 133) (by decide +kernel)), ⟨by decide +kernel, by decide +kernel⟩, by decide +kernel, by decide⟩
theorem in_Md_findRows : Cond.instanceMethod y_Md_findRows ∈ lw_tbl := (List.mem_of_getElem? (i := 1962) (by decide +kernel))
theorem sl_Md_findRows : Cond.selects y_Md_findRows.cls y_Md_findRows y_Md_findRows ∈ lw_tbl := (List.mem_of_getElem? (i := 110) (by decide +kernel))
noncomputable def qp_Md_findRows : JP := (jb_sq (jb_go (jn (jx_run [(4, 0, 0), (0, 0, 0), (0, 0, 2376), (0, 0, 91)]) (jn (jx_cv 4 11 q_Md_copies) (jx_run [(4, 0, 0), (0, 0, 0), (43, 11, 41), (0, 0, 0), (5, 2, 0)]))) 17) 17 (jb_sq (jb_lp 17 (jb_sq (jb_if (jx_run [(2, 2, 0), (0, 0, 64)]) 9 43 23) 23 (jb_go (jx_run [(4, 0, 0), (42, 11, 42), (2, 2, 0), (0, 0, 0), (55, 0, 0), (4, 0, 0), (42, 11, 43), (2, 2, 0), (0, 0, 0), (55, 0, 0), (8, 2, 1)]) 17))) 43 (jb_rt (jn (jx_run [(4, 0, 0), (0, 0, 0), (2, 1, 0)]) (jx_cv 3 11 q_Md_rowsFrom)) 0)))
noncomputable def q_Md_findRows : JF := jf_of qp_Md_findRows 3
set_option maxRecDepth 20000 in
theorem fr_Md_findRows (G : JG) : JFr G 11 false c_Md_findRows 46 3 none 0 qp_Md_findRows := (jfr_sq (jfr_go (j := 17) (jsl_n (j := 7) (jsl_run (by decide +kernel)) (jsl_n (j := 10) (jsl_cv (ix := 291) mt_Md_copies in_Md_copies sl_Md_copies rfl (by decide) (se_Md_copies _) (by decide) (List.mem_of_getElem? (i := 1779) (by decide +kernel)) (by decide +kernel)) (jsl_run (by decide +kernel)))) (by decide +kernel) (by decide)) (jfr_sq (jfr_lp (jfr_sq (jfr_if (j := 20) (jsl_run (by decide +kernel)) (by decide +kernel) (by decide)) (jfr_go (j := 40) (jsl_run (by decide +kernel)) (by decide +kernel) (by decide)) (by decide)) (by decide)) (jfr_rt (j := 49) (jsl_n (j := 46) (jsl_run (by decide +kernel)) (jsl_cv (ix := 422) mt_Md_rowsFrom in_Md_rowsFrom sl_Md_rowsFrom rfl (by decide) (se_Md_rowsFrom _) (by decide) (List.mem_of_getElem? (i := 1964) (by decide +kernel)) (by decide +kernel))) (by decide +kernel)) (by decide)) (by decide))
theorem se_Md_findRows (G : JG) : JSem G y_Md_findRows c_Md_findRows 3 none 46 q_Md_findRows := jsem_of (by decide +kernel) rfl (by intro h; cases h) (fr_Md_findRows G)
def y_Md_home : MethodName := ⟨"CellarTurnsModel", "home", "(I)I"⟩
abbrev c_Md_home : ByteArray := prog_15_method_78_code
theorem mt_Md_home : JMt y_Md_home c_Md_home 5 (some .int) 1 := ⟨(List.mem_of_getElem? (i := 1873) (by decide +kernel)), (List.mem_of_getElem? (i := 133) (by decide +kernel)), ⟨by decide +kernel, by decide +kernel⟩, by decide +kernel, by decide⟩
theorem in_Md_home : Cond.instanceMethod y_Md_home ∈ lw_tbl := (List.mem_of_getElem? (i := 1871) (by decide +kernel))
theorem sl_Md_home : Cond.selects y_Md_home.cls y_Md_home y_Md_home ∈ lw_tbl := (List.mem_of_getElem? (i := 1872) (by decide +kernel))
noncomputable def qp_Md_home : JP := (jb_sq (jb_sq (jb_if (jn (jx_run [(4, 0, 0), (0, 0, 0), (43, 11, 0), (4, 0, 0), (2, 1, 0)]) (jx_cv 2 11 q_Md_isBody)) 1 15 13) 13 (jb_rt (jx_run [(0, 0, -1)]) 1)) 15 (jb_sq (jb_go (jn (jx_run [(4, 0, 0)]) (jn (jx_cv 1 11 q_Md_findRings) (jx_run [(0, 0, 0), (5, 2, 0)]))) 21) 21 (jb_sq (jb_lp 21 (jb_sq (jb_if (jx_run [(2, 2, 0), (0, 0, 10)]) 9 59 27) 27 (jb_sq (jb_sq (jb_sq (jb_if (jn (jx_run [(4, 0, 0), (42, 11, 33), (2, 2, 0), (2, 2, 0), (4, 0, 0)]) (jx_cv 1 11 q_Md_bodies)) 9 51 40) 40 (jb_go (jx_run [(4, 0, 0), (42, 11, 23), (0, 0, 3), (2, 2, 0), (10, 0, 0), (50, 0, 0)]) 52)) 51 (jb_go (jx_run [(2, 2, 0)]) 52)) 52 (jb_go (jx_run [(55, 0, 0), (8, 2, 1)]) 21)))) 59 (jb_sq (jb_sq (jb_sq (jb_if (jx_run [(4, 0, 0), (42, 11, 33), (2, 1, 0), (50, 0, 0), (2, 1, 0)]) 7 73 69) 69 (jb_go (jx_run [(0, 0, 0)]) 74)) 73 (jb_go (jx_run [(0, 0, -1)]) 74)) 74 (jb_sq (jb_go (jx_run [(5, 2, 0), (0, 0, 0), (5, 3, 0)]) 77) 77 (jb_sq (jb_lp 77 (jb_sq (jb_if (jx_run [(2, 3, 0), (4, 0, 0), (40, 11, 28)]) 9 165 85) 85 (jb_sq (jb_sq (jb_sq (jb_if (jx_run [(4, 0, 0), (42, 11, 33), (4, 0, 0), (42, 11, 26), (2, 3, 0), (50, 0, 0), (50, 0, 0), (5, 4, 0), (4, 0, 0), (42, 11, 33), (4, 0, 0), (42, 11, 26), (2, 3, 0), (50, 0, 0), (4, 0, 0), (42, 11, 33), (4, 0, 0), (42, 11, 27), (2, 3, 0), (50, 0, 0), (50, 0, 0), (55, 0, 0), (4, 0, 0), (42, 11, 33), (4, 0, 0), (42, 11, 27), (2, 3, 0), (50, 0, 0), (2, 4, 0), (55, 0, 0), (4, 0, 0), (42, 11, 33), (2, 1, 0), (50, 0, 0), (2, 1, 0)]) 6 147 143) 143 (jb_go (jx_run [(0, 0, -1)]) 158)) 147 (jb_sq (jb_sq (jb_if (jx_run [(2, 2, 0)]) 3 157 151) 151 (jb_go (jx_run [(2, 3, 0), (0, 0, 1), (10, 0, 0)]) 158)) 157 (jb_go (jx_run [(2, 2, 0)]) 158))) 158 (jb_go (jx_run [(5, 2, 0), (8, 3, 1)]) 77)))) 165 (jb_rt (jx_run [(2, 2, 0)]) 1)))))))
noncomputable def q_Md_home : JF := jf_of qp_Md_home 5
set_option maxRecDepth 20000 in
theorem fr_Md_home (G : JG) : JFr G 11 false c_Md_home 2 5 (some .int) 0 qp_Md_home := (jfr_sq (jfr_sq (jfr_if (j := 10) (jsl_n (j := 7) (jsl_run (by decide +kernel)) (jsl_cv (ix := 325) mt_Md_isBody in_Md_isBody sl_Md_isBody rfl (by decide) (se_Md_isBody _) (by decide) (List.mem_of_getElem? (i := 1740) (by decide +kernel)) (by decide +kernel))) (by decide +kernel) (by decide)) (jfr_rt (j := 14) (jsl_run (by decide +kernel)) (by decide +kernel)) (by decide)) (jfr_sq (jfr_go (j := 21) (jsl_n (j := 16) (jsl_run (by decide +kernel)) (jsl_n (j := 19) (jsl_cv (ix := 368) mt_Md_findRings in_Md_findRings sl_Md_findRings rfl (by decide) (se_Md_findRings _) (by decide) (List.mem_of_getElem? (i := 1850) (by decide +kernel)) (by decide +kernel)) (jsl_run (by decide +kernel)))) (by decide +kernel) (by decide)) (jfr_sq (jfr_lp (jfr_sq (jfr_if (j := 24) (jsl_run (by decide +kernel)) (by decide +kernel) (by decide)) (jfr_sq (jfr_sq (jfr_sq (jfr_if (j := 37) (jsl_n (j := 34) (jsl_run (by decide +kernel)) (jsl_cv (ix := 279) mt_Md_bodies in_Md_bodies sl_Md_bodies rfl (by decide) (se_Md_bodies _) (by decide) (List.mem_of_getElem? (i := 1460) (by decide +kernel)) (by decide +kernel))) (by decide +kernel) (by decide)) (jfr_go (j := 48) (jsl_run (by decide +kernel)) (by decide +kernel) (by decide)) (by decide)) (jfr_go (j := 52) (jsl_run (by decide +kernel)) (by decide +kernel) (by decide)) (by decide)) (jfr_go (j := 56) (jsl_run (by decide +kernel)) (by decide +kernel) (by decide)) (by decide)) (by decide)) (by decide)) (jfr_sq (jfr_sq (jfr_sq (jfr_if (j := 66) (jsl_run (by decide +kernel)) (by decide +kernel) (by decide)) (jfr_go (j := 70) (jsl_run (by decide +kernel)) (by decide +kernel) (by decide)) (by decide)) (jfr_go (j := 74) (jsl_run (by decide +kernel)) (by decide +kernel) (by decide)) (by decide)) (jfr_sq (jfr_go (j := 77) (jsl_run (by decide +kernel)) (by decide +kernel) (by decide)) (jfr_sq (jfr_lp (jfr_sq (jfr_if (j := 82) (jsl_run (by decide +kernel)) (by decide +kernel) (by decide)) (jfr_sq (jfr_sq (jfr_sq (jfr_if (j := 140) (jsl_run (by decide +kernel)) (by decide +kernel) (by decide)) (jfr_go (j := 144) (jsl_run (by decide +kernel)) (by decide +kernel) (by decide)) (by decide)) (jfr_sq (jfr_sq (jfr_if (j := 148) (jsl_run (by decide +kernel)) (by decide +kernel) (by decide)) (jfr_go (j := 154) (jsl_run (by decide +kernel)) (by decide +kernel) (by decide)) (by decide)) (jfr_go (j := 158) (jsl_run (by decide +kernel)) (by decide +kernel) (by decide)) (by decide)) (by decide)) (jfr_go (j := 162) (jsl_run (by decide +kernel)) (by decide +kernel) (by decide)) (by decide)) (by decide)) (by decide)) (jfr_rt (j := 166) (jsl_run (by decide +kernel)) (by decide +kernel)) (by decide)) (by decide)) (by decide)) (by decide)) (by decide)) (by decide))
theorem se_Md_home (G : JG) : JSem G y_Md_home c_Md_home 5 (some .int) 2 q_Md_home := jsem_of (by decide +kernel) rfl (by intro h; cases h) (fr_Md_home G)
def y_Md_judged : MethodName := ⟨"CellarTurnsModel", "judged", "(I)I"⟩
abbrev c_Md_judged : ByteArray := prog_15_method_71_code
theorem mt_Md_judged : JMt y_Md_judged c_Md_judged 6 (some .int) 1 := ⟨(List.mem_of_getElem? (i := 1841) (by decide +kernel)), (List.mem_of_getElem? (i := 133) (by decide +kernel)), ⟨by decide +kernel, by decide +kernel⟩, by decide +kernel, by decide⟩
theorem in_Md_judged : Cond.instanceMethod y_Md_judged ∈ lw_tbl := (List.mem_of_getElem? (i := 1839) (by decide +kernel))
theorem sl_Md_judged : Cond.selects y_Md_judged.cls y_Md_judged y_Md_judged ∈ lw_tbl := (List.mem_of_getElem? (i := 1840) (by decide +kernel))
noncomputable def qp_Md_judged : JP := (jb_sq (jb_sq (jb_if (jn (jx_run [(4, 0, 0), (0, 0, 0), (43, 11, 0), (2, 1, 0), (0, 0, 0), (0, 0, 2)]) (jx_cs 3 q_Md_within)) 1 17 14) 14 (jb_rt (jx_run [(0, 0, -2)]) 1)) 17 (jb_sq (jb_go (jn (jx_run [(4, 0, 0), (0, 0, 2268)]) (jn (jx_cv 2 11 q_Md_starts) (jx_run [(0, 0, -1), (5, 2, 0), (0, 0, 0), (5, 3, 0)]))) 28) 28 (jb_sq (jb_lp 28 (jb_sq (jb_if (jx_run [(2, 3, 0), (4, 0, 0), (42, 11, 20), (0, 0, 0), (50, 0, 0)]) 9 106 38) 38 (jb_sq (jb_sq (jb_sq (jb_if (jn (jx_run [(0, 0, 1), (0, 0, 4), (2, 3, 0), (12, 0, 0), (10, 0, 0), (5, 4, 0), (4, 0, 0), (4, 0, 0), (42, 11, 20), (2, 4, 0), (50, 0, 0), (4, 0, 0), (42, 11, 20), (2, 4, 0), (0, 0, 1), (10, 0, 0), (50, 0, 0), (4, 0, 0), (42, 11, 20), (2, 4, 0), (0, 0, 2), (10, 0, 0), (50, 0, 0), (4, 0, 0), (42, 11, 20), (2, 4, 0), (0, 0, 3), (10, 0, 0), (50, 0, 0)]) (jn (jx_cv 5 11 q_Md_does) (jx_run [(5, 5, 0), (2, 5, 0)]))) 1 98 90) 90 (jb_sq (jb_if (jx_run [(2, 2, 0)]) 3 98 94) 94 (jb_go (jx_run [(2, 3, 0)]) 99))) 98 (jb_go (jx_run [(2, 2, 0)]) 99)) 99 (jb_go (jx_run [(5, 2, 0), (8, 3, 1)]) 28)))) 106 (jb_sq (jb_sq (jb_sq (jb_if (jx_run [(2, 1, 0)]) 1 114 110) 110 (jb_go (jx_run [(2, 2, 0)]) 137)) 114 (jb_sq (jb_sq (jb_if (jx_run [(2, 1, 0), (0, 0, 1)]) 7 129 119) 119 (jb_go (jn (jx_run [(4, 0, 0), (0, 0, 2268)]) (jx_cv 2 11 q_Md_wrongs)) 137)) 129 (jb_go (jx_run [(4, 0, 0), (42, 11, 23), (0, 0, 2269), (50, 0, 0)]) 137))) 137 (jb_rt (jx_run []) 1)))))
noncomputable def q_Md_judged : JF := jf_of qp_Md_judged 6
set_option maxRecDepth 20000 in
theorem fr_Md_judged (G : JG) : JFr G 11 false c_Md_judged 6 6 (some .int) 0 qp_Md_judged := (jfr_sq (jfr_sq (jfr_if (j := 11) (jsl_n (j := 8) (jsl_run (by decide +kernel)) (jsl_cs (ix := 328) mt_Md_within st_Md_within (se_Md_within _) (by decide) (List.mem_of_getElem? (i := 1744) (by decide +kernel)) (by decide +kernel))) (by decide +kernel) (by decide)) (jfr_rt (j := 16) (jsl_run (by decide +kernel)) (by decide +kernel)) (by decide)) (jfr_sq (jfr_go (j := 28) (jsl_n (j := 21) (jsl_run (by decide +kernel)) (jsl_n (j := 24) (jsl_cv (ix := 285) mt_Md_starts in_Md_starts sl_Md_starts rfl (by decide) (se_Md_starts _) (by decide) (List.mem_of_getElem? (i := 1456) (by decide +kernel)) (by decide +kernel)) (jsl_run (by decide +kernel)))) (by decide +kernel) (by decide)) (jfr_sq (jfr_lp (jfr_sq (jfr_if (j := 35) (jsl_run (by decide +kernel)) (by decide +kernel) (by decide)) (jfr_sq (jfr_sq (jfr_sq (jfr_if (j := 87) (jsl_n (j := 80) (jsl_run (by decide +kernel)) (jsl_n (j := 83) (jsl_cv (ix := 350) mt_Md_does in_Md_does sl_Md_does rfl (by decide) (se_Md_does _) (by decide) (List.mem_of_getElem? (i := 1842) (by decide +kernel)) (by decide +kernel)) (jsl_run (by decide +kernel)))) (by decide +kernel) (by decide)) (jfr_sq (jfr_if (j := 91) (jsl_run (by decide +kernel)) (by decide +kernel) (by decide)) (jfr_go (j := 95) (jsl_run (by decide +kernel)) (by decide +kernel) (by decide)) (by decide)) (by decide)) (jfr_go (j := 99) (jsl_run (by decide +kernel)) (by decide +kernel) (by decide)) (by decide)) (jfr_go (j := 103) (jsl_run (by decide +kernel)) (by decide +kernel) (by decide)) (by decide)) (by decide)) (by decide)) (jfr_sq (jfr_sq (jfr_sq (jfr_if (j := 107) (jsl_run (by decide +kernel)) (by decide +kernel) (by decide)) (jfr_go (j := 111) (jsl_run (by decide +kernel)) (by decide +kernel) (by decide)) (by decide)) (jfr_sq (jfr_sq (jfr_if (j := 116) (jsl_run (by decide +kernel)) (by decide +kernel) (by decide)) (jfr_go (j := 126) (jsl_n (j := 123) (jsl_run (by decide +kernel)) (jsl_cv (ix := 305) mt_Md_wrongs in_Md_wrongs sl_Md_wrongs rfl (by decide) (se_Md_wrongs _) (by decide) (List.mem_of_getElem? (i := 1795) (by decide +kernel)) (by decide +kernel))) (by decide +kernel) (by decide)) (by decide)) (jfr_go (j := 137) (jsl_run (by decide +kernel)) (by decide +kernel) (by decide)) (by decide)) (by decide)) (jfr_rt (j := 137) (jsl_run (by decide +kernel)) (by decide +kernel)) (by decide)) (by decide)) (by decide)) (by decide))
theorem se_Md_judged (G : JG) : JSem G y_Md_judged c_Md_judged 6 (some .int) 6 q_Md_judged := jsem_of (by decide +kernel) rfl (by intro h; cases h) (fr_Md_judged G)
def y_Md_leastFrom : MethodName := ⟨"CellarTurnsModel", "leastFrom", "(II)V"⟩
abbrev c_Md_leastFrom : ByteArray := prog_15_method_89_code
theorem mt_Md_leastFrom : JMt y_Md_leastFrom c_Md_leastFrom 7 none 2 := ⟨(List.mem_of_getElem? (i := 1925) (by decide +kernel)), (List.mem_of_getElem? (i := 133) (by decide +kernel)), ⟨by decide +kernel, by decide +kernel⟩, by decide +kernel, by decide⟩
theorem in_Md_leastFrom : Cond.instanceMethod y_Md_leastFrom ∈ lw_tbl := (List.mem_of_getElem? (i := 1924) (by decide +kernel))
theorem sl_Md_leastFrom : Cond.selects y_Md_leastFrom.cls y_Md_leastFrom y_Md_leastFrom ∈ lw_tbl := (List.mem_of_getElem? (i := 106) (by decide +kernel))
noncomputable def qp_Md_leastFrom (Ψ : Nat → JF) : JP := (jb_sq (jb_sq (jb_sq (jb_if (jn (jx_run [(4, 0, 0), (0, 0, 2376)]) (jn (jx_cv 2 11 q_Md_wrongs) (jx_run [(5, 3, 0), (4, 0, 0), (40, 11, 38)]))) 2 39 15) 15 (jb_sq (jb_if (jx_run [(2, 3, 0), (4, 0, 0), (40, 11, 38)]) 8 39 23) 23 (jb_sq (jb_if (jx_run [(2, 3, 0), (4, 0, 0), (40, 11, 38)]) 7 45 31) 31 (jb_if (jx_run [(2, 1, 0), (4, 0, 0), (40, 11, 37)]) 9 45 39)))) 39 (jb_go (jn (jx_run [(4, 0, 0), (2, 1, 0), (2, 3, 0)]) (jx_cv 3 11 q_Md_keepsRow)) 45)) 45 (jb_sq (jb_sq (jb_if (jx_run [(2, 2, 0)]) 0 66 49) 49 (jb_sq (jb_sq (jb_if (jx_run [(4, 0, 0), (40, 11, 38)]) 1 67 56) 56 (jb_if (jx_run [(2, 1, 0), (0, 0, 1), (10, 0, 0), (4, 0, 0), (40, 11, 37)]) 8 67 66)) 67 (jb_sq (jb_go (jx_run [(0, 0, 0), (5, 4, 0)]) 70) 70 (jb_sq (jb_lp 70 (jb_sq (jb_if (jn (jx_run [(2, 4, 0), (4, 0, 0)]) (jx_cv 1 11 q_Md_bodies)) 9 170 79) 79 (jb_sq (jb_go (jx_run [(2, 4, 0), (0, 0, 1), (10, 0, 0), (5, 5, 0)]) 85) 85 (jb_sq (jb_lp 85 (jb_sq (jb_if (jn (jx_run [(2, 5, 0), (4, 0, 0)]) (jx_cv 1 11 q_Md_bodies)) 9 164 94) 94 (jb_sq (jb_sq (jb_if (jn (jx_run [(4, 0, 0), (0, 0, 2376), (2, 4, 0), (2, 5, 0)]) (jx_cv 4 11 q_Md_mayTurn)) 0 158 108) 108 (jb_go (jn (jx_run [(4, 0, 0), (0, 0, 2376), (2, 4, 0), (2, 5, 0)]) (jn (jx_cv 4 11 q_Md_turns) (jn (jx_run [(5, 6, 0), (4, 0, 0), (42, 11, 35), (2, 1, 0), (0, 0, 8), (2, 4, 0), (12, 0, 0), (2, 5, 0), (10, 0, 0), (55, 0, 0), (4, 0, 0), (2, 1, 0), (0, 0, 1), (10, 0, 0), (2, 2, 0), (0, 0, 1), (11, 0, 0)]) (jn (jx_cv 3 11 (Ψ 0)) (jn (jx_run [(4, 0, 0), (0, 0, 2376), (2, 4, 0), (2, 5, 0), (2, 6, 0)]) (jx_cv 5 11 q_Md_unturns)))))) 158)) 158 (jb_go (jx_run [(8, 5, 1)]) 85)))) 164 (jb_go (jx_run [(8, 4, 1)]) 70))))) 170 (jb_rt (jx_run []) 0))))) 66 (jb_rt (jx_run []) 0)))
noncomputable def g_Md_leastFrom : Nat → Nat → JF
  | 0 => fun _ _ _ => none
  | n + 1 => fun w => match w with
    | 0 => jf_of (qp_Md_leastFrom (g_Md_leastFrom n)) 7
    | _ => fun _ _ => none
set_option maxRecDepth 20000 in
theorem fr_Md_leastFrom (G : JG) (Ψ : Nat → JF) (d : Nat) (hd : 5 ≤ d + 1) (hΨ0 : JSem G y_Md_leastFrom c_Md_leastFrom 7 none d (Ψ 0)) : JFr G 11 false c_Md_leastFrom (d + 1) 7 none 0 (qp_Md_leastFrom Ψ) := (jfr_sq (jfr_sq (jfr_sq (jfr_if (j := 12) (jsl_n (j := 4) (jsl_run (by decide +kernel)) (jsl_n (j := 7) (jsl_cv (ix := 305) mt_Md_wrongs in_Md_wrongs sl_Md_wrongs rfl (by decide) (se_Md_wrongs _) (by omega) (List.mem_of_getElem? (i := 1795) (by decide +kernel)) (by decide +kernel)) (jsl_run (by decide +kernel)))) (by decide +kernel) (by decide)) (jfr_sq (jfr_if (j := 20) (jsl_run (by decide +kernel)) (by decide +kernel) (by decide)) (jfr_sq (jfr_if (j := 28) (jsl_run (by decide +kernel)) (by decide +kernel) (by decide)) (jfr_if (j := 36) (jsl_run (by decide +kernel)) (by decide +kernel) (by decide)) (by decide)) (by decide)) (by decide)) (jfr_go (j := 45) (jsl_n (j := 42) (jsl_run (by decide +kernel)) (jsl_cv (ix := 389) mt_Md_keepsRow in_Md_keepsRow sl_Md_keepsRow rfl (by decide) (se_Md_keepsRow _) (by omega) (List.mem_of_getElem? (i := 1910) (by decide +kernel)) (by decide +kernel))) (by decide +kernel) (by decide)) (by decide)) (jfr_sq (jfr_sq (jfr_if (j := 46) (jsl_run (by decide +kernel)) (by decide +kernel) (by decide)) (jfr_sq (jfr_sq (jfr_if (j := 53) (jsl_run (by decide +kernel)) (by decide +kernel) (by decide)) (jfr_if (j := 63) (jsl_run (by decide +kernel)) (by decide +kernel) (by decide)) (by decide)) (jfr_sq (jfr_go (j := 70) (jsl_run (by decide +kernel)) (by decide +kernel) (by decide)) (jfr_sq (jfr_lp (jfr_sq (jfr_if (j := 76) (jsl_n (j := 73) (jsl_run (by decide +kernel)) (jsl_cv (ix := 279) mt_Md_bodies in_Md_bodies sl_Md_bodies rfl (by decide) (se_Md_bodies _) (by omega) (List.mem_of_getElem? (i := 1460) (by decide +kernel)) (by decide +kernel))) (by decide +kernel) (by decide)) (jfr_sq (jfr_go (j := 85) (jsl_run (by decide +kernel)) (by decide +kernel) (by decide)) (jfr_sq (jfr_lp (jfr_sq (jfr_if (j := 91) (jsl_n (j := 88) (jsl_run (by decide +kernel)) (jsl_cv (ix := 279) mt_Md_bodies in_Md_bodies sl_Md_bodies rfl (by decide) (se_Md_bodies _) (by omega) (List.mem_of_getElem? (i := 1460) (by decide +kernel)) (by decide +kernel))) (by decide +kernel) (by decide)) (jfr_sq (jfr_sq (jfr_if (j := 105) (jsl_n (j := 102) (jsl_run (by decide +kernel)) (jsl_cv (ix := 321) mt_Md_mayTurn in_Md_mayTurn sl_Md_mayTurn rfl (by decide) (se_Md_mayTurn _) (by omega) (List.mem_of_getElem? (i := 1763) (by decide +kernel)) (by decide +kernel))) (by decide +kernel) (by decide)) (jfr_go (j := 158) (jsl_n (j := 116) (jsl_run (by decide +kernel)) (jsl_n (j := 119) (jsl_cv (ix := 334) mt_Md_turns in_Md_turns sl_Md_turns rfl (by decide) (se_Md_turns _) (by omega) (List.mem_of_getElem? (i := 1783) (by decide +kernel)) (by decide +kernel)) (jsl_n (j := 142) (jsl_run (by decide +kernel)) (jsl_n (j := 145) (jsl_cv (ix := 398) mt_Md_leastFrom in_Md_leastFrom sl_Md_leastFrom rfl (by decide) (hΨ0) (by omega) (List.mem_of_getElem? (i := 1922) (by decide +kernel)) (by decide +kernel)) (jsl_n (j := 155) (jsl_run (by decide +kernel)) (jsl_cv (ix := 380) mt_Md_unturns in_Md_unturns sl_Md_unturns rfl (by decide) (se_Md_unturns _) (by omega) (List.mem_of_getElem? (i := 1894) (by decide +kernel)) (by decide +kernel))))))) (by decide +kernel) (by decide)) (by decide)) (jfr_go (j := 161) (jsl_run (by decide +kernel)) (by decide +kernel) (by decide)) (by decide)) (by decide)) (by decide)) (jfr_go (j := 167) (jsl_run (by decide +kernel)) (by decide +kernel) (by decide)) (by decide)) (by decide)) (by decide)) (by decide)) (jfr_rt (j := 170) (jsl_run (by decide +kernel)) (by decide +kernel)) (by decide)) (by decide)) (by decide)) (by decide)) (jfr_rt (j := 66) (jsl_run (by decide +kernel)) (by decide +kernel)) (by decide)) (by decide))
theorem se_g_Md_leastFrom (G : JG) (n : Nat) : JSem G y_Md_leastFrom c_Md_leastFrom 7 none (5 + n) (g_Md_leastFrom n 0) := by
  induction n with
  | zero => exact fun _ _ _ _ h => by cases h
  | succ n ih =>
    have h0 := ih
    exact jsem_of (by decide +kernel) rfl (by intro h; cases h) (fr_Md_leastFrom G (g_Md_leastFrom n) (5 + n) (by omega) h0)
noncomputable abbrev q_Md_leastFrom : JF := g_Md_leastFrom 40 0
theorem se_Md_leastFrom (G : JG) : JSem G y_Md_leastFrom c_Md_leastFrom 7 none 45 q_Md_leastFrom := (se_g_Md_leastFrom G 40)
end
section
/-! ===== printed by wip/whole/emit.py: methods as pieces ===== -/
def y_Md_least : MethodName := ⟨"CellarTurnsModel", "least", "(II)I"⟩
abbrev c_Md_least : ByteArray := prog_15_method_90_code
theorem mt_Md_least : JMt y_Md_least c_Md_least 3 (some .int) 2 := ⟨(List.mem_of_getElem? (i := 1921) (by decide +kernel)), (List.mem_of_getElem? (i := 133) (by decide +kernel)), ⟨by decide +kernel, by decide +kernel⟩, by decide +kernel, by decide⟩
theorem in_Md_least : Cond.instanceMethod y_Md_least ∈ lw_tbl := (List.mem_of_getElem? (i := 1919) (by decide +kernel))
theorem sl_Md_least : Cond.selects y_Md_least.cls y_Md_least y_Md_least ∈ lw_tbl := (List.mem_of_getElem? (i := 1920) (by decide +kernel))
noncomputable def qp_Md_least : JP := (jb_sq (jb_sq (jb_if (jn (jx_run [(4, 0, 0), (0, 0, 0), (43, 11, 0), (2, 1, 0), (0, 0, 0), (0, 0, 4)]) (jx_cs 3 q_Md_within)) 0 18 14) 14 (jb_sq (jb_if (jx_run [(2, 2, 0)]) 3 20 18) 20 (jb_sq (jb_sq (jb_sq (jb_if (jn (jx_run [(4, 0, 0), (0, 0, 0), (0, 0, 2376), (0, 0, 91)]) (jn (jx_cv 4 11 q_Md_copies) (jn (jx_run [(4, 0, 0), (0, 0, -1), (43, 11, 38), (4, 0, 0), (0, 0, 0), (43, 11, 37), (4, 0, 0), (0, 0, 0), (2, 1, 0)]) (jn (jx_cv 3 11 q_Md_leastFrom) (jx_run [(2, 2, 0)]))))) 1 57 50) 50 (jb_go (jx_run [(4, 0, 0), (40, 11, 38)]) 91)) 57 (jb_sq (jb_sq (jb_if (jx_run [(2, 2, 0), (0, 0, 1)]) 7 69 62) 62 (jb_go (jx_run [(4, 0, 0), (40, 11, 37)]) 91)) 69 (jb_sq (jb_sq (jb_if (jx_run [(2, 2, 0), (4, 0, 0), (40, 11, 37), (0, 0, 2), (10, 0, 0)]) 9 90 79) 79 (jb_go (jx_run [(4, 0, 0), (42, 11, 36), (2, 2, 0), (0, 0, 2), (11, 0, 0), (50, 0, 0)]) 91)) 90 (jb_go (jx_run [(0, 0, -1)]) 91)))) 91 (jb_rt (jx_run []) 1)))) 18 (jb_rt (jx_run [(0, 0, -1)]) 1))
noncomputable def q_Md_least : JF := jf_of qp_Md_least 3
set_option maxRecDepth 20000 in
theorem fr_Md_least (G : JG) : JFr G 11 false c_Md_least 46 3 (some .int) 0 qp_Md_least := (jfr_sq (jfr_sq (jfr_if (j := 11) (jsl_n (j := 8) (jsl_run (by decide +kernel)) (jsl_cs (ix := 328) mt_Md_within st_Md_within (se_Md_within _) (by decide) (List.mem_of_getElem? (i := 1744) (by decide +kernel)) (by decide +kernel))) (by decide +kernel) (by decide)) (jfr_sq (jfr_if (j := 15) (jsl_run (by decide +kernel)) (by decide +kernel) (by decide)) (jfr_sq (jfr_sq (jfr_sq (jfr_if (j := 47) (jsl_n (j := 27) (jsl_run (by decide +kernel)) (jsl_n (j := 30) (jsl_cv (ix := 291) mt_Md_copies in_Md_copies sl_Md_copies rfl (by decide) (se_Md_copies _) (by decide) (List.mem_of_getElem? (i := 1779) (by decide +kernel)) (by decide +kernel)) (jsl_n (j := 43) (jsl_run (by decide +kernel)) (jsl_n (j := 46) (jsl_cv (ix := 398) mt_Md_leastFrom in_Md_leastFrom sl_Md_leastFrom rfl (by decide) (se_Md_leastFrom _) (by decide) (List.mem_of_getElem? (i := 1922) (by decide +kernel)) (by decide +kernel)) (jsl_run (by decide +kernel)))))) (by decide +kernel) (by decide)) (jfr_go (j := 54) (jsl_run (by decide +kernel)) (by decide +kernel) (by decide)) (by decide)) (jfr_sq (jfr_sq (jfr_if (j := 59) (jsl_run (by decide +kernel)) (by decide +kernel) (by decide)) (jfr_go (j := 66) (jsl_run (by decide +kernel)) (by decide +kernel) (by decide)) (by decide)) (jfr_sq (jfr_sq (jfr_if (j := 76) (jsl_run (by decide +kernel)) (by decide +kernel) (by decide)) (jfr_go (j := 87) (jsl_run (by decide +kernel)) (by decide +kernel) (by decide)) (by decide)) (jfr_go (j := 91) (jsl_run (by decide +kernel)) (by decide +kernel) (by decide)) (by decide)) (by decide)) (by decide)) (jfr_rt (j := 91) (jsl_run (by decide +kernel)) (by decide +kernel)) (by decide)) (by decide)) (by decide)) (jfr_rt (j := 19) (jsl_run (by decide +kernel)) (by decide +kernel)) (by decide))
theorem se_Md_least (G : JG) : JSem G y_Md_least c_Md_least 3 (some .int) 46 q_Md_least := jsem_of (by decide +kernel) rfl (by intro h; cases h) (fr_Md_least G)
def y_Md_left : MethodName := ⟨"CellarTurnsModel", "left", "()I"⟩
abbrev c_Md_left : ByteArray := prog_15_method_76_code
theorem mt_Md_left : JMt y_Md_left c_Md_left 1 (some .int) 0 := ⟨(List.mem_of_getElem? (i := 1861) (by decide +kernel)), (List.mem_of_getElem? (i := 133) (by decide +kernel)), ⟨by decide +kernel, by decide +kernel⟩, by decide +kernel, by decide⟩
theorem in_Md_left : Cond.instanceMethod y_Md_left ∈ lw_tbl := (List.mem_of_getElem? (i := 1859) (by decide +kernel))
theorem sl_Md_left : Cond.selects y_Md_left.cls y_Md_left y_Md_left ∈ lw_tbl := (List.mem_of_getElem? (i := 1860) (by decide +kernel))
noncomputable def qp_Md_left : JP := (jb_rt (jn (jx_run [(4, 0, 0), (0, 0, 0), (43, 11, 0), (4, 0, 0), (0, 0, 0)]) (jx_cv 2 11 q_Md_pairsLeft)) 1)
noncomputable def q_Md_left : JF := jf_of qp_Md_left 1
set_option maxRecDepth 20000 in
theorem fr_Md_left (G : JG) : JFr G 11 false c_Md_left 4 1 (some .int) 0 qp_Md_left := (jfr_rt (j := 10) (jsl_n (j := 7) (jsl_run (by decide +kernel)) (jsl_cv (ix := 371) mt_Md_pairsLeft in_Md_pairsLeft sl_Md_pairsLeft rfl (by decide) (se_Md_pairsLeft _) (by decide) (List.mem_of_getElem? (i := 1862) (by decide +kernel)) (by decide +kernel))) (by decide +kernel))
theorem se_Md_left (G : JG) : JSem G y_Md_left c_Md_left 1 (some .int) 4 q_Md_left := jsem_of (by decide +kernel) rfl (by intro h; cases h) (fr_Md_left G)
def y_Md_look : MethodName := ⟨"CellarTurnsModel", "look", "(I)I"⟩
abbrev c_Md_look : ByteArray := prog_15_method_103_code
theorem mt_Md_look : JMt y_Md_look c_Md_look 7 (some .int) 1 := ⟨(List.mem_of_getElem? (i := 1979) (by decide +kernel)), (List.mem_of_getElem? (i := 133) (by decide +kernel)), ⟨by decide +kernel, by decide +kernel⟩, by decide +kernel, by decide⟩
theorem in_Md_look : Cond.instanceMethod y_Md_look ∈ lw_tbl := (List.mem_of_getElem? (i := 1977) (by decide +kernel))
theorem sl_Md_look : Cond.selects y_Md_look.cls y_Md_look y_Md_look ∈ lw_tbl := (List.mem_of_getElem? (i := 1978) (by decide +kernel))
noncomputable def qp_Md_look : JP := (jb_sq (jb_sq (jb_if (jn (jx_run [(4, 0, 0), (0, 0, 0), (43, 11, 0), (2, 1, 0), (0, 0, 1), (0, 0, 3)]) (jx_cs 3 q_Md_within)) 1 16 14) 14 (jb_rt (jx_run [(0, 0, -1)]) 1)) 16 (jb_sq (jb_go (jn (jx_run [(4, 0, 0), (2, 1, 0)]) (jn (jx_cv 2 11 q_Md_findRows) (jx_run [(0, 0, -1), (5, 2, 0), (4, 0, 0), (40, 11, 41), (5, 3, 0), (0, 0, 0), (5, 4, 0)]))) 31) 31 (jb_sq (jb_lp 31 (jb_sq (jb_if (jn (jx_run [(2, 4, 0), (4, 0, 0)]) (jx_cv 1 11 q_Md_bodies)) 9 148 40) 40 (jb_sq (jb_sq (jb_sq (jb_if (jn (jx_run [(4, 0, 0), (0, 0, 0), (2, 4, 0)]) (jx_cv 3 11 q_Md_isThere)) 0 54 50) 50 (jb_go (jx_run [(0, 0, 0)]) 58)) 54 (jb_go (jx_run [(4, 0, 0), (40, 11, 41)]) 58)) 58 (jb_sq (jb_go (jx_run [(5, 5, 0), (0, 0, 0), (5, 6, 0)]) 63) 63 (jb_sq (jb_lp 63 (jb_sq (jb_if (jn (jx_run [(2, 6, 0), (4, 0, 0)]) (jx_cv 1 11 q_Md_bodies)) 9 116 72) 72 (jb_sq (jb_sq (jb_sq (jb_if (jx_run [(4, 0, 0), (42, 11, 43), (0, 0, 8), (2, 4, 0), (12, 0, 0), (2, 6, 0), (10, 0, 0), (50, 0, 0), (2, 5, 0)]) 11 106 90) 90 (jb_go (jx_run [(4, 0, 0), (42, 11, 43), (0, 0, 8), (2, 4, 0), (12, 0, 0), (2, 6, 0), (10, 0, 0), (50, 0, 0)]) 108)) 106 (jb_go (jx_run [(2, 5, 0)]) 108)) 108 (jb_go (jx_run [(5, 5, 0), (8, 6, 1)]) 63)))) 116 (jb_sq (jb_sq (jb_sq (jb_if (jx_run [(2, 5, 0), (2, 3, 0)]) 9 127 122) 122 (jb_go (jx_run [(2, 4, 0)]) 128)) 127 (jb_go (jx_run [(2, 2, 0)]) 128)) 128 (jb_sq (jb_sq (jb_sq (jb_if (jx_run [(5, 2, 0), (2, 5, 0), (2, 3, 0)]) 9 140 135) 135 (jb_go (jx_run [(2, 5, 0)]) 141)) 140 (jb_go (jx_run [(2, 3, 0)]) 141)) 141 (jb_go (jx_run [(5, 3, 0), (8, 4, 1)]) 31)))))))) 148 (jb_rt (jx_run [(2, 2, 0)]) 1))))
noncomputable def q_Md_look : JF := jf_of qp_Md_look 7
set_option maxRecDepth 20000 in
theorem fr_Md_look (G : JG) : JFr G 11 false c_Md_look 47 7 (some .int) 0 qp_Md_look := (jfr_sq (jfr_sq (jfr_if (j := 11) (jsl_n (j := 8) (jsl_run (by decide +kernel)) (jsl_cs (ix := 328) mt_Md_within st_Md_within (se_Md_within _) (by decide) (List.mem_of_getElem? (i := 1744) (by decide +kernel)) (by decide +kernel))) (by decide +kernel) (by decide)) (jfr_rt (j := 15) (jsl_run (by decide +kernel)) (by decide +kernel)) (by decide)) (jfr_sq (jfr_go (j := 31) (jsl_n (j := 18) (jsl_run (by decide +kernel)) (jsl_n (j := 21) (jsl_cv (ix := 425) mt_Md_findRows in_Md_findRows sl_Md_findRows rfl (by decide) (se_Md_findRows _) (by decide) (List.mem_of_getElem? (i := 1960) (by decide +kernel)) (by decide +kernel)) (jsl_run (by decide +kernel)))) (by decide +kernel) (by decide)) (jfr_sq (jfr_lp (jfr_sq (jfr_if (j := 37) (jsl_n (j := 34) (jsl_run (by decide +kernel)) (jsl_cv (ix := 279) mt_Md_bodies in_Md_bodies sl_Md_bodies rfl (by decide) (se_Md_bodies _) (by decide) (List.mem_of_getElem? (i := 1460) (by decide +kernel)) (by decide +kernel))) (by decide +kernel) (by decide)) (jfr_sq (jfr_sq (jfr_sq (jfr_if (j := 47) (jsl_n (j := 44) (jsl_run (by decide +kernel)) (jsl_cv (ix := 295) mt_Md_isThere in_Md_isThere sl_Md_isThere rfl (by decide) (se_Md_isThere _) (by decide) (List.mem_of_getElem? (i := 1751) (by decide +kernel)) (by decide +kernel))) (by decide +kernel) (by decide)) (jfr_go (j := 51) (jsl_run (by decide +kernel)) (by decide +kernel) (by decide)) (by decide)) (jfr_go (j := 58) (jsl_run (by decide +kernel)) (by decide +kernel) (by decide)) (by decide)) (jfr_sq (jfr_go (j := 63) (jsl_run (by decide +kernel)) (by decide +kernel) (by decide)) (jfr_sq (jfr_lp (jfr_sq (jfr_if (j := 69) (jsl_n (j := 66) (jsl_run (by decide +kernel)) (jsl_cv (ix := 279) mt_Md_bodies in_Md_bodies sl_Md_bodies rfl (by decide) (se_Md_bodies _) (by decide) (List.mem_of_getElem? (i := 1460) (by decide +kernel)) (by decide +kernel))) (by decide +kernel) (by decide)) (jfr_sq (jfr_sq (jfr_sq (jfr_if (j := 87) (jsl_run (by decide +kernel)) (by decide +kernel) (by decide)) (jfr_go (j := 103) (jsl_run (by decide +kernel)) (by decide +kernel) (by decide)) (by decide)) (jfr_go (j := 108) (jsl_run (by decide +kernel)) (by decide +kernel) (by decide)) (by decide)) (jfr_go (j := 113) (jsl_run (by decide +kernel)) (by decide +kernel) (by decide)) (by decide)) (by decide)) (by decide)) (jfr_sq (jfr_sq (jfr_sq (jfr_if (j := 119) (jsl_run (by decide +kernel)) (by decide +kernel) (by decide)) (jfr_go (j := 124) (jsl_run (by decide +kernel)) (by decide +kernel) (by decide)) (by decide)) (jfr_go (j := 128) (jsl_run (by decide +kernel)) (by decide +kernel) (by decide)) (by decide)) (jfr_sq (jfr_sq (jfr_sq (jfr_if (j := 132) (jsl_run (by decide +kernel)) (by decide +kernel) (by decide)) (jfr_go (j := 137) (jsl_run (by decide +kernel)) (by decide +kernel) (by decide)) (by decide)) (jfr_go (j := 141) (jsl_run (by decide +kernel)) (by decide +kernel) (by decide)) (by decide)) (jfr_go (j := 145) (jsl_run (by decide +kernel)) (by decide +kernel) (by decide)) (by decide)) (by decide)) (by decide)) (by decide)) (by decide)) (by decide)) (by decide)) (jfr_rt (j := 149) (jsl_run (by decide +kernel)) (by decide +kernel)) (by decide)) (by decide)) (by decide))
theorem se_Md_look (G : JG) : JSem G y_Md_look c_Md_look 7 (some .int) 47 q_Md_look := jsem_of (by decide +kernel) rfl (by intro h; cases h) (fr_Md_look G)
def y_Md_mark : MethodName := ⟨"CellarTurnsModel", "mark", "(IZ)Z"⟩
abbrev c_Md_mark : ByteArray := prog_15_method_107_code
theorem mt_Md_mark : JMt y_Md_mark c_Md_mark 3 (some .boolean) 2 := ⟨(List.mem_of_getElem? (i := 1999) (by decide +kernel)), (List.mem_of_getElem? (i := 133) (by decide +kernel)), ⟨by decide +kernel, by decide +kernel⟩, by decide +kernel, by decide⟩
theorem in_Md_mark : Cond.instanceMethod y_Md_mark ∈ lw_tbl := (List.mem_of_getElem? (i := 1997) (by decide +kernel))
theorem sl_Md_mark : Cond.selects y_Md_mark.cls y_Md_mark y_Md_mark ∈ lw_tbl := (List.mem_of_getElem? (i := 1998) (by decide +kernel))
noncomputable def qp_Md_mark : JP := (jb_sq (jb_sq (jb_if (jn (jx_run [(4, 0, 0), (0, 0, 0), (43, 11, 0), (2, 1, 0), (0, 0, 0), (0, 0, 3)]) (jx_cs 3 q_Md_within)) 0 27 14) 14 (jb_sq (jb_sq (jb_if (jx_run [(2, 2, 0)]) 0 29 18) 18 (jb_if (jx_run [(4, 0, 0), (42, 11, 25), (2, 1, 0), (52, 0, 0)]) 1 29 27)) 29 (jb_sq (jb_sq (jb_sq (jb_if (jx_run [(4, 0, 0), (42, 11, 25), (2, 1, 0), (0, 0, 1), (57, 0, 0), (4, 0, 0), (2, 2, 0)]) 0 50 41) 41 (jb_go (jx_run [(0, 0, 108), (0, 0, 1), (2, 1, 0), (10, 0, 0), (12, 0, 0)]) 51)) 50 (jb_go (jx_run [(0, 0, 0)]) 51)) 51 (jb_sq (jb_sq (jb_sq (jb_if (jx_run [(2, 2, 0)]) 0 59 55) 55 (jb_go (jx_run [(0, 0, 0)]) 65)) 59 (jb_go (jx_run [(0, 0, 108), (0, 0, 1), (2, 1, 0), (10, 0, 0), (12, 0, 0)]) 65)) 65 (jb_sq (jb_sq (jb_sq (jb_if (jn (jx_run [(0, 0, 108)]) (jn (jx_cv 4 11 q_Md_copies) (jx_run [(4, 0, 0), (2, 2, 0)]))) 0 79 75) 75 (jb_go (jx_run [(0, 0, 0)]) 83)) 79 (jb_go (jx_run [(4, 0, 0), (40, 11, 24)]) 83)) 83 (jb_rt (jx_run [(43, 11, 24), (0, 0, 1)]) 4)))))) 27 (jb_rt (jx_run [(0, 0, 0)]) 4))
noncomputable def q_Md_mark : JF := jf_of qp_Md_mark 3
set_option maxRecDepth 20000 in
theorem fr_Md_mark (G : JG) : JFr G 11 false c_Md_mark 1 3 (some .boolean) 0 qp_Md_mark := (jfr_sq (jfr_sq (jfr_if (j := 11) (jsl_n (j := 8) (jsl_run (by decide +kernel)) (jsl_cs (ix := 328) mt_Md_within st_Md_within (se_Md_within _) (by decide) (List.mem_of_getElem? (i := 1744) (by decide +kernel)) (by decide +kernel))) (by decide +kernel) (by decide)) (jfr_sq (jfr_sq (jfr_if (j := 15) (jsl_run (by decide +kernel)) (by decide +kernel) (by decide)) (jfr_if (j := 24) (jsl_run (by decide +kernel)) (by decide +kernel) (by decide)) (by decide)) (jfr_sq (jfr_sq (jfr_sq (jfr_if (j := 38) (jsl_run (by decide +kernel)) (by decide +kernel) (by decide)) (jfr_go (j := 47) (jsl_run (by decide +kernel)) (by decide +kernel) (by decide)) (by decide)) (jfr_go (j := 51) (jsl_run (by decide +kernel)) (by decide +kernel) (by decide)) (by decide)) (jfr_sq (jfr_sq (jfr_sq (jfr_if (j := 52) (jsl_run (by decide +kernel)) (by decide +kernel) (by decide)) (jfr_go (j := 56) (jsl_run (by decide +kernel)) (by decide +kernel) (by decide)) (by decide)) (jfr_go (j := 65) (jsl_run (by decide +kernel)) (by decide +kernel) (by decide)) (by decide)) (jfr_sq (jfr_sq (jfr_sq (jfr_if (j := 72) (jsl_n (j := 67) (jsl_run (by decide +kernel)) (jsl_n (j := 70) (jsl_cv (ix := 291) mt_Md_copies in_Md_copies sl_Md_copies rfl (by decide) (se_Md_copies _) (by decide) (List.mem_of_getElem? (i := 1779) (by decide +kernel)) (by decide +kernel)) (jsl_run (by decide +kernel)))) (by decide +kernel) (by decide)) (jfr_go (j := 76) (jsl_run (by decide +kernel)) (by decide +kernel) (by decide)) (by decide)) (jfr_go (j := 83) (jsl_run (by decide +kernel)) (by decide +kernel) (by decide)) (by decide)) (jfr_rt (j := 87) (jsl_run (by decide +kernel)) (by decide +kernel)) (by decide)) (by decide)) (by decide)) (by decide)) (by decide)) (jfr_rt (j := 28) (jsl_run (by decide +kernel)) (by decide +kernel)) (by decide))
theorem se_Md_mark (G : JG) : JSem G y_Md_mark c_Md_mark 3 (some .boolean) 1 q_Md_mark := jsem_of (by decide +kernel) rfl (by intro h; cases h) (fr_Md_mark G)
def y_Md_may : MethodName := ⟨"CellarTurnsModel", "may", "(II)Z"⟩
abbrev c_Md_may : ByteArray := prog_15_method_65_code
theorem mt_Md_may : JMt y_Md_may c_Md_may 3 (some .boolean) 2 := ⟨(List.mem_of_getElem? (i := 1762) (by decide +kernel)), (List.mem_of_getElem? (i := 133) (by decide +kernel)), ⟨by decide +kernel, by decide +kernel⟩, by decide +kernel, by decide⟩
theorem in_Md_may : Cond.instanceMethod y_Md_may ∈ lw_tbl := (List.mem_of_getElem? (i := 1760) (by decide +kernel))
theorem sl_Md_may : Cond.selects y_Md_may.cls y_Md_may y_Md_may ∈ lw_tbl := (List.mem_of_getElem? (i := 1761) (by decide +kernel))
noncomputable def qp_Md_may : JP := (jb_sq (jb_sq (jb_sq (jb_if (jn (jx_run [(4, 0, 0), (0, 0, 0), (43, 11, 0), (4, 0, 0), (2, 1, 0)]) (jx_cv 2 11 q_Md_isBody)) 0 35 13) 13 (jb_sq (jb_if (jn (jx_run [(4, 0, 0), (2, 2, 0)]) (jx_cv 2 11 q_Md_isBody)) 0 35 21) 21 (jb_sq (jb_if (jn (jx_run [(4, 0, 0), (0, 0, 0), (2, 1, 0), (2, 2, 0)]) (jx_cv 4 11 q_Md_mayTurn)) 0 35 31) 31 (jb_go (jx_run [(0, 0, 1)]) 36)))) 35 (jb_go (jx_run [(0, 0, 0)]) 36)) 36 (jb_rt (jx_run []) 4))
noncomputable def q_Md_may : JF := jf_of qp_Md_may 3
set_option maxRecDepth 20000 in
theorem fr_Md_may (G : JG) : JFr G 11 false c_Md_may 3 3 (some .boolean) 0 qp_Md_may := (jfr_sq (jfr_sq (jfr_sq (jfr_if (j := 10) (jsl_n (j := 7) (jsl_run (by decide +kernel)) (jsl_cv (ix := 325) mt_Md_isBody in_Md_isBody sl_Md_isBody rfl (by decide) (se_Md_isBody _) (by decide) (List.mem_of_getElem? (i := 1740) (by decide +kernel)) (by decide +kernel))) (by decide +kernel) (by decide)) (jfr_sq (jfr_if (j := 18) (jsl_n (j := 15) (jsl_run (by decide +kernel)) (jsl_cv (ix := 325) mt_Md_isBody in_Md_isBody sl_Md_isBody rfl (by decide) (se_Md_isBody _) (by decide) (List.mem_of_getElem? (i := 1740) (by decide +kernel)) (by decide +kernel))) (by decide +kernel) (by decide)) (jfr_sq (jfr_if (j := 28) (jsl_n (j := 25) (jsl_run (by decide +kernel)) (jsl_cv (ix := 321) mt_Md_mayTurn in_Md_mayTurn sl_Md_mayTurn rfl (by decide) (se_Md_mayTurn _) (by decide) (List.mem_of_getElem? (i := 1763) (by decide +kernel)) (by decide +kernel))) (by decide +kernel) (by decide)) (jfr_go (j := 32) (jsl_run (by decide +kernel)) (by decide +kernel) (by decide)) (by decide)) (by decide)) (by decide)) (jfr_go (j := 36) (jsl_run (by decide +kernel)) (by decide +kernel) (by decide)) (by decide)) (jfr_rt (j := 36) (jsl_run (by decide +kernel)) (by decide +kernel)) (by decide))
theorem se_Md_may (G : JG) : JSem G y_Md_may c_Md_may 3 (some .boolean) 3 q_Md_may := jsem_of (by decide +kernel) rfl (by intro h; cases h) (fr_Md_may G)
def y_Md_met : MethodName := ⟨"CellarTurnsModel", "met", "(I)I"⟩
abbrev c_Md_met : ByteArray := prog_15_method_79_code
theorem mt_Md_met : JMt y_Md_met c_Md_met 4 (some .int) 1 := ⟨(List.mem_of_getElem? (i := 1877) (by decide +kernel)), (List.mem_of_getElem? (i := 133) (by decide +kernel)), ⟨by decide +kernel, by decide +kernel⟩, by decide +kernel, by decide⟩
theorem in_Md_met : Cond.instanceMethod y_Md_met ∈ lw_tbl := (List.mem_of_getElem? (i := 1875) (by decide +kernel))
theorem sl_Md_met : Cond.selects y_Md_met.cls y_Md_met y_Md_met ∈ lw_tbl := (List.mem_of_getElem? (i := 1876) (by decide +kernel))
noncomputable def qp_Md_met : JP := (jb_sq (jb_sq (jb_if (jn (jx_run [(4, 0, 0), (0, 0, 0), (43, 11, 0), (4, 0, 0), (2, 1, 0)]) (jx_cv 2 11 q_Md_isBody)) 1 15 13) 13 (jb_rt (jx_run [(0, 0, -1)]) 1)) 15 (jb_sq (jb_go (jx_run [(0, 0, 0), (5, 2, 0), (0, 0, 0), (5, 3, 0)]) 19) 19 (jb_sq (jb_lp 19 (jb_sq (jb_if (jn (jx_run [(2, 3, 0), (4, 0, 0)]) (jx_cv 1 11 q_Md_bodies)) 9 61 27) 27 (jb_sq (jb_sq (jb_sq (jb_if (jx_run [(2, 2, 0), (4, 0, 0), (42, 11, 23), (0, 0, 27), (0, 0, 8), (2, 1, 0), (12, 0, 0), (10, 0, 0), (2, 3, 0), (10, 0, 0), (50, 0, 0), (0, 0, 1)]) 7 52 46) 46 (jb_go (jx_run [(0, 0, 1), (2, 3, 0), (19, 0, 0)]) 53)) 52 (jb_go (jx_run [(0, 0, 0)]) 53)) 53 (jb_go (jx_run [(17, 0, 0), (5, 2, 0), (8, 3, 1)]) 19)))) 61 (jb_rt (jx_run [(2, 2, 0)]) 1))))
noncomputable def q_Md_met : JF := jf_of qp_Md_met 4
set_option maxRecDepth 20000 in
theorem fr_Md_met (G : JG) : JFr G 11 false c_Md_met 2 4 (some .int) 0 qp_Md_met := (jfr_sq (jfr_sq (jfr_if (j := 10) (jsl_n (j := 7) (jsl_run (by decide +kernel)) (jsl_cv (ix := 325) mt_Md_isBody in_Md_isBody sl_Md_isBody rfl (by decide) (se_Md_isBody _) (by decide) (List.mem_of_getElem? (i := 1740) (by decide +kernel)) (by decide +kernel))) (by decide +kernel) (by decide)) (jfr_rt (j := 14) (jsl_run (by decide +kernel)) (by decide +kernel)) (by decide)) (jfr_sq (jfr_go (j := 19) (jsl_run (by decide +kernel)) (by decide +kernel) (by decide)) (jfr_sq (jfr_lp (jfr_sq (jfr_if (j := 24) (jsl_n (j := 21) (jsl_run (by decide +kernel)) (jsl_cv (ix := 279) mt_Md_bodies in_Md_bodies sl_Md_bodies rfl (by decide) (se_Md_bodies _) (by decide) (List.mem_of_getElem? (i := 1460) (by decide +kernel)) (by decide +kernel))) (by decide +kernel) (by decide)) (jfr_sq (jfr_sq (jfr_sq (jfr_if (j := 43) (jsl_run (by decide +kernel)) (by decide +kernel) (by decide)) (jfr_go (j := 49) (jsl_run (by decide +kernel)) (by decide +kernel) (by decide)) (by decide)) (jfr_go (j := 53) (jsl_run (by decide +kernel)) (by decide +kernel) (by decide)) (by decide)) (jfr_go (j := 58) (jsl_run (by decide +kernel)) (by decide +kernel) (by decide)) (by decide)) (by decide)) (by decide)) (jfr_rt (j := 62) (jsl_run (by decide +kernel)) (by decide +kernel)) (by decide)) (by decide)) (by decide))
theorem se_Md_met (G : JG) : JSem G y_Md_met c_Md_met 4 (some .int) 2 q_Md_met := jsem_of (by decide +kernel) rfl (by intro h; cases h) (fr_Md_met G)
def y_Md_mind : MethodName := ⟨"CellarTurnsModel", "mind", "(I)I"⟩
abbrev c_Md_mind : ByteArray := prog_15_method_64_code
theorem mt_Md_mind : JMt y_Md_mind c_Md_mind 4 (some .int) 1 := ⟨(List.mem_of_getElem? (i := 1758) (by decide +kernel)), (List.mem_of_getElem? (i := 133) (by decide +kernel)), ⟨by decide +kernel, by decide +kernel⟩, by decide +kernel, by decide⟩
theorem in_Md_mind : Cond.instanceMethod y_Md_mind ∈ lw_tbl := (List.mem_of_getElem? (i := 1756) (by decide +kernel))
theorem sl_Md_mind : Cond.selects y_Md_mind.cls y_Md_mind y_Md_mind ∈ lw_tbl := (List.mem_of_getElem? (i := 1757) (by decide +kernel))
noncomputable def qp_Md_mind : JP := (jb_sq (jb_go (jx_run [(4, 0, 0), (0, 0, 0), (43, 11, 0), (0, 0, -1), (5, 2, 0), (0, 0, 0), (5, 3, 0)]) 9) 9 (jb_sq (jb_lp 9 (jb_sq (jb_if (jn (jx_run [(2, 3, 0), (4, 0, 0)]) (jx_cv 1 11 q_Md_bodies)) 9 41 17) 17 (jb_sq (jb_sq (jb_sq (jb_if (jx_run [(4, 0, 0), (42, 11, 23), (0, 0, 3), (2, 3, 0), (10, 0, 0), (50, 0, 0), (2, 1, 0)]) 7 33 29) 29 (jb_go (jx_run [(2, 3, 0)]) 34)) 33 (jb_go (jx_run [(2, 2, 0)]) 34)) 34 (jb_go (jx_run [(5, 2, 0), (8, 3, 1)]) 9)))) 41 (jb_sq (jb_sq (jb_sq (jb_if (jn (jx_run [(4, 0, 0), (2, 1, 0)]) (jx_cv 2 11 q_Md_isBody)) 0 53 49) 49 (jb_go (jx_run [(2, 2, 0)]) 54)) 53 (jb_go (jx_run [(0, 0, -1)]) 54)) 54 (jb_rt (jx_run []) 1))))
noncomputable def q_Md_mind : JF := jf_of qp_Md_mind 4
set_option maxRecDepth 20000 in
theorem fr_Md_mind (G : JG) : JFr G 11 false c_Md_mind 2 4 (some .int) 0 qp_Md_mind := (jfr_sq (jfr_go (j := 9) (jsl_run (by decide +kernel)) (by decide +kernel) (by decide)) (jfr_sq (jfr_lp (jfr_sq (jfr_if (j := 14) (jsl_n (j := 11) (jsl_run (by decide +kernel)) (jsl_cv (ix := 279) mt_Md_bodies in_Md_bodies sl_Md_bodies rfl (by decide) (se_Md_bodies _) (by decide) (List.mem_of_getElem? (i := 1460) (by decide +kernel)) (by decide +kernel))) (by decide +kernel) (by decide)) (jfr_sq (jfr_sq (jfr_sq (jfr_if (j := 26) (jsl_run (by decide +kernel)) (by decide +kernel) (by decide)) (jfr_go (j := 30) (jsl_run (by decide +kernel)) (by decide +kernel) (by decide)) (by decide)) (jfr_go (j := 34) (jsl_run (by decide +kernel)) (by decide +kernel) (by decide)) (by decide)) (jfr_go (j := 38) (jsl_run (by decide +kernel)) (by decide +kernel) (by decide)) (by decide)) (by decide)) (by decide)) (jfr_sq (jfr_sq (jfr_sq (jfr_if (j := 46) (jsl_n (j := 43) (jsl_run (by decide +kernel)) (jsl_cv (ix := 325) mt_Md_isBody in_Md_isBody sl_Md_isBody rfl (by decide) (se_Md_isBody _) (by decide) (List.mem_of_getElem? (i := 1740) (by decide +kernel)) (by decide +kernel))) (by decide +kernel) (by decide)) (jfr_go (j := 50) (jsl_run (by decide +kernel)) (by decide +kernel) (by decide)) (by decide)) (jfr_go (j := 54) (jsl_run (by decide +kernel)) (by decide +kernel) (by decide)) (by decide)) (jfr_rt (j := 54) (jsl_run (by decide +kernel)) (by decide +kernel)) (by decide)) (by decide)) (by decide))
theorem se_Md_mind (G : JG) : JSem G y_Md_mind c_Md_mind 4 (some .int) 2 q_Md_mind := jsem_of (by decide +kernel) rfl (by intro h; cases h) (fr_Md_mind G)
def y_Md_mostFrom : MethodName := ⟨"CellarTurnsModel", "mostFrom", "(I)V"⟩
abbrev c_Md_mostFrom : ByteArray := prog_15_method_82_code
theorem mt_Md_mostFrom : JMt y_Md_mostFrom c_Md_mostFrom 5 none 1 := ⟨(List.mem_of_getElem? (i := 1893) (by decide +kernel)), (List.mem_of_getElem? (i := 133) (by decide +kernel)), ⟨by decide +kernel, by decide +kernel⟩, by decide +kernel, by decide⟩
theorem in_Md_mostFrom : Cond.instanceMethod y_Md_mostFrom ∈ lw_tbl := (List.mem_of_getElem? (i := 1892) (by decide +kernel))
theorem sl_Md_mostFrom : Cond.selects y_Md_mostFrom.cls y_Md_mostFrom y_Md_mostFrom ∈ lw_tbl := (List.mem_of_getElem? (i := 101) (by decide +kernel))
noncomputable def qp_Md_mostFrom (Ψ : Nat → JF) : JP := (jb_sq (jb_sq (jb_if (jx_run [(2, 1, 0)]) 1 33 4) 4 (jb_sq (jb_sq (jb_sq (jb_if (jn (jx_run [(4, 0, 0), (0, 0, 2376)]) (jn (jx_cv 2 11 q_Md_wrongs) (jx_run [(5, 2, 0), (4, 0, 0), (2, 2, 0), (4, 0, 0), (40, 11, 34)]))) 11 25 21) 21 (jb_go (jx_run [(2, 2, 0)]) 29)) 25 (jb_go (jx_run [(4, 0, 0), (40, 11, 34)]) 29)) 29 (jb_rt (jx_run [(43, 11, 34)]) 0))) 33 (jb_sq (jb_go (jx_run [(0, 0, 0), (5, 2, 0)]) 35) 35 (jb_sq (jb_lp 35 (jb_sq (jb_if (jn (jx_run [(2, 2, 0), (4, 0, 0)]) (jx_cv 1 11 q_Md_bodies)) 9 108 43) 43 (jb_sq (jb_go (jx_run [(2, 2, 0), (0, 0, 1), (10, 0, 0), (5, 3, 0)]) 47) 47 (jb_sq (jb_lp 47 (jb_sq (jb_if (jn (jx_run [(2, 3, 0), (4, 0, 0)]) (jx_cv 1 11 q_Md_bodies)) 9 102 55) 55 (jb_sq (jb_sq (jb_if (jn (jx_run [(4, 0, 0), (0, 0, 2376), (2, 2, 0), (2, 3, 0)]) (jx_cv 4 11 q_Md_mayTurn)) 0 96 67) 67 (jb_go (jn (jx_run [(4, 0, 0), (0, 0, 2376), (2, 2, 0), (2, 3, 0)]) (jn (jx_cv 4 11 q_Md_turns) (jn (jx_run [(5, 4, 0), (4, 0, 0), (2, 1, 0), (0, 0, 1), (11, 0, 0)]) (jn (jx_cv 2 11 (Ψ 0)) (jn (jx_run [(4, 0, 0), (0, 0, 2376), (2, 2, 0), (2, 3, 0), (2, 4, 0)]) (jx_cv 5 11 q_Md_unturns)))))) 96)) 96 (jb_go (jx_run [(8, 3, 1)]) 47)))) 102 (jb_go (jx_run [(8, 2, 1)]) 35))))) 108 (jb_rt (jx_run []) 0))))
noncomputable def g_Md_mostFrom : Nat → Nat → JF
  | 0 => fun _ _ _ => none
  | n + 1 => fun w => match w with
    | 0 => jf_of (qp_Md_mostFrom (g_Md_mostFrom n)) 5
    | _ => fun _ _ => none
set_option maxRecDepth 20000 in
theorem fr_Md_mostFrom (G : JG) (Ψ : Nat → JF) (d : Nat) (hd : 5 ≤ d + 1) (hΨ0 : JSem G y_Md_mostFrom c_Md_mostFrom 5 none d (Ψ 0)) : JFr G 11 false c_Md_mostFrom (d + 1) 5 none 0 (qp_Md_mostFrom Ψ) := (jfr_sq (jfr_sq (jfr_if (j := 1) (jsl_run (by decide +kernel)) (by decide +kernel) (by decide)) (jfr_sq (jfr_sq (jfr_sq (jfr_if (j := 18) (jsl_n (j := 8) (jsl_run (by decide +kernel)) (jsl_n (j := 11) (jsl_cv (ix := 305) mt_Md_wrongs in_Md_wrongs sl_Md_wrongs rfl (by decide) (se_Md_wrongs _) (by omega) (List.mem_of_getElem? (i := 1795) (by decide +kernel)) (by decide +kernel)) (jsl_run (by decide +kernel)))) (by decide +kernel) (by decide)) (jfr_go (j := 22) (jsl_run (by decide +kernel)) (by decide +kernel) (by decide)) (by decide)) (jfr_go (j := 29) (jsl_run (by decide +kernel)) (by decide +kernel) (by decide)) (by decide)) (jfr_rt (j := 32) (jsl_run (by decide +kernel)) (by decide +kernel)) (by decide)) (by decide)) (jfr_sq (jfr_go (j := 35) (jsl_run (by decide +kernel)) (by decide +kernel) (by decide)) (jfr_sq (jfr_lp (jfr_sq (jfr_if (j := 40) (jsl_n (j := 37) (jsl_run (by decide +kernel)) (jsl_cv (ix := 279) mt_Md_bodies in_Md_bodies sl_Md_bodies rfl (by decide) (se_Md_bodies _) (by omega) (List.mem_of_getElem? (i := 1460) (by decide +kernel)) (by decide +kernel))) (by decide +kernel) (by decide)) (jfr_sq (jfr_go (j := 47) (jsl_run (by decide +kernel)) (by decide +kernel) (by decide)) (jfr_sq (jfr_lp (jfr_sq (jfr_if (j := 52) (jsl_n (j := 49) (jsl_run (by decide +kernel)) (jsl_cv (ix := 279) mt_Md_bodies in_Md_bodies sl_Md_bodies rfl (by decide) (se_Md_bodies _) (by omega) (List.mem_of_getElem? (i := 1460) (by decide +kernel)) (by decide +kernel))) (by decide +kernel) (by decide)) (jfr_sq (jfr_sq (jfr_if (j := 64) (jsl_n (j := 61) (jsl_run (by decide +kernel)) (jsl_cv (ix := 321) mt_Md_mayTurn in_Md_mayTurn sl_Md_mayTurn rfl (by decide) (se_Md_mayTurn _) (by omega) (List.mem_of_getElem? (i := 1763) (by decide +kernel)) (by decide +kernel))) (by decide +kernel) (by decide)) (jfr_go (j := 96) (jsl_n (j := 73) (jsl_run (by decide +kernel)) (jsl_n (j := 76) (jsl_cv (ix := 334) mt_Md_turns in_Md_turns sl_Md_turns rfl (by decide) (se_Md_turns _) (by omega) (List.mem_of_getElem? (i := 1783) (by decide +kernel)) (by decide +kernel)) (jsl_n (j := 82) (jsl_run (by decide +kernel)) (jsl_n (j := 85) (jsl_cv (ix := 377) mt_Md_mostFrom in_Md_mostFrom sl_Md_mostFrom rfl (by decide) (hΨ0) (by omega) (List.mem_of_getElem? (i := 1890) (by decide +kernel)) (by decide +kernel)) (jsl_n (j := 93) (jsl_run (by decide +kernel)) (jsl_cv (ix := 380) mt_Md_unturns in_Md_unturns sl_Md_unturns rfl (by decide) (se_Md_unturns _) (by omega) (List.mem_of_getElem? (i := 1894) (by decide +kernel)) (by decide +kernel))))))) (by decide +kernel) (by decide)) (by decide)) (jfr_go (j := 99) (jsl_run (by decide +kernel)) (by decide +kernel) (by decide)) (by decide)) (by decide)) (by decide)) (jfr_go (j := 105) (jsl_run (by decide +kernel)) (by decide +kernel) (by decide)) (by decide)) (by decide)) (by decide)) (by decide)) (jfr_rt (j := 108) (jsl_run (by decide +kernel)) (by decide +kernel)) (by decide)) (by decide)) (by decide))
theorem se_g_Md_mostFrom (G : JG) (n : Nat) : JSem G y_Md_mostFrom c_Md_mostFrom 5 none (5 + n) (g_Md_mostFrom n 0) := by
  induction n with
  | zero => exact fun _ _ _ _ h => by cases h
  | succ n ih =>
    have h0 := ih
    exact jsem_of (by decide +kernel) rfl (by intro h; cases h) (fr_Md_mostFrom G (g_Md_mostFrom n) (5 + n) (by omega) h0)
noncomputable abbrev q_Md_mostFrom : JF := g_Md_mostFrom 40 0
theorem se_Md_mostFrom (G : JG) : JSem G y_Md_mostFrom c_Md_mostFrom 5 none 45 q_Md_mostFrom := (se_g_Md_mostFrom G 40)
def y_Md_most : MethodName := ⟨"CellarTurnsModel", "most", "(I)I"⟩
abbrev c_Md_most : ByteArray := prog_15_method_83_code
theorem mt_Md_most : JMt y_Md_most c_Md_most 2 (some .int) 1 := ⟨(List.mem_of_getElem? (i := 1889) (by decide +kernel)), (List.mem_of_getElem? (i := 133) (by decide +kernel)), ⟨by decide +kernel, by decide +kernel⟩, by decide +kernel, by decide⟩
theorem in_Md_most : Cond.instanceMethod y_Md_most ∈ lw_tbl := (List.mem_of_getElem? (i := 1887) (by decide +kernel))
theorem sl_Md_most : Cond.selects y_Md_most.cls y_Md_most y_Md_most ∈ lw_tbl := (List.mem_of_getElem? (i := 1888) (by decide +kernel))
noncomputable def qp_Md_most : JP := (jb_sq (jb_sq (jb_if (jn (jx_run [(4, 0, 0), (0, 0, 0), (43, 11, 0), (2, 1, 0), (0, 0, 0), (0, 0, 3)]) (jx_cs 3 q_Md_within)) 1 16 14) 14 (jb_rt (jx_run [(0, 0, -1)]) 1)) 16 (jb_rt (jn (jx_run [(4, 0, 0), (0, 0, 0), (0, 0, 2376), (0, 0, 91)]) (jn (jx_cv 4 11 q_Md_copies) (jn (jx_run [(4, 0, 0), (0, 0, -1), (43, 11, 34), (4, 0, 0), (2, 1, 0)]) (jn (jx_cv 2 11 q_Md_mostFrom) (jx_run [(4, 0, 0), (40, 11, 34)]))))) 1))
noncomputable def q_Md_most : JF := jf_of qp_Md_most 2
set_option maxRecDepth 20000 in
theorem fr_Md_most (G : JG) : JFr G 11 false c_Md_most 46 2 (some .int) 0 qp_Md_most := (jfr_sq (jfr_sq (jfr_if (j := 11) (jsl_n (j := 8) (jsl_run (by decide +kernel)) (jsl_cs (ix := 328) mt_Md_within st_Md_within (se_Md_within _) (by decide) (List.mem_of_getElem? (i := 1744) (by decide +kernel)) (by decide +kernel))) (by decide +kernel) (by decide)) (jfr_rt (j := 15) (jsl_run (by decide +kernel)) (by decide +kernel)) (by decide)) (jfr_rt (j := 40) (jsl_n (j := 23) (jsl_run (by decide +kernel)) (jsl_n (j := 26) (jsl_cv (ix := 291) mt_Md_copies in_Md_copies sl_Md_copies rfl (by decide) (se_Md_copies _) (by decide) (List.mem_of_getElem? (i := 1779) (by decide +kernel)) (by decide +kernel)) (jsl_n (j := 33) (jsl_run (by decide +kernel)) (jsl_n (j := 36) (jsl_cv (ix := 377) mt_Md_mostFrom in_Md_mostFrom sl_Md_mostFrom rfl (by decide) (se_Md_mostFrom _) (by decide) (List.mem_of_getElem? (i := 1890) (by decide +kernel)) (by decide +kernel)) (jsl_run (by decide +kernel)))))) (by decide +kernel)) (by decide))
theorem se_Md_most (G : JG) : JSem G y_Md_most c_Md_most 2 (some .int) 46 q_Md_most := jsem_of (by decide +kernel) rfl (by intro h; cases h) (fr_Md_most G)
def y_Md_muddlesFrom : MethodName := ⟨"CellarTurnsModel", "muddlesFrom", "(I)V"⟩
abbrev c_Md_muddlesFrom : ByteArray := prog_15_method_93_code
theorem mt_Md_muddlesFrom : JMt y_Md_muddlesFrom c_Md_muddlesFrom 6 none 1 := ⟨(List.mem_of_getElem? (i := 1941) (by decide +kernel)), (List.mem_of_getElem? (i := 133) (by decide +kernel)), ⟨by decide +kernel, by decide +kernel⟩, by decide +kernel, by decide⟩
theorem in_Md_muddlesFrom : Cond.instanceMethod y_Md_muddlesFrom ∈ lw_tbl := (List.mem_of_getElem? (i := 1940) (by decide +kernel))
theorem sl_Md_muddlesFrom : Cond.selects y_Md_muddlesFrom.cls y_Md_muddlesFrom y_Md_muddlesFrom ∈ lw_tbl := (List.mem_of_getElem? (i := 108) (by decide +kernel))
noncomputable def qp_Md_muddlesFrom (Ψ : Nat → JF) : JP := (jb_sq (jb_sq (jb_if (jx_run [(2, 1, 0)]) 1 114 4) 4 (jb_sq (jb_go (jx_run [(1, 0, 0), (6, 2, 0), (0, 0, 0), (5, 4, 0)]) 9) 9 (jb_sq (jb_lp 9 (jb_sq (jb_if (jn (jx_run [(2, 4, 0), (4, 0, 0)]) (jx_cv 1 11 q_Md_bodies)) 9 43 18) 18 (jb_go (jx_run [(1, 0, 8), (3, 2, 0), (24, 0, 0), (4, 0, 0), (42, 11, 23), (0, 0, 2379), (2, 4, 0), (10, 0, 0), (50, 0, 0), (34, 0, 0), (22, 0, 0), (6, 2, 0), (8, 4, 1)]) 9))) 43 (jb_sq (jb_go (jx_run [(0, 0, 0), (5, 4, 0), (0, 0, 0), (5, 5, 0)]) 49) 49 (jb_sq (jb_lp 49 (jb_sq (jb_if (jx_run [(2, 5, 0), (4, 0, 0), (40, 11, 40)]) 9 88 58) 58 (jb_sq (jb_sq (jb_sq (jb_if (jx_run [(2, 4, 0)]) 1 75 63) 63 (jb_sq (jb_if (jx_run [(4, 0, 0), (42, 11, 39), (2, 5, 0), (51, 0, 0), (3, 2, 0), (33, 0, 0)]) 1 79 75) 79 (jb_go (jx_run [(0, 0, 0)]) 80))) 75 (jb_go (jx_run [(0, 0, 1)]) 80)) 80 (jb_go (jx_run [(5, 4, 0), (8, 5, 1)]) 49)))) 88 (jb_sq (jb_sq (jb_if (jx_run [(2, 4, 0)]) 1 113 93) 93 (jb_go (jx_run [(4, 0, 0), (42, 11, 39), (4, 0, 0), (40, 11, 40), (3, 2, 0), (56, 0, 0), (4, 0, 0), (70, 0, 0), (40, 11, 40), (0, 0, 1), (10, 0, 0), (43, 11, 40)]) 113)) 113 (jb_rt (jx_run []) 0))))))) 114 (jb_sq (jb_go (jx_run [(0, 0, 0), (5, 2, 0)]) 116) 116 (jb_sq (jb_lp 116 (jb_sq (jb_if (jn (jx_run [(2, 2, 0), (4, 0, 0)]) (jx_cv 1 11 q_Md_bodies)) 9 189 124) 124 (jb_sq (jb_go (jx_run [(2, 2, 0), (0, 0, 1), (10, 0, 0), (5, 3, 0)]) 128) 128 (jb_sq (jb_lp 128 (jb_sq (jb_if (jn (jx_run [(2, 3, 0), (4, 0, 0)]) (jx_cv 1 11 q_Md_bodies)) 9 183 136) 136 (jb_sq (jb_sq (jb_if (jn (jx_run [(4, 0, 0), (0, 0, 2376), (2, 2, 0), (2, 3, 0)]) (jx_cv 4 11 q_Md_mayTurn)) 0 177 148) 148 (jb_go (jn (jx_run [(4, 0, 0), (0, 0, 2376), (2, 2, 0), (2, 3, 0)]) (jn (jx_cv 4 11 q_Md_turns) (jn (jx_run [(5, 4, 0), (4, 0, 0), (2, 1, 0), (0, 0, 1), (11, 0, 0)]) (jn (jx_cv 2 11 (Ψ 0)) (jn (jx_run [(4, 0, 0), (0, 0, 2376), (2, 2, 0), (2, 3, 0), (2, 4, 0)]) (jx_cv 5 11 q_Md_unturns)))))) 177)) 177 (jb_go (jx_run [(8, 3, 1)]) 128)))) 183 (jb_go (jx_run [(8, 2, 1)]) 116))))) 189 (jb_rt (jx_run []) 0))))
noncomputable def g_Md_muddlesFrom : Nat → Nat → JF
  | 0 => fun _ _ _ => none
  | n + 1 => fun w => match w with
    | 0 => jf_of (qp_Md_muddlesFrom (g_Md_muddlesFrom n)) 6
    | _ => fun _ _ => none
set_option maxRecDepth 20000 in
theorem fr_Md_muddlesFrom (G : JG) (Ψ : Nat → JF) (d : Nat) (hd : 5 ≤ d + 1) (hΨ0 : JSem G y_Md_muddlesFrom c_Md_muddlesFrom 6 none d (Ψ 0)) : JFr G 11 false c_Md_muddlesFrom (d + 1) 6 none 0 (qp_Md_muddlesFrom Ψ) := (jfr_sq (jfr_sq (jfr_if (j := 1) (jsl_run (by decide +kernel)) (by decide +kernel) (by decide)) (jfr_sq (jfr_go (j := 9) (jsl_run (by decide +kernel)) (by decide +kernel) (by decide)) (jfr_sq (jfr_lp (jfr_sq (jfr_if (j := 15) (jsl_n (j := 12) (jsl_run (by decide +kernel)) (jsl_cv (ix := 279) mt_Md_bodies in_Md_bodies sl_Md_bodies rfl (by decide) (se_Md_bodies _) (by omega) (List.mem_of_getElem? (i := 1460) (by decide +kernel)) (by decide +kernel))) (by decide +kernel) (by decide)) (jfr_go (j := 40) (jsl_run (by decide +kernel)) (by decide +kernel) (by decide)) (by decide)) (by decide)) (jfr_sq (jfr_go (j := 49) (jsl_run (by decide +kernel)) (by decide +kernel) (by decide)) (jfr_sq (jfr_lp (jfr_sq (jfr_if (j := 55) (jsl_run (by decide +kernel)) (by decide +kernel) (by decide)) (jfr_sq (jfr_sq (jfr_sq (jfr_if (j := 60) (jsl_run (by decide +kernel)) (by decide +kernel) (by decide)) (jfr_sq (jfr_if (j := 72) (jsl_run (by decide +kernel)) (by decide +kernel) (by decide)) (jfr_go (j := 80) (jsl_run (by decide +kernel)) (by decide +kernel) (by decide)) (by decide)) (by decide)) (jfr_go (j := 76) (jsl_run (by decide +kernel)) (by decide +kernel) (by decide)) (by decide)) (jfr_go (j := 85) (jsl_run (by decide +kernel)) (by decide +kernel) (by decide)) (by decide)) (by decide)) (by decide)) (jfr_sq (jfr_sq (jfr_if (j := 90) (jsl_run (by decide +kernel)) (by decide +kernel) (by decide)) (jfr_go (j := 113) (jsl_run (by decide +kernel)) (by decide +kernel) (by decide)) (by decide)) (jfr_rt (j := 113) (jsl_run (by decide +kernel)) (by decide +kernel)) (by decide)) (by decide)) (by decide)) (by decide)) (by decide)) (by decide)) (jfr_sq (jfr_go (j := 116) (jsl_run (by decide +kernel)) (by decide +kernel) (by decide)) (jfr_sq (jfr_lp (jfr_sq (jfr_if (j := 121) (jsl_n (j := 118) (jsl_run (by decide +kernel)) (jsl_cv (ix := 279) mt_Md_bodies in_Md_bodies sl_Md_bodies rfl (by decide) (se_Md_bodies _) (by omega) (List.mem_of_getElem? (i := 1460) (by decide +kernel)) (by decide +kernel))) (by decide +kernel) (by decide)) (jfr_sq (jfr_go (j := 128) (jsl_run (by decide +kernel)) (by decide +kernel) (by decide)) (jfr_sq (jfr_lp (jfr_sq (jfr_if (j := 133) (jsl_n (j := 130) (jsl_run (by decide +kernel)) (jsl_cv (ix := 279) mt_Md_bodies in_Md_bodies sl_Md_bodies rfl (by decide) (se_Md_bodies _) (by omega) (List.mem_of_getElem? (i := 1460) (by decide +kernel)) (by decide +kernel))) (by decide +kernel) (by decide)) (jfr_sq (jfr_sq (jfr_if (j := 145) (jsl_n (j := 142) (jsl_run (by decide +kernel)) (jsl_cv (ix := 321) mt_Md_mayTurn in_Md_mayTurn sl_Md_mayTurn rfl (by decide) (se_Md_mayTurn _) (by omega) (List.mem_of_getElem? (i := 1763) (by decide +kernel)) (by decide +kernel))) (by decide +kernel) (by decide)) (jfr_go (j := 177) (jsl_n (j := 154) (jsl_run (by decide +kernel)) (jsl_n (j := 157) (jsl_cv (ix := 334) mt_Md_turns in_Md_turns sl_Md_turns rfl (by decide) (se_Md_turns _) (by omega) (List.mem_of_getElem? (i := 1783) (by decide +kernel)) (by decide +kernel)) (jsl_n (j := 163) (jsl_run (by decide +kernel)) (jsl_n (j := 166) (jsl_cv (ix := 409) mt_Md_muddlesFrom in_Md_muddlesFrom sl_Md_muddlesFrom rfl (by decide) (hΨ0) (by omega) (List.mem_of_getElem? (i := 1938) (by decide +kernel)) (by decide +kernel)) (jsl_n (j := 174) (jsl_run (by decide +kernel)) (jsl_cv (ix := 380) mt_Md_unturns in_Md_unturns sl_Md_unturns rfl (by decide) (se_Md_unturns _) (by omega) (List.mem_of_getElem? (i := 1894) (by decide +kernel)) (by decide +kernel))))))) (by decide +kernel) (by decide)) (by decide)) (jfr_go (j := 180) (jsl_run (by decide +kernel)) (by decide +kernel) (by decide)) (by decide)) (by decide)) (by decide)) (jfr_go (j := 186) (jsl_run (by decide +kernel)) (by decide +kernel) (by decide)) (by decide)) (by decide)) (by decide)) (by decide)) (jfr_rt (j := 189) (jsl_run (by decide +kernel)) (by decide +kernel)) (by decide)) (by decide)) (by decide))
theorem se_g_Md_muddlesFrom (G : JG) (n : Nat) : JSem G y_Md_muddlesFrom c_Md_muddlesFrom 6 none (5 + n) (g_Md_muddlesFrom n 0) := by
  induction n with
  | zero => exact fun _ _ _ _ h => by cases h
  | succ n ih =>
    have h0 := ih
    exact jsem_of (by decide +kernel) rfl (by intro h; cases h) (fr_Md_muddlesFrom G (g_Md_muddlesFrom n) (5 + n) (by omega) h0)
noncomputable abbrev q_Md_muddlesFrom : JF := g_Md_muddlesFrom 40 0
theorem se_Md_muddlesFrom (G : JG) : JSem G y_Md_muddlesFrom c_Md_muddlesFrom 6 none 45 q_Md_muddlesFrom := (se_g_Md_muddlesFrom G 40)
def y_Md_muddles : MethodName := ⟨"CellarTurnsModel", "muddles", "(I)I"⟩
abbrev c_Md_muddles : ByteArray := prog_15_method_94_code
theorem mt_Md_muddles : JMt y_Md_muddles c_Md_muddles 2 (some .int) 1 := ⟨(List.mem_of_getElem? (i := 1937) (by decide +kernel)), (List.mem_of_getElem? (i := 133) (by decide +kernel)), ⟨by decide +kernel, by decide +kernel⟩, by decide +kernel, by decide⟩
theorem in_Md_muddles : Cond.instanceMethod y_Md_muddles ∈ lw_tbl := (List.mem_of_getElem? (i := 1935) (by decide +kernel))
theorem sl_Md_muddles : Cond.selects y_Md_muddles.cls y_Md_muddles y_Md_muddles ∈ lw_tbl := (List.mem_of_getElem? (i := 1936) (by decide +kernel))
noncomputable def qp_Md_muddles : JP := (jb_sq (jb_sq (jb_if (jn (jx_run [(4, 0, 0), (0, 0, 0), (43, 11, 0), (2, 1, 0), (0, 0, 0), (0, 0, 2)]) (jx_cs 3 q_Md_within)) 1 16 14) 14 (jb_rt (jx_run [(0, 0, -1)]) 1)) 16 (jb_rt (jn (jx_run [(4, 0, 0), (0, 0, 0), (0, 0, 2376), (0, 0, 91)]) (jn (jx_cv 4 11 q_Md_copies) (jn (jx_run [(4, 0, 0), (0, 0, 0), (43, 11, 40), (4, 0, 0), (2, 1, 0)]) (jn (jx_cv 2 11 q_Md_muddlesFrom) (jx_run [(4, 0, 0), (40, 11, 40)]))))) 1))
noncomputable def q_Md_muddles : JF := jf_of qp_Md_muddles 2
set_option maxRecDepth 20000 in
theorem fr_Md_muddles (G : JG) : JFr G 11 false c_Md_muddles 46 2 (some .int) 0 qp_Md_muddles := (jfr_sq (jfr_sq (jfr_if (j := 11) (jsl_n (j := 8) (jsl_run (by decide +kernel)) (jsl_cs (ix := 328) mt_Md_within st_Md_within (se_Md_within _) (by decide) (List.mem_of_getElem? (i := 1744) (by decide +kernel)) (by decide +kernel))) (by decide +kernel) (by decide)) (jfr_rt (j := 15) (jsl_run (by decide +kernel)) (by decide +kernel)) (by decide)) (jfr_rt (j := 40) (jsl_n (j := 23) (jsl_run (by decide +kernel)) (jsl_n (j := 26) (jsl_cv (ix := 291) mt_Md_copies in_Md_copies sl_Md_copies rfl (by decide) (se_Md_copies _) (by decide) (List.mem_of_getElem? (i := 1779) (by decide +kernel)) (by decide +kernel)) (jsl_n (j := 33) (jsl_run (by decide +kernel)) (jsl_n (j := 36) (jsl_cv (ix := 409) mt_Md_muddlesFrom in_Md_muddlesFrom sl_Md_muddlesFrom rfl (by decide) (se_Md_muddlesFrom _) (by decide) (List.mem_of_getElem? (i := 1938) (by decide +kernel)) (by decide +kernel)) (jsl_run (by decide +kernel)))))) (by decide +kernel)) (by decide))
theorem se_Md_muddles (G : JG) : JSem G y_Md_muddles c_Md_muddles 2 (some .int) 46 q_Md_muddles := jsem_of (by decide +kernel) rfl (by intro h; cases h) (fr_Md_muddles G)
def y_Md_pair : MethodName := ⟨"CellarTurnsModel", "pair", "(III)I"⟩
abbrev c_Md_pair : ByteArray := prog_15_method_102_code
theorem mt_Md_pair : JMt y_Md_pair c_Md_pair 6 (some .int) 3 := ⟨(List.mem_of_getElem? (i := 1975) (by decide +kernel)), (List.mem_of_getElem? (i := 133) (by decide +kernel)), ⟨by decide +kernel, by decide +kernel⟩, by decide +kernel, by decide⟩
theorem in_Md_pair : Cond.instanceMethod y_Md_pair ∈ lw_tbl := (List.mem_of_getElem? (i := 1973) (by decide +kernel))
theorem sl_Md_pair : Cond.selects y_Md_pair.cls y_Md_pair y_Md_pair ∈ lw_tbl := (List.mem_of_getElem? (i := 1974) (by decide +kernel))
noncomputable def qp_Md_pair : JP := (jb_sq (jb_sq (jb_sq (jb_if (jn (jx_run [(2, 1, 0), (0, 0, 1), (0, 0, 3)]) (jx_cs 3 q_Md_within)) 0 34 9) 9 (jb_sq (jb_if (jn (jx_run [(4, 0, 0), (2, 2, 0)]) (jx_cv 2 11 q_Md_isBody)) 0 34 17) 17 (jb_sq (jb_if (jn (jx_run [(4, 0, 0), (2, 3, 0)]) (jx_cv 2 11 q_Md_isBody)) 0 34 25) 25 (jb_sq (jb_if (jx_run [(2, 2, 0), (2, 3, 0)]) 6 34 30) 30 (jb_go (jx_run [(0, 0, 1)]) 35))))) 34 (jb_go (jx_run [(0, 0, 0)]) 35)) 35 (jb_sq (jb_sq (jb_if (jx_run [(5, 4, 0), (4, 0, 0), (0, 0, 0), (43, 11, 41), (2, 4, 0)]) 0 52 47) 47 (jb_go (jn (jx_run [(4, 0, 0), (2, 1, 0)]) (jx_cv 2 11 q_Md_findRows)) 52)) 52 (jb_sq (jb_sq (jb_sq (jb_if (jx_run [(4, 0, 0), (4, 0, 0), (40, 11, 41)]) 1 64 60) 60 (jb_go (jx_run [(0, 0, 1)]) 65)) 64 (jb_go (jx_run [(0, 0, 0)]) 65)) 65 (jb_sq (jb_sq (jb_if (jx_run [(43, 11, 0), (4, 0, 0), (40, 11, 0)]) 5 77 75) 75 (jb_rt (jx_run [(0, 0, 0)]) 1)) 77 (jb_sq (jb_sq (jb_sq (jb_if (jx_run [(4, 0, 0), (42, 11, 42), (2, 2, 0), (2, 3, 0)]) 9 95 86) 86 (jb_go (jx_run [(0, 0, 8), (2, 2, 0), (12, 0, 0), (2, 3, 0), (10, 0, 0)]) 101)) 95 (jb_go (jx_run [(0, 0, 8), (2, 3, 0), (12, 0, 0), (2, 2, 0), (10, 0, 0)]) 101)) 101 (jb_sq (jb_sq (jb_sq (jb_if (jx_run [(50, 0, 0), (5, 5, 0), (2, 5, 0), (4, 0, 0), (40, 11, 41)]) 7 117 113) 113 (jb_go (jx_run [(0, 0, 2)]) 127)) 117 (jb_sq (jb_sq (jb_if (jx_run [(2, 5, 0)]) 5 126 122) 122 (jb_go (jx_run [(0, 0, 1)]) 127)) 126 (jb_go (jx_run [(0, 0, 0)]) 127))) 127 (jb_rt (jx_run []) 1)))))))
noncomputable def q_Md_pair : JF := jf_of qp_Md_pair 6
set_option maxRecDepth 20000 in
theorem fr_Md_pair (G : JG) : JFr G 11 false c_Md_pair 47 6 (some .int) 0 qp_Md_pair := (jfr_sq (jfr_sq (jfr_sq (jfr_if (j := 6) (jsl_n (j := 3) (jsl_run (by decide +kernel)) (jsl_cs (ix := 328) mt_Md_within st_Md_within (se_Md_within _) (by decide) (List.mem_of_getElem? (i := 1744) (by decide +kernel)) (by decide +kernel))) (by decide +kernel) (by decide)) (jfr_sq (jfr_if (j := 14) (jsl_n (j := 11) (jsl_run (by decide +kernel)) (jsl_cv (ix := 325) mt_Md_isBody in_Md_isBody sl_Md_isBody rfl (by decide) (se_Md_isBody _) (by decide) (List.mem_of_getElem? (i := 1740) (by decide +kernel)) (by decide +kernel))) (by decide +kernel) (by decide)) (jfr_sq (jfr_if (j := 22) (jsl_n (j := 19) (jsl_run (by decide +kernel)) (jsl_cv (ix := 325) mt_Md_isBody in_Md_isBody sl_Md_isBody rfl (by decide) (se_Md_isBody _) (by decide) (List.mem_of_getElem? (i := 1740) (by decide +kernel)) (by decide +kernel))) (by decide +kernel) (by decide)) (jfr_sq (jfr_if (j := 27) (jsl_run (by decide +kernel)) (by decide +kernel) (by decide)) (jfr_go (j := 31) (jsl_run (by decide +kernel)) (by decide +kernel) (by decide)) (by decide)) (by decide)) (by decide)) (by decide)) (jfr_go (j := 35) (jsl_run (by decide +kernel)) (by decide +kernel) (by decide)) (by decide)) (jfr_sq (jfr_sq (jfr_if (j := 44) (jsl_run (by decide +kernel)) (by decide +kernel) (by decide)) (jfr_go (j := 52) (jsl_n (j := 49) (jsl_run (by decide +kernel)) (jsl_cv (ix := 425) mt_Md_findRows in_Md_findRows sl_Md_findRows rfl (by decide) (se_Md_findRows _) (by decide) (List.mem_of_getElem? (i := 1960) (by decide +kernel)) (by decide +kernel))) (by decide +kernel) (by decide)) (by decide)) (jfr_sq (jfr_sq (jfr_sq (jfr_if (j := 57) (jsl_run (by decide +kernel)) (by decide +kernel) (by decide)) (jfr_go (j := 61) (jsl_run (by decide +kernel)) (by decide +kernel) (by decide)) (by decide)) (jfr_go (j := 65) (jsl_run (by decide +kernel)) (by decide +kernel) (by decide)) (by decide)) (jfr_sq (jfr_sq (jfr_if (j := 72) (jsl_run (by decide +kernel)) (by decide +kernel) (by decide)) (jfr_rt (j := 76) (jsl_run (by decide +kernel)) (by decide +kernel)) (by decide)) (jfr_sq (jfr_sq (jfr_sq (jfr_if (j := 83) (jsl_run (by decide +kernel)) (by decide +kernel) (by decide)) (jfr_go (j := 92) (jsl_run (by decide +kernel)) (by decide +kernel) (by decide)) (by decide)) (jfr_go (j := 101) (jsl_run (by decide +kernel)) (by decide +kernel) (by decide)) (by decide)) (jfr_sq (jfr_sq (jfr_sq (jfr_if (j := 110) (jsl_run (by decide +kernel)) (by decide +kernel) (by decide)) (jfr_go (j := 114) (jsl_run (by decide +kernel)) (by decide +kernel) (by decide)) (by decide)) (jfr_sq (jfr_sq (jfr_if (j := 119) (jsl_run (by decide +kernel)) (by decide +kernel) (by decide)) (jfr_go (j := 123) (jsl_run (by decide +kernel)) (by decide +kernel) (by decide)) (by decide)) (jfr_go (j := 127) (jsl_run (by decide +kernel)) (by decide +kernel) (by decide)) (by decide)) (by decide)) (jfr_rt (j := 127) (jsl_run (by decide +kernel)) (by decide +kernel)) (by decide)) (by decide)) (by decide)) (by decide)) (by decide)) (by decide))
theorem se_Md_pair (G : JG) : JSem G y_Md_pair c_Md_pair 6 (some .int) 47 q_Md_pair := jsem_of (by decide +kernel) rfl (by intro h; cases h) (fr_Md_pair G)
def y_Md_ready : MethodName := ⟨"CellarTurnsModel", "ready", "(III)Z"⟩
abbrev c_Md_ready : ByteArray := prog_15_method_80_code
theorem mt_Md_ready : JMt y_Md_ready c_Md_ready 4 (some .boolean) 3 := ⟨(List.mem_of_getElem? (i := 1881) (by decide +kernel)), (List.mem_of_getElem? (i := 133) (by decide +kernel)), ⟨by decide +kernel, by decide +kernel⟩, by decide +kernel, by decide⟩
theorem in_Md_ready : Cond.instanceMethod y_Md_ready ∈ lw_tbl := (List.mem_of_getElem? (i := 1879) (by decide +kernel))
theorem sl_Md_ready : Cond.selects y_Md_ready.cls y_Md_ready y_Md_ready ∈ lw_tbl := (List.mem_of_getElem? (i := 1880) (by decide +kernel))
noncomputable def qp_Md_ready : JP := (jb_sq (jb_sq (jb_sq (jb_if (jn (jx_run [(4, 0, 0), (0, 0, 0), (43, 11, 0), (4, 0, 0), (2, 1, 0)]) (jx_cv 2 11 q_Md_isBody)) 0 44 13) 13 (jb_sq (jb_if (jn (jx_run [(4, 0, 0), (2, 2, 0)]) (jx_cv 2 11 q_Md_isBody)) 0 44 21) 21 (jb_sq (jb_if (jn (jx_run [(4, 0, 0), (2, 3, 0)]) (jx_cv 2 11 q_Md_isBody)) 0 44 29) 29 (jb_sq (jb_if (jn (jx_run [(4, 0, 0), (0, 0, 0), (2, 1, 0), (2, 2, 0), (2, 3, 0)]) (jx_cv 5 11 q_Md_mayRound)) 0 44 40) 40 (jb_go (jx_run [(0, 0, 1)]) 45))))) 44 (jb_go (jx_run [(0, 0, 0)]) 45)) 45 (jb_rt (jx_run []) 4))
noncomputable def q_Md_ready : JF := jf_of qp_Md_ready 4
set_option maxRecDepth 20000 in
theorem fr_Md_ready (G : JG) : JFr G 11 false c_Md_ready 4 4 (some .boolean) 0 qp_Md_ready := (jfr_sq (jfr_sq (jfr_sq (jfr_if (j := 10) (jsl_n (j := 7) (jsl_run (by decide +kernel)) (jsl_cv (ix := 325) mt_Md_isBody in_Md_isBody sl_Md_isBody rfl (by decide) (se_Md_isBody _) (by decide) (List.mem_of_getElem? (i := 1740) (by decide +kernel)) (by decide +kernel))) (by decide +kernel) (by decide)) (jfr_sq (jfr_if (j := 18) (jsl_n (j := 15) (jsl_run (by decide +kernel)) (jsl_cv (ix := 325) mt_Md_isBody in_Md_isBody sl_Md_isBody rfl (by decide) (se_Md_isBody _) (by decide) (List.mem_of_getElem? (i := 1740) (by decide +kernel)) (by decide +kernel))) (by decide +kernel) (by decide)) (jfr_sq (jfr_if (j := 26) (jsl_n (j := 23) (jsl_run (by decide +kernel)) (jsl_cv (ix := 325) mt_Md_isBody in_Md_isBody sl_Md_isBody rfl (by decide) (se_Md_isBody _) (by decide) (List.mem_of_getElem? (i := 1740) (by decide +kernel)) (by decide +kernel))) (by decide +kernel) (by decide)) (jfr_sq (jfr_if (j := 37) (jsl_n (j := 34) (jsl_run (by decide +kernel)) (jsl_cv (ix := 337) mt_Md_mayRound in_Md_mayRound sl_Md_mayRound rfl (by decide) (se_Md_mayRound _) (by decide) (List.mem_of_getElem? (i := 1814) (by decide +kernel)) (by decide +kernel))) (by decide +kernel) (by decide)) (jfr_go (j := 41) (jsl_run (by decide +kernel)) (by decide +kernel) (by decide)) (by decide)) (by decide)) (by decide)) (by decide)) (jfr_go (j := 45) (jsl_run (by decide +kernel)) (by decide +kernel) (by decide)) (by decide)) (jfr_rt (j := 45) (jsl_run (by decide +kernel)) (by decide +kernel)) (by decide))
theorem se_Md_ready (G : JG) : JSem G y_Md_ready c_Md_ready 4 (some .boolean) 4 q_Md_ready := jsem_of (by decide +kernel) rfl (by intro h; cases h) (fr_Md_ready G)
def y_Md_rings : MethodName := ⟨"CellarTurnsModel", "rings", "(I)I"⟩
abbrev c_Md_rings : ByteArray := prog_15_method_74_code
theorem mt_Md_rings : JMt y_Md_rings c_Md_rings 2 (some .int) 1 := ⟨(List.mem_of_getElem? (i := 1849) (by decide +kernel)), (List.mem_of_getElem? (i := 133) (by decide +kernel)), ⟨by decide +kernel, by decide +kernel⟩, by decide +kernel, by decide⟩
theorem in_Md_rings : Cond.instanceMethod y_Md_rings ∈ lw_tbl := (List.mem_of_getElem? (i := 1847) (by decide +kernel))
theorem sl_Md_rings : Cond.selects y_Md_rings.cls y_Md_rings y_Md_rings ∈ lw_tbl := (List.mem_of_getElem? (i := 1848) (by decide +kernel))
noncomputable def qp_Md_rings : JP := (jb_sq (jb_sq (jb_if (jn (jx_run [(4, 0, 0), (0, 0, 0), (43, 11, 0), (2, 1, 0), (0, 0, 0), (0, 0, 2)]) (jx_cs 3 q_Md_within)) 1 16 14) 14 (jb_rt (jx_run [(0, 0, -1)]) 1)) 16 (jb_sq (jb_sq (jb_sq (jb_if (jn (jx_run [(4, 0, 0)]) (jn (jx_cv 1 11 q_Md_findRings) (jx_run [(2, 1, 0)]))) 1 31 24) 24 (jb_go (jx_run [(4, 0, 0), (40, 11, 29)]) 47)) 31 (jb_sq (jb_sq (jb_if (jx_run [(2, 1, 0), (0, 0, 1)]) 7 43 36) 36 (jb_go (jx_run [(4, 0, 0), (40, 11, 30)]) 47)) 43 (jb_go (jx_run [(4, 0, 0), (40, 11, 31)]) 47))) 47 (jb_rt (jx_run []) 1)))
noncomputable def q_Md_rings : JF := jf_of qp_Md_rings 2
set_option maxRecDepth 20000 in
theorem fr_Md_rings (G : JG) : JFr G 11 false c_Md_rings 2 2 (some .int) 0 qp_Md_rings := (jfr_sq (jfr_sq (jfr_if (j := 11) (jsl_n (j := 8) (jsl_run (by decide +kernel)) (jsl_cs (ix := 328) mt_Md_within st_Md_within (se_Md_within _) (by decide) (List.mem_of_getElem? (i := 1744) (by decide +kernel)) (by decide +kernel))) (by decide +kernel) (by decide)) (jfr_rt (j := 15) (jsl_run (by decide +kernel)) (by decide +kernel)) (by decide)) (jfr_sq (jfr_sq (jfr_sq (jfr_if (j := 21) (jsl_n (j := 17) (jsl_run (by decide +kernel)) (jsl_n (j := 20) (jsl_cv (ix := 368) mt_Md_findRings in_Md_findRings sl_Md_findRings rfl (by decide) (se_Md_findRings _) (by decide) (List.mem_of_getElem? (i := 1850) (by decide +kernel)) (by decide +kernel)) (jsl_run (by decide +kernel)))) (by decide +kernel) (by decide)) (jfr_go (j := 28) (jsl_run (by decide +kernel)) (by decide +kernel) (by decide)) (by decide)) (jfr_sq (jfr_sq (jfr_if (j := 33) (jsl_run (by decide +kernel)) (by decide +kernel) (by decide)) (jfr_go (j := 40) (jsl_run (by decide +kernel)) (by decide +kernel) (by decide)) (by decide)) (jfr_go (j := 47) (jsl_run (by decide +kernel)) (by decide +kernel) (by decide)) (by decide)) (by decide)) (jfr_rt (j := 47) (jsl_run (by decide +kernel)) (by decide +kernel)) (by decide)) (by decide))
theorem se_Md_rings (G : JG) : JSem G y_Md_rings c_Md_rings 2 (some .int) 2 q_Md_rings := jsem_of (by decide +kernel) rfl (by intro h; cases h) (fr_Md_rings G)
def y_Md_round : MethodName := ⟨"CellarTurnsModel", "round", "(III)I"⟩
abbrev c_Md_round : ByteArray := prog_15_method_67_code
theorem mt_Md_round : JMt y_Md_round c_Md_round 4 (some .int) 3 := ⟨(List.mem_of_getElem? (i := 1813) (by decide +kernel)), (List.mem_of_getElem? (i := 133) (by decide +kernel)), ⟨by decide +kernel, by decide +kernel⟩, by decide +kernel, by decide⟩
theorem in_Md_round : Cond.instanceMethod y_Md_round ∈ lw_tbl := (List.mem_of_getElem? (i := 1811) (by decide +kernel))
theorem sl_Md_round : Cond.selects y_Md_round.cls y_Md_round y_Md_round ∈ lw_tbl := (List.mem_of_getElem? (i := 1812) (by decide +kernel))
noncomputable def qp_Md_round : JP := (jb_sq (jb_sq (jb_if (jn (jx_run [(4, 0, 0), (0, 0, 0), (43, 11, 0), (4, 0, 0), (2, 1, 0)]) (jx_cv 2 11 q_Md_isBody)) 0 40 13) 13 (jb_sq (jb_if (jn (jx_run [(4, 0, 0), (2, 2, 0)]) (jx_cv 2 11 q_Md_isBody)) 0 40 21) 21 (jb_sq (jb_if (jn (jx_run [(4, 0, 0), (2, 3, 0)]) (jx_cv 2 11 q_Md_isBody)) 0 40 29) 29 (jb_sq (jb_if (jn (jx_run [(4, 0, 0), (0, 0, 0), (2, 1, 0), (2, 2, 0), (2, 3, 0)]) (jx_cv 5 11 q_Md_mayRound)) 1 42 40) 42 (jb_rt (jn (jx_run [(4, 0, 0)]) (jn (jx_cv 1 11 q_Md_keeps) (jn (jx_run [(4, 0, 0), (0, 0, 0), (2, 1, 0), (2, 2, 0), (2, 3, 0)]) (jn (jx_cv 5 11 q_Md_rounds) (jn (jx_run [(4, 0, 0), (0, 0, 0)]) (jx_cv 2 11 q_Md_wrongs)))))) 1))))) 40 (jb_rt (jx_run [(0, 0, -1)]) 1))
noncomputable def q_Md_round : JF := jf_of qp_Md_round 4
set_option maxRecDepth 20000 in
theorem fr_Md_round (G : JG) : JFr G 11 false c_Md_round 5 4 (some .int) 0 qp_Md_round := (jfr_sq (jfr_sq (jfr_if (j := 10) (jsl_n (j := 7) (jsl_run (by decide +kernel)) (jsl_cv (ix := 325) mt_Md_isBody in_Md_isBody sl_Md_isBody rfl (by decide) (se_Md_isBody _) (by decide) (List.mem_of_getElem? (i := 1740) (by decide +kernel)) (by decide +kernel))) (by decide +kernel) (by decide)) (jfr_sq (jfr_if (j := 18) (jsl_n (j := 15) (jsl_run (by decide +kernel)) (jsl_cv (ix := 325) mt_Md_isBody in_Md_isBody sl_Md_isBody rfl (by decide) (se_Md_isBody _) (by decide) (List.mem_of_getElem? (i := 1740) (by decide +kernel)) (by decide +kernel))) (by decide +kernel) (by decide)) (jfr_sq (jfr_if (j := 26) (jsl_n (j := 23) (jsl_run (by decide +kernel)) (jsl_cv (ix := 325) mt_Md_isBody in_Md_isBody sl_Md_isBody rfl (by decide) (se_Md_isBody _) (by decide) (List.mem_of_getElem? (i := 1740) (by decide +kernel)) (by decide +kernel))) (by decide +kernel) (by decide)) (jfr_sq (jfr_if (j := 37) (jsl_n (j := 34) (jsl_run (by decide +kernel)) (jsl_cv (ix := 337) mt_Md_mayRound in_Md_mayRound sl_Md_mayRound rfl (by decide) (se_Md_mayRound _) (by decide) (List.mem_of_getElem? (i := 1814) (by decide +kernel)) (by decide +kernel))) (by decide +kernel) (by decide)) (jfr_rt (j := 59) (jsl_n (j := 43) (jsl_run (by decide +kernel)) (jsl_n (j := 46) (jsl_cv (ix := 331) mt_Md_keeps in_Md_keeps sl_Md_keeps rfl (by decide) (se_Md_keeps _) (by decide) (List.mem_of_getElem? (i := 1775) (by decide +kernel)) (by decide +kernel)) (jsl_n (j := 51) (jsl_run (by decide +kernel)) (jsl_n (j := 54) (jsl_cv (ix := 341) mt_Md_rounds in_Md_rounds sl_Md_rounds rfl (by decide) (se_Md_rounds _) (by decide) (List.mem_of_getElem? (i := 1818) (by decide +kernel)) (by decide +kernel)) (jsl_n (j := 56) (jsl_run (by decide +kernel)) (jsl_cv (ix := 305) mt_Md_wrongs in_Md_wrongs sl_Md_wrongs rfl (by decide) (se_Md_wrongs _) (by decide) (List.mem_of_getElem? (i := 1795) (by decide +kernel)) (by decide +kernel))))))) (by decide +kernel)) (by decide)) (by decide)) (by decide)) (by decide)) (jfr_rt (j := 41) (jsl_run (by decide +kernel)) (by decide +kernel)) (by decide))
theorem se_Md_round (G : JG) : JSem G y_Md_round c_Md_round 4 (some .int) 5 q_Md_round := jsem_of (by decide +kernel) rfl (by intro h; cases h) (fr_Md_round G)
def y_Md_rows : MethodName := ⟨"CellarTurnsModel", "rows", "(I)I"⟩
abbrev c_Md_rows : ByteArray := prog_15_method_101_code
theorem mt_Md_rows : JMt y_Md_rows c_Md_rows 2 (some .int) 1 := ⟨(List.mem_of_getElem? (i := 1959) (by decide +kernel)), (List.mem_of_getElem? (i := 133) (by decide +kernel)), ⟨by decide +kernel, by decide +kernel⟩, by decide +kernel, by decide⟩
theorem in_Md_rows : Cond.instanceMethod y_Md_rows ∈ lw_tbl := (List.mem_of_getElem? (i := 1957) (by decide +kernel))
theorem sl_Md_rows : Cond.selects y_Md_rows.cls y_Md_rows y_Md_rows ∈ lw_tbl := (List.mem_of_getElem? (i := 1958) (by decide +kernel))
noncomputable def qp_Md_rows : JP := (jb_sq (jb_sq (jb_if (jn (jx_run [(4, 0, 0), (0, 0, 0), (43, 11, 0), (2, 1, 0), (0, 0, 1), (0, 0, 3)]) (jx_cs 3 q_Md_within)) 1 16 14) 14 (jb_rt (jx_run [(0, 0, -1)]) 1)) 16 (jb_rt (jn (jx_run [(4, 0, 0), (2, 1, 0)]) (jn (jx_cv 2 11 q_Md_findRows) (jx_run [(4, 0, 0), (40, 11, 41)]))) 1))
noncomputable def q_Md_rows : JF := jf_of qp_Md_rows 2
set_option maxRecDepth 20000 in
theorem fr_Md_rows (G : JG) : JFr G 11 false c_Md_rows 47 2 (some .int) 0 qp_Md_rows := (jfr_sq (jfr_sq (jfr_if (j := 11) (jsl_n (j := 8) (jsl_run (by decide +kernel)) (jsl_cs (ix := 328) mt_Md_within st_Md_within (se_Md_within _) (by decide) (List.mem_of_getElem? (i := 1744) (by decide +kernel)) (by decide +kernel))) (by decide +kernel) (by decide)) (jfr_rt (j := 15) (jsl_run (by decide +kernel)) (by decide +kernel)) (by decide)) (jfr_rt (j := 25) (jsl_n (j := 18) (jsl_run (by decide +kernel)) (jsl_n (j := 21) (jsl_cv (ix := 425) mt_Md_findRows in_Md_findRows sl_Md_findRows rfl (by decide) (se_Md_findRows _) (by decide) (List.mem_of_getElem? (i := 1960) (by decide +kernel)) (by decide +kernel)) (jsl_run (by decide +kernel)))) (by decide +kernel)) (by decide))
theorem se_Md_rows (G : JG) : JSem G y_Md_rows c_Md_rows 2 (some .int) 47 q_Md_rows := jsem_of (by decide +kernel) rfl (by intro h; cases h) (fr_Md_rows G)
def y_Md_see : MethodName := ⟨"CellarTurnsModel", "see", "(II)Z"⟩
abbrev c_Md_see : ByteArray := prog_15_method_97_code
theorem mt_Md_see : JMt y_Md_see c_Md_see 3 (some .boolean) 2 := ⟨(List.mem_of_getElem? (i := 1955) (by decide +kernel)), (List.mem_of_getElem? (i := 133) (by decide +kernel)), ⟨by decide +kernel, by decide +kernel⟩, by decide +kernel, by decide⟩
theorem in_Md_see : Cond.instanceMethod y_Md_see ∈ lw_tbl := (List.mem_of_getElem? (i := 1953) (by decide +kernel))
theorem sl_Md_see : Cond.selects y_Md_see.cls y_Md_see y_Md_see ∈ lw_tbl := (List.mem_of_getElem? (i := 1954) (by decide +kernel))
noncomputable def qp_Md_see : JP := (jb_sq (jb_sq (jb_if (jn (jx_run [(4, 0, 0), (0, 0, 0), (43, 11, 0), (4, 0, 0), (2, 1, 0)]) (jx_cv 2 11 q_Md_isBody)) 0 33 13) 13 (jb_sq (jb_if (jn (jx_run [(4, 0, 0), (2, 2, 0)]) (jx_cv 2 11 q_Md_isBody)) 0 33 21) 21 (jb_sq (jb_if (jx_run [(4, 0, 0), (42, 11, 23), (0, 0, 91), (50, 0, 0), (0, 0, 8)]) 7 35 33) 35 (jb_rt (jx_run [(4, 0, 0), (42, 11, 23), (0, 0, 92), (0, 0, 2), (4, 0, 0), (42, 11, 23), (0, 0, 91), (50, 0, 0), (12, 0, 0), (10, 0, 0), (2, 1, 0), (55, 0, 0), (4, 0, 0), (42, 11, 23), (0, 0, 92), (0, 0, 2), (4, 0, 0), (42, 11, 23), (0, 0, 91), (50, 0, 0), (12, 0, 0), (10, 0, 0), (0, 0, 1), (10, 0, 0), (2, 2, 0), (55, 0, 0), (4, 0, 0), (42, 11, 23), (0, 0, 91), (72, 0, 0), (50, 0, 0), (0, 0, 1), (10, 0, 0), (55, 0, 0), (0, 0, 1)]) 4)))) 33 (jb_rt (jx_run [(0, 0, 0)]) 4))
noncomputable def q_Md_see : JF := jf_of qp_Md_see 3
set_option maxRecDepth 20000 in
theorem fr_Md_see (G : JG) : JFr G 11 false c_Md_see 2 3 (some .boolean) 0 qp_Md_see := (jfr_sq (jfr_sq (jfr_if (j := 10) (jsl_n (j := 7) (jsl_run (by decide +kernel)) (jsl_cv (ix := 325) mt_Md_isBody in_Md_isBody sl_Md_isBody rfl (by decide) (se_Md_isBody _) (by decide) (List.mem_of_getElem? (i := 1740) (by decide +kernel)) (by decide +kernel))) (by decide +kernel) (by decide)) (jfr_sq (jfr_if (j := 18) (jsl_n (j := 15) (jsl_run (by decide +kernel)) (jsl_cv (ix := 325) mt_Md_isBody in_Md_isBody sl_Md_isBody rfl (by decide) (se_Md_isBody _) (by decide) (List.mem_of_getElem? (i := 1740) (by decide +kernel)) (by decide +kernel))) (by decide +kernel) (by decide)) (jfr_sq (jfr_if (j := 30) (jsl_run (by decide +kernel)) (by decide +kernel) (by decide)) (jfr_rt (j := 85) (jsl_run (by decide +kernel)) (by decide +kernel)) (by decide)) (by decide)) (by decide)) (jfr_rt (j := 34) (jsl_run (by decide +kernel)) (by decide +kernel)) (by decide))
theorem se_Md_see (G : JG) : JSem G y_Md_see c_Md_see 3 (some .boolean) 2 q_Md_see := jsem_of (by decide +kernel) rfl (by intro h; cases h) (fr_Md_see G)
def y_Md_thrown : MethodName := ⟨"CellarTurnsModel", "thrown", "()I"⟩
abbrev c_Md_thrown : ByteArray := prog_15_method_1_code
theorem mt_Md_thrown : JMt y_Md_thrown c_Md_thrown 1 (some .int) 0 := ⟨(List.mem_of_getElem? (i := 1412) (by decide +kernel)), (List.mem_of_getElem? (i := 133) (by decide +kernel)), ⟨by decide +kernel, by decide +kernel⟩, by decide +kernel, by decide⟩
theorem in_Md_thrown : Cond.instanceMethod y_Md_thrown ∈ lw_tbl := (List.mem_of_getElem? (i := 1410) (by decide +kernel))
theorem sl_Md_thrown : Cond.selects y_Md_thrown.cls y_Md_thrown y_Md_thrown ∈ lw_tbl := (List.mem_of_getElem? (i := 1411) (by decide +kernel))
noncomputable def qp_Md_thrown : JP := (jb_rt (jx_run [(4, 0, 0), (40, 11, 0)]) 1)
noncomputable def q_Md_thrown : JF := jf_of qp_Md_thrown 1
set_option maxRecDepth 20000 in
theorem fr_Md_thrown (G : JG) : JFr G 11 false c_Md_thrown 0 1 (some .int) 0 qp_Md_thrown := (jfr_rt (j := 4) (jsl_run (by decide +kernel)) (by decide +kernel))
theorem se_Md_thrown (G : JG) : JSem G y_Md_thrown c_Md_thrown 1 (some .int) 0 q_Md_thrown := jsem_of (by decide +kernel) rfl (by intro h; cases h) (fr_Md_thrown G)
def y_Md_turn : MethodName := ⟨"CellarTurnsModel", "turn", "(II)I"⟩
abbrev c_Md_turn : ByteArray := prog_15_method_66_code
theorem mt_Md_turn : JMt y_Md_turn c_Md_turn 3 (some .int) 2 := ⟨(List.mem_of_getElem? (i := 1774) (by decide +kernel)), (List.mem_of_getElem? (i := 133) (by decide +kernel)), ⟨by decide +kernel, by decide +kernel⟩, by decide +kernel, by decide⟩
theorem in_Md_turn : Cond.instanceMethod y_Md_turn ∈ lw_tbl := (List.mem_of_getElem? (i := 1772) (by decide +kernel))
theorem sl_Md_turn : Cond.selects y_Md_turn.cls y_Md_turn y_Md_turn ∈ lw_tbl := (List.mem_of_getElem? (i := 1773) (by decide +kernel))
noncomputable def qp_Md_turn : JP := (jb_sq (jb_sq (jb_if (jn (jx_run [(4, 0, 0), (0, 0, 0), (43, 11, 0), (4, 0, 0), (2, 1, 0)]) (jx_cv 2 11 q_Md_isBody)) 0 31 13) 13 (jb_sq (jb_if (jn (jx_run [(4, 0, 0), (2, 2, 0)]) (jx_cv 2 11 q_Md_isBody)) 0 31 21) 21 (jb_sq (jb_if (jn (jx_run [(4, 0, 0), (0, 0, 0), (2, 1, 0), (2, 2, 0)]) (jx_cv 4 11 q_Md_mayTurn)) 1 33 31) 33 (jb_rt (jn (jx_run [(4, 0, 0)]) (jn (jx_cv 1 11 q_Md_keeps) (jn (jx_run [(4, 0, 0), (0, 0, 0), (2, 1, 0), (2, 2, 0)]) (jn (jx_cv 4 11 q_Md_turns) (jn (jx_run [(71, 0, 0), (4, 0, 0), (0, 0, 0)]) (jx_cv 2 11 q_Md_wrongs)))))) 1)))) 31 (jb_rt (jx_run [(0, 0, -1)]) 1))
noncomputable def q_Md_turn : JF := jf_of qp_Md_turn 3
set_option maxRecDepth 20000 in
theorem fr_Md_turn (G : JG) : JFr G 11 false c_Md_turn 5 3 (some .int) 0 qp_Md_turn := (jfr_sq (jfr_sq (jfr_if (j := 10) (jsl_n (j := 7) (jsl_run (by decide +kernel)) (jsl_cv (ix := 325) mt_Md_isBody in_Md_isBody sl_Md_isBody rfl (by decide) (se_Md_isBody _) (by decide) (List.mem_of_getElem? (i := 1740) (by decide +kernel)) (by decide +kernel))) (by decide +kernel) (by decide)) (jfr_sq (jfr_if (j := 18) (jsl_n (j := 15) (jsl_run (by decide +kernel)) (jsl_cv (ix := 325) mt_Md_isBody in_Md_isBody sl_Md_isBody rfl (by decide) (se_Md_isBody _) (by decide) (List.mem_of_getElem? (i := 1740) (by decide +kernel)) (by decide +kernel))) (by decide +kernel) (by decide)) (jfr_sq (jfr_if (j := 28) (jsl_n (j := 25) (jsl_run (by decide +kernel)) (jsl_cv (ix := 321) mt_Md_mayTurn in_Md_mayTurn sl_Md_mayTurn rfl (by decide) (se_Md_mayTurn _) (by decide) (List.mem_of_getElem? (i := 1763) (by decide +kernel)) (by decide +kernel))) (by decide +kernel) (by decide)) (jfr_rt (j := 50) (jsl_n (j := 34) (jsl_run (by decide +kernel)) (jsl_n (j := 37) (jsl_cv (ix := 331) mt_Md_keeps in_Md_keeps sl_Md_keeps rfl (by decide) (se_Md_keeps _) (by decide) (List.mem_of_getElem? (i := 1775) (by decide +kernel)) (by decide +kernel)) (jsl_n (j := 41) (jsl_run (by decide +kernel)) (jsl_n (j := 44) (jsl_cv (ix := 334) mt_Md_turns in_Md_turns sl_Md_turns rfl (by decide) (se_Md_turns _) (by decide) (List.mem_of_getElem? (i := 1783) (by decide +kernel)) (by decide +kernel)) (jsl_n (j := 47) (jsl_run (by decide +kernel)) (jsl_cv (ix := 305) mt_Md_wrongs in_Md_wrongs sl_Md_wrongs rfl (by decide) (se_Md_wrongs _) (by decide) (List.mem_of_getElem? (i := 1795) (by decide +kernel)) (by decide +kernel))))))) (by decide +kernel)) (by decide)) (by decide)) (by decide)) (jfr_rt (j := 32) (jsl_run (by decide +kernel)) (by decide +kernel)) (by decide))
theorem se_Md_turn (G : JG) : JSem G y_Md_turn c_Md_turn 3 (some .int) 5 q_Md_turn := jsem_of (by decide +kernel) rfl (by intro h; cases h) (fr_Md_turn G)
def y_Md_undo : MethodName := ⟨"CellarTurnsModel", "undo", "()Z"⟩
abbrev c_Md_undo : ByteArray := prog_15_method_69_code
theorem mt_Md_undo : JMt y_Md_undo c_Md_undo 1 (some .boolean) 0 := ⟨(List.mem_of_getElem? (i := 1837) (by decide +kernel)), (List.mem_of_getElem? (i := 133) (by decide +kernel)), ⟨by decide +kernel, by decide +kernel⟩, by decide +kernel, by decide⟩
theorem in_Md_undo : Cond.instanceMethod y_Md_undo ∈ lw_tbl := (List.mem_of_getElem? (i := 1835) (by decide +kernel))
theorem sl_Md_undo : Cond.selects y_Md_undo.cls y_Md_undo y_Md_undo ∈ lw_tbl := (List.mem_of_getElem? (i := 1836) (by decide +kernel))
noncomputable def qp_Md_undo : JP := (jb_sq (jb_sq (jb_if (jx_run [(4, 0, 0), (0, 0, 0), (43, 11, 0), (4, 0, 0), (40, 11, 24)]) 1 14 12) 12 (jb_rt (jx_run [(0, 0, 0)]) 4)) 14 (jb_rt (jn (jx_run [(4, 0, 0), (70, 0, 0), (40, 11, 24), (0, 0, 1), (11, 0, 0), (43, 11, 24), (4, 0, 0), (0, 0, 108), (0, 0, 5), (4, 0, 0), (40, 11, 24), (10, 0, 0), (12, 0, 0), (0, 0, 0), (0, 0, 91)]) (jn (jx_cv 4 11 q_Md_copies) (jx_run [(0, 0, 1)]))) 4))
noncomputable def q_Md_undo : JF := jf_of qp_Md_undo 1
set_option maxRecDepth 20000 in
theorem fr_Md_undo (G : JG) : JFr G 11 false c_Md_undo 1 1 (some .boolean) 0 qp_Md_undo := (jfr_sq (jfr_sq (jfr_if (j := 9) (jsl_run (by decide +kernel)) (by decide +kernel) (by decide)) (jfr_rt (j := 13) (jsl_run (by decide +kernel)) (by decide +kernel)) (by decide)) (jfr_rt (j := 41) (jsl_n (j := 37) (jsl_run (by decide +kernel)) (jsl_n (j := 40) (jsl_cv (ix := 291) mt_Md_copies in_Md_copies sl_Md_copies rfl (by decide) (se_Md_copies _) (by decide) (List.mem_of_getElem? (i := 1779) (by decide +kernel)) (by decide +kernel)) (jsl_run (by decide +kernel)))) (by decide +kernel)) (by decide))
theorem se_Md_undo (G : JG) : JSem G y_Md_undo c_Md_undo 1 (some .boolean) 1 q_Md_undo := jsem_of (by decide +kernel) rfl (by intro h; cases h) (fr_Md_undo G)
def y_Md_which : MethodName := ⟨"CellarTurnsModel", "which", "(I)I"⟩
abbrev c_Md_which : ByteArray := prog_15_method_88_code
theorem mt_Md_which : JMt y_Md_which c_Md_which 4 (some .int) 1 := ⟨(List.mem_of_getElem? (i := 1917) (by decide +kernel)), (List.mem_of_getElem? (i := 133) (by decide +kernel)), ⟨by decide +kernel, by decide +kernel⟩, by decide +kernel, by decide⟩
theorem in_Md_which : Cond.instanceMethod y_Md_which ∈ lw_tbl := (List.mem_of_getElem? (i := 1915) (by decide +kernel))
theorem sl_Md_which : Cond.selects y_Md_which.cls y_Md_which y_Md_which ∈ lw_tbl := (List.mem_of_getElem? (i := 1916) (by decide +kernel))
noncomputable def qp_Md_which : JP := (jb_sq (jb_sq (jb_if (jn (jx_run [(4, 0, 0), (0, 0, 0), (43, 11, 0), (2, 1, 0), (0, 0, 0), (0, 0, 5)]) (jx_cs 3 q_Md_within)) 1 16 14) 14 (jb_rt (jx_run [(0, 0, -1)]) 1)) 16 (jb_sq (jb_go (jx_run [(0, 0, -1), (5, 2, 0), (0, 0, 0), (5, 3, 0)]) 20) 20 (jb_sq (jb_lp 20 (jb_sq (jb_if (jn (jx_run [(2, 3, 0), (4, 0, 0)]) (jx_cv 1 11 q_Md_bodies)) 9 94 28) 28 (jb_sq (jb_sq (jb_if (jn (jx_run [(4, 0, 0), (0, 0, 0), (2, 3, 0)]) (jx_cv 3 11 q_Md_mayFetch)) 0 88 37) 37 (jb_sq (jb_sq (jb_if (jx_run [(2, 2, 0)]) 2 56 41) 41 (jb_if (jn (jx_run [(4, 0, 0), (2, 3, 0), (0, 0, 2)]) (jn (jx_cv 3 11 q_Md_bodyOf) (jn (jx_run [(4, 0, 0), (2, 2, 0), (0, 0, 2)]) (jx_cv 3 11 q_Md_bodyOf)))) 9 88 56)) 56 (jb_sq (jb_sq (jb_sq (jb_if (jn (jx_run [(4, 0, 0), (0, 0, 0), (0, 0, 2376), (0, 0, 91)]) (jn (jx_cv 4 11 q_Md_copies) (jn (jx_run [(4, 0, 0), (0, 0, 2376), (2, 3, 0)]) (jn (jx_cv 3 11 q_Md_fetches) (jn (jx_run [(4, 0, 0), (2, 1, 0)]) (jx_cv 2 11 q_Md_fewestIn)))))) 2 86 82) 82 (jb_go (jx_run [(2, 3, 0)]) 87)) 86 (jb_go (jx_run [(2, 2, 0)]) 87)) 87 (jb_go (jx_run [(5, 2, 0)]) 88)))) 88 (jb_go (jx_run [(8, 3, 1)]) 20)))) 94 (jb_rt (jx_run [(2, 2, 0)]) 1))))
noncomputable def q_Md_which : JF := jf_of qp_Md_which 4
set_option maxRecDepth 20000 in
theorem fr_Md_which (G : JG) : JFr G 11 false c_Md_which 47 4 (some .int) 0 qp_Md_which := (jfr_sq (jfr_sq (jfr_if (j := 11) (jsl_n (j := 8) (jsl_run (by decide +kernel)) (jsl_cs (ix := 328) mt_Md_within st_Md_within (se_Md_within _) (by decide) (List.mem_of_getElem? (i := 1744) (by decide +kernel)) (by decide +kernel))) (by decide +kernel) (by decide)) (jfr_rt (j := 15) (jsl_run (by decide +kernel)) (by decide +kernel)) (by decide)) (jfr_sq (jfr_go (j := 20) (jsl_run (by decide +kernel)) (by decide +kernel) (by decide)) (jfr_sq (jfr_lp (jfr_sq (jfr_if (j := 25) (jsl_n (j := 22) (jsl_run (by decide +kernel)) (jsl_cv (ix := 279) mt_Md_bodies in_Md_bodies sl_Md_bodies rfl (by decide) (se_Md_bodies _) (by decide) (List.mem_of_getElem? (i := 1460) (by decide +kernel)) (by decide +kernel))) (by decide +kernel) (by decide)) (jfr_sq (jfr_sq (jfr_if (j := 34) (jsl_n (j := 31) (jsl_run (by decide +kernel)) (jsl_cv (ix := 344) mt_Md_mayFetch in_Md_mayFetch sl_Md_mayFetch rfl (by decide) (se_Md_mayFetch _) (by decide) (List.mem_of_getElem? (i := 1826) (by decide +kernel)) (by decide +kernel))) (by decide +kernel) (by decide)) (jfr_sq (jfr_sq (jfr_if (j := 38) (jsl_run (by decide +kernel)) (by decide +kernel) (by decide)) (jfr_if (j := 53) (jsl_n (j := 44) (jsl_run (by decide +kernel)) (jsl_n (j := 47) (jsl_cv (ix := 282) mt_Md_bodyOf in_Md_bodyOf sl_Md_bodyOf rfl (by decide) (se_Md_bodyOf _) (by decide) (List.mem_of_getElem? (i := 1464) (by decide +kernel)) (by decide +kernel)) (jsl_n (j := 50) (jsl_run (by decide +kernel)) (jsl_cv (ix := 282) mt_Md_bodyOf in_Md_bodyOf sl_Md_bodyOf rfl (by decide) (se_Md_bodyOf _) (by decide) (List.mem_of_getElem? (i := 1464) (by decide +kernel)) (by decide +kernel))))) (by decide +kernel) (by decide)) (by decide)) (jfr_sq (jfr_sq (jfr_sq (jfr_if (j := 79) (jsl_n (j := 63) (jsl_run (by decide +kernel)) (jsl_n (j := 66) (jsl_cv (ix := 291) mt_Md_copies in_Md_copies sl_Md_copies rfl (by decide) (se_Md_copies _) (by decide) (List.mem_of_getElem? (i := 1779) (by decide +kernel)) (by decide +kernel)) (jsl_n (j := 71) (jsl_run (by decide +kernel)) (jsl_n (j := 74) (jsl_cv (ix := 347) mt_Md_fetches in_Md_fetches sl_Md_fetches rfl (by decide) (se_Md_fetches _) (by decide) (List.mem_of_getElem? (i := 1830) (by decide +kernel)) (by decide +kernel)) (jsl_n (j := 76) (jsl_run (by decide +kernel)) (jsl_cv (ix := 395) mt_Md_fewestIn in_Md_fewestIn sl_Md_fewestIn rfl (by decide) (se_Md_fewestIn _) (by decide) (List.mem_of_getElem? (i := 1902) (by decide +kernel)) (by decide +kernel))))))) (by decide +kernel) (by decide)) (jfr_go (j := 83) (jsl_run (by decide +kernel)) (by decide +kernel) (by decide)) (by decide)) (jfr_go (j := 87) (jsl_run (by decide +kernel)) (by decide +kernel) (by decide)) (by decide)) (jfr_go (j := 88) (jsl_run (by decide +kernel)) (by decide +kernel) (by decide)) (by decide)) (by decide)) (by decide)) (jfr_go (j := 91) (jsl_run (by decide +kernel)) (by decide +kernel) (by decide)) (by decide)) (by decide)) (by decide)) (jfr_rt (j := 95) (jsl_run (by decide +kernel)) (by decide +kernel)) (by decide)) (by decide)) (by decide))
theorem se_Md_which (G : JG) : JSem G y_Md_which c_Md_which 4 (some .int) 47 q_Md_which := jsem_of (by decide +kernel) rfl (by intro h; cases h) (fr_Md_which G)
end
section
/-! ===== printed by wip/whole/emit.py: methods as pieces ===== -/
def y_Lr_init : MethodName := ⟨"CellarTurns$LawReader", "<init>", "(LCellarTurns$Tape;)V"⟩
abbrev c_Lr_init : ByteArray := prog_5_method_1_code
theorem mt_Lr_init : JMt y_Lr_init c_Lr_init 2 none 1 := ⟨(List.mem_of_getElem? (i := 209) (by decide +kernel)), (List.mem_of_getElem? (i := 122) (by decide +kernel)), ⟨by decide +kernel, by decide +kernel⟩, by decide +kernel, by decide⟩
theorem in_Lr_init : Cond.instanceMethod y_Lr_init ∈ lw_tbl := (List.mem_of_getElem? (i := 208) (by decide +kernel))
noncomputable def qp_Lr_init : JP := (jb_rt (jn (jx_run [(4, 0, 0)]) (jn jx_oi (jx_run [(4, 0, 0), (4, 1, 0), (48, 2, 0)]))) 0)
noncomputable def q_Lr_init : JF := jf_of qp_Lr_init 2
set_option maxRecDepth 20000 in
theorem fr_Lr_init (G : JG) : JFr G 2 true c_Lr_init 1 2 none 0 qp_Lr_init := (jfr_rt (j := 9) (jsl_n (j := 1) (jsl_run (by decide +kernel)) (jsl_n (j := 4) (jsl_oi (ix := 3) (List.mem_of_getElem? (i := 210) (by decide +kernel)) (by decide) (by decide +kernel)) (jsl_run (by decide +kernel)))) (by decide +kernel))
theorem se_Lr_init (G : JG) : JSem G y_Lr_init c_Lr_init 2 none 1 q_Lr_init := jsem_of (by decide +kernel) rfl (by intro _; rfl) (fr_Lr_init G)
def y_Re_init : MethodName := ⟨"CellarTurns$Reader", "<init>", "(LCellarTurns$Tape;)V"⟩
abbrev c_Re_init : ByteArray := prog_8_method_1_code
theorem mt_Re_init : JMt y_Re_init c_Re_init 2 none 1 := ⟨(List.mem_of_getElem? (i := 203) (by decide +kernel)), (List.mem_of_getElem? (i := 121) (by decide +kernel)), ⟨by decide +kernel, by decide +kernel⟩, by decide +kernel, by decide⟩
theorem in_Re_init : Cond.instanceMethod y_Re_init ∈ lw_tbl := (List.mem_of_getElem? (i := 202) (by decide +kernel))
noncomputable def qp_Re_init : JP := (jb_rt (jn (jx_run [(4, 0, 0)]) (jn jx_oi (jn (jx_run [(4, 0, 0), (4, 1, 0), (48, 5, 0), (4, 0, 0), (61, 2, 0), (70, 0, 0), (4, 1, 0)]) (jn (jx_ci 2 q_Lr_init) (jx_run [(48, 5, 1)]))))) 0)
noncomputable def q_Re_init : JF := jf_of qp_Re_init 2
set_option maxRecDepth 20000 in
theorem fr_Re_init (G : JG) : JFr G 5 true c_Re_init 2 2 none 0 qp_Re_init := (jfr_rt (j := 21) (jsl_n (j := 1) (jsl_run (by decide +kernel)) (jsl_n (j := 4) (jsl_oi (ix := 3) (List.mem_of_getElem? (i := 204) (by decide +kernel)) (by decide) (by decide +kernel)) (jsl_n (j := 15) (jsl_run (by decide +kernel)) (jsl_n (j := 18) (jsl_ci (ix := 17) mt_Lr_init in_Lr_init rfl (se_Lr_init _) (by decide) (List.mem_of_getElem? (i := 207) (by decide +kernel)) (by decide +kernel)) (jsl_run (by decide +kernel)))))) (by decide +kernel))
theorem se_Re_init (G : JG) : JSem G y_Re_init c_Re_init 2 none 2 q_Re_init := jsem_of (by decide +kernel) rfl (by intro _; rfl) (fr_Re_init G)
def y_La_init : MethodName := ⟨"CellarTurns$Law", "<init>", "()V"⟩
abbrev c_La_init : ByteArray := prog_4_method_1_code
theorem mt_La_init : JMt y_La_init c_La_init 1 none 0 := ⟨(List.mem_of_getElem? (i := 232) (by decide +kernel)), (List.mem_of_getElem? (i := 124) (by decide +kernel)), ⟨by decide +kernel, by decide +kernel⟩, by decide +kernel, by decide⟩
theorem in_La_init : Cond.instanceMethod y_La_init ∈ lw_tbl := (List.mem_of_getElem? (i := 231) (by decide +kernel))
noncomputable def qp_La_init : JP := (jb_rt (jn (jx_run [(4, 0, 0)]) (jn jx_oi (jx_run [(4, 0, 0), (0, 0, 1000), (62, 100, 0), (48, 1, 0), (4, 0, 0), (0, 0, 32), (62, 100, 0), (48, 1, 1)]))) 0)
noncomputable def q_La_init : JF := jf_of qp_La_init 1
set_option maxRecDepth 20000 in
theorem fr_La_init (G : JG) : JFr G 1 true c_La_init 1 1 none 0 qp_La_init := (jfr_rt (j := 21) (jsl_n (j := 1) (jsl_run (by decide +kernel)) (jsl_n (j := 4) (jsl_oi (ix := 3) (List.mem_of_getElem? (i := 233) (by decide +kernel)) (by decide) (by decide +kernel)) (jsl_run (by decide +kernel)))) (by decide +kernel))
theorem se_La_init (G : JG) : JSem G y_La_init c_La_init 1 none 1 q_La_init := jsem_of (by decide +kernel) rfl (by intro _; rfl) (fr_La_init G)
def y_La_clear : MethodName := ⟨"CellarTurns$Law", "clear", "()V"⟩
abbrev c_La_clear : ByteArray := prog_4_method_2_code
theorem mt_La_clear : JMt y_La_clear c_La_clear 1 none 0 := ⟨(List.mem_of_getElem? (i := 253) (by decide +kernel)), (List.mem_of_getElem? (i := 124) (by decide +kernel)), ⟨by decide +kernel, by decide +kernel⟩, by decide +kernel, by decide⟩
theorem in_La_clear : Cond.instanceMethod y_La_clear ∈ lw_tbl := (List.mem_of_getElem? (i := 251) (by decide +kernel))
theorem sl_La_clear : Cond.selects y_La_clear.cls y_La_clear y_La_clear ∈ lw_tbl := (List.mem_of_getElem? (i := 252) (by decide +kernel))
noncomputable def qp_La_clear : JP := (jb_rt (jx_run [(4, 0, 0), (0, 0, 0), (43, 1, 2)]) 0)
noncomputable def q_La_clear : JF := jf_of qp_La_clear 1
set_option maxRecDepth 20000 in
theorem fr_La_clear (G : JG) : JFr G 1 false c_La_clear 0 1 none 0 qp_La_clear := (jfr_rt (j := 5) (jsl_run (by decide +kernel)) (by decide +kernel))
theorem se_La_clear (G : JG) : JSem G y_La_clear c_La_clear 1 none 0 q_La_clear := jsem_of (by decide +kernel) rfl (by intro h; cases h) (fr_La_clear G)
def y_Ho_clear : MethodName := ⟨"CellarTurns$House", "clear", "()V"⟩
abbrev c_Ho_clear : ByteArray := prog_3_method_2_code
theorem mt_Ho_clear : JMt y_Ho_clear c_Ho_clear 2 none 0 := ⟨(List.mem_of_getElem? (i := 249) (by decide +kernel)), (List.mem_of_getElem? (i := 123) (by decide +kernel)), ⟨by decide +kernel, by decide +kernel⟩, by decide +kernel, by decide⟩
theorem in_Ho_clear : Cond.instanceMethod y_Ho_clear ∈ lw_tbl := (List.mem_of_getElem? (i := 247) (by decide +kernel))
theorem sl_Ho_clear : Cond.selects y_Ho_clear.cls y_Ho_clear y_Ho_clear ∈ lw_tbl := (List.mem_of_getElem? (i := 248) (by decide +kernel))
noncomputable def qp_Ho_clear : JP := (jb_sq (jb_go (jx_run [(0, 0, 0), (5, 1, 0)]) 2) 2 (jb_sq (jb_lp 2 (jb_sq (jb_if (jx_run [(2, 1, 0), (0, 0, 8)]) 9 35 8) 8 (jb_go (jx_run [(4, 0, 0), (42, 0, 3), (2, 1, 0), (2, 1, 0), (55, 0, 0), (4, 0, 0), (42, 0, 4), (2, 1, 0), (0, 0, 0), (55, 0, 0), (4, 0, 0), (42, 0, 5), (2, 1, 0), (0, 0, 0), (55, 0, 0), (8, 1, 1)]) 2))) 35 (jb_rt (jn (jx_run [(4, 0, 0), (42, 0, 7)]) (jn (jx_cv 1 1 q_La_clear) (jx_run [(4, 0, 0), (0, 0, 0), (43, 0, 8), (4, 0, 0), (0, 0, 0), (43, 0, 9), (4, 0, 0), (0, 0, 0), (43, 0, 10), (4, 0, 0), (0, 0, 0), (43, 0, 11), (4, 0, 0), (0, 0, 9), (43, 0, 12), (4, 0, 0), (0, 0, 0), (46, 0, 13), (4, 0, 0), (0, 0, 0), (46, 0, 14)]))) 0)))
noncomputable def q_Ho_clear : JF := jf_of qp_Ho_clear 2
set_option maxRecDepth 20000 in
theorem fr_Ho_clear (G : JG) : JFr G 0 false c_Ho_clear 1 2 none 0 qp_Ho_clear := (jfr_sq (jfr_go (j := 2) (jsl_run (by decide +kernel)) (by decide +kernel) (by decide)) (jfr_sq (jfr_lp (jfr_sq (jfr_if (j := 5) (jsl_run (by decide +kernel)) (by decide +kernel) (by decide)) (jfr_go (j := 32) (jsl_run (by decide +kernel)) (by decide +kernel) (by decide)) (by decide)) (by decide)) (jfr_rt (j := 78) (jsl_n (j := 39) (jsl_run (by decide +kernel)) (jsl_n (j := 42) (jsl_cv (ix := 47) mt_La_clear in_La_clear sl_La_clear rfl (by decide) (se_La_clear _) (by decide) (List.mem_of_getElem? (i := 250) (by decide +kernel)) (by decide +kernel)) (jsl_run (by decide +kernel)))) (by decide +kernel)) (by decide)) (by decide))
theorem se_Ho_clear (G : JG) : JSem G y_Ho_clear c_Ho_clear 2 none 1 q_Ho_clear := jsem_of (by decide +kernel) rfl (by intro h; cases h) (fr_Ho_clear G)
def y_Ho_limitOf : MethodName := ⟨"CellarTurns$House", "limitOf", "(I)I"⟩
abbrev c_Ho_limitOf : ByteArray := prog_3_method_4_code
theorem mt_Ho_limitOf : JMt y_Ho_limitOf c_Ho_limitOf 2 (some .int) 1 := ⟨(List.mem_of_getElem? (i := 261) (by decide +kernel)), (List.mem_of_getElem? (i := 123) (by decide +kernel)), ⟨by decide +kernel, by decide +kernel⟩, by decide +kernel, by decide⟩
theorem in_Ho_limitOf : Cond.instanceMethod y_Ho_limitOf ∈ lw_tbl := (List.mem_of_getElem? (i := 260) (by decide +kernel))
theorem sl_Ho_limitOf : Cond.selects y_Ho_limitOf.cls y_Ho_limitOf y_Ho_limitOf ∈ lw_tbl := (List.mem_of_getElem? (i := 0) (by decide +kernel))
noncomputable def qp_Ho_limitOf : JP := (jb_sq (jb_sq (jb_if (jx_run [(2, 1, 0), (0, 0, 1)]) 7 7 5) 5 (jb_rt (jx_run [(0, 0, 0)]) 1)) 7 (jb_sq (jb_sq (jb_sq (jb_if (jx_run [(2, 1, 0), (0, 0, 2)]) 7 23 12) 12 (jb_go (jn (jx_run [(4, 0, 0), (40, 0, 12), (0, 0, 2)]) (jx_cs 2 q_Ma_min)) 27)) 23 (jb_go (jx_run [(4, 0, 0), (40, 0, 12)]) 27)) 27 (jb_rt (jx_run []) 1)))
noncomputable def q_Ho_limitOf : JF := jf_of qp_Ho_limitOf 2
set_option maxRecDepth 20000 in
theorem fr_Ho_limitOf (G : JG) : JFr G 0 false c_Ho_limitOf 1 2 (some .int) 0 qp_Ho_limitOf := (jfr_sq (jfr_sq (jfr_if (j := 2) (jsl_run (by decide +kernel)) (by decide +kernel) (by decide)) (jfr_rt (j := 6) (jsl_run (by decide +kernel)) (by decide +kernel)) (by decide)) (jfr_sq (jfr_sq (jfr_sq (jfr_if (j := 9) (jsl_run (by decide +kernel)) (by decide +kernel) (by decide)) (jfr_go (j := 20) (jsl_n (j := 17) (jsl_run (by decide +kernel)) (jsl_cs (ix := 79) mt_Ma_min st_Ma_min (se_Ma_min _) (by decide) (List.mem_of_getElem? (i := 262) (by decide +kernel)) (by decide +kernel))) (by decide +kernel) (by decide)) (by decide)) (jfr_go (j := 27) (jsl_run (by decide +kernel)) (by decide +kernel) (by decide)) (by decide)) (jfr_rt (j := 27) (jsl_run (by decide +kernel)) (by decide +kernel)) (by decide)) (by decide))
theorem se_Ho_limitOf (G : JG) : JSem G y_Ho_limitOf c_Ho_limitOf 2 (some .int) 1 q_Ho_limitOf := jsem_of (by decide +kernel) rfl (by intro h; cases h) (fr_Ho_limitOf G)
def y_La_add : MethodName := ⟨"CellarTurns$Law", "add", "(I)V"⟩
abbrev c_La_add : ByteArray := prog_4_method_3_code
theorem mt_La_add : JMt y_La_add c_La_add 2 none 1 := ⟨(List.mem_of_getElem? (i := 268) (by decide +kernel)), (List.mem_of_getElem? (i := 124) (by decide +kernel)), ⟨by decide +kernel, by decide +kernel⟩, by decide +kernel, by decide⟩
theorem in_La_add : Cond.instanceMethod y_La_add ∈ lw_tbl := (List.mem_of_getElem? (i := 266) (by decide +kernel))
theorem sl_La_add : Cond.selects y_La_add.cls y_La_add y_La_add ∈ lw_tbl := (List.mem_of_getElem? (i := 267) (by decide +kernel))
noncomputable def qp_La_add : JP := (jb_sq (jb_sq (jb_if (jx_run [(4, 0, 0), (40, 1, 2), (4, 0, 0), (42, 1, 0), (60, 0, 0)]) 9 32 12) 12 (jb_go (jx_run [(4, 0, 0), (42, 1, 0), (4, 0, 0), (40, 1, 2), (2, 1, 0), (55, 0, 0), (4, 0, 0), (70, 0, 0), (40, 1, 2), (0, 0, 1), (10, 0, 0), (43, 1, 2)]) 32)) 32 (jb_rt (jx_run []) 0))
noncomputable def q_La_add : JF := jf_of qp_La_add 2
set_option maxRecDepth 20000 in
theorem fr_La_add (G : JG) : JFr G 1 false c_La_add 0 2 none 0 qp_La_add := (jfr_sq (jfr_sq (jfr_if (j := 9) (jsl_run (by decide +kernel)) (by decide +kernel) (by decide)) (jfr_go (j := 32) (jsl_run (by decide +kernel)) (by decide +kernel) (by decide)) (by decide)) (jfr_rt (j := 32) (jsl_run (by decide +kernel)) (by decide +kernel)) (by decide))
theorem se_La_add (G : JG) : JSem G y_La_add c_La_add 2 none 0 q_La_add := jsem_of (by decide +kernel) rfl (by intro h; cases h) (fr_La_add G)
def y_Ho_close : MethodName := ⟨"CellarTurns$House", "close", "()V"⟩
abbrev c_Ho_close : ByteArray := prog_3_method_3_code
theorem mt_Ho_close : JMt y_Ho_close c_Ho_close 2 none 0 := ⟨(List.mem_of_getElem? (i := 257) (by decide +kernel)), (List.mem_of_getElem? (i := 123) (by decide +kernel)), ⟨by decide +kernel, by decide +kernel⟩, by decide +kernel, by decide⟩
theorem in_Ho_close : Cond.instanceMethod y_Ho_close ∈ lw_tbl := (List.mem_of_getElem? (i := 255) (by decide +kernel))
theorem sl_Ho_close : Cond.selects y_Ho_close.cls y_Ho_close y_Ho_close ∈ lw_tbl := (List.mem_of_getElem? (i := 256) (by decide +kernel))
noncomputable def qp_Ho_close : JP := (jb_sq (jb_go (jx_run [(0, 0, 0), (5, 1, 0)]) 2) 2 (jb_sq (jb_lp 2 (jb_sq (jb_if (jx_run [(2, 1, 0), (4, 0, 0), (40, 0, 8)]) 9 32 10) 10 (jb_go (jn (jx_run [(4, 0, 0), (42, 0, 6), (2, 1, 0), (4, 0, 0), (4, 0, 0), (42, 0, 1), (2, 1, 0), (50, 0, 0)]) (jn (jx_cv 2 0 q_Ho_limitOf) (jx_run [(55, 0, 0), (8, 1, 1)]))) 2))) 32 (jb_sq (jb_sq (jb_if (jx_run [(4, 0, 0), (40, 0, 14)]) 1 47 39) 39 (jb_go (jn (jx_run [(4, 0, 0), (42, 0, 7), (0, 0, -1)]) (jx_cv 2 1 q_La_add)) 47)) 47 (jb_rt (jx_run []) 0))))
noncomputable def q_Ho_close : JF := jf_of qp_Ho_close 2
set_option maxRecDepth 20000 in
theorem fr_Ho_close (G : JG) : JFr G 0 false c_Ho_close 2 2 none 0 qp_Ho_close := (jfr_sq (jfr_go (j := 2) (jsl_run (by decide +kernel)) (by decide +kernel) (by decide)) (jfr_sq (jfr_lp (jfr_sq (jfr_if (j := 7) (jsl_run (by decide +kernel)) (by decide +kernel) (by decide)) (jfr_go (j := 29) (jsl_n (j := 22) (jsl_run (by decide +kernel)) (jsl_n (j := 25) (jsl_cv (ix := 71) mt_Ho_limitOf in_Ho_limitOf sl_Ho_limitOf rfl (by decide) (se_Ho_limitOf _) (by decide) (List.mem_of_getElem? (i := 258) (by decide +kernel)) (by decide +kernel)) (jsl_run (by decide +kernel)))) (by decide +kernel) (by decide)) (by decide)) (by decide)) (jfr_sq (jfr_sq (jfr_if (j := 36) (jsl_run (by decide +kernel)) (by decide +kernel) (by decide)) (jfr_go (j := 47) (jsl_n (j := 44) (jsl_run (by decide +kernel)) (jsl_cv (ix := 75) mt_La_add in_La_add sl_La_add rfl (by decide) (se_La_add _) (by decide) (List.mem_of_getElem? (i := 265) (by decide +kernel)) (by decide +kernel))) (by decide +kernel) (by decide)) (by decide)) (jfr_rt (j := 47) (jsl_run (by decide +kernel)) (by decide +kernel)) (by decide)) (by decide)) (by decide))
theorem se_Ho_close (G : JG) : JSem G y_Ho_close c_Ho_close 2 none 2 q_Ho_close := jsem_of (by decide +kernel) rfl (by intro h; cases h) (fr_Ho_close G)
def y_Ho_init : MethodName := ⟨"CellarTurns$House", "<init>", "()V"⟩
abbrev c_Ho_init : ByteArray := prog_3_method_1_code
theorem mt_Ho_init : JMt y_Ho_init c_Ho_init 1 none 0 := ⟨(List.mem_of_getElem? (i := 226) (by decide +kernel)), (List.mem_of_getElem? (i := 123) (by decide +kernel)), ⟨by decide +kernel, by decide +kernel⟩, by decide +kernel, by decide⟩
theorem in_Ho_init : Cond.instanceMethod y_Ho_init ∈ lw_tbl := (List.mem_of_getElem? (i := 225) (by decide +kernel))
noncomputable def qp_Ho_init : JP := (jb_rt (jn (jx_run [(4, 0, 0)]) (jn jx_oi (jn (jx_run [(4, 0, 0), (0, 0, 8), (62, 101, 0), (48, 0, 0), (4, 0, 0), (0, 0, 8), (62, 100, 0), (48, 0, 1), (4, 0, 0), (0, 0, 8), (62, 100, 0), (48, 0, 2), (4, 0, 0), (0, 0, 8), (62, 100, 0), (48, 0, 3), (4, 0, 0), (0, 0, 8), (62, 100, 0), (48, 0, 4), (4, 0, 0), (0, 0, 8), (62, 100, 0), (48, 0, 5), (4, 0, 0), (0, 0, 8), (62, 100, 0), (48, 0, 6), (4, 0, 0), (61, 1, 0), (70, 0, 0)]) (jn (jx_ci 1 q_La_init) (jn (jx_run [(48, 0, 7), (4, 0, 0)]) (jn (jx_cv 1 0 q_Ho_clear) (jn (jx_run [(4, 0, 0)]) (jx_cv 1 0 q_Ho_close)))))))) 0)
noncomputable def q_Ho_init : JF := jf_of qp_Ho_init 1
set_option maxRecDepth 20000 in
theorem fr_Ho_init (G : JG) : JFr G 0 true c_Ho_init 3 1 none 0 qp_Ho_init := (jfr_rt (j := 79) (jsl_n (j := 1) (jsl_run (by decide +kernel)) (jsl_n (j := 4) (jsl_oi (ix := 3) (List.mem_of_getElem? (i := 227) (by decide +kernel)) (by decide) (by decide +kernel)) (jsl_n (j := 65) (jsl_run (by decide +kernel)) (jsl_n (j := 68) (jsl_ciN (ix := 36) mt_La_init in_La_init rfl (se_La_init _) (by decide) (List.mem_of_getElem? (i := 230) (by decide +kernel)) (by decide +kernel)) (jsl_n (j := 72) (jsl_run (by decide +kernel)) (jsl_n (j := 75) (jsl_cv (ix := 41) mt_Ho_clear in_Ho_clear sl_Ho_clear rfl (by decide) (se_Ho_clear _) (by decide) (List.mem_of_getElem? (i := 246) (by decide +kernel)) (by decide +kernel)) (jsl_n (j := 76) (jsl_run (by decide +kernel)) (jsl_cv (ix := 44) mt_Ho_close in_Ho_close sl_Ho_close rfl (by decide) (se_Ho_close _) (by decide) (List.mem_of_getElem? (i := 254) (by decide +kernel)) (by decide +kernel))))))))) (by decide +kernel))
theorem se_Ho_init (G : JG) : JSem G y_Ho_init c_Ho_init 1 none 3 q_Ho_init := jsem_of (by decide +kernel) rfl (by intro _; rfl) (fr_Ho_init G)
def y_Pl_init : MethodName := ⟨"CellarTurns$Plan", "<init>", "()V"⟩
abbrev c_Pl_init : ByteArray := prog_7_method_1_code
theorem mt_Pl_init : JMt y_Pl_init c_Pl_init 1 none 0 := ⟨(List.mem_of_getElem? (i := 347) (by decide +kernel)), (List.mem_of_getElem? (i := 126) (by decide +kernel)), ⟨by decide +kernel, by decide +kernel⟩, by decide +kernel, by decide⟩
theorem in_Pl_init : Cond.instanceMethod y_Pl_init ∈ lw_tbl := (List.mem_of_getElem? (i := 346) (by decide +kernel))
noncomputable def qp_Pl_init : JP := (jb_rt (jn (jx_run [(4, 0, 0)]) (jn jx_oi (jx_run [(4, 0, 0), (0, 0, 30), (62, 100, 0), (48, 4, 0), (4, 0, 0), (0, 0, 90), (62, 100, 0), (48, 4, 1)]))) 0)
noncomputable def q_Pl_init : JF := jf_of qp_Pl_init 1
set_option maxRecDepth 20000 in
theorem fr_Pl_init (G : JG) : JFr G 4 true c_Pl_init 1 1 none 0 qp_Pl_init := (jfr_rt (j := 20) (jsl_n (j := 1) (jsl_run (by decide +kernel)) (jsl_n (j := 4) (jsl_oi (ix := 3) (List.mem_of_getElem? (i := 348) (by decide +kernel)) (by decide) (by decide +kernel)) (jsl_run (by decide +kernel)))) (by decide +kernel))
theorem se_Pl_init (G : JG) : JSem G y_Pl_init c_Pl_init 1 none 1 q_Pl_init := jsem_of (by decide +kernel) rfl (by intro _; rfl) (fr_Pl_init G)
def y_Ri_init : MethodName := ⟨"CellarTurns$RingList", "<init>", "()V"⟩
abbrev c_Ri_init : ByteArray := prog_9_method_1_code
theorem mt_Ri_init : JMt y_Ri_init c_Ri_init 1 none 0 := ⟨(List.mem_of_getElem? (i := 365) (by decide +kernel)), (List.mem_of_getElem? (i := 127) (by decide +kernel)), ⟨by decide +kernel, by decide +kernel⟩, by decide +kernel, by decide⟩
theorem in_Ri_init : Cond.instanceMethod y_Ri_init ∈ lw_tbl := (List.mem_of_getElem? (i := 364) (by decide +kernel))
noncomputable def qp_Ri_init : JP := (jb_rt (jn (jx_run [(4, 0, 0)]) (jn jx_oi (jx_run [(4, 0, 0), (0, 0, 24), (62, 100, 0), (48, 6, 0), (4, 0, 0), (0, 0, 8), (62, 100, 0), (48, 6, 1)]))) 0)
noncomputable def q_Ri_init : JF := jf_of qp_Ri_init 1
set_option maxRecDepth 20000 in
theorem fr_Ri_init (G : JG) : JFr G 6 true c_Ri_init 1 1 none 0 qp_Ri_init := (jfr_rt (j := 20) (jsl_n (j := 1) (jsl_run (by decide +kernel)) (jsl_n (j := 4) (jsl_oi (ix := 3) (List.mem_of_getElem? (i := 366) (by decide +kernel)) (by decide) (by decide +kernel)) (jsl_run (by decide +kernel)))) (by decide +kernel))
theorem se_Ri_init (G : JG) : JSem G y_Ri_init c_Ri_init 1 none 1 q_Ri_init := jsem_of (by decide +kernel) rfl (by intro _; rfl) (fr_Ri_init G)
def y_Ho_allBits : MethodName := ⟨"CellarTurns$House", "allBits", "()I"⟩
abbrev c_Ho_allBits : ByteArray := prog_3_method_6_code
theorem mt_Ho_allBits : JMt y_Ho_allBits c_Ho_allBits 1 (some .int) 0 := ⟨(List.mem_of_getElem? (i := 415) (by decide +kernel)), (List.mem_of_getElem? (i := 123) (by decide +kernel)), ⟨by decide +kernel, by decide +kernel⟩, by decide +kernel, by decide⟩
theorem in_Ho_allBits : Cond.instanceMethod y_Ho_allBits ∈ lw_tbl := (List.mem_of_getElem? (i := 413) (by decide +kernel))
theorem sl_Ho_allBits : Cond.selects y_Ho_allBits.cls y_Ho_allBits y_Ho_allBits ∈ lw_tbl := (List.mem_of_getElem? (i := 414) (by decide +kernel))
noncomputable def qp_Ho_allBits : JP := (jb_rt (jx_run [(0, 0, 1), (4, 0, 0), (40, 0, 8), (19, 0, 0), (0, 0, 1), (11, 0, 0)]) 1)
noncomputable def q_Ho_allBits : JF := jf_of qp_Ho_allBits 1
set_option maxRecDepth 20000 in
theorem fr_Ho_allBits (G : JG) : JFr G 0 false c_Ho_allBits 0 1 (some .int) 0 qp_Ho_allBits := (jfr_rt (j := 8) (jsl_run (by decide +kernel)) (by decide +kernel))
theorem se_Ho_allBits (G : JG) : JSem G y_Ho_allBits c_Ho_allBits 1 (some .int) 0 q_Ho_allBits := jsem_of (by decide +kernel) rfl (by intro h; cases h) (fr_Ho_allBits G)
def y_Ho_peopleBits : MethodName := ⟨"CellarTurns$House", "peopleBits", "()I"⟩
abbrev c_Ho_peopleBits : ByteArray := prog_3_method_7_code
theorem mt_Ho_peopleBits : JMt y_Ho_peopleBits c_Ho_peopleBits 1 (some .int) 0 := ⟨(List.mem_of_getElem? (i := 411) (by decide +kernel)), (List.mem_of_getElem? (i := 123) (by decide +kernel)), ⟨by decide +kernel, by decide +kernel⟩, by decide +kernel, by decide⟩
theorem in_Ho_peopleBits : Cond.instanceMethod y_Ho_peopleBits ∈ lw_tbl := (List.mem_of_getElem? (i := 409) (by decide +kernel))
theorem sl_Ho_peopleBits : Cond.selects y_Ho_peopleBits.cls y_Ho_peopleBits y_Ho_peopleBits ∈ lw_tbl := (List.mem_of_getElem? (i := 410) (by decide +kernel))
noncomputable def qp_Ho_peopleBits : JP := (jb_rt (jn (jx_run [(4, 0, 0)]) (jn (jx_cv 1 0 q_Ho_allBits) (jx_run [(4, 0, 0), (40, 0, 9), (0, 0, -1), (18, 0, 0), (16, 0, 0)]))) 1)
noncomputable def q_Ho_peopleBits : JF := jf_of qp_Ho_peopleBits 1
set_option maxRecDepth 20000 in
theorem fr_Ho_peopleBits (G : JG) : JFr G 0 false c_Ho_peopleBits 1 1 (some .int) 0 qp_Ho_peopleBits := (jfr_rt (j := 11) (jsl_n (j := 1) (jsl_run (by decide +kernel)) (jsl_n (j := 4) (jsl_cv (ix := 85) mt_Ho_allBits in_Ho_allBits sl_Ho_allBits rfl (by decide) (se_Ho_allBits _) (by decide) (List.mem_of_getElem? (i := 412) (by decide +kernel)) (by decide +kernel)) (jsl_run (by decide +kernel)))) (by decide +kernel))
theorem se_Ho_peopleBits (G : JG) : JSem G y_Ho_peopleBits c_Ho_peopleBits 1 (some .int) 1 q_Ho_peopleBits := jsem_of (by decide +kernel) rfl (by intro h; cases h) (fr_Ho_peopleBits G)
def y_Ho_pairsIn : MethodName := ⟨"CellarTurns$House", "pairsIn", "([I)I"⟩
abbrev c_Ho_pairsIn : ByteArray := prog_3_method_11_code
theorem mt_Ho_pairsIn : JMt y_Ho_pairsIn c_Ho_pairsIn 4 (some .int) 1 := ⟨(List.mem_of_getElem? (i := 419) (by decide +kernel)), (List.mem_of_getElem? (i := 123) (by decide +kernel)), ⟨by decide +kernel, by decide +kernel⟩, by decide +kernel, by decide⟩
theorem in_Ho_pairsIn : Cond.instanceMethod y_Ho_pairsIn ∈ lw_tbl := (List.mem_of_getElem? (i := 417) (by decide +kernel))
theorem sl_Ho_pairsIn : Cond.selects y_Ho_pairsIn.cls y_Ho_pairsIn y_Ho_pairsIn ∈ lw_tbl := (List.mem_of_getElem? (i := 418) (by decide +kernel))
noncomputable def qp_Ho_pairsIn : JP := (jb_sq (jb_go (jx_run [(0, 0, 0), (5, 2, 0), (0, 0, 0), (5, 3, 0)]) 4) 4 (jb_sq (jb_lp 4 (jb_sq (jb_if (jx_run [(2, 3, 0), (4, 0, 0), (40, 0, 8)]) 9 27 12) 12 (jb_go (jn (jx_run [(2, 2, 0), (4, 1, 0), (2, 3, 0), (50, 0, 0)]) (jn (jx_cs 1 q_In_bitCount) (jx_run [(10, 0, 0), (5, 2, 0), (8, 3, 1)]))) 4))) 27 (jb_rt (jx_run [(2, 2, 0), (0, 0, 2), (13, 0, 0)]) 1)))
noncomputable def q_Ho_pairsIn : JF := jf_of qp_Ho_pairsIn 4
set_option maxRecDepth 20000 in
theorem fr_Ho_pairsIn (G : JG) : JFr G 0 false c_Ho_pairsIn 1 4 (some .int) 0 qp_Ho_pairsIn := (jfr_sq (jfr_go (j := 4) (jsl_run (by decide +kernel)) (by decide +kernel) (by decide)) (jfr_sq (jfr_lp (jfr_sq (jfr_if (j := 9) (jsl_run (by decide +kernel)) (by decide +kernel) (by decide)) (jfr_go (j := 24) (jsl_n (j := 16) (jsl_run (by decide +kernel)) (jsl_n (j := 19) (jsl_cs (ix := 93) mt_In_bitCount st_In_bitCount (se_In_bitCount _) (by decide) (List.mem_of_getElem? (i := 420) (by decide +kernel)) (by decide +kernel)) (jsl_run (by decide +kernel)))) (by decide +kernel) (by decide)) (by decide)) (by decide)) (jfr_rt (j := 30) (jsl_run (by decide +kernel)) (by decide +kernel)) (by decide)) (by decide))
theorem se_Ho_pairsIn (G : JG) : JSem G y_Ho_pairsIn c_Ho_pairsIn 4 (some .int) 1 q_Ho_pairsIn := jsem_of (by decide +kernel) rfl (by intro h; cases h) (fr_Ho_pairsIn G)
def y_Mu_settle : MethodName := ⟨"CellarTurns$Muddle", "settle", "(I)V"⟩
abbrev c_Mu_settle : ByteArray := prog_6_method_19_code
theorem mt_Mu_settle : JMt y_Mu_settle c_Mu_settle 4 none 1 := ⟨(List.mem_of_getElem? (i := 429) (by decide +kernel)), (List.mem_of_getElem? (i := 129) (by decide +kernel)), ⟨by decide +kernel, by decide +kernel⟩, by decide +kernel, by decide⟩
theorem in_Mu_settle : Cond.instanceMethod y_Mu_settle ∈ lw_tbl := (List.mem_of_getElem? (i := 428) (by decide +kernel))
theorem sl_Mu_settle : Cond.selects y_Mu_settle.cls y_Mu_settle y_Mu_settle ∈ lw_tbl := (List.mem_of_getElem? (i := 1) (by decide +kernel))
noncomputable def qp_Mu_settle : JP := (jb_sq (jb_sq (jb_sq (jb_if (jx_run [(0, 0, 1), (2, 1, 0), (19, 0, 0), (5, 2, 0), (4, 0, 0), (40, 3, 4), (2, 2, 0), (16, 0, 0)]) 0 17 13) 13 (jb_go (jx_run [(0, 0, 1)]) 18)) 17 (jb_go (jx_run [(0, 0, 0)]) 18)) 18 (jb_sq (jb_sq (jb_sq (jb_if (jx_run [(5, 3, 0), (4, 0, 0), (2, 3, 0)]) 0 51 24) 24 (jb_sq (jb_if (jx_run [(4, 0, 0), (42, 3, 2), (2, 1, 0), (50, 0, 0), (4, 0, 0), (42, 3, 3), (42, 0, 6), (2, 1, 0), (50, 0, 0)]) 9 51 42) 42 (jb_go (jx_run [(4, 0, 0), (40, 3, 5), (2, 2, 0), (17, 0, 0)]) 59))) 51 (jb_go (jx_run [(4, 0, 0), (40, 3, 5), (2, 2, 0), (0, 0, -1), (18, 0, 0), (16, 0, 0)]) 59)) 59 (jb_sq (jb_sq (jb_sq (jb_if (jx_run [(43, 3, 5), (4, 0, 0), (4, 0, 0), (42, 3, 0), (2, 1, 0), (50, 0, 0), (2, 1, 0)]) 6 94 73) 73 (jb_sq (jb_if (jx_run [(4, 0, 0), (42, 3, 3), (40, 0, 10), (2, 2, 0), (16, 0, 0)]) 1 94 85) 85 (jb_go (jx_run [(4, 0, 0), (40, 3, 6), (2, 2, 0), (17, 0, 0)]) 102))) 94 (jb_go (jx_run [(4, 0, 0), (40, 3, 6), (2, 2, 0), (0, 0, -1), (18, 0, 0), (16, 0, 0)]) 102)) 102 (jb_rt (jx_run [(43, 3, 6)]) 0))))
noncomputable def q_Mu_settle : JF := jf_of qp_Mu_settle 4
set_option maxRecDepth 20000 in
theorem fr_Mu_settle (G : JG) : JFr G 3 false c_Mu_settle 0 4 none 0 qp_Mu_settle := (jfr_sq (jfr_sq (jfr_sq (jfr_if (j := 10) (jsl_run (by decide +kernel)) (by decide +kernel) (by decide)) (jfr_go (j := 14) (jsl_run (by decide +kernel)) (by decide +kernel) (by decide)) (by decide)) (jfr_go (j := 18) (jsl_run (by decide +kernel)) (by decide +kernel) (by decide)) (by decide)) (jfr_sq (jfr_sq (jfr_sq (jfr_if (j := 21) (jsl_run (by decide +kernel)) (by decide +kernel) (by decide)) (jfr_sq (jfr_if (j := 39) (jsl_run (by decide +kernel)) (by decide +kernel) (by decide)) (jfr_go (j := 48) (jsl_run (by decide +kernel)) (by decide +kernel) (by decide)) (by decide)) (by decide)) (jfr_go (j := 59) (jsl_run (by decide +kernel)) (by decide +kernel) (by decide)) (by decide)) (jfr_sq (jfr_sq (jfr_sq (jfr_if (j := 70) (jsl_run (by decide +kernel)) (by decide +kernel) (by decide)) (jfr_sq (jfr_if (j := 82) (jsl_run (by decide +kernel)) (by decide +kernel) (by decide)) (jfr_go (j := 91) (jsl_run (by decide +kernel)) (by decide +kernel) (by decide)) (by decide)) (by decide)) (jfr_go (j := 102) (jsl_run (by decide +kernel)) (by decide +kernel) (by decide)) (by decide)) (jfr_rt (j := 105) (jsl_run (by decide +kernel)) (by decide +kernel)) (by decide)) (by decide)) (by decide))
theorem se_Mu_settle (G : JG) : JSem G y_Mu_settle c_Mu_settle 4 none 0 q_Mu_settle := jsem_of (by decide +kernel) rfl (by intro h; cases h) (fr_Mu_settle G)
def y_Mu_begin : MethodName := ⟨"CellarTurns$Muddle", "begin", "(LCellarTurns$House;)V"⟩
abbrev c_Mu_begin : ByteArray := prog_6_method_2_code
theorem mt_Mu_begin : JMt y_Mu_begin c_Mu_begin 3 none 1 := ⟨(List.mem_of_getElem? (i := 407) (by decide +kernel)), (List.mem_of_getElem? (i := 129) (by decide +kernel)), ⟨by decide +kernel, by decide +kernel⟩, by decide +kernel, by decide⟩
theorem in_Mu_begin : Cond.instanceMethod y_Mu_begin ∈ lw_tbl := (List.mem_of_getElem? (i := 405) (by decide +kernel))
theorem sl_Mu_begin : Cond.selects y_Mu_begin.cls y_Mu_begin y_Mu_begin ∈ lw_tbl := (List.mem_of_getElem? (i := 406) (by decide +kernel))
noncomputable def qp_Mu_begin : JP := (jb_sq (jb_go (jn (jx_run [(4, 0, 0), (4, 1, 0), (45, 3, 3), (4, 0, 0), (4, 1, 0)]) (jn (jx_cv 1 0 q_Ho_peopleBits) (jn (jx_run [(43, 3, 4), (4, 0, 0), (0, 0, 0), (43, 3, 5), (4, 0, 0), (0, 0, 0), (43, 3, 6), (4, 0, 0), (0, 0, 0), (43, 3, 7), (4, 0, 0), (4, 1, 0), (4, 1, 0), (42, 0, 4)]) (jn (jx_cv 2 0 q_Ho_pairsIn) (jx_run [(43, 3, 8), (4, 0, 0), (0, 0, 0), (43, 3, 9), (4, 0, 0), (1, 0, 0), (44, 3, 10), (4, 0, 0), (0, 0, 0), (43, 3, 11), (0, 0, 0), (5, 2, 0)]))))) 57) 57 (jb_sq (jb_lp 57 (jb_sq (jb_if (jx_run [(2, 2, 0), (0, 0, 8)]) 9 100 63) 63 (jb_go (jx_run [(4, 0, 0), (42, 3, 0), (2, 2, 0), (4, 1, 0), (42, 0, 3), (2, 2, 0), (50, 0, 0), (55, 0, 0), (4, 0, 0), (42, 3, 1), (2, 2, 0), (4, 1, 0), (42, 0, 4), (2, 2, 0), (50, 0, 0), (55, 0, 0), (4, 0, 0), (42, 3, 2), (2, 2, 0), (0, 0, 0), (55, 0, 0), (8, 2, 1)]) 57))) 100 (jb_sq (jb_go (jx_run [(0, 0, 0), (5, 2, 0)]) 102) 102 (jb_sq (jb_lp 102 (jb_sq (jb_if (jx_run [(2, 2, 0), (4, 1, 0), (40, 0, 8)]) 9 121 110) 110 (jb_go (jn (jx_run [(4, 0, 0), (2, 2, 0)]) (jn (jx_cv 2 3 q_Mu_settle) (jx_run [(8, 2, 1)]))) 102))) 121 (jb_rt (jx_run []) 0)))))
noncomputable def q_Mu_begin : JF := jf_of qp_Mu_begin 3
set_option maxRecDepth 20000 in
theorem fr_Mu_begin (G : JG) : JFr G 3 false c_Mu_begin 2 3 none 0 qp_Mu_begin := (jfr_sq (jfr_go (j := 57) (jsl_n (j := 7) (jsl_run (by decide +kernel)) (jsl_n (j := 10) (jsl_cv (ix := 29) mt_Ho_peopleBits in_Ho_peopleBits sl_Ho_peopleBits rfl (by decide) (se_Ho_peopleBits _) (by decide) (List.mem_of_getElem? (i := 408) (by decide +kernel)) (by decide +kernel)) (jsl_n (j := 34) (jsl_run (by decide +kernel)) (jsl_n (j := 37) (jsl_cv (ix := 51) mt_Ho_pairsIn in_Ho_pairsIn sl_Ho_pairsIn rfl (by decide) (se_Ho_pairsIn _) (by decide) (List.mem_of_getElem? (i := 416) (by decide +kernel)) (by decide +kernel)) (jsl_run (by decide +kernel)))))) (by decide +kernel) (by decide)) (jfr_sq (jfr_lp (jfr_sq (jfr_if (j := 60) (jsl_run (by decide +kernel)) (by decide +kernel) (by decide)) (jfr_go (j := 97) (jsl_run (by decide +kernel)) (by decide +kernel) (by decide)) (by decide)) (by decide)) (jfr_sq (jfr_go (j := 102) (jsl_run (by decide +kernel)) (by decide +kernel) (by decide)) (jfr_sq (jfr_lp (jfr_sq (jfr_if (j := 107) (jsl_run (by decide +kernel)) (by decide +kernel) (by decide)) (jfr_go (j := 118) (jsl_n (j := 112) (jsl_run (by decide +kernel)) (jsl_n (j := 115) (jsl_cv (ix := 72) mt_Mu_settle in_Mu_settle sl_Mu_settle rfl (by decide) (se_Mu_settle _) (by decide) (List.mem_of_getElem? (i := 426) (by decide +kernel)) (by decide +kernel)) (jsl_run (by decide +kernel)))) (by decide +kernel) (by decide)) (by decide)) (by decide)) (jfr_rt (j := 121) (jsl_run (by decide +kernel)) (by decide +kernel)) (by decide)) (by decide)) (by decide)) (by decide))
theorem se_Mu_begin (G : JG) : JSem G y_Mu_begin c_Mu_begin 3 none 2 q_Mu_begin := jsem_of (by decide +kernel) rfl (by intro h; cases h) (fr_Mu_begin G)
def y_Mu_init : MethodName := ⟨"CellarTurns$Muddle", "<init>", "(LCellarTurns$House;)V"⟩
abbrev c_Mu_init : ByteArray := prog_6_method_1_code
theorem mt_Mu_init : JMt y_Mu_init c_Mu_init 2 none 1 := ⟨(List.mem_of_getElem? (i := 402) (by decide +kernel)), (List.mem_of_getElem? (i := 129) (by decide +kernel)), ⟨by decide +kernel, by decide +kernel⟩, by decide +kernel, by decide⟩
theorem in_Mu_init : Cond.instanceMethod y_Mu_init ∈ lw_tbl := (List.mem_of_getElem? (i := 401) (by decide +kernel))
noncomputable def qp_Mu_init : JP := (jb_rt (jn (jx_run [(4, 0, 0)]) (jn jx_oi (jn (jx_run [(4, 0, 0), (0, 0, 8), (62, 100, 0), (48, 3, 0), (4, 0, 0), (0, 0, 8), (62, 100, 0), (48, 3, 1), (4, 0, 0), (0, 0, 8), (62, 100, 0), (48, 3, 2), (4, 0, 0), (4, 1, 0), (45, 3, 3), (4, 0, 0), (4, 1, 0)]) (jx_cv 2 3 q_Mu_begin)))) 0)
noncomputable def q_Mu_init : JF := jf_of qp_Mu_init 2
set_option maxRecDepth 20000 in
theorem fr_Mu_init (G : JG) : JFr G 3 true c_Mu_init 3 2 none 0 qp_Mu_init := (jfr_rt (j := 38) (jsl_n (j := 1) (jsl_run (by decide +kernel)) (jsl_n (j := 4) (jsl_oi (ix := 3) (List.mem_of_getElem? (i := 403) (by decide +kernel)) (by decide) (by decide +kernel)) (jsl_n (j := 35) (jsl_run (by decide +kernel)) (jsl_cv (ix := 25) mt_Mu_begin in_Mu_begin sl_Mu_begin rfl (by decide) (se_Mu_begin _) (by decide) (List.mem_of_getElem? (i := 404) (by decide +kernel)) (by decide +kernel))))) (by decide +kernel))
theorem se_Mu_init (G : JG) : JSem G y_Mu_init c_Mu_init 2 none 3 q_Mu_init := jsem_of (by decide +kernel) rfl (by intro _; rfl) (fr_Mu_init G)
def y_Se_init : MethodName := ⟨"CellarTurns$Search", "<init>", "(LCellarTurns$House;)V"⟩
abbrev c_Se_init : ByteArray := prog_10_method_1_code
theorem mt_Se_init : JMt y_Se_init c_Se_init 2 none 1 := ⟨(List.mem_of_getElem? (i := 396) (by decide +kernel)), (List.mem_of_getElem? (i := 128) (by decide +kernel)), ⟨by decide +kernel, by decide +kernel⟩, by decide +kernel, by decide⟩
theorem in_Se_init : Cond.instanceMethod y_Se_init ∈ lw_tbl := (List.mem_of_getElem? (i := 395) (by decide +kernel))
noncomputable def qp_Se_init : JP := (jb_rt (jn (jx_run [(4, 0, 0)]) (jn jx_oi (jn (jx_run [(4, 0, 0), (0, 0, 5), (62, 100, 0), (48, 7, 1), (4, 0, 0), (0, 0, 5), (62, 100, 0), (48, 7, 2), (4, 0, 0), (61, 3, 0), (70, 0, 0), (4, 1, 0)]) (jn (jx_ci 2 q_Mu_init) (jx_run [(48, 7, 0)]))))) 0)
noncomputable def q_Se_init : JF := jf_of qp_Se_init 2
set_option maxRecDepth 20000 in
theorem fr_Se_init (G : JG) : JFr G 7 true c_Se_init 4 2 none 0 qp_Se_init := (jfr_rt (j := 30) (jsl_n (j := 1) (jsl_run (by decide +kernel)) (jsl_n (j := 4) (jsl_oi (ix := 3) (List.mem_of_getElem? (i := 397) (by decide +kernel)) (by decide) (by decide +kernel)) (jsl_n (j := 24) (jsl_run (by decide +kernel)) (jsl_n (j := 27) (jsl_ci (ix := 20) mt_Mu_init in_Mu_init rfl (se_Mu_init _) (by decide) (List.mem_of_getElem? (i := 400) (by decide +kernel)) (by decide +kernel)) (jsl_run (by decide +kernel)))))) (by decide +kernel))
theorem se_Se_init (G : JG) : JSem G y_Se_init c_Se_init 2 none 4 q_Se_init := jsem_of (by decide +kernel) rfl (by intro _; rfl) (fr_Se_init G)
def y_Ta_init : MethodName := ⟨"CellarTurns$Tally", "<init>", "(LCellarTurns$House;)V"⟩
abbrev c_Ta_init : ByteArray := prog_11_method_1_code
theorem mt_Ta_init : JMt y_Ta_init c_Ta_init 2 none 1 := ⟨(List.mem_of_getElem? (i := 515) (by decide +kernel)), (List.mem_of_getElem? (i := 132) (by decide +kernel)), ⟨by decide +kernel, by decide +kernel⟩, by decide +kernel, by decide⟩
theorem in_Ta_init : Cond.instanceMethod y_Ta_init ∈ lw_tbl := (List.mem_of_getElem? (i := 514) (by decide +kernel))
noncomputable def qp_Ta_init : JP := (jb_rt (jn (jx_run [(4, 0, 0)]) (jn jx_oi (jn (jx_run [(4, 0, 0), (0, 0, 1024), (62, 100, 0), (48, 8, 1), (4, 0, 0), (0, 0, 64), (62, 100, 0), (48, 8, 2), (4, 0, 0), (61, 3, 0), (70, 0, 0), (4, 1, 0)]) (jn (jx_ci 2 q_Mu_init) (jx_run [(48, 8, 0)]))))) 0)
noncomputable def q_Ta_init : JF := jf_of qp_Ta_init 2
set_option maxRecDepth 20000 in
theorem fr_Ta_init (G : JG) : JFr G 8 true c_Ta_init 4 2 none 0 qp_Ta_init := (jfr_rt (j := 33) (jsl_n (j := 1) (jsl_run (by decide +kernel)) (jsl_n (j := 4) (jsl_oi (ix := 3) (List.mem_of_getElem? (i := 516) (by decide +kernel)) (by decide) (by decide +kernel)) (jsl_n (j := 27) (jsl_run (by decide +kernel)) (jsl_n (j := 30) (jsl_ci (ix := 20) mt_Mu_init in_Mu_init rfl (se_Mu_init _) (by decide) (List.mem_of_getElem? (i := 518) (by decide +kernel)) (by decide +kernel)) (jsl_run (by decide +kernel)))))) (by decide +kernel))
theorem se_Ta_init (G : JG) : JSem G y_Ta_init c_Ta_init 2 none 4 q_Ta_init := jsem_of (by decide +kernel) rfl (by intro _; rfl) (fr_Ta_init G)
def y_Mu_wrongOnes : MethodName := ⟨"CellarTurns$Muddle", "wrongOnes", "()I"⟩
abbrev c_Mu_wrongOnes : ByteArray := prog_6_method_5_code
theorem mt_Mu_wrongOnes : JMt y_Mu_wrongOnes c_Mu_wrongOnes 1 (some .int) 0 := ⟨(List.mem_of_getElem? (i := 960) (by decide +kernel)), (List.mem_of_getElem? (i := 129) (by decide +kernel)), ⟨by decide +kernel, by decide +kernel⟩, by decide +kernel, by decide⟩
theorem in_Mu_wrongOnes : Cond.instanceMethod y_Mu_wrongOnes ∈ lw_tbl := (List.mem_of_getElem? (i := 958) (by decide +kernel))
theorem sl_Mu_wrongOnes : Cond.selects y_Mu_wrongOnes.cls y_Mu_wrongOnes y_Mu_wrongOnes ∈ lw_tbl := (List.mem_of_getElem? (i := 959) (by decide +kernel))
noncomputable def qp_Mu_wrongOnes : JP := (jb_rt (jn (jx_run [(4, 0, 0), (40, 3, 6)]) (jx_cs 1 q_In_bitCount)) 1)
noncomputable def q_Mu_wrongOnes : JF := jf_of qp_Mu_wrongOnes 1
set_option maxRecDepth 20000 in
theorem fr_Mu_wrongOnes (G : JG) : JFr G 3 false c_Mu_wrongOnes 1 1 (some .int) 0 qp_Mu_wrongOnes := (jfr_rt (j := 7) (jsl_n (j := 4) (jsl_run (by decide +kernel)) (jsl_cs (ix := 86) mt_In_bitCount st_In_bitCount (se_In_bitCount _) (by decide) (List.mem_of_getElem? (i := 961) (by decide +kernel)) (by decide +kernel))) (by decide +kernel))
theorem se_Mu_wrongOnes (G : JG) : JSem G y_Mu_wrongOnes c_Mu_wrongOnes 1 (some .int) 1 q_Mu_wrongOnes := jsem_of (by decide +kernel) rfl (by intro h; cases h) (fr_Mu_wrongOnes G)
def y_Se_keepRow : MethodName := ⟨"CellarTurns$Search", "keepRow", "()V"⟩
abbrev c_Se_keepRow : ByteArray := prog_10_method_10_code
theorem mt_Se_keepRow : JMt y_Se_keepRow c_Se_keepRow 2 none 0 := ⟨(List.mem_of_getElem? (i := 1095) (by decide +kernel)), (List.mem_of_getElem? (i := 128) (by decide +kernel)), ⟨by decide +kernel, by decide +kernel⟩, by decide +kernel, by decide⟩
theorem in_Se_keepRow : Cond.instanceMethod y_Se_keepRow ∈ lw_tbl := (List.mem_of_getElem? (i := 1094) (by decide +kernel))
theorem sl_Se_keepRow : Cond.selects y_Se_keepRow.cls y_Se_keepRow y_Se_keepRow ∈ lw_tbl := (List.mem_of_getElem? (i := 30) (by decide +kernel))
noncomputable def qp_Se_keepRow : JP := (jb_sq (jb_go (jx_run [(4, 0, 0), (4, 0, 0), (40, 7, 3), (43, 7, 4), (0, 0, 0), (5, 1, 0)]) 10) 10 (jb_sq (jb_lp 10 (jb_sq (jb_if (jx_run [(2, 1, 0), (4, 0, 0), (40, 7, 3)]) 9 41 18) 18 (jb_sq (jb_if (jx_run [(2, 1, 0), (0, 0, 5)]) 9 41 23) 23 (jb_go (jx_run [(4, 0, 0), (42, 7, 2), (2, 1, 0), (4, 0, 0), (42, 7, 1), (2, 1, 0), (50, 0, 0), (55, 0, 0), (8, 1, 1)]) 10)))) 41 (jb_rt (jx_run []) 0)))
noncomputable def q_Se_keepRow : JF := jf_of qp_Se_keepRow 2
set_option maxRecDepth 20000 in
theorem fr_Se_keepRow (G : JG) : JFr G 7 false c_Se_keepRow 0 2 none 0 qp_Se_keepRow := (jfr_sq (jfr_go (j := 10) (jsl_run (by decide +kernel)) (by decide +kernel) (by decide)) (jfr_sq (jfr_lp (jfr_sq (jfr_if (j := 15) (jsl_run (by decide +kernel)) (by decide +kernel) (by decide)) (jfr_sq (jfr_if (j := 20) (jsl_run (by decide +kernel)) (by decide +kernel) (by decide)) (jfr_go (j := 38) (jsl_run (by decide +kernel)) (by decide +kernel) (by decide)) (by decide)) (by decide)) (by decide)) (jfr_rt (j := 41) (jsl_run (by decide +kernel)) (by decide +kernel)) (by decide)) (by decide))
theorem se_Se_keepRow (G : JG) : JSem G y_Se_keepRow c_Se_keepRow 2 none 0 q_Se_keepRow := jsem_of (by decide +kernel) rfl (by intro h; cases h) (fr_Se_keepRow G)
def y_Mu_partnersOf : MethodName := ⟨"CellarTurns$Muddle", "partnersOf", "(I)I"⟩
abbrev c_Mu_partnersOf : ByteArray := prog_6_method_20_code
theorem mt_Mu_partnersOf : JMt y_Mu_partnersOf c_Mu_partnersOf 2 (some .int) 1 := ⟨(List.mem_of_getElem? (i := 921) (by decide +kernel)), (List.mem_of_getElem? (i := 129) (by decide +kernel)), ⟨by decide +kernel, by decide +kernel⟩, by decide +kernel, by decide⟩
theorem in_Mu_partnersOf : Cond.instanceMethod y_Mu_partnersOf ∈ lw_tbl := (List.mem_of_getElem? (i := 919) (by decide +kernel))
theorem sl_Mu_partnersOf : Cond.selects y_Mu_partnersOf.cls y_Mu_partnersOf y_Mu_partnersOf ∈ lw_tbl := (List.mem_of_getElem? (i := 920) (by decide +kernel))
noncomputable def qp_Mu_partnersOf : JP := (jb_sq (jb_sq (jb_if (jx_run [(4, 0, 0), (40, 3, 5), (2, 1, 0), (20, 0, 0), (0, 0, 1), (16, 0, 0)]) 1 13 11) 11 (jb_rt (jx_run [(0, 0, 0)]) 1)) 13 (jb_rt (jx_run [(4, 0, 0), (40, 3, 5), (4, 0, 0), (42, 3, 1), (2, 1, 0), (50, 0, 0), (4, 0, 0), (42, 3, 3), (42, 0, 5), (2, 1, 0), (50, 0, 0), (17, 0, 0), (0, 0, 1), (2, 1, 0), (19, 0, 0), (17, 0, 0), (0, 0, -1), (18, 0, 0), (16, 0, 0)]) 1))
noncomputable def q_Mu_partnersOf : JF := jf_of qp_Mu_partnersOf 2
set_option maxRecDepth 20000 in
theorem fr_Mu_partnersOf (G : JG) : JFr G 3 false c_Mu_partnersOf 0 2 (some .int) 0 qp_Mu_partnersOf := (jfr_sq (jfr_sq (jfr_if (j := 8) (jsl_run (by decide +kernel)) (by decide +kernel) (by decide)) (jfr_rt (j := 12) (jsl_run (by decide +kernel)) (by decide +kernel)) (by decide)) (jfr_rt (j := 40) (jsl_run (by decide +kernel)) (by decide +kernel)) (by decide))
theorem se_Mu_partnersOf (G : JG) : JSem G y_Mu_partnersOf c_Mu_partnersOf 2 (some .int) 0 q_Mu_partnersOf := jsem_of (by decide +kernel) rfl (by intro h; cases h) (fr_Mu_partnersOf G)
def y_Mu_stuck : MethodName := ⟨"CellarTurns$Muddle", "stuck", "()I"⟩
abbrev c_Mu_stuck : ByteArray := prog_6_method_25_code
theorem mt_Mu_stuck : JMt y_Mu_stuck c_Mu_stuck 3 (some .int) 0 := ⟨(List.mem_of_getElem? (i := 1107) (by decide +kernel)), (List.mem_of_getElem? (i := 129) (by decide +kernel)), ⟨by decide +kernel, by decide +kernel⟩, by decide +kernel, by decide⟩
theorem in_Mu_stuck : Cond.instanceMethod y_Mu_stuck ∈ lw_tbl := (List.mem_of_getElem? (i := 1105) (by decide +kernel))
theorem sl_Mu_stuck : Cond.selects y_Mu_stuck.cls y_Mu_stuck y_Mu_stuck ∈ lw_tbl := (List.mem_of_getElem? (i := 1106) (by decide +kernel))
noncomputable def qp_Mu_stuck : JP := (jb_sq (jb_go (jx_run [(0, 0, 0), (5, 1, 0), (0, 0, 0), (5, 2, 0)]) 4) 4 (jb_sq (jb_lp 4 (jb_sq (jb_if (jx_run [(2, 2, 0), (4, 0, 0), (42, 3, 3), (40, 0, 8)]) 9 54 15) 15 (jb_sq (jb_sq (jb_if (jx_run [(4, 0, 0), (42, 3, 0), (2, 2, 0), (50, 0, 0), (2, 2, 0)]) 6 48 25) 25 (jb_sq (jb_if (jn (jx_run [(4, 0, 0), (2, 2, 0)]) (jx_cv 2 3 q_Mu_partnersOf)) 1 48 33) 33 (jb_go (jx_run [(2, 1, 0), (0, 0, 1), (2, 2, 0), (19, 0, 0), (0, 0, 1), (4, 0, 0), (42, 3, 0), (2, 2, 0), (50, 0, 0), (19, 0, 0), (17, 0, 0), (17, 0, 0), (5, 1, 0)]) 48))) 48 (jb_go (jx_run [(8, 2, 1)]) 4)))) 54 (jb_rt (jx_run [(2, 1, 0), (4, 0, 0), (40, 3, 6), (16, 0, 0)]) 1)))
noncomputable def q_Mu_stuck : JF := jf_of qp_Mu_stuck 3
set_option maxRecDepth 20000 in
theorem fr_Mu_stuck (G : JG) : JFr G 3 false c_Mu_stuck 1 3 (some .int) 0 qp_Mu_stuck := (jfr_sq (jfr_go (j := 4) (jsl_run (by decide +kernel)) (by decide +kernel) (by decide)) (jfr_sq (jfr_lp (jfr_sq (jfr_if (j := 12) (jsl_run (by decide +kernel)) (by decide +kernel) (by decide)) (jfr_sq (jfr_sq (jfr_if (j := 22) (jsl_run (by decide +kernel)) (by decide +kernel) (by decide)) (jfr_sq (jfr_if (j := 30) (jsl_n (j := 27) (jsl_run (by decide +kernel)) (jsl_cv (ix := 96) mt_Mu_partnersOf in_Mu_partnersOf sl_Mu_partnersOf rfl (by decide) (se_Mu_partnersOf _) (by decide) (List.mem_of_getElem? (i := 918) (by decide +kernel)) (by decide +kernel))) (by decide +kernel) (by decide)) (jfr_go (j := 48) (jsl_run (by decide +kernel)) (by decide +kernel) (by decide)) (by decide)) (by decide)) (jfr_go (j := 51) (jsl_run (by decide +kernel)) (by decide +kernel) (by decide)) (by decide)) (by decide)) (by decide)) (jfr_rt (j := 60) (jsl_run (by decide +kernel)) (by decide +kernel)) (by decide)) (by decide))
theorem se_Mu_stuck (G : JG) : JSem G y_Mu_stuck c_Mu_stuck 3 (some .int) 1 q_Mu_stuck := jsem_of (by decide +kernel) rfl (by intro h; cases h) (fr_Mu_stuck G)
def y_Mu_ringOf : MethodName := ⟨"CellarTurns$Muddle", "ringOf", "(I)I"⟩
abbrev c_Mu_ringOf : ByteArray := prog_6_method_24_code
theorem mt_Mu_ringOf : JMt y_Mu_ringOf c_Mu_ringOf 5 (some .int) 1 := ⟨(List.mem_of_getElem? (i := 1041) (by decide +kernel)), (List.mem_of_getElem? (i := 129) (by decide +kernel)), ⟨by decide +kernel, by decide +kernel⟩, by decide +kernel, by decide⟩
theorem in_Mu_ringOf : Cond.instanceMethod y_Mu_ringOf ∈ lw_tbl := (List.mem_of_getElem? (i := 1039) (by decide +kernel))
theorem sl_Mu_ringOf : Cond.selects y_Mu_ringOf.cls y_Mu_ringOf y_Mu_ringOf ∈ lw_tbl := (List.mem_of_getElem? (i := 1040) (by decide +kernel))
noncomputable def qp_Mu_ringOf : JP := (jb_sq (jb_go (jx_run [(0, 0, 1), (2, 1, 0), (19, 0, 0), (5, 2, 0), (4, 0, 0), (42, 3, 0), (2, 1, 0), (50, 0, 0), (5, 3, 0), (0, 0, 0), (5, 4, 0)]) 14) 14 (jb_sq (jb_lp 14 (jb_sq (jb_if (jx_run [(2, 4, 0), (0, 0, 8)]) 9 45 21) 21 (jb_sq (jb_if (jx_run [(2, 3, 0), (2, 1, 0)]) 6 45 26) 26 (jb_go (jx_run [(2, 2, 0), (0, 0, 1), (2, 3, 0), (19, 0, 0), (17, 0, 0), (5, 2, 0), (4, 0, 0), (42, 3, 0), (2, 3, 0), (50, 0, 0), (5, 3, 0), (8, 4, 1)]) 14)))) 45 (jb_rt (jx_run [(2, 2, 0)]) 1)))
noncomputable def q_Mu_ringOf : JF := jf_of qp_Mu_ringOf 5
set_option maxRecDepth 20000 in
theorem fr_Mu_ringOf (G : JG) : JFr G 3 false c_Mu_ringOf 0 5 (some .int) 0 qp_Mu_ringOf := (jfr_sq (jfr_go (j := 14) (jsl_run (by decide +kernel)) (by decide +kernel) (by decide)) (jfr_sq (jfr_lp (jfr_sq (jfr_if (j := 18) (jsl_run (by decide +kernel)) (by decide +kernel) (by decide)) (jfr_sq (jfr_if (j := 23) (jsl_run (by decide +kernel)) (by decide +kernel) (by decide)) (jfr_go (j := 42) (jsl_run (by decide +kernel)) (by decide +kernel) (by decide)) (by decide)) (by decide)) (by decide)) (jfr_rt (j := 46) (jsl_run (by decide +kernel)) (by decide +kernel)) (by decide)) (by decide))
theorem se_Mu_ringOf (G : JG) : JSem G y_Mu_ringOf c_Mu_ringOf 5 (some .int) 0 q_Mu_ringOf := jsem_of (by decide +kernel) rfl (by intro h; cases h) (fr_Mu_ringOf G)
def y_Mu_turnsNeeded : MethodName := ⟨"CellarTurns$Muddle", "turnsNeeded", "()I"⟩
abbrev c_Mu_turnsNeeded : ByteArray := prog_6_method_23_code
theorem mt_Mu_turnsNeeded : JMt y_Mu_turnsNeeded c_Mu_turnsNeeded 5 (some .int) 0 := ⟨(List.mem_of_getElem? (i := 1112) (by decide +kernel)), (List.mem_of_getElem? (i := 129) (by decide +kernel)), ⟨by decide +kernel, by decide +kernel⟩, by decide +kernel, by decide⟩
theorem in_Mu_turnsNeeded : Cond.instanceMethod y_Mu_turnsNeeded ∈ lw_tbl := (List.mem_of_getElem? (i := 1110) (by decide +kernel))
theorem sl_Mu_turnsNeeded : Cond.selects y_Mu_turnsNeeded.cls y_Mu_turnsNeeded y_Mu_turnsNeeded ∈ lw_tbl := (List.mem_of_getElem? (i := 1111) (by decide +kernel))
noncomputable def qp_Mu_turnsNeeded : JP := (jb_sq (jb_go (jx_run [(0, 0, 0), (5, 1, 0), (0, 0, 0), (5, 2, 0), (0, 0, 0), (5, 3, 0)]) 6) 6 (jb_sq (jb_lp 6 (jb_sq (jb_if (jx_run [(2, 3, 0), (4, 0, 0), (42, 3, 3), (40, 0, 8)]) 9 79 17) 17 (jb_sq (jb_sq (jb_if (jx_run [(4, 0, 0), (42, 3, 0), (2, 3, 0), (50, 0, 0), (2, 3, 0)]) 6 73 27) 27 (jb_sq (jb_if (jx_run [(2, 2, 0), (2, 3, 0), (20, 0, 0), (0, 0, 1), (16, 0, 0)]) 1 73 35) 35 (jb_go (jn (jx_run [(4, 0, 0), (2, 3, 0)]) (jn (jx_cv 2 3 q_Mu_ringOf) (jn (jx_run [(5, 4, 0), (2, 2, 0), (2, 4, 0), (17, 0, 0), (5, 2, 0), (2, 1, 0), (2, 4, 0)]) (jn (jx_cs 1 q_In_bitCount) (jn (jx_run [(0, 0, 1), (2, 4, 0), (4, 0, 0), (42, 3, 3), (40, 0, 10), (16, 0, 0)]) (jn (jx_cs 1 q_In_bitCount) (jn (jx_cs 2 q_Ma_max) (jx_run [(11, 0, 0), (10, 0, 0), (5, 1, 0)])))))))) 73))) 73 (jb_go (jx_run [(8, 3, 1)]) 6)))) 79 (jb_rt (jx_run [(2, 1, 0)]) 1)))
noncomputable def q_Mu_turnsNeeded : JF := jf_of qp_Mu_turnsNeeded 5
set_option maxRecDepth 20000 in
theorem fr_Mu_turnsNeeded (G : JG) : JFr G 3 false c_Mu_turnsNeeded 1 5 (some .int) 0 qp_Mu_turnsNeeded := (jfr_sq (jfr_go (j := 6) (jsl_run (by decide +kernel)) (by decide +kernel) (by decide)) (jfr_sq (jfr_lp (jfr_sq (jfr_if (j := 14) (jsl_run (by decide +kernel)) (by decide +kernel) (by decide)) (jfr_sq (jfr_sq (jfr_if (j := 24) (jsl_run (by decide +kernel)) (by decide +kernel) (by decide)) (jfr_sq (jfr_if (j := 32) (jsl_run (by decide +kernel)) (by decide +kernel) (by decide)) (jfr_go (j := 73) (jsl_n (j := 37) (jsl_run (by decide +kernel)) (jsl_n (j := 40) (jsl_cv (ix := 146) mt_Mu_ringOf in_Mu_ringOf sl_Mu_ringOf rfl (by decide) (se_Mu_ringOf _) (by decide) (List.mem_of_getElem? (i := 1113) (by decide +kernel)) (by decide +kernel)) (jsl_n (j := 50) (jsl_run (by decide +kernel)) (jsl_n (j := 53) (jsl_cs (ix := 86) mt_In_bitCount st_In_bitCount (se_In_bitCount _) (by decide) (List.mem_of_getElem? (i := 961) (by decide +kernel)) (by decide +kernel)) (jsl_n (j := 64) (jsl_run (by decide +kernel)) (jsl_n (j := 67) (jsl_cs (ix := 86) mt_In_bitCount st_In_bitCount (se_In_bitCount _) (by decide) (List.mem_of_getElem? (i := 961) (by decide +kernel)) (by decide +kernel)) (jsl_n (j := 70) (jsl_cs (ix := 149) mt_Ma_max st_Ma_max (se_Ma_max _) (by decide) (List.mem_of_getElem? (i := 1108) (by decide +kernel)) (by decide +kernel)) (jsl_run (by decide +kernel))))))))) (by decide +kernel) (by decide)) (by decide)) (by decide)) (jfr_go (j := 76) (jsl_run (by decide +kernel)) (by decide +kernel) (by decide)) (by decide)) (by decide)) (by decide)) (jfr_rt (j := 80) (jsl_run (by decide +kernel)) (by decide +kernel)) (by decide)) (by decide))
theorem se_Mu_turnsNeeded (G : JG) : JSem G y_Mu_turnsNeeded c_Mu_turnsNeeded 5 (some .int) 1 q_Mu_turnsNeeded := jsem_of (by decide +kernel) rfl (by intro h; cases h) (fr_Mu_turnsNeeded G)
def y_Mu_fewestWrongWithin : MethodName := ⟨"CellarTurns$Muddle", "fewestWrongWithin", "(I)I"⟩
abbrev c_Mu_fewestWrongWithin : ByteArray := prog_6_method_28_code
theorem mt_Mu_fewestWrongWithin : JMt y_Mu_fewestWrongWithin c_Mu_fewestWrongWithin 5 (some .int) 1 := ⟨(List.mem_of_getElem? (i := 1103) (by decide +kernel)), (List.mem_of_getElem? (i := 129) (by decide +kernel)), ⟨by decide +kernel, by decide +kernel⟩, by decide +kernel, by decide⟩
theorem in_Mu_fewestWrongWithin : Cond.instanceMethod y_Mu_fewestWrongWithin ∈ lw_tbl := (List.mem_of_getElem? (i := 1101) (by decide +kernel))
theorem sl_Mu_fewestWrongWithin : Cond.selects y_Mu_fewestWrongWithin.cls y_Mu_fewestWrongWithin y_Mu_fewestWrongWithin ∈ lw_tbl := (List.mem_of_getElem? (i := 1102) (by decide +kernel))
noncomputable def qp_Mu_fewestWrongWithin : JP := (jb_sq (jb_sq (jb_if (jn (jx_run [(4, 0, 0)]) (jn (jx_cv 1 3 q_Mu_stuck) (jn (jx_cs 1 q_In_bitCount) (jn (jx_run [(4, 0, 0)]) (jn (jx_cv 1 3 q_Mu_wrongOnes) (jn (jx_run [(0, 0, 2), (2, 1, 0), (12, 0, 0), (11, 0, 0)]) (jn (jx_cs 2 q_Ma_max) (jn (jx_run [(5, 2, 0), (4, 0, 0)]) (jn (jx_cv 1 3 q_Mu_turnsNeeded) (jx_run [(5, 3, 0), (2, 3, 0), (2, 1, 0)])))))))))) 10 31 29) 29 (jb_rt (jx_run [(2, 2, 0)]) 1)) 31 (jb_sq (jb_sq (jb_sq (jb_if (jx_run [(2, 3, 0), (2, 1, 0), (11, 0, 0), (4, 0, 0), (42, 3, 3), (40, 0, 10)]) 1 48 44) 44 (jb_go (jx_run [(0, 0, 1)]) 49)) 48 (jb_go (jx_run [(0, 0, 0)]) 49)) 49 (jb_rt (jn (jx_run [(10, 0, 0), (5, 4, 0), (2, 2, 0), (2, 4, 0)]) (jx_cs 2 q_Ma_max)) 1)))
noncomputable def q_Mu_fewestWrongWithin : JF := jf_of qp_Mu_fewestWrongWithin 5
set_option maxRecDepth 20000 in
theorem fr_Mu_fewestWrongWithin (G : JG) : JFr G 3 false c_Mu_fewestWrongWithin 2 5 (some .int) 0 qp_Mu_fewestWrongWithin := (jfr_sq (jfr_sq (jfr_if (j := 26) (jsl_n (j := 1) (jsl_run (by decide +kernel)) (jsl_n (j := 4) (jsl_cv (ix := 158) mt_Mu_stuck in_Mu_stuck sl_Mu_stuck rfl (by decide) (se_Mu_stuck _) (by decide) (List.mem_of_getElem? (i := 1104) (by decide +kernel)) (by decide +kernel)) (jsl_n (j := 7) (jsl_cs (ix := 86) mt_In_bitCount st_In_bitCount (se_In_bitCount _) (by decide) (List.mem_of_getElem? (i := 961) (by decide +kernel)) (by decide +kernel)) (jsl_n (j := 8) (jsl_run (by decide +kernel)) (jsl_n (j := 11) (jsl_cv (ix := 120) mt_Mu_wrongOnes in_Mu_wrongOnes sl_Mu_wrongOnes rfl (by decide) (se_Mu_wrongOnes _) (by decide) (List.mem_of_getElem? (i := 957) (by decide +kernel)) (by decide +kernel)) (jsl_n (j := 15) (jsl_run (by decide +kernel)) (jsl_n (j := 18) (jsl_cs (ix := 149) mt_Ma_max st_Ma_max (se_Ma_max _) (by decide) (List.mem_of_getElem? (i := 1108) (by decide +kernel)) (by decide +kernel)) (jsl_n (j := 20) (jsl_run (by decide +kernel)) (jsl_n (j := 23) (jsl_cv (ix := 155) mt_Mu_turnsNeeded in_Mu_turnsNeeded sl_Mu_turnsNeeded rfl (by decide) (se_Mu_turnsNeeded _) (by decide) (List.mem_of_getElem? (i := 1109) (by decide +kernel)) (by decide +kernel)) (jsl_run (by decide +kernel))))))))))) (by decide +kernel) (by decide)) (jfr_rt (j := 30) (jsl_run (by decide +kernel)) (by decide +kernel)) (by decide)) (jfr_sq (jfr_sq (jfr_sq (jfr_if (j := 41) (jsl_run (by decide +kernel)) (by decide +kernel) (by decide)) (jfr_go (j := 45) (jsl_run (by decide +kernel)) (by decide +kernel) (by decide)) (by decide)) (jfr_go (j := 49) (jsl_run (by decide +kernel)) (by decide +kernel) (by decide)) (by decide)) (jfr_rt (j := 58) (jsl_n (j := 55) (jsl_run (by decide +kernel)) (jsl_cs (ix := 149) mt_Ma_max st_Ma_max (se_Ma_max _) (by decide) (List.mem_of_getElem? (i := 1108) (by decide +kernel)) (by decide +kernel))) (by decide +kernel)) (by decide)) (by decide))
theorem se_Mu_fewestWrongWithin (G : JG) : JSem G y_Mu_fewestWrongWithin c_Mu_fewestWrongWithin 5 (some .int) 2 q_Mu_fewestWrongWithin := jsem_of (by decide +kernel) rfl (by intro h; cases h) (fr_Mu_fewestWrongWithin G)
def y_Mu_openPairs : MethodName := ⟨"CellarTurns$Muddle", "openPairs", "()J"⟩
abbrev c_Mu_openPairs : ByteArray := prog_6_method_21_code
theorem mt_Mu_openPairs : JMt y_Mu_openPairs c_Mu_openPairs 6 (some .long) 0 := ⟨(List.mem_of_getElem? (i := 1059) (by decide +kernel)), (List.mem_of_getElem? (i := 129) (by decide +kernel)), ⟨by decide +kernel, by decide +kernel⟩, by decide +kernel, by decide⟩
theorem in_Mu_openPairs : Cond.instanceMethod y_Mu_openPairs ∈ lw_tbl := (List.mem_of_getElem? (i := 1057) (by decide +kernel))
theorem sl_Mu_openPairs : Cond.selects y_Mu_openPairs.cls y_Mu_openPairs y_Mu_openPairs ∈ lw_tbl := (List.mem_of_getElem? (i := 1058) (by decide +kernel))
noncomputable def qp_Mu_openPairs : JP := (jb_sq (jb_go (jx_run [(1, 0, 0), (6, 1, 0), (0, 0, 0), (5, 3, 0)]) 4) 4 (jb_sq (jb_lp 4 (jb_sq (jb_if (jx_run [(2, 3, 0), (4, 0, 0), (42, 3, 3), (40, 0, 8)]) 9 44 15) 15 (jb_go (jn (jx_run [(4, 0, 0), (2, 3, 0)]) (jn (jx_cv 2 3 q_Mu_partnersOf) (jx_run [(0, 0, -2), (2, 3, 0), (19, 0, 0), (16, 0, 0), (34, 0, 0), (6, 4, 0), (3, 1, 0), (3, 4, 0), (0, 0, 8), (2, 3, 0), (12, 0, 0), (30, 0, 0), (28, 0, 0), (6, 1, 0), (8, 3, 1)]))) 4))) 44 (jb_rt (jx_run [(3, 1, 0)]) 2)))
noncomputable def q_Mu_openPairs : JF := jf_of qp_Mu_openPairs 6
set_option maxRecDepth 20000 in
theorem fr_Mu_openPairs (G : JG) : JFr G 3 false c_Mu_openPairs 1 6 (some .long) 0 qp_Mu_openPairs := (jfr_sq (jfr_go (j := 4) (jsl_run (by decide +kernel)) (by decide +kernel) (by decide)) (jfr_sq (jfr_lp (jfr_sq (jfr_if (j := 12) (jsl_run (by decide +kernel)) (by decide +kernel) (by decide)) (jfr_go (j := 41) (jsl_n (j := 17) (jsl_run (by decide +kernel)) (jsl_n (j := 20) (jsl_cv (ix := 96) mt_Mu_partnersOf in_Mu_partnersOf sl_Mu_partnersOf rfl (by decide) (se_Mu_partnersOf _) (by decide) (List.mem_of_getElem? (i := 918) (by decide +kernel)) (by decide +kernel)) (jsl_run (by decide +kernel)))) (by decide +kernel) (by decide)) (by decide)) (by decide)) (jfr_rt (j := 45) (jsl_run (by decide +kernel)) (by decide +kernel)) (by decide)) (by decide))
theorem se_Mu_openPairs (G : JG) : JSem G y_Mu_openPairs c_Mu_openPairs 6 (some .long) 1 q_Mu_openPairs := jsem_of (by decide +kernel) rfl (by intro h; cases h) (fr_Mu_openPairs G)
def y_Ct_lesserOf : MethodName := ⟨"CellarTurns", "lesserOf", "(I)I"⟩
abbrev c_Ct_lesserOf : ByteArray := prog_1_method_38_code
theorem mt_Ct_lesserOf : JMt y_Ct_lesserOf c_Ct_lesserOf 1 (some .int) 1 := ⟨(List.mem_of_getElem? (i := 1125) (by decide +kernel)), (List.mem_of_getElem? (i := 117) (by decide +kernel)), ⟨by decide +kernel, by decide +kernel⟩, by decide +kernel, by decide⟩
theorem st_Ct_lesserOf : Cond.static y_Ct_lesserOf ∈ lw_tbl := (List.mem_of_getElem? (i := 1124) (by decide +kernel))
noncomputable def qp_Ct_lesserOf : JP := (jb_rt (jx_run [(2, 0, 0), (0, 0, 3), (20, 0, 0), (0, 0, 7), (16, 0, 0)]) 1)
noncomputable def q_Ct_lesserOf : JF := jf_of qp_Ct_lesserOf 1
set_option maxRecDepth 20000 in
theorem fr_Ct_lesserOf (G : JG) : JFr G 10 false c_Ct_lesserOf 0 1 (some .int) 0 qp_Ct_lesserOf := (jfr_rt (j := 6) (jsl_run (by decide +kernel)) (by decide +kernel))
theorem se_Ct_lesserOf (G : JG) : JSem G y_Ct_lesserOf c_Ct_lesserOf 1 (some .int) 0 q_Ct_lesserOf := jsem_of (by decide +kernel) rfl (by intro h; cases h) (fr_Ct_lesserOf G)
def y_Ct_greaterOf : MethodName := ⟨"CellarTurns", "greaterOf", "(I)I"⟩
abbrev c_Ct_greaterOf : ByteArray := prog_1_method_39_code
theorem mt_Ct_greaterOf : JMt y_Ct_greaterOf c_Ct_greaterOf 1 (some .int) 1 := ⟨(List.mem_of_getElem? (i := 1128) (by decide +kernel)), (List.mem_of_getElem? (i := 117) (by decide +kernel)), ⟨by decide +kernel, by decide +kernel⟩, by decide +kernel, by decide⟩
theorem st_Ct_greaterOf : Cond.static y_Ct_greaterOf ∈ lw_tbl := (List.mem_of_getElem? (i := 1127) (by decide +kernel))
noncomputable def qp_Ct_greaterOf : JP := (jb_rt (jx_run [(2, 0, 0), (0, 0, 7), (16, 0, 0)]) 1)
noncomputable def q_Ct_greaterOf : JF := jf_of qp_Ct_greaterOf 1
set_option maxRecDepth 20000 in
theorem fr_Ct_greaterOf (G : JG) : JFr G 10 false c_Ct_greaterOf 0 1 (some .int) 0 qp_Ct_greaterOf := (jfr_rt (j := 4) (jsl_run (by decide +kernel)) (by decide +kernel))
theorem se_Ct_greaterOf (G : JG) : JSem G y_Ct_greaterOf c_Ct_greaterOf 1 (some .int) 0 q_Ct_greaterOf := jsem_of (by decide +kernel) rfl (by intro h; cases h) (fr_Ct_greaterOf G)
def y_Mu_wrongBehind : MethodName := ⟨"CellarTurns$Muddle", "wrongBehind", "(II)I"⟩
abbrev c_Mu_wrongBehind : ByteArray := prog_6_method_22_code
theorem mt_Mu_wrongBehind : JMt y_Mu_wrongBehind c_Mu_wrongBehind 5 (some .int) 2 := ⟨(List.mem_of_getElem? (i := 1132) (by decide +kernel)), (List.mem_of_getElem? (i := 129) (by decide +kernel)), ⟨by decide +kernel, by decide +kernel⟩, by decide +kernel, by decide⟩
theorem in_Mu_wrongBehind : Cond.instanceMethod y_Mu_wrongBehind ∈ lw_tbl := (List.mem_of_getElem? (i := 1130) (by decide +kernel))
theorem sl_Mu_wrongBehind : Cond.selects y_Mu_wrongBehind.cls y_Mu_wrongBehind y_Mu_wrongBehind ∈ lw_tbl := (List.mem_of_getElem? (i := 1131) (by decide +kernel))
noncomputable def qp_Mu_wrongBehind : JP := (jb_sq (jb_sq (jb_sq (jb_if (jx_run [(4, 0, 0), (40, 3, 6), (0, 0, 1), (2, 1, 0), (19, 0, 0), (0, 0, 1), (2, 2, 0), (19, 0, 0), (17, 0, 0), (0, 0, -1), (18, 0, 0), (16, 0, 0), (5, 3, 0), (0, 0, 0), (5, 4, 0), (2, 4, 0), (4, 0, 0), (42, 3, 0), (2, 2, 0), (50, 0, 0), (2, 1, 0)]) 6 36 30) 30 (jb_go (jx_run [(0, 0, 1), (2, 1, 0), (19, 0, 0)]) 37)) 36 (jb_go (jx_run [(0, 0, 0)]) 37)) 37 (jb_sq (jb_sq (jb_sq (jb_if (jx_run [(17, 0, 0), (5, 4, 0), (2, 4, 0), (4, 0, 0), (42, 3, 0), (2, 1, 0), (50, 0, 0), (2, 2, 0)]) 6 58 52) 52 (jb_go (jx_run [(0, 0, 1), (2, 2, 0), (19, 0, 0)]) 59)) 58 (jb_go (jx_run [(0, 0, 0)]) 59)) 59 (jb_rt (jn (jx_run [(17, 0, 0), (5, 4, 0), (2, 3, 0), (2, 4, 0), (4, 0, 0), (42, 3, 3), (40, 0, 10), (0, 0, -1), (18, 0, 0), (16, 0, 0), (17, 0, 0)]) (jx_cs 1 q_In_bitCount)) 1)))
noncomputable def q_Mu_wrongBehind : JF := jf_of qp_Mu_wrongBehind 5
set_option maxRecDepth 20000 in
theorem fr_Mu_wrongBehind (G : JG) : JFr G 3 false c_Mu_wrongBehind 1 5 (some .int) 0 qp_Mu_wrongBehind := (jfr_sq (jfr_sq (jfr_sq (jfr_if (j := 27) (jsl_run (by decide +kernel)) (by decide +kernel) (by decide)) (jfr_go (j := 33) (jsl_run (by decide +kernel)) (by decide +kernel) (by decide)) (by decide)) (jfr_go (j := 37) (jsl_run (by decide +kernel)) (by decide +kernel) (by decide)) (by decide)) (jfr_sq (jfr_sq (jfr_sq (jfr_if (j := 49) (jsl_run (by decide +kernel)) (by decide +kernel) (by decide)) (jfr_go (j := 55) (jsl_run (by decide +kernel)) (by decide +kernel) (by decide)) (by decide)) (jfr_go (j := 59) (jsl_run (by decide +kernel)) (by decide +kernel) (by decide)) (by decide)) (jfr_rt (j := 79) (jsl_n (j := 76) (jsl_run (by decide +kernel)) (jsl_cs (ix := 86) mt_In_bitCount st_In_bitCount (se_In_bitCount _) (by decide) (List.mem_of_getElem? (i := 961) (by decide +kernel)) (by decide +kernel))) (by decide +kernel)) (by decide)) (by decide))
theorem se_Mu_wrongBehind (G : JG) : JSem G y_Mu_wrongBehind c_Mu_wrongBehind 5 (some .int) 1 q_Mu_wrongBehind := jsem_of (by decide +kernel) rfl (by intro h; cases h) (fr_Mu_wrongBehind G)
end
section
/-! ===== printed by wip/whole/emit.py: methods as pieces ===== -/
def y_Mu_swapMinds : MethodName := ⟨"CellarTurns$Muddle", "swapMinds", "(II)V"⟩
abbrev c_Mu_swapMinds : ByteArray := prog_6_method_17_code
theorem mt_Mu_swapMinds : JMt y_Mu_swapMinds c_Mu_swapMinds 4 none 2 := ⟨(List.mem_of_getElem? (i := 952) (by decide +kernel)), (List.mem_of_getElem? (i := 129) (by decide +kernel)), ⟨by decide +kernel, by decide +kernel⟩, by decide +kernel, by decide⟩
theorem in_Mu_swapMinds : Cond.instanceMethod y_Mu_swapMinds ∈ lw_tbl := (List.mem_of_getElem? (i := 950) (by decide +kernel))
theorem sl_Mu_swapMinds : Cond.selects y_Mu_swapMinds.cls y_Mu_swapMinds y_Mu_swapMinds ∈ lw_tbl := (List.mem_of_getElem? (i := 951) (by decide +kernel))
noncomputable def qp_Mu_swapMinds : JP := (jb_rt (jx_run [(4, 0, 0), (42, 3, 0), (2, 1, 0), (50, 0, 0), (5, 3, 0), (4, 0, 0), (42, 3, 0), (2, 1, 0), (4, 0, 0), (42, 3, 0), (2, 2, 0), (50, 0, 0), (55, 0, 0), (4, 0, 0), (42, 3, 0), (2, 2, 0), (2, 3, 0), (55, 0, 0)]) 0)
noncomputable def q_Mu_swapMinds : JF := jf_of qp_Mu_swapMinds 4
set_option maxRecDepth 20000 in
theorem fr_Mu_swapMinds (G : JG) : JFr G 3 false c_Mu_swapMinds 0 4 none 0 qp_Mu_swapMinds := (jfr_rt (j := 26) (jsl_run (by decide +kernel)) (by decide +kernel))
theorem se_Mu_swapMinds (G : JG) : JSem G y_Mu_swapMinds c_Mu_swapMinds 4 none 0 q_Mu_swapMinds := jsem_of (by decide +kernel) rfl (by intro h; cases h) (fr_Mu_swapMinds G)
def y_Mu_join : MethodName := ⟨"CellarTurns$Muddle", "join", "(II)V"⟩
abbrev c_Mu_join : ByteArray := prog_6_method_18_code
theorem mt_Mu_join : JMt y_Mu_join c_Mu_join 3 none 2 := ⟨(List.mem_of_getElem? (i := 956) (by decide +kernel)), (List.mem_of_getElem? (i := 129) (by decide +kernel)), ⟨by decide +kernel, by decide +kernel⟩, by decide +kernel, by decide⟩
theorem in_Mu_join : Cond.instanceMethod y_Mu_join ∈ lw_tbl := (List.mem_of_getElem? (i := 955) (by decide +kernel))
theorem sl_Mu_join : Cond.selects y_Mu_join.cls y_Mu_join y_Mu_join ∈ lw_tbl := (List.mem_of_getElem? (i := 24) (by decide +kernel))
noncomputable def qp_Mu_join : JP := (jb_rt (jx_run [(4, 0, 0), (42, 3, 1), (2, 1, 0), (72, 0, 0), (50, 0, 0), (0, 0, 1), (2, 2, 0), (19, 0, 0), (17, 0, 0), (55, 0, 0), (4, 0, 0), (42, 3, 1), (2, 2, 0), (72, 0, 0), (50, 0, 0), (0, 0, 1), (2, 1, 0), (19, 0, 0), (17, 0, 0), (55, 0, 0), (4, 0, 0), (42, 3, 2), (2, 1, 0), (72, 0, 0), (50, 0, 0), (0, 0, 1), (10, 0, 0), (55, 0, 0), (4, 0, 0), (42, 3, 2), (2, 2, 0), (72, 0, 0), (50, 0, 0), (0, 0, 1), (10, 0, 0), (55, 0, 0), (4, 0, 0), (70, 0, 0), (40, 3, 8), (0, 0, 1), (10, 0, 0), (43, 3, 8)]) 0)
noncomputable def q_Mu_join : JF := jf_of qp_Mu_join 3
set_option maxRecDepth 20000 in
theorem fr_Mu_join (G : JG) : JFr G 3 false c_Mu_join 0 3 none 0 qp_Mu_join := (jfr_rt (j := 54) (jsl_run (by decide +kernel)) (by decide +kernel))
theorem se_Mu_join (G : JG) : JSem G y_Mu_join c_Mu_join 3 none 0 q_Mu_join := jsem_of (by decide +kernel) rfl (by intro h; cases h) (fr_Mu_join G)
def y_Mu_change : MethodName := ⟨"CellarTurns$Muddle", "change", "(II)V"⟩
abbrev c_Mu_change : ByteArray := prog_6_method_15_code
theorem mt_Mu_change : JMt y_Mu_change c_Mu_change 3 none 2 := ⟨(List.mem_of_getElem? (i := 948) (by decide +kernel)), (List.mem_of_getElem? (i := 129) (by decide +kernel)), ⟨by decide +kernel, by decide +kernel⟩, by decide +kernel, by decide⟩
theorem in_Mu_change : Cond.instanceMethod y_Mu_change ∈ lw_tbl := (List.mem_of_getElem? (i := 946) (by decide +kernel))
theorem sl_Mu_change : Cond.selects y_Mu_change.cls y_Mu_change y_Mu_change ∈ lw_tbl := (List.mem_of_getElem? (i := 947) (by decide +kernel))
noncomputable def qp_Mu_change : JP := (jb_rt (jn (jx_run [(4, 0, 0), (2, 1, 0), (2, 2, 0)]) (jn (jx_cv 3 3 q_Mu_swapMinds) (jn (jx_run [(4, 0, 0), (2, 1, 0), (2, 2, 0)]) (jn (jx_cv 3 3 q_Mu_join) (jn (jx_run [(4, 0, 0), (70, 0, 0), (40, 3, 7), (0, 0, 1), (10, 0, 0), (43, 3, 7), (4, 0, 0), (2, 1, 0)]) (jn (jx_cv 2 3 q_Mu_settle) (jn (jx_run [(4, 0, 0), (2, 2, 0)]) (jx_cv 2 3 q_Mu_settle)))))))) 0)
noncomputable def q_Mu_change : JF := jf_of qp_Mu_change 3
set_option maxRecDepth 20000 in
theorem fr_Mu_change (G : JG) : JFr G 3 false c_Mu_change 1 3 none 0 qp_Mu_change := (jfr_rt (j := 32) (jsl_n (j := 3) (jsl_run (by decide +kernel)) (jsl_n (j := 6) (jsl_cv (ix := 137) mt_Mu_swapMinds in_Mu_swapMinds sl_Mu_swapMinds rfl (by decide) (se_Mu_swapMinds _) (by decide) (List.mem_of_getElem? (i := 949) (by decide +kernel)) (by decide +kernel)) (jsl_n (j := 9) (jsl_run (by decide +kernel)) (jsl_n (j := 12) (jsl_cv (ix := 129) mt_Mu_join in_Mu_join sl_Mu_join rfl (by decide) (se_Mu_join _) (by decide) (List.mem_of_getElem? (i := 953) (by decide +kernel)) (by decide +kernel)) (jsl_n (j := 24) (jsl_run (by decide +kernel)) (jsl_n (j := 27) (jsl_cv (ix := 72) mt_Mu_settle in_Mu_settle sl_Mu_settle rfl (by decide) (se_Mu_settle _) (by decide) (List.mem_of_getElem? (i := 426) (by decide +kernel)) (by decide +kernel)) (jsl_n (j := 29) (jsl_run (by decide +kernel)) (jsl_cv (ix := 72) mt_Mu_settle in_Mu_settle sl_Mu_settle rfl (by decide) (se_Mu_settle _) (by decide) (List.mem_of_getElem? (i := 426) (by decide +kernel)) (by decide +kernel))))))))) (by decide +kernel))
theorem se_Mu_change (G : JG) : JSem G y_Mu_change c_Mu_change 3 none 1 q_Mu_change := jsem_of (by decide +kernel) rfl (by intro h; cases h) (fr_Mu_change G)
def y_Se_tryTurn : MethodName := ⟨"CellarTurns$Search", "tryTurn", "(II)V"⟩
abbrev c_Se_tryTurn : ByteArray := prog_10_method_9_code
theorem mt_Se_tryTurn : JMt y_Se_tryTurn c_Se_tryTurn 4 none 2 := ⟨(List.mem_of_getElem? (i := 1136) (by decide +kernel)), (List.mem_of_getElem? (i := 128) (by decide +kernel)), ⟨by decide +kernel, by decide +kernel⟩, by decide +kernel, by decide⟩
theorem in_Se_tryTurn : Cond.instanceMethod y_Se_tryTurn ∈ lw_tbl := (List.mem_of_getElem? (i := 1135) (by decide +kernel))
theorem sl_Se_tryTurn : Cond.selects y_Se_tryTurn.cls y_Se_tryTurn y_Se_tryTurn ∈ lw_tbl := (List.mem_of_getElem? (i := 32) (by decide +kernel))
noncomputable def qp_Se_tryTurn : JP := (jb_sq (jb_sq (jb_if (jx_run [(4, 0, 0), (40, 7, 3), (2, 1, 0), (11, 0, 0), (5, 3, 0), (2, 3, 0)]) 2 23 11) 11 (jb_sq (jb_if (jx_run [(2, 3, 0), (0, 0, 5)]) 9 23 16) 16 (jb_go (jx_run [(4, 0, 0), (42, 7, 1), (2, 3, 0), (2, 2, 0), (55, 0, 0)]) 23))) 23 (jb_rt (jn (jx_run [(4, 0, 0), (42, 7, 0), (2, 2, 0)]) (jn (jx_cs 1 q_Ct_lesserOf) (jn (jx_run [(2, 2, 0)]) (jn (jx_cs 1 q_Ct_greaterOf) (jx_cv 3 3 q_Mu_change))))) 0))
noncomputable def q_Se_tryTurn : JF := jf_of qp_Se_tryTurn 4
set_option maxRecDepth 20000 in
theorem fr_Se_tryTurn (G : JG) : JFr G 7 false c_Se_tryTurn 2 4 none 0 qp_Se_tryTurn := (jfr_sq (jfr_sq (jfr_if (j := 8) (jsl_run (by decide +kernel)) (by decide +kernel) (by decide)) (jfr_sq (jfr_if (j := 13) (jsl_run (by decide +kernel)) (by decide +kernel) (by decide)) (jfr_go (j := 23) (jsl_run (by decide +kernel)) (by decide +kernel) (by decide)) (by decide)) (by decide)) (jfr_rt (j := 38) (jsl_n (j := 28) (jsl_run (by decide +kernel)) (jsl_n (j := 31) (jsl_csN (ix := 68) mt_Ct_lesserOf st_Ct_lesserOf (se_Ct_lesserOf _) (by decide) (List.mem_of_getElem? (i := 1123) (by decide +kernel)) (by decide +kernel)) (jsl_n (j := 32) (jsl_run (by decide +kernel)) (jsl_n (j := 35) (jsl_csN (ix := 72) mt_Ct_greaterOf st_Ct_greaterOf (se_Ct_greaterOf _) (by decide) (List.mem_of_getElem? (i := 1126) (by decide +kernel)) (by decide +kernel)) (jsl_cv (ix := 131) mt_Mu_change in_Mu_change sl_Mu_change rfl (by decide) (se_Mu_change _) (by decide) (List.mem_of_getElem? (i := 1137) (by decide +kernel)) (by decide +kernel)))))) (by decide +kernel)) (by decide))
theorem se_Se_tryTurn (G : JG) : JSem G y_Se_tryTurn c_Se_tryTurn 4 none 2 q_Se_tryTurn := jsem_of (by decide +kernel) rfl (by intro h; cases h) (fr_Se_tryTurn G)
def y_Mu_changeBack : MethodName := ⟨"CellarTurns$Muddle", "changeBack", "(II)V"⟩
abbrev c_Mu_changeBack : ByteArray := prog_6_method_16_code
theorem mt_Mu_changeBack : JMt y_Mu_changeBack c_Mu_changeBack 3 none 2 := ⟨(List.mem_of_getElem? (i := 1141) (by decide +kernel)), (List.mem_of_getElem? (i := 129) (by decide +kernel)), ⟨by decide +kernel, by decide +kernel⟩, by decide +kernel, by decide⟩
theorem in_Mu_changeBack : Cond.instanceMethod y_Mu_changeBack ∈ lw_tbl := (List.mem_of_getElem? (i := 1139) (by decide +kernel))
theorem sl_Mu_changeBack : Cond.selects y_Mu_changeBack.cls y_Mu_changeBack y_Mu_changeBack ∈ lw_tbl := (List.mem_of_getElem? (i := 1140) (by decide +kernel))
noncomputable def qp_Mu_changeBack : JP := (jb_rt (jn (jx_run [(4, 0, 0), (2, 1, 0), (2, 2, 0)]) (jn (jx_cv 3 3 q_Mu_swapMinds) (jn (jx_run [(4, 0, 0), (42, 3, 1), (2, 1, 0), (72, 0, 0), (50, 0, 0), (0, 0, 1), (2, 2, 0), (19, 0, 0), (0, 0, -1), (18, 0, 0), (16, 0, 0), (55, 0, 0), (4, 0, 0), (42, 3, 1), (2, 2, 0), (72, 0, 0), (50, 0, 0), (0, 0, 1), (2, 1, 0), (19, 0, 0), (0, 0, -1), (18, 0, 0), (16, 0, 0), (55, 0, 0), (4, 0, 0), (42, 3, 2), (2, 1, 0), (72, 0, 0), (50, 0, 0), (0, 0, 1), (11, 0, 0), (55, 0, 0), (4, 0, 0), (42, 3, 2), (2, 2, 0), (72, 0, 0), (50, 0, 0), (0, 0, 1), (11, 0, 0), (55, 0, 0), (4, 0, 0), (70, 0, 0), (40, 3, 8), (0, 0, 1), (11, 0, 0), (43, 3, 8), (4, 0, 0), (70, 0, 0), (40, 3, 7), (0, 0, 1), (11, 0, 0), (43, 3, 7), (4, 0, 0), (2, 1, 0)]) (jn (jx_cv 2 3 q_Mu_settle) (jn (jx_run [(4, 0, 0), (2, 2, 0)]) (jx_cv 2 3 q_Mu_settle)))))) 0)
noncomputable def q_Mu_changeBack : JF := jf_of qp_Mu_changeBack 3
set_option maxRecDepth 20000 in
theorem fr_Mu_changeBack (G : JG) : JFr G 3 false c_Mu_changeBack 1 3 none 0 qp_Mu_changeBack := (jfr_rt (j := 84) (jsl_n (j := 3) (jsl_run (by decide +kernel)) (jsl_n (j := 6) (jsl_cv (ix := 137) mt_Mu_swapMinds in_Mu_swapMinds sl_Mu_swapMinds rfl (by decide) (se_Mu_swapMinds _) (by decide) (List.mem_of_getElem? (i := 949) (by decide +kernel)) (by decide +kernel)) (jsl_n (j := 76) (jsl_run (by decide +kernel)) (jsl_n (j := 79) (jsl_cv (ix := 72) mt_Mu_settle in_Mu_settle sl_Mu_settle rfl (by decide) (se_Mu_settle _) (by decide) (List.mem_of_getElem? (i := 426) (by decide +kernel)) (by decide +kernel)) (jsl_n (j := 81) (jsl_run (by decide +kernel)) (jsl_cv (ix := 72) mt_Mu_settle in_Mu_settle sl_Mu_settle rfl (by decide) (se_Mu_settle _) (by decide) (List.mem_of_getElem? (i := 426) (by decide +kernel)) (by decide +kernel))))))) (by decide +kernel))
theorem se_Mu_changeBack (G : JG) : JSem G y_Mu_changeBack c_Mu_changeBack 3 none 1 q_Mu_changeBack := jsem_of (by decide +kernel) rfl (by intro h; cases h) (fr_Mu_changeBack G)
def y_Se_lessen : MethodName := ⟨"CellarTurns$Search", "lessen", "(I)V"⟩
abbrev c_Se_lessen : ByteArray := prog_10_method_6_code
theorem mt_Se_lessen : JMt y_Se_lessen c_Se_lessen 6 none 1 := ⟨(List.mem_of_getElem? (i := 1099) (by decide +kernel)), (List.mem_of_getElem? (i := 128) (by decide +kernel)), ⟨by decide +kernel, by decide +kernel⟩, by decide +kernel, by decide⟩
theorem in_Se_lessen : Cond.instanceMethod y_Se_lessen ∈ lw_tbl := (List.mem_of_getElem? (i := 1098) (by decide +kernel))
theorem sl_Se_lessen : Cond.selects y_Se_lessen.cls y_Se_lessen y_Se_lessen ∈ lw_tbl := (List.mem_of_getElem? (i := 31) (by decide +kernel))
noncomputable def qp_Se_lessen (Ψ : Nat → JF) : JP := (jb_sq (jb_sq (jb_if (jx_run [(2, 1, 0)]) 4 34 4) 4 (jb_sq (jb_sq (jb_if (jn (jx_run [(4, 0, 0), (42, 7, 0)]) (jn (jx_cv 1 3 q_Mu_wrongOnes) (jx_run [(4, 0, 0), (40, 7, 5)]))) 9 33 18) 18 (jb_go (jn (jx_run [(4, 0, 0), (4, 0, 0), (42, 7, 0)]) (jn (jx_cv 1 3 q_Mu_wrongOnes) (jn (jx_run [(43, 7, 5), (4, 0, 0)]) (jx_cv 1 7 q_Se_keepRow)))) 33)) 33 (jb_rt (jx_run []) 0))) 34 (jb_sq (jb_sq (jb_if (jn (jx_run [(4, 0, 0), (42, 7, 0), (2, 1, 0)]) (jn (jx_cv 2 3 q_Mu_fewestWrongWithin) (jx_run [(4, 0, 0), (40, 7, 5)]))) 8 50 49) 49 (jb_rt (jx_run []) 0)) 50 (jb_sq (jb_go (jn (jx_run [(4, 0, 0), (42, 7, 0)]) (jn (jx_cv 1 3 q_Mu_openPairs) (jn (jx_run [(6, 2, 0), (3, 2, 0)]) (jn (jx_cs 1 q_Lo_bitCount) (jx_run [(5, 4, 0)]))))) 64) 64 (jb_sq (jb_lp 64 (jb_sq (jb_if (jx_run [(2, 4, 0)]) 5 147 69) 69 (jb_sq (jb_sq (jb_sq (jb_if (jn (jx_run [(3, 2, 0)]) (jn (jx_cs 1 q_Lo_numberOfTrailingZeros) (jx_run [(5, 5, 0), (3, 2, 0), (3, 2, 0), (1, 0, 1), (23, 0, 0), (27, 0, 0), (6, 2, 0), (2, 1, 0), (0, 0, 1)]))) 10 110 86) 86 (jb_if (jn (jx_run [(4, 0, 0), (42, 7, 0), (2, 5, 0)]) (jn (jx_cs 1 q_Ct_lesserOf) (jn (jx_run [(2, 5, 0)]) (jn (jx_cs 1 q_Ct_greaterOf) (jn (jx_cv 3 3 q_Mu_wrongBehind) (jx_run [(4, 0, 0), (40, 7, 5)])))))) 9 141 110)) 110 (jb_go (jn (jx_run [(4, 0, 0), (2, 1, 0), (2, 5, 0)]) (jn (jx_cv 3 7 q_Se_tryTurn) (jn (jx_run [(4, 0, 0), (2, 1, 0), (0, 0, 1), (11, 0, 0)]) (jn (jx_cv 2 7 (Ψ 0)) (jn (jx_run [(4, 0, 0), (42, 7, 0), (2, 5, 0)]) (jn (jx_cs 1 q_Ct_lesserOf) (jn (jx_run [(2, 5, 0)]) (jn (jx_cs 1 q_Ct_greaterOf) (jx_cv 3 3 q_Mu_changeBack))))))))) 141)) 141 (jb_go (jx_run [(8, 4, -1)]) 64)))) 147 (jb_rt (jx_run []) 0)))))
noncomputable def g_Se_lessen : Nat → Nat → JF
  | 0 => fun _ _ _ => none
  | n + 1 => fun w => match w with
    | 0 => jf_of (qp_Se_lessen (g_Se_lessen n)) 6
    | _ => fun _ _ => none
set_option maxRecDepth 20000 in
theorem fr_Se_lessen (G : JG) (Ψ : Nat → JF) (d : Nat) (hd : 3 ≤ d + 1) (hΨ0 : JSem G y_Se_lessen c_Se_lessen 6 none d (Ψ 0)) : JFr G 7 false c_Se_lessen (d + 1) 6 none 0 (qp_Se_lessen Ψ) := (jfr_sq (jfr_sq (jfr_if (j := 1) (jsl_run (by decide +kernel)) (by decide +kernel) (by decide)) (jfr_sq (jfr_sq (jfr_if (j := 15) (jsl_n (j := 8) (jsl_run (by decide +kernel)) (jsl_n (j := 11) (jsl_cv (ix := 78) mt_Mu_wrongOnes in_Mu_wrongOnes sl_Mu_wrongOnes rfl (by decide) (se_Mu_wrongOnes _) (by omega) (List.mem_of_getElem? (i := 1091) (by decide +kernel)) (by decide +kernel)) (jsl_run (by decide +kernel)))) (by decide +kernel) (by decide)) (jfr_go (j := 33) (jsl_n (j := 23) (jsl_run (by decide +kernel)) (jsl_n (j := 26) (jsl_cv (ix := 78) mt_Mu_wrongOnes in_Mu_wrongOnes sl_Mu_wrongOnes rfl (by decide) (se_Mu_wrongOnes _) (by omega) (List.mem_of_getElem? (i := 1091) (by decide +kernel)) (by decide +kernel)) (jsl_n (j := 30) (jsl_run (by decide +kernel)) (jsl_cv (ix := 45) mt_Se_keepRow in_Se_keepRow sl_Se_keepRow rfl (by decide) (se_Se_keepRow _) (by omega) (List.mem_of_getElem? (i := 1092) (by decide +kernel)) (by decide +kernel))))) (by decide +kernel) (by decide)) (by decide)) (jfr_rt (j := 33) (jsl_run (by decide +kernel)) (by decide +kernel)) (by decide)) (by decide)) (jfr_sq (jfr_sq (jfr_if (j := 46) (jsl_n (j := 39) (jsl_run (by decide +kernel)) (jsl_n (j := 42) (jsl_cv (ix := 89) mt_Mu_fewestWrongWithin in_Mu_fewestWrongWithin sl_Mu_fewestWrongWithin rfl (by decide) (se_Mu_fewestWrongWithin _) (by omega) (List.mem_of_getElem? (i := 1100) (by decide +kernel)) (by decide +kernel)) (jsl_run (by decide +kernel)))) (by decide +kernel) (by decide)) (jfr_rt (j := 49) (jsl_run (by decide +kernel)) (by decide +kernel)) (by decide)) (jfr_sq (jfr_go (j := 64) (jsl_n (j := 54) (jsl_run (by decide +kernel)) (jsl_n (j := 57) (jsl_cv (ix := 92) mt_Mu_openPairs in_Mu_openPairs sl_Mu_openPairs rfl (by decide) (se_Mu_openPairs _) (by omega) (List.mem_of_getElem? (i := 1114) (by decide +kernel)) (by decide +kernel)) (jsl_n (j := 59) (jsl_run (by decide +kernel)) (jsl_n (j := 62) (jsl_cs (ix := 55) mt_Lo_bitCount st_Lo_bitCount (se_Lo_bitCount _) (by omega) (List.mem_of_getElem? (i := 1115) (by decide +kernel)) (by decide +kernel)) (jsl_run (by decide +kernel)))))) (by decide +kernel) (by decide)) (jfr_sq (jfr_lp (jfr_sq (jfr_if (j := 66) (jsl_run (by decide +kernel)) (by decide +kernel) (by decide)) (jfr_sq (jfr_sq (jfr_sq (jfr_if (j := 83) (jsl_n (j := 70) (jsl_run (by decide +kernel)) (jsl_n (j := 73) (jsl_cs (ix := 61) mt_Lo_numberOfTrailingZeros st_Lo_numberOfTrailingZeros (se_Lo_numberOfTrailingZeros _) (by omega) (List.mem_of_getElem? (i := 1116) (by decide +kernel)) (by decide +kernel)) (jsl_run (by decide +kernel)))) (by decide +kernel) (by decide)) (jfr_if (j := 107) (jsl_n (j := 92) (jsl_run (by decide +kernel)) (jsl_n (j := 95) (jsl_csN (ix := 68) mt_Ct_lesserOf st_Ct_lesserOf (se_Ct_lesserOf _) (by omega) (List.mem_of_getElem? (i := 1123) (by decide +kernel)) (by decide +kernel)) (jsl_n (j := 97) (jsl_run (by decide +kernel)) (jsl_n (j := 100) (jsl_csN (ix := 72) mt_Ct_greaterOf st_Ct_greaterOf (se_Ct_greaterOf _) (by omega) (List.mem_of_getElem? (i := 1126) (by decide +kernel)) (by decide +kernel)) (jsl_n (j := 103) (jsl_cv (ix := 96) mt_Mu_wrongBehind in_Mu_wrongBehind sl_Mu_wrongBehind rfl (by decide) (se_Mu_wrongBehind _) (by omega) (List.mem_of_getElem? (i := 1129) (by decide +kernel)) (by decide +kernel)) (jsl_run (by decide +kernel))))))) (by decide +kernel) (by decide)) (by decide)) (jfr_go (j := 141) (jsl_n (j := 114) (jsl_run (by decide +kernel)) (jsl_n (j := 117) (jsl_cv (ix := 64) mt_Se_tryTurn in_Se_tryTurn sl_Se_tryTurn rfl (by decide) (se_Se_tryTurn _) (by omega) (List.mem_of_getElem? (i := 1133) (by decide +kernel)) (by decide +kernel)) (jsl_n (j := 121) (jsl_run (by decide +kernel)) (jsl_n (j := 124) (jsl_cv (ix := 85) mt_Se_lessen in_Se_lessen sl_Se_lessen rfl (by decide) (hΨ0) (by omega) (List.mem_of_getElem? (i := 1096) (by decide +kernel)) (by decide +kernel)) (jsl_n (j := 130) (jsl_run (by decide +kernel)) (jsl_n (j := 133) (jsl_csN (ix := 68) mt_Ct_lesserOf st_Ct_lesserOf (se_Ct_lesserOf _) (by omega) (List.mem_of_getElem? (i := 1123) (by decide +kernel)) (by decide +kernel)) (jsl_n (j := 135) (jsl_run (by decide +kernel)) (jsl_n (j := 138) (jsl_csN (ix := 72) mt_Ct_greaterOf st_Ct_greaterOf (se_Ct_greaterOf _) (by omega) (List.mem_of_getElem? (i := 1126) (by decide +kernel)) (by decide +kernel)) (jsl_cv (ix := 75) mt_Mu_changeBack in_Mu_changeBack sl_Mu_changeBack rfl (by decide) (se_Mu_changeBack _) (by omega) (List.mem_of_getElem? (i := 1138) (by decide +kernel)) (by decide +kernel)))))))))) (by decide +kernel) (by decide)) (by decide)) (jfr_go (j := 144) (jsl_run (by decide +kernel)) (by decide +kernel) (by decide)) (by decide)) (by decide)) (by decide)) (jfr_rt (j := 147) (jsl_run (by decide +kernel)) (by decide +kernel)) (by decide)) (by decide)) (by decide)) (by decide))
theorem se_g_Se_lessen (G : JG) (n : Nat) : JSem G y_Se_lessen c_Se_lessen 6 none (3 + n) (g_Se_lessen n 0) := by
  induction n with
  | zero => exact fun _ _ _ _ h => by cases h
  | succ n ih =>
    have h0 := ih
    exact jsem_of (by decide +kernel) rfl (by intro h; cases h) (fr_Se_lessen G (g_Se_lessen n) (3 + n) (by omega) h0)
noncomputable abbrev q_Se_lessen : JF := g_Se_lessen 40 0
theorem se_Se_lessen (G : JG) : JSem G y_Se_lessen c_Se_lessen 6 none 43 q_Se_lessen := (se_g_Se_lessen G 40)
def y_Se_turnAt : MethodName := ⟨"CellarTurns$Search", "turnAt", "(I)I"⟩
abbrev c_Se_turnAt : ByteArray := prog_10_method_2_code
theorem mt_Se_turnAt : JMt y_Se_turnAt c_Se_turnAt 2 (some .int) 1 := ⟨(List.mem_of_getElem? (i := 1145) (by decide +kernel)), (List.mem_of_getElem? (i := 128) (by decide +kernel)), ⟨by decide +kernel, by decide +kernel⟩, by decide +kernel, by decide⟩
theorem in_Se_turnAt : Cond.instanceMethod y_Se_turnAt ∈ lw_tbl := (List.mem_of_getElem? (i := 1143) (by decide +kernel))
theorem sl_Se_turnAt : Cond.selects y_Se_turnAt.cls y_Se_turnAt y_Se_turnAt ∈ lw_tbl := (List.mem_of_getElem? (i := 1144) (by decide +kernel))
noncomputable def qp_Se_turnAt : JP := (jb_sq (jb_sq (jb_sq (jb_if (jx_run [(2, 1, 0)]) 2 30 4) 4 (jb_sq (jb_if (jx_run [(2, 1, 0), (4, 0, 0), (40, 7, 4)]) 9 30 12) 12 (jb_sq (jb_if (jx_run [(2, 1, 0), (4, 0, 0), (42, 7, 2), (60, 0, 0)]) 9 30 21) 21 (jb_go (jx_run [(4, 0, 0), (42, 7, 2), (2, 1, 0), (50, 0, 0)]) 31)))) 30 (jb_go (jx_run [(0, 0, -1)]) 31)) 31 (jb_rt (jx_run []) 1))
noncomputable def q_Se_turnAt : JF := jf_of qp_Se_turnAt 2
set_option maxRecDepth 20000 in
theorem fr_Se_turnAt (G : JG) : JFr G 7 false c_Se_turnAt 0 2 (some .int) 0 qp_Se_turnAt := (jfr_sq (jfr_sq (jfr_sq (jfr_if (j := 1) (jsl_run (by decide +kernel)) (by decide +kernel) (by decide)) (jfr_sq (jfr_if (j := 9) (jsl_run (by decide +kernel)) (by decide +kernel) (by decide)) (jfr_sq (jfr_if (j := 18) (jsl_run (by decide +kernel)) (by decide +kernel) (by decide)) (jfr_go (j := 27) (jsl_run (by decide +kernel)) (by decide +kernel) (by decide)) (by decide)) (by decide)) (by decide)) (jfr_go (j := 31) (jsl_run (by decide +kernel)) (by decide +kernel) (by decide)) (by decide)) (jfr_rt (j := 31) (jsl_run (by decide +kernel)) (by decide +kernel)) (by decide))
theorem se_Se_turnAt (G : JG) : JSem G y_Se_turnAt c_Se_turnAt 2 (some .int) 0 q_Se_turnAt := jsem_of (by decide +kernel) rfl (by intro h; cases h) (fr_Se_turnAt G)
def y_Ho_has : MethodName := ⟨"CellarTurns$House", "has", "(I)Z"⟩
abbrev c_Ho_has : ByteArray := prog_3_method_5_code
theorem mt_Ho_has : JMt y_Ho_has c_Ho_has 2 (some .boolean) 1 := ⟨(List.mem_of_getElem? (i := 904) (by decide +kernel)), (List.mem_of_getElem? (i := 123) (by decide +kernel)), ⟨by decide +kernel, by decide +kernel⟩, by decide +kernel, by decide⟩
theorem in_Ho_has : Cond.instanceMethod y_Ho_has ∈ lw_tbl := (List.mem_of_getElem? (i := 902) (by decide +kernel))
theorem sl_Ho_has : Cond.selects y_Ho_has.cls y_Ho_has y_Ho_has ∈ lw_tbl := (List.mem_of_getElem? (i := 903) (by decide +kernel))
noncomputable def qp_Ho_has : JP := (jb_sq (jb_sq (jb_sq (jb_if (jx_run [(2, 1, 0)]) 2 16 4) 4 (jb_sq (jb_if (jx_run [(2, 1, 0), (4, 0, 0), (40, 0, 8)]) 9 16 12) 12 (jb_go (jx_run [(0, 0, 1)]) 17))) 16 (jb_go (jx_run [(0, 0, 0)]) 17)) 17 (jb_rt (jx_run []) 4))
noncomputable def q_Ho_has : JF := jf_of qp_Ho_has 2
set_option maxRecDepth 20000 in
theorem fr_Ho_has (G : JG) : JFr G 0 false c_Ho_has 0 2 (some .boolean) 0 qp_Ho_has := (jfr_sq (jfr_sq (jfr_sq (jfr_if (j := 1) (jsl_run (by decide +kernel)) (by decide +kernel) (by decide)) (jfr_sq (jfr_if (j := 9) (jsl_run (by decide +kernel)) (by decide +kernel) (by decide)) (jfr_go (j := 13) (jsl_run (by decide +kernel)) (by decide +kernel) (by decide)) (by decide)) (by decide)) (jfr_go (j := 17) (jsl_run (by decide +kernel)) (by decide +kernel) (by decide)) (by decide)) (jfr_rt (j := 17) (jsl_run (by decide +kernel)) (by decide +kernel)) (by decide))
theorem se_Ho_has (G : JG) : JSem G y_Ho_has c_Ho_has 2 (some .boolean) 0 q_Ho_has := jsem_of (by decide +kernel) rfl (by intro h; cases h) (fr_Ho_has G)
def y_Ct_body : MethodName := ⟨"CellarTurns", "body", "(II)I"⟩
abbrev c_Ct_body : ByteArray := prog_1_method_5_code
theorem mt_Ct_body : JMt y_Ct_body c_Ct_body 3 (some .int) 2 := ⟨(List.mem_of_getElem? (i := 900) (by decide +kernel)), (List.mem_of_getElem? (i := 117) (by decide +kernel)), ⟨by decide +kernel, by decide +kernel⟩, by decide +kernel, by decide⟩
theorem in_Ct_body : Cond.instanceMethod y_Ct_body ∈ lw_tbl := (List.mem_of_getElem? (i := 898) (by decide +kernel))
theorem sl_Ct_body : Cond.selects y_Ct_body.cls y_Ct_body y_Ct_body ∈ lw_tbl := (List.mem_of_getElem? (i := 899) (by decide +kernel))
noncomputable def qp_Ct_body : JP := (jb_sq (jb_sq (jb_if (jn (jx_run [(4, 0, 0), (42, 10, 9), (2, 1, 0)]) (jx_cv 2 0 q_Ho_has)) 1 13 11) 11 (jb_rt (jx_run [(0, 0, -1)]) 1)) 13 (jb_sq (jb_sq (jb_sq (jb_sq (jb_sq (jb_sq (jb_sq (jb_sq (jb_sw (jx_run [(2, 2, 0)]) (0) [56, 66, 78, 88, 100, 110, 120] 132) 120 (jb_rt (jx_run [(4, 0, 0), (42, 10, 5), (40, 3, 6), (2, 1, 0), (20, 0, 0), (0, 0, 1), (16, 0, 0)]) 1)) 110 (jb_rt (jx_run [(4, 0, 0), (42, 10, 5), (42, 3, 2), (2, 1, 0), (50, 0, 0)]) 1)) 100 (jb_rt (jx_run [(4, 0, 0), (42, 10, 5), (42, 3, 0), (2, 1, 0), (50, 0, 0)]) 1)) 88 (jb_rt (jx_run [(4, 0, 0), (42, 10, 5), (40, 3, 4), (2, 1, 0), (20, 0, 0), (0, 0, 1), (16, 0, 0)]) 1)) 78 (jb_rt (jx_run [(4, 0, 0), (42, 10, 9), (42, 0, 2), (2, 1, 0), (50, 0, 0)]) 1)) 66 (jb_rt (jx_run [(4, 0, 0), (42, 10, 9), (40, 0, 9), (2, 1, 0), (20, 0, 0), (0, 0, 1), (16, 0, 0)]) 1)) 56 (jb_rt (jx_run [(4, 0, 0), (42, 10, 9), (42, 0, 1), (2, 1, 0), (50, 0, 0)]) 1)) 132 (jb_rt (jx_run [(0, 0, -1)]) 1)))
noncomputable def q_Ct_body : JF := jf_of qp_Ct_body 3
set_option maxRecDepth 20000 in
theorem fr_Ct_body (G : JG) : JFr G 10 false c_Ct_body 1 3 (some .int) 0 qp_Ct_body := (jfr_sq (jfr_sq (jfr_if (j := 8) (jsl_n (j := 5) (jsl_run (by decide +kernel)) (jsl_cv (ix := 113) mt_Ho_has in_Ho_has sl_Ho_has rfl (by decide) (se_Ho_has _) (by decide) (List.mem_of_getElem? (i := 901) (by decide +kernel)) (by decide +kernel))) (by decide +kernel) (by decide)) (jfr_rt (j := 12) (jsl_run (by decide +kernel)) (by decide +kernel)) (by decide)) (jfr_sq (jfr_sq (jfr_sq (jfr_sq (jfr_sq (jfr_sq (jfr_sq (jfr_sq (jfr_sw (j := 14) (jsl_run (by decide +kernel)) (by decide +kernel)) (jfr_rt (j := 131) (jsl_run (by decide +kernel)) (by decide +kernel)) (by decide)) (jfr_rt (j := 119) (jsl_run (by decide +kernel)) (by decide +kernel)) (by decide)) (jfr_rt (j := 109) (jsl_run (by decide +kernel)) (by decide +kernel)) (by decide)) (jfr_rt (j := 99) (jsl_run (by decide +kernel)) (by decide +kernel)) (by decide)) (jfr_rt (j := 87) (jsl_run (by decide +kernel)) (by decide +kernel)) (by decide)) (jfr_rt (j := 77) (jsl_run (by decide +kernel)) (by decide +kernel)) (by decide)) (jfr_rt (j := 65) (jsl_run (by decide +kernel)) (by decide +kernel)) (by decide)) (jfr_rt (j := 133) (jsl_run (by decide +kernel)) (by decide +kernel)) (by decide)) (by decide))
theorem se_Ct_body (G : JG) : JSem G y_Ct_body c_Ct_body 3 (some .int) 1 q_Ct_body := jsem_of (by decide +kernel) rfl (by intro h; cases h) (fr_Ct_body G)
def y_Tp_isLetter : MethodName := ⟨"CellarTurns$Tape", "isLetter", "(I)Z"⟩
abbrev c_Tp_isLetter : ByteArray := prog_12_method_10_code
theorem mt_Tp_isLetter : JMt y_Tp_isLetter c_Tp_isLetter 2 (some .boolean) 1 := ⟨(List.mem_of_getElem? (i := 630) (by decide +kernel)), (List.mem_of_getElem? (i := 118) (by decide +kernel)), ⟨by decide +kernel, by decide +kernel⟩, by decide +kernel, by decide⟩
theorem in_Tp_isLetter : Cond.instanceMethod y_Tp_isLetter ∈ lw_tbl := (List.mem_of_getElem? (i := 629) (by decide +kernel))
theorem sl_Tp_isLetter : Cond.selects y_Tp_isLetter.cls y_Tp_isLetter y_Tp_isLetter ∈ lw_tbl := (List.mem_of_getElem? (i := 2) (by decide +kernel))
noncomputable def qp_Tp_isLetter : JP := (jb_sq (jb_sq (jb_sq (jb_if (jx_run [(4, 0, 0), (42, 9, 0), (2, 1, 0), (52, 0, 0), (0, 0, 97)]) 8 26 11) 11 (jb_sq (jb_if (jx_run [(4, 0, 0), (42, 9, 0), (2, 1, 0), (52, 0, 0), (0, 0, 122)]) 10 26 22) 22 (jb_go (jx_run [(0, 0, 1)]) 27))) 26 (jb_go (jx_run [(0, 0, 0)]) 27)) 27 (jb_rt (jx_run []) 4))
noncomputable def q_Tp_isLetter : JF := jf_of qp_Tp_isLetter 2
set_option maxRecDepth 20000 in
theorem fr_Tp_isLetter (G : JG) : JFr G 9 false c_Tp_isLetter 0 2 (some .boolean) 0 qp_Tp_isLetter := (jfr_sq (jfr_sq (jfr_sq (jfr_if (j := 8) (jsl_run (by decide +kernel)) (by decide +kernel) (by decide)) (jfr_sq (jfr_if (j := 19) (jsl_run (by decide +kernel)) (by decide +kernel) (by decide)) (jfr_go (j := 23) (jsl_run (by decide +kernel)) (by decide +kernel) (by decide)) (by decide)) (by decide)) (jfr_go (j := 27) (jsl_run (by decide +kernel)) (by decide +kernel) (by decide)) (by decide)) (jfr_rt (j := 27) (jsl_run (by decide +kernel)) (by decide +kernel)) (by decide))
theorem se_Tp_isLetter (G : JG) : JSem G y_Tp_isLetter c_Tp_isLetter 2 (some .boolean) 0 q_Tp_isLetter := jsem_of (by decide +kernel) rfl (by intro h; cases h) (fr_Tp_isLetter G)
def y_Tp_isDigit : MethodName := ⟨"CellarTurns$Tape", "isDigit", "(I)Z"⟩
abbrev c_Tp_isDigit : ByteArray := prog_12_method_11_code
theorem mt_Tp_isDigit : JMt y_Tp_isDigit c_Tp_isDigit 2 (some .boolean) 1 := ⟨(List.mem_of_getElem? (i := 645) (by decide +kernel)), (List.mem_of_getElem? (i := 118) (by decide +kernel)), ⟨by decide +kernel, by decide +kernel⟩, by decide +kernel, by decide⟩
theorem in_Tp_isDigit : Cond.instanceMethod y_Tp_isDigit ∈ lw_tbl := (List.mem_of_getElem? (i := 644) (by decide +kernel))
theorem sl_Tp_isDigit : Cond.selects y_Tp_isDigit.cls y_Tp_isDigit y_Tp_isDigit ∈ lw_tbl := (List.mem_of_getElem? (i := 4) (by decide +kernel))
noncomputable def qp_Tp_isDigit : JP := (jb_sq (jb_sq (jb_sq (jb_if (jx_run [(4, 0, 0), (42, 9, 0), (2, 1, 0), (52, 0, 0), (0, 0, 48)]) 8 26 11) 11 (jb_sq (jb_if (jx_run [(4, 0, 0), (42, 9, 0), (2, 1, 0), (52, 0, 0), (0, 0, 57)]) 10 26 22) 22 (jb_go (jx_run [(0, 0, 1)]) 27))) 26 (jb_go (jx_run [(0, 0, 0)]) 27)) 27 (jb_rt (jx_run []) 4))
noncomputable def q_Tp_isDigit : JF := jf_of qp_Tp_isDigit 2
set_option maxRecDepth 20000 in
theorem fr_Tp_isDigit (G : JG) : JFr G 9 false c_Tp_isDigit 0 2 (some .boolean) 0 qp_Tp_isDigit := (jfr_sq (jfr_sq (jfr_sq (jfr_if (j := 8) (jsl_run (by decide +kernel)) (by decide +kernel) (by decide)) (jfr_sq (jfr_if (j := 19) (jsl_run (by decide +kernel)) (by decide +kernel) (by decide)) (jfr_go (j := 23) (jsl_run (by decide +kernel)) (by decide +kernel) (by decide)) (by decide)) (by decide)) (jfr_go (j := 27) (jsl_run (by decide +kernel)) (by decide +kernel) (by decide)) (by decide)) (jfr_rt (j := 27) (jsl_run (by decide +kernel)) (by decide +kernel)) (by decide))
theorem se_Tp_isDigit (G : JG) : JSem G y_Tp_isDigit c_Tp_isDigit 2 (some .boolean) 0 q_Tp_isDigit := jsem_of (by decide +kernel) rfl (by intro h; cases h) (fr_Tp_isDigit G)
def y_Tp_takeNumber : MethodName := ⟨"CellarTurns$Tape", "takeNumber", "()V"⟩
abbrev c_Tp_takeNumber : ByteArray := prog_12_method_13_code
theorem mt_Tp_takeNumber : JMt y_Tp_takeNumber c_Tp_takeNumber 2 none 0 := ⟨(List.mem_of_getElem? (i := 649) (by decide +kernel)), (List.mem_of_getElem? (i := 118) (by decide +kernel)), ⟨by decide +kernel, by decide +kernel⟩, by decide +kernel, by decide⟩
theorem in_Tp_takeNumber : Cond.instanceMethod y_Tp_takeNumber ∈ lw_tbl := (List.mem_of_getElem? (i := 648) (by decide +kernel))
theorem sl_Tp_takeNumber : Cond.selects y_Tp_takeNumber.cls y_Tp_takeNumber y_Tp_takeNumber ∈ lw_tbl := (List.mem_of_getElem? (i := 5) (by decide +kernel))
noncomputable def qp_Tp_takeNumber : JP := (jb_sq (jb_go (jx_run [(0, 0, 0), (5, 1, 0)]) 2) 2 (jb_sq (jb_lp 2 (jb_sq (jb_if (jx_run [(4, 0, 0), (40, 9, 2), (4, 0, 0), (40, 9, 1)]) 9 55 13) 13 (jb_sq (jb_if (jn (jx_run [(4, 0, 0), (4, 0, 0), (40, 9, 2)]) (jx_cv 2 9 q_Tp_isDigit)) 0 55 24) 24 (jb_go (jx_run [(2, 1, 0), (0, 0, 10), (12, 0, 0), (4, 0, 0), (42, 9, 0), (4, 0, 0), (40, 9, 2), (52, 0, 0), (0, 0, 48), (11, 0, 0), (10, 0, 0), (5, 1, 0), (4, 0, 0), (70, 0, 0), (40, 9, 2), (0, 0, 1), (10, 0, 0), (43, 9, 2)]) 2)))) 55 (jb_sq (jb_sq (jb_if (jx_run [(4, 0, 0), (40, 9, 2), (4, 0, 0), (40, 9, 3), (11, 0, 0), (0, 0, 4)]) 10 73 68) 68 (jb_go (jx_run [(4, 0, 0), (2, 1, 0), (43, 9, 6)]) 73)) 73 (jb_rt (jx_run []) 0))))
noncomputable def q_Tp_takeNumber : JF := jf_of qp_Tp_takeNumber 2
set_option maxRecDepth 20000 in
theorem fr_Tp_takeNumber (G : JG) : JFr G 9 false c_Tp_takeNumber 1 2 none 0 qp_Tp_takeNumber := (jfr_sq (jfr_go (j := 2) (jsl_run (by decide +kernel)) (by decide +kernel) (by decide)) (jfr_sq (jfr_lp (jfr_sq (jfr_if (j := 10) (jsl_run (by decide +kernel)) (by decide +kernel) (by decide)) (jfr_sq (jfr_if (j := 21) (jsl_n (j := 18) (jsl_run (by decide +kernel)) (jsl_cv (ix := 65) mt_Tp_isDigit in_Tp_isDigit sl_Tp_isDigit rfl (by decide) (se_Tp_isDigit _) (by decide) (List.mem_of_getElem? (i := 642) (by decide +kernel)) (by decide +kernel))) (by decide +kernel) (by decide)) (jfr_go (j := 52) (jsl_run (by decide +kernel)) (by decide +kernel) (by decide)) (by decide)) (by decide)) (by decide)) (jfr_sq (jfr_sq (jfr_if (j := 65) (jsl_run (by decide +kernel)) (by decide +kernel) (by decide)) (jfr_go (j := 73) (jsl_run (by decide +kernel)) (by decide +kernel) (by decide)) (by decide)) (jfr_rt (j := 73) (jsl_run (by decide +kernel)) (by decide +kernel)) (by decide)) (by decide)) (by decide))
theorem se_Tp_takeNumber (G : JG) : JSem G y_Tp_takeNumber c_Tp_takeNumber 2 none 1 q_Tp_takeNumber := jsem_of (by decide +kernel) rfl (by intro h; cases h) (fr_Tp_takeNumber G)
def y_Tp_atEnd : MethodName := ⟨"CellarTurns$Tape", "atEnd", "()Z"⟩
abbrev c_Tp_atEnd : ByteArray := prog_12_method_7_code
theorem mt_Tp_atEnd : JMt y_Tp_atEnd c_Tp_atEnd 1 (some .boolean) 0 := ⟨(List.mem_of_getElem? (i := 742) (by decide +kernel)), (List.mem_of_getElem? (i := 118) (by decide +kernel)), ⟨by decide +kernel, by decide +kernel⟩, by decide +kernel, by decide⟩
theorem in_Tp_atEnd : Cond.instanceMethod y_Tp_atEnd ∈ lw_tbl := (List.mem_of_getElem? (i := 740) (by decide +kernel))
theorem sl_Tp_atEnd : Cond.selects y_Tp_atEnd.cls y_Tp_atEnd y_Tp_atEnd ∈ lw_tbl := (List.mem_of_getElem? (i := 741) (by decide +kernel))
noncomputable def qp_Tp_atEnd : JP := (jb_sq (jb_sq (jb_sq (jb_if (jx_run [(4, 0, 0), (40, 9, 3), (4, 0, 0), (40, 9, 1)]) 8 15 11) 11 (jb_go (jx_run [(0, 0, 1)]) 16)) 15 (jb_go (jx_run [(0, 0, 0)]) 16)) 16 (jb_rt (jx_run []) 4))
noncomputable def q_Tp_atEnd : JF := jf_of qp_Tp_atEnd 1
set_option maxRecDepth 20000 in
theorem fr_Tp_atEnd (G : JG) : JFr G 9 false c_Tp_atEnd 0 1 (some .boolean) 0 qp_Tp_atEnd := (jfr_sq (jfr_sq (jfr_sq (jfr_if (j := 8) (jsl_run (by decide +kernel)) (by decide +kernel) (by decide)) (jfr_go (j := 12) (jsl_run (by decide +kernel)) (by decide +kernel) (by decide)) (by decide)) (jfr_go (j := 16) (jsl_run (by decide +kernel)) (by decide +kernel) (by decide)) (by decide)) (jfr_rt (j := 16) (jsl_run (by decide +kernel)) (by decide +kernel)) (by decide))
theorem se_Tp_atEnd (G : JG) : JSem G y_Tp_atEnd c_Tp_atEnd 1 (some .boolean) 0 q_Tp_atEnd := jsem_of (by decide +kernel) rfl (by intro h; cases h) (fr_Tp_atEnd G)
def y_Tp_faulty : MethodName := ⟨"CellarTurns$Tape", "faulty", "(I)Z"⟩
abbrev c_Tp_faulty : ByteArray := prog_12_method_5_code
theorem mt_Tp_faulty : JMt y_Tp_faulty c_Tp_faulty 2 (some .boolean) 1 := ⟨(List.mem_of_getElem? (i := 764) (by decide +kernel)), (List.mem_of_getElem? (i := 118) (by decide +kernel)), ⟨by decide +kernel, by decide +kernel⟩, by decide +kernel, by decide⟩
theorem in_Tp_faulty : Cond.instanceMethod y_Tp_faulty ∈ lw_tbl := (List.mem_of_getElem? (i := 762) (by decide +kernel))
theorem sl_Tp_faulty : Cond.selects y_Tp_faulty.cls y_Tp_faulty y_Tp_faulty ∈ lw_tbl := (List.mem_of_getElem? (i := 763) (by decide +kernel))
noncomputable def qp_Tp_faulty : JP := (jb_rt (jx_run [(4, 0, 0), (2, 1, 0), (0, 0, 16), (4, 0, 0), (40, 9, 3), (12, 0, 0), (10, 0, 0), (43, 9, 8), (0, 0, 0)]) 4)
noncomputable def q_Tp_faulty : JF := jf_of qp_Tp_faulty 2
set_option maxRecDepth 20000 in
theorem fr_Tp_faulty (G : JG) : JFr G 9 false c_Tp_faulty 0 2 (some .boolean) 0 qp_Tp_faulty := (jfr_rt (j := 14) (jsl_run (by decide +kernel)) (by decide +kernel))
theorem se_Tp_faulty (G : JG) : JSem G y_Tp_faulty c_Tp_faulty 2 (some .boolean) 0 q_Tp_faulty := jsem_of (by decide +kernel) rfl (by intro h; cases h) (fr_Tp_faulty G)
def y_Ho_named : MethodName := ⟨"CellarTurns$House", "named", "(J)I"⟩
abbrev c_Ho_named : ByteArray := prog_3_method_8_code
theorem mt_Ho_named : JMt y_Ho_named c_Ho_named 4 (some .int) 1 := ⟨(List.mem_of_getElem? (i := 777) (by decide +kernel)), (List.mem_of_getElem? (i := 123) (by decide +kernel)), ⟨by decide +kernel, by decide +kernel⟩, by decide +kernel, by decide⟩
theorem in_Ho_named : Cond.instanceMethod y_Ho_named ∈ lw_tbl := (List.mem_of_getElem? (i := 775) (by decide +kernel))
theorem sl_Ho_named : Cond.selects y_Ho_named.cls y_Ho_named y_Ho_named ∈ lw_tbl := (List.mem_of_getElem? (i := 776) (by decide +kernel))
noncomputable def qp_Ho_named : JP := (jb_sq (jb_go (jx_run [(0, 0, 0), (5, 3, 0)]) 2) 2 (jb_sq (jb_lp 2 (jb_sq (jb_if (jx_run [(2, 3, 0), (4, 0, 0), (40, 0, 8)]) 9 29 10) 10 (jb_sq (jb_sq (jb_if (jx_run [(4, 0, 0), (42, 0, 0), (2, 3, 0), (51, 0, 0), (3, 1, 0), (33, 0, 0)]) 1 23 21) 21 (jb_rt (jx_run [(2, 3, 0)]) 1)) 23 (jb_go (jx_run [(8, 3, 1)]) 2)))) 29 (jb_rt (jx_run [(0, 0, -1)]) 1)))
noncomputable def q_Ho_named : JF := jf_of qp_Ho_named 4
set_option maxRecDepth 20000 in
theorem fr_Ho_named (G : JG) : JFr G 0 false c_Ho_named 0 4 (some .int) 0 qp_Ho_named := (jfr_sq (jfr_go (j := 2) (jsl_run (by decide +kernel)) (by decide +kernel) (by decide)) (jfr_sq (jfr_lp (jfr_sq (jfr_if (j := 7) (jsl_run (by decide +kernel)) (by decide +kernel) (by decide)) (jfr_sq (jfr_sq (jfr_if (j := 18) (jsl_run (by decide +kernel)) (by decide +kernel) (by decide)) (jfr_rt (j := 22) (jsl_run (by decide +kernel)) (by decide +kernel)) (by decide)) (jfr_go (j := 26) (jsl_run (by decide +kernel)) (by decide +kernel) (by decide)) (by decide)) (by decide)) (by decide)) (jfr_rt (j := 30) (jsl_run (by decide +kernel)) (by decide +kernel)) (by decide)) (by decide))
theorem se_Ho_named (G : JG) : JSem G y_Ho_named c_Ho_named 4 (some .int) 0 q_Ho_named := jsem_of (by decide +kernel) rfl (by intro h; cases h) (fr_Ho_named G)
def y_Ho_addBody : MethodName := ⟨"CellarTurns$House", "addBody", "(JII)V"⟩
abbrev c_Ho_addBody : ByteArray := prog_3_method_9_code
theorem mt_Ho_addBody : JMt y_Ho_addBody c_Ho_addBody 5 none 3 := ⟨(List.mem_of_getElem? (i := 784) (by decide +kernel)), (List.mem_of_getElem? (i := 123) (by decide +kernel)), ⟨by decide +kernel, by decide +kernel⟩, by decide +kernel, by decide⟩
theorem in_Ho_addBody : Cond.instanceMethod y_Ho_addBody ∈ lw_tbl := (List.mem_of_getElem? (i := 782) (by decide +kernel))
theorem sl_Ho_addBody : Cond.selects y_Ho_addBody.cls y_Ho_addBody y_Ho_addBody ∈ lw_tbl := (List.mem_of_getElem? (i := 783) (by decide +kernel))
noncomputable def qp_Ho_addBody : JP := (jb_sq (jb_sq (jb_if (jx_run [(4, 0, 0), (40, 0, 8), (0, 0, 8)]) 9 74 9) 9 (jb_sq (jb_sq (jb_sq (jb_if (jx_run [(4, 0, 0), (42, 0, 0), (4, 0, 0), (40, 0, 8), (3, 1, 0), (56, 0, 0), (4, 0, 0), (42, 0, 1), (4, 0, 0), (40, 0, 8), (2, 3, 0), (55, 0, 0), (4, 0, 0), (42, 0, 2), (4, 0, 0), (40, 0, 8), (2, 4, 0), (55, 0, 0), (4, 0, 0), (70, 0, 0), (40, 0, 10), (2, 3, 0), (0, 0, 3)]) 7 59 50) 50 (jb_go (jx_run [(0, 0, 1), (4, 0, 0), (40, 0, 8), (19, 0, 0)]) 60)) 59 (jb_go (jx_run [(0, 0, 0)]) 60)) 60 (jb_go (jx_run [(17, 0, 0), (43, 0, 10), (4, 0, 0), (70, 0, 0), (40, 0, 8), (0, 0, 1), (10, 0, 0), (43, 0, 8)]) 74))) 74 (jb_rt (jx_run []) 0))
noncomputable def q_Ho_addBody : JF := jf_of qp_Ho_addBody 5
set_option maxRecDepth 20000 in
theorem fr_Ho_addBody (G : JG) : JFr G 0 false c_Ho_addBody 0 5 none 0 qp_Ho_addBody := (jfr_sq (jfr_sq (jfr_if (j := 6) (jsl_run (by decide +kernel)) (by decide +kernel) (by decide)) (jfr_sq (jfr_sq (jfr_sq (jfr_if (j := 47) (jsl_run (by decide +kernel)) (by decide +kernel) (by decide)) (jfr_go (j := 56) (jsl_run (by decide +kernel)) (by decide +kernel) (by decide)) (by decide)) (jfr_go (j := 60) (jsl_run (by decide +kernel)) (by decide +kernel) (by decide)) (by decide)) (jfr_go (j := 74) (jsl_run (by decide +kernel)) (by decide +kernel) (by decide)) (by decide)) (by decide)) (jfr_rt (j := 74) (jsl_run (by decide +kernel)) (by decide +kernel)) (by decide))
theorem se_Ho_addBody (G : JG) : JSem G y_Ho_addBody c_Ho_addBody 5 none 0 q_Ho_addBody := jsem_of (by decide +kernel) rfl (by intro h; cases h) (fr_Ho_addBody G)
def y_Re_atNumber : MethodName := ⟨"CellarTurns$Reader", "atNumber", "(II)Z"⟩
abbrev c_Re_atNumber : ByteArray := prog_8_method_15_code
theorem mt_Re_atNumber : JMt y_Re_atNumber c_Re_atNumber 3 (some .boolean) 2 := ⟨(List.mem_of_getElem? (i := 799) (by decide +kernel)), (List.mem_of_getElem? (i := 121) (by decide +kernel)), ⟨by decide +kernel, by decide +kernel⟩, by decide +kernel, by decide⟩
theorem in_Re_atNumber : Cond.instanceMethod y_Re_atNumber ∈ lw_tbl := (List.mem_of_getElem? (i := 798) (by decide +kernel))
theorem sl_Re_atNumber : Cond.selects y_Re_atNumber.cls y_Re_atNumber y_Re_atNumber ∈ lw_tbl := (List.mem_of_getElem? (i := 11) (by decide +kernel))
noncomputable def qp_Re_atNumber : JP := (jb_sq (jb_sq (jb_if (jx_run [(4, 0, 0), (42, 5, 0), (40, 9, 6), (0, 0, -1)]) 7 20 11) 11 (jb_rt (jn (jx_run [(4, 0, 0), (42, 5, 0), (0, 0, 1)]) (jx_cv 2 9 q_Tp_faulty)) 4)) 20 (jb_sq (jb_sq (jb_sq (jb_sq (jb_if (jx_run [(4, 0, 0), (42, 5, 0), (40, 9, 6), (2, 1, 0)]) 8 42 31) 31 (jb_if (jx_run [(4, 0, 0), (42, 5, 0), (40, 9, 6), (2, 2, 0)]) 11 53 42)) 42 (jb_sq (jb_if (jn (jx_run [(4, 0, 0), (42, 5, 0), (0, 0, 4)]) (jx_cv 2 9 q_Tp_faulty)) 0 57 53) 57 (jb_go (jx_run [(0, 0, 0)]) 58))) 53 (jb_go (jx_run [(0, 0, 1)]) 58)) 58 (jb_rt (jx_run []) 4)))
noncomputable def q_Re_atNumber : JF := jf_of qp_Re_atNumber 3
set_option maxRecDepth 20000 in
theorem fr_Re_atNumber (G : JG) : JFr G 5 false c_Re_atNumber 1 3 (some .boolean) 0 qp_Re_atNumber := (jfr_sq (jfr_sq (jfr_if (j := 8) (jsl_run (by decide +kernel)) (by decide +kernel) (by decide)) (jfr_rt (j := 19) (jsl_n (j := 16) (jsl_run (by decide +kernel)) (jsl_cv (ix := 96) mt_Tp_faulty in_Tp_faulty sl_Tp_faulty rfl (by decide) (se_Tp_faulty _) (by decide) (List.mem_of_getElem? (i := 761) (by decide +kernel)) (by decide +kernel))) (by decide +kernel)) (by decide)) (jfr_sq (jfr_sq (jfr_sq (jfr_sq (jfr_if (j := 28) (jsl_run (by decide +kernel)) (by decide +kernel) (by decide)) (jfr_if (j := 39) (jsl_run (by decide +kernel)) (by decide +kernel) (by decide)) (by decide)) (jfr_sq (jfr_if (j := 50) (jsl_n (j := 47) (jsl_run (by decide +kernel)) (jsl_cv (ix := 96) mt_Tp_faulty in_Tp_faulty sl_Tp_faulty rfl (by decide) (se_Tp_faulty _) (by decide) (List.mem_of_getElem? (i := 761) (by decide +kernel)) (by decide +kernel))) (by decide +kernel) (by decide)) (jfr_go (j := 58) (jsl_run (by decide +kernel)) (by decide +kernel) (by decide)) (by decide)) (by decide)) (jfr_go (j := 54) (jsl_run (by decide +kernel)) (by decide +kernel) (by decide)) (by decide)) (jfr_rt (j := 58) (jsl_run (by decide +kernel)) (by decide +kernel)) (by decide)) (by decide))
theorem se_Re_atNumber (G : JG) : JSem G y_Re_atNumber c_Re_atNumber 3 (some .boolean) 1 q_Re_atNumber := jsem_of (by decide +kernel) rfl (by intro h; cases h) (fr_Re_atNumber G)
def y_Ho_addNew : MethodName := ⟨"CellarTurns$House", "addNew", "(JI)V"⟩
abbrev c_Ho_addNew : ByteArray := prog_3_method_10_code
theorem mt_Ho_addNew : JMt y_Ho_addNew c_Ho_addNew 4 none 2 := ⟨(List.mem_of_getElem? (i := 803) (by decide +kernel)), (List.mem_of_getElem? (i := 123) (by decide +kernel)), ⟨by decide +kernel, by decide +kernel⟩, by decide +kernel, by decide⟩
theorem in_Ho_addNew : Cond.instanceMethod y_Ho_addNew ∈ lw_tbl := (List.mem_of_getElem? (i := 801) (by decide +kernel))
theorem sl_Ho_addNew : Cond.selects y_Ho_addNew.cls y_Ho_addNew y_Ho_addNew ∈ lw_tbl := (List.mem_of_getElem? (i := 802) (by decide +kernel))
noncomputable def qp_Ho_addNew : JP := (jb_rt (jn (jx_run [(4, 0, 0), (70, 0, 0), (40, 0, 9), (0, 0, 1), (4, 0, 0), (40, 0, 8), (19, 0, 0), (17, 0, 0), (43, 0, 9), (4, 0, 0), (3, 1, 0), (0, 0, 0), (2, 3, 0)]) (jx_cv 4 0 q_Ho_addBody)) 0)
noncomputable def q_Ho_addNew : JF := jf_of qp_Ho_addNew 4
set_option maxRecDepth 20000 in
theorem fr_Ho_addNew (G : JG) : JFr G 0 false c_Ho_addNew 1 4 none 0 qp_Ho_addNew := (jfr_rt (j := 22) (jsl_n (j := 19) (jsl_run (by decide +kernel)) (jsl_cv (ix := 89) mt_Ho_addBody in_Ho_addBody sl_Ho_addBody rfl (by decide) (se_Ho_addBody _) (by decide) (List.mem_of_getElem? (i := 804) (by decide +kernel)) (by decide +kernel))) (by decide +kernel))
theorem se_Ho_addNew (G : JG) : JSem G y_Ho_addNew c_Ho_addNew 4 none 1 q_Ho_addNew := jsem_of (by decide +kernel) rfl (by intro h; cases h) (fr_Ho_addNew G)
def y_Tp_finish : MethodName := ⟨"CellarTurns$Tape", "finish", "()I"⟩
abbrev c_Tp_finish : ByteArray := prog_12_method_4_code
theorem mt_Tp_finish : JMt y_Tp_finish c_Tp_finish 1 (some .int) 0 := ⟨(List.mem_of_getElem? (i := 866) (by decide +kernel)), (List.mem_of_getElem? (i := 118) (by decide +kernel)), ⟨by decide +kernel, by decide +kernel⟩, by decide +kernel, by decide⟩
theorem in_Tp_finish : Cond.instanceMethod y_Tp_finish ∈ lw_tbl := (List.mem_of_getElem? (i := 864) (by decide +kernel))
theorem sl_Tp_finish : Cond.selects y_Tp_finish.cls y_Tp_finish y_Tp_finish ∈ lw_tbl := (List.mem_of_getElem? (i := 865) (by decide +kernel))
noncomputable def qp_Tp_finish : JP := (jb_rt (jx_run [(4, 0, 0), (0, 0, 0), (43, 9, 1), (4, 0, 0), (40, 9, 8)]) 1)
noncomputable def q_Tp_finish : JF := jf_of qp_Tp_finish 1
set_option maxRecDepth 20000 in
theorem fr_Tp_finish (G : JG) : JFr G 9 false c_Tp_finish 0 1 (some .int) 0 qp_Tp_finish := (jfr_rt (j := 9) (jsl_run (by decide +kernel)) (by decide +kernel))
theorem se_Tp_finish (G : JG) : JSem G y_Tp_finish c_Tp_finish 1 (some .int) 0 q_Tp_finish := jsem_of (by decide +kernel) rfl (by intro h; cases h) (fr_Tp_finish G)
def y_Pl_clear : MethodName := ⟨"CellarTurns$Plan", "clear", "()V"⟩
abbrev c_Pl_clear : ByteArray := prog_7_method_2_code
theorem mt_Pl_clear : JMt y_Pl_clear c_Pl_clear 1 none 0 := ⟨(List.mem_of_getElem? (i := 871) (by decide +kernel)), (List.mem_of_getElem? (i := 126) (by decide +kernel)), ⟨by decide +kernel, by decide +kernel⟩, by decide +kernel, by decide⟩
theorem in_Pl_clear : Cond.instanceMethod y_Pl_clear ∈ lw_tbl := (List.mem_of_getElem? (i := 869) (by decide +kernel))
theorem sl_Pl_clear : Cond.selects y_Pl_clear.cls y_Pl_clear y_Pl_clear ∈ lw_tbl := (List.mem_of_getElem? (i := 870) (by decide +kernel))
noncomputable def qp_Pl_clear : JP := (jb_rt (jx_run [(4, 0, 0), (0, 0, 0), (43, 4, 2)]) 0)
noncomputable def q_Pl_clear : JF := jf_of qp_Pl_clear 1
set_option maxRecDepth 20000 in
theorem fr_Pl_clear (G : JG) : JFr G 4 false c_Pl_clear 0 1 none 0 qp_Pl_clear := (jfr_rt (j := 5) (jsl_run (by decide +kernel)) (by decide +kernel))
theorem se_Pl_clear (G : JG) : JSem G y_Pl_clear c_Pl_clear 1 none 0 q_Pl_clear := jsem_of (by decide +kernel) rfl (by intro h; cases h) (fr_Pl_clear G)
def y_Mu_pairsWithinRings : MethodName := ⟨"CellarTurns$Muddle", "pairsWithinRings", "()J"⟩
abbrev c_Mu_pairsWithinRings : ByteArray := prog_6_method_27_code
theorem mt_Mu_pairsWithinRings : JMt y_Mu_pairsWithinRings c_Mu_pairsWithinRings 6 (some .long) 0 := ⟨(List.mem_of_getElem? (i := 1195) (by decide +kernel)), (List.mem_of_getElem? (i := 129) (by decide +kernel)), ⟨by decide +kernel, by decide +kernel⟩, by decide +kernel, by decide⟩
theorem in_Mu_pairsWithinRings : Cond.instanceMethod y_Mu_pairsWithinRings ∈ lw_tbl := (List.mem_of_getElem? (i := 1194) (by decide +kernel))
theorem sl_Mu_pairsWithinRings : Cond.selects y_Mu_pairsWithinRings.cls y_Mu_pairsWithinRings y_Mu_pairsWithinRings ∈ lw_tbl := (List.mem_of_getElem? (i := 35) (by decide +kernel))
noncomputable def qp_Mu_pairsWithinRings : JP := (jb_sq (jb_go (jx_run [(1, 0, 0), (6, 1, 0), (0, 0, 0), (5, 3, 0)]) 4) 4 (jb_sq (jb_lp 4 (jb_sq (jb_if (jx_run [(2, 3, 0), (4, 0, 0), (42, 3, 3), (40, 0, 8)]) 9 39 15) 15 (jb_go (jn (jx_run [(4, 0, 0), (2, 3, 0)]) (jn (jx_cv 2 3 q_Mu_ringOf) (jx_run [(34, 0, 0), (6, 4, 0), (3, 1, 0), (3, 4, 0), (0, 0, 8), (2, 3, 0), (12, 0, 0), (30, 0, 0), (28, 0, 0), (6, 1, 0), (8, 3, 1)]))) 4))) 39 (jb_rt (jx_run [(3, 1, 0)]) 2)))
noncomputable def q_Mu_pairsWithinRings : JF := jf_of qp_Mu_pairsWithinRings 6
set_option maxRecDepth 20000 in
theorem fr_Mu_pairsWithinRings (G : JG) : JFr G 3 false c_Mu_pairsWithinRings 1 6 (some .long) 0 qp_Mu_pairsWithinRings := (jfr_sq (jfr_go (j := 4) (jsl_run (by decide +kernel)) (by decide +kernel) (by decide)) (jfr_sq (jfr_lp (jfr_sq (jfr_if (j := 12) (jsl_run (by decide +kernel)) (by decide +kernel) (by decide)) (jfr_go (j := 36) (jsl_n (j := 17) (jsl_run (by decide +kernel)) (jsl_n (j := 20) (jsl_cv (ix := 146) mt_Mu_ringOf in_Mu_ringOf sl_Mu_ringOf rfl (by decide) (se_Mu_ringOf _) (by decide) (List.mem_of_getElem? (i := 1113) (by decide +kernel)) (by decide +kernel)) (jsl_run (by decide +kernel)))) (by decide +kernel) (by decide)) (by decide)) (by decide)) (jfr_rt (j := 40) (jsl_run (by decide +kernel)) (by decide +kernel)) (by decide)) (by decide))
theorem se_Mu_pairsWithinRings (G : JG) : JSem G y_Mu_pairsWithinRings c_Mu_pairsWithinRings 6 (some .long) 1 q_Mu_pairsWithinRings := jsem_of (by decide +kernel) rfl (by intro h; cases h) (fr_Mu_pairsWithinRings G)
def y_Mu_hopefulPairs : MethodName := ⟨"CellarTurns$Muddle", "hopefulPairs", "(I)J"⟩
abbrev c_Mu_hopefulPairs : ByteArray := prog_6_method_26_code
theorem mt_Mu_hopefulPairs : JMt y_Mu_hopefulPairs c_Mu_hopefulPairs 3 (some .long) 1 := ⟨(List.mem_of_getElem? (i := 1190) (by decide +kernel)), (List.mem_of_getElem? (i := 129) (by decide +kernel)), ⟨by decide +kernel, by decide +kernel⟩, by decide +kernel, by decide⟩
theorem in_Mu_hopefulPairs : Cond.instanceMethod y_Mu_hopefulPairs ∈ lw_tbl := (List.mem_of_getElem? (i := 1188) (by decide +kernel))
theorem sl_Mu_hopefulPairs : Cond.selects y_Mu_hopefulPairs.cls y_Mu_hopefulPairs y_Mu_hopefulPairs ∈ lw_tbl := (List.mem_of_getElem? (i := 1189) (by decide +kernel))
noncomputable def qp_Mu_hopefulPairs : JP := (jb_sq (jb_sq (jb_if (jn (jx_run [(2, 1, 0), (4, 0, 0)]) (jn (jx_cv 1 3 q_Mu_turnsNeeded) (jx_run [(11, 0, 0), (5, 2, 0), (2, 2, 0)]))) 2 18 11) 11 (jb_sq (jb_if (jn (jx_run [(4, 0, 0)]) (jx_cv 1 3 q_Mu_stuck)) 0 20 18) 20 (jb_sq (jb_sq (jb_sq (jb_if (jx_run [(2, 2, 0)]) 1 36 24) 24 (jb_go (jn (jx_run [(4, 0, 0)]) (jn (jx_cv 1 3 q_Mu_openPairs) (jn (jx_run [(4, 0, 0)]) (jn (jx_cv 1 3 q_Mu_pairsWithinRings) (jx_run [(27, 0, 0)]))))) 40)) 36 (jb_go (jn (jx_run [(4, 0, 0)]) (jx_cv 1 3 q_Mu_openPairs)) 40)) 40 (jb_rt (jx_run []) 2)))) 18 (jb_rt (jx_run [(1, 0, 0)]) 2))
noncomputable def q_Mu_hopefulPairs : JF := jf_of qp_Mu_hopefulPairs 3
set_option maxRecDepth 20000 in
theorem fr_Mu_hopefulPairs (G : JG) : JFr G 3 false c_Mu_hopefulPairs 2 3 (some .long) 0 qp_Mu_hopefulPairs := (jfr_sq (jfr_sq (jfr_if (j := 8) (jsl_n (j := 2) (jsl_run (by decide +kernel)) (jsl_n (j := 5) (jsl_cv (ix := 155) mt_Mu_turnsNeeded in_Mu_turnsNeeded sl_Mu_turnsNeeded rfl (by decide) (se_Mu_turnsNeeded _) (by decide) (List.mem_of_getElem? (i := 1109) (by decide +kernel)) (by decide +kernel)) (jsl_run (by decide +kernel)))) (by decide +kernel) (by decide)) (jfr_sq (jfr_if (j := 15) (jsl_n (j := 12) (jsl_run (by decide +kernel)) (jsl_cv (ix := 158) mt_Mu_stuck in_Mu_stuck sl_Mu_stuck rfl (by decide) (se_Mu_stuck _) (by decide) (List.mem_of_getElem? (i := 1104) (by decide +kernel)) (by decide +kernel))) (by decide +kernel) (by decide)) (jfr_sq (jfr_sq (jfr_sq (jfr_if (j := 21) (jsl_run (by decide +kernel)) (by decide +kernel) (by decide)) (jfr_go (j := 33) (jsl_n (j := 25) (jsl_run (by decide +kernel)) (jsl_n (j := 28) (jsl_cv (ix := 161) mt_Mu_openPairs in_Mu_openPairs sl_Mu_openPairs rfl (by decide) (se_Mu_openPairs _) (by decide) (List.mem_of_getElem? (i := 1191) (by decide +kernel)) (by decide +kernel)) (jsl_n (j := 29) (jsl_run (by decide +kernel)) (jsl_n (j := 32) (jsl_cv (ix := 165) mt_Mu_pairsWithinRings in_Mu_pairsWithinRings sl_Mu_pairsWithinRings rfl (by decide) (se_Mu_pairsWithinRings _) (by decide) (List.mem_of_getElem? (i := 1192) (by decide +kernel)) (by decide +kernel)) (jsl_run (by decide +kernel)))))) (by decide +kernel) (by decide)) (by decide)) (jfr_go (j := 40) (jsl_n (j := 37) (jsl_run (by decide +kernel)) (jsl_cv (ix := 161) mt_Mu_openPairs in_Mu_openPairs sl_Mu_openPairs rfl (by decide) (se_Mu_openPairs _) (by decide) (List.mem_of_getElem? (i := 1191) (by decide +kernel)) (by decide +kernel))) (by decide +kernel) (by decide)) (by decide)) (jfr_rt (j := 40) (jsl_run (by decide +kernel)) (by decide +kernel)) (by decide)) (by decide)) (by decide)) (jfr_rt (j := 19) (jsl_run (by decide +kernel)) (by decide +kernel)) (by decide))
theorem se_Mu_hopefulPairs (G : JG) : JSem G y_Mu_hopefulPairs c_Mu_hopefulPairs 3 (some .long) 2 q_Mu_hopefulPairs := jsem_of (by decide +kernel) rfl (by intro h; cases h) (fr_Mu_hopefulPairs G)
def y_Ta_shareAtHome : MethodName := ⟨"CellarTurns$Tally", "shareAtHome", "(II)I"⟩
abbrev c_Ta_shareAtHome : ByteArray := prog_11_method_9_code
theorem mt_Ta_shareAtHome : JMt y_Ta_shareAtHome c_Ta_shareAtHome 11 (some .int) 2 := ⟨(List.mem_of_getElem? (i := 1255) (by decide +kernel)), (List.mem_of_getElem? (i := 132) (by decide +kernel)), ⟨by decide +kernel, by decide +kernel⟩, by decide +kernel, by decide⟩
theorem in_Ta_shareAtHome : Cond.instanceMethod y_Ta_shareAtHome ∈ lw_tbl := (List.mem_of_getElem? (i := 1254) (by decide +kernel))
theorem sl_Ta_shareAtHome : Cond.selects y_Ta_shareAtHome.cls y_Ta_shareAtHome y_Ta_shareAtHome ∈ lw_tbl := (List.mem_of_getElem? (i := 41) (by decide +kernel))
noncomputable def qp_Ta_shareAtHome (Ψ : Nat → JF) : JP := (jb_sq (jb_sq (jb_sq (jb_if (jx_run [(2, 2, 0)]) 4 8 4) 4 (jb_go (jx_run [(0, 0, 0)]) 18)) 8 (jb_go (jn (jx_run [(4, 0, 0), (42, 8, 0)]) (jn (jx_cv 1 3 q_Mu_openPairs) (jx_cs 1 q_Lo_bitCount))) 18)) 18 (jb_sq (jb_sq (jb_if (jx_run [(5, 3, 0), (2, 3, 0)]) 1 39 23) 23 (jb_sq (jb_sq (jb_sq (jb_if (jx_run [(4, 0, 0), (42, 8, 0), (40, 3, 6)]) 1 37 33) 33 (jb_go (jx_run [(2, 1, 0)]) 38)) 37 (jb_go (jx_run [(0, 0, 0)]) 38)) 38 (jb_rt (jx_run []) 1))) 39 (jb_sq (jb_go (jn (jx_run [(2, 1, 0), (2, 3, 0), (13, 0, 0), (5, 4, 0), (0, 0, 0), (5, 5, 0), (4, 0, 0), (42, 8, 0), (2, 2, 0)]) (jn (jx_cv 2 3 q_Mu_hopefulPairs) (jn (jx_run [(6, 6, 0), (3, 6, 0)]) (jn (jx_cs 1 q_Lo_bitCount) (jx_run [(5, 8, 0)]))))) 64) 64 (jb_sq (jb_lp 64 (jb_sq (jb_if (jx_run [(2, 8, 0)]) 5 140 69) 69 (jb_go (jn (jx_run [(3, 6, 0)]) (jn (jx_cs 1 q_Lo_numberOfTrailingZeros) (jn (jx_cs 1 q_Ct_lesserOf) (jn (jx_run [(5, 9, 0), (3, 6, 0)]) (jn (jx_cs 1 q_Lo_numberOfTrailingZeros) (jn (jx_cs 1 q_Ct_greaterOf) (jn (jx_run [(5, 10, 0), (3, 6, 0), (3, 6, 0), (1, 0, 1), (23, 0, 0), (27, 0, 0), (6, 6, 0), (4, 0, 0), (42, 8, 0), (2, 9, 0), (2, 10, 0)]) (jn (jx_cv 3 3 q_Mu_change) (jn (jx_run [(2, 5, 0), (4, 0, 0), (2, 4, 0), (2, 2, 0), (0, 0, 1), (11, 0, 0)]) (jn (jx_cv 3 8 (Ψ 0)) (jn (jx_run [(10, 0, 0), (5, 5, 0), (4, 0, 0), (42, 8, 0), (2, 9, 0), (2, 10, 0)]) (jn (jx_cv 3 3 q_Mu_changeBack) (jx_run [(8, 8, -1)]))))))))))))) 64))) 140 (jb_rt (jx_run [(2, 5, 0)]) 1)))))
noncomputable def g_Ta_shareAtHome : Nat → Nat → JF
  | 0 => fun _ _ _ => none
  | n + 1 => fun w => match w with
    | 0 => jf_of (qp_Ta_shareAtHome (g_Ta_shareAtHome n)) 11
    | _ => fun _ _ => none
set_option maxRecDepth 20000 in
theorem fr_Ta_shareAtHome (G : JG) (Ψ : Nat → JF) (d : Nat) (hd : 3 ≤ d + 1) (hΨ0 : JSem G y_Ta_shareAtHome c_Ta_shareAtHome 11 (some .int) d (Ψ 0)) : JFr G 8 false c_Ta_shareAtHome (d + 1) 11 (some .int) 0 (qp_Ta_shareAtHome Ψ) := (jfr_sq (jfr_sq (jfr_sq (jfr_if (j := 1) (jsl_run (by decide +kernel)) (by decide +kernel) (by decide)) (jfr_go (j := 5) (jsl_run (by decide +kernel)) (by decide +kernel) (by decide)) (by decide)) (jfr_go (j := 18) (jsl_n (j := 12) (jsl_run (by decide +kernel)) (jsl_n (j := 15) (jsl_cv (ix := 70) mt_Mu_openPairs in_Mu_openPairs sl_Mu_openPairs rfl (by decide) (se_Mu_openPairs _) (by omega) (List.mem_of_getElem? (i := 1163) (by decide +kernel)) (by decide +kernel)) (jsl_cs (ix := 74) mt_Lo_bitCount st_Lo_bitCount (se_Lo_bitCount _) (by omega) (List.mem_of_getElem? (i := 1164) (by decide +kernel)) (by decide +kernel)))) (by decide +kernel) (by decide)) (by decide)) (jfr_sq (jfr_sq (jfr_if (j := 20) (jsl_run (by decide +kernel)) (by decide +kernel) (by decide)) (jfr_sq (jfr_sq (jfr_sq (jfr_if (j := 30) (jsl_run (by decide +kernel)) (by decide +kernel) (by decide)) (jfr_go (j := 34) (jsl_run (by decide +kernel)) (by decide +kernel) (by decide)) (by decide)) (jfr_go (j := 38) (jsl_run (by decide +kernel)) (by decide +kernel) (by decide)) (by decide)) (jfr_rt (j := 38) (jsl_run (by decide +kernel)) (by decide +kernel)) (by decide)) (by decide)) (jfr_sq (jfr_go (j := 64) (jsl_n (j := 52) (jsl_run (by decide +kernel)) (jsl_n (j := 55) (jsl_cv (ix := 126) mt_Mu_hopefulPairs in_Mu_hopefulPairs sl_Mu_hopefulPairs rfl (by decide) (se_Mu_hopefulPairs _) (by omega) (List.mem_of_getElem? (i := 1256) (by decide +kernel)) (by decide +kernel)) (jsl_n (j := 59) (jsl_run (by decide +kernel)) (jsl_n (j := 62) (jsl_cs (ix := 74) mt_Lo_bitCount st_Lo_bitCount (se_Lo_bitCount _) (by omega) (List.mem_of_getElem? (i := 1164) (by decide +kernel)) (by decide +kernel)) (jsl_run (by decide +kernel)))))) (by decide +kernel) (by decide)) (jfr_sq (jfr_lp (jfr_sq (jfr_if (j := 66) (jsl_run (by decide +kernel)) (by decide +kernel) (by decide)) (jfr_go (j := 137) (jsl_n (j := 71) (jsl_run (by decide +kernel)) (jsl_n (j := 74) (jsl_cs (ix := 79) mt_Lo_numberOfTrailingZeros st_Lo_numberOfTrailingZeros (se_Lo_numberOfTrailingZeros _) (by omega) (List.mem_of_getElem? (i := 1165) (by decide +kernel)) (by decide +kernel)) (jsl_n (j := 77) (jsl_csN (ix := 82) mt_Ct_lesserOf st_Ct_lesserOf (se_Ct_lesserOf _) (by omega) (List.mem_of_getElem? (i := 1166) (by decide +kernel)) (by decide +kernel)) (jsl_n (j := 81) (jsl_run (by decide +kernel)) (jsl_n (j := 84) (jsl_cs (ix := 79) mt_Lo_numberOfTrailingZeros st_Lo_numberOfTrailingZeros (se_Lo_numberOfTrailingZeros _) (by omega) (List.mem_of_getElem? (i := 1165) (by decide +kernel)) (by decide +kernel)) (jsl_n (j := 87) (jsl_csN (ix := 85) mt_Ct_greaterOf st_Ct_greaterOf (se_Ct_greaterOf _) (by omega) (List.mem_of_getElem? (i := 1167) (by decide +kernel)) (by decide +kernel)) (jsl_n (j := 106) (jsl_run (by decide +kernel)) (jsl_n (j := 109) (jsl_cv (ix := 91) mt_Mu_change in_Mu_change sl_Mu_change rfl (by decide) (se_Mu_change _) (by omega) (List.mem_of_getElem? (i := 1169) (by decide +kernel)) (by decide +kernel)) (jsl_n (j := 117) (jsl_run (by decide +kernel)) (jsl_n (j := 120) (jsl_cv (ix := 120) mt_Ta_shareAtHome in_Ta_shareAtHome sl_Ta_shareAtHome rfl (by decide) (hΨ0) (by omega) (List.mem_of_getElem? (i := 1252) (by decide +kernel)) (by decide +kernel)) (jsl_n (j := 131) (jsl_run (by decide +kernel)) (jsl_n (j := 134) (jsl_cv (ix := 95) mt_Mu_changeBack in_Mu_changeBack sl_Mu_changeBack rfl (by decide) (se_Mu_changeBack _) (by omega) (List.mem_of_getElem? (i := 1170) (by decide +kernel)) (by decide +kernel)) (jsl_run (by decide +kernel)))))))))))))) (by decide +kernel) (by decide)) (by decide)) (by decide)) (jfr_rt (j := 142) (jsl_run (by decide +kernel)) (by decide +kernel)) (by decide)) (by decide)) (by decide)) (by decide))
theorem se_g_Ta_shareAtHome (G : JG) (n : Nat) : JSem G y_Ta_shareAtHome c_Ta_shareAtHome 11 (some .int) (3 + n) (g_Ta_shareAtHome n 0) := by
  induction n with
  | zero => exact fun _ _ _ _ h => by cases h
  | succ n ih =>
    have h0 := ih
    exact jsem_of (by decide +kernel) rfl (by intro h; cases h) (fr_Ta_shareAtHome G (g_Ta_shareAtHome n) (3 + n) (by omega) h0)
noncomputable abbrev q_Ta_shareAtHome : JF := g_Ta_shareAtHome 40 0
theorem se_Ta_shareAtHome (G : JG) : JSem G y_Ta_shareAtHome c_Ta_shareAtHome 11 (some .int) 43 q_Ta_shareAtHome := (se_g_Ta_shareAtHome G 40)
def y_Mu_canBeHomeBehindJust : MethodName := ⟨"CellarTurns$Muddle", "canBeHomeBehindJust", "(I)Z"⟩
abbrev c_Mu_canBeHomeBehindJust : ByteArray := prog_6_method_29_code
theorem mt_Mu_canBeHomeBehindJust : JMt y_Mu_canBeHomeBehindJust c_Mu_canBeHomeBehindJust 2 (some .boolean) 1 := ⟨(List.mem_of_getElem? (i := 1182) (by decide +kernel)), (List.mem_of_getElem? (i := 129) (by decide +kernel)), ⟨by decide +kernel, by decide +kernel⟩, by decide +kernel, by decide⟩
theorem in_Mu_canBeHomeBehindJust : Cond.instanceMethod y_Mu_canBeHomeBehindJust ∈ lw_tbl := (List.mem_of_getElem? (i := 1180) (by decide +kernel))
theorem sl_Mu_canBeHomeBehindJust : Cond.selects y_Mu_canBeHomeBehindJust.cls y_Mu_canBeHomeBehindJust y_Mu_canBeHomeBehindJust ∈ lw_tbl := (List.mem_of_getElem? (i := 1181) (by decide +kernel))
noncomputable def qp_Mu_canBeHomeBehindJust : JP := (jb_sq (jb_sq (jb_sq (jb_if (jx_run [(4, 0, 0), (42, 3, 3), (40, 0, 10)]) 1 21 10) 10 (jb_sq (jb_if (jn (jx_run [(2, 1, 0), (4, 0, 0)]) (jn (jx_cv 1 3 q_Mu_turnsNeeded) (jx_run [(11, 0, 0), (0, 0, 1), (16, 0, 0)]))) 1 25 21) 25 (jb_go (jx_run [(0, 0, 0)]) 26))) 21 (jb_go (jx_run [(0, 0, 1)]) 26)) 26 (jb_rt (jx_run []) 4))
noncomputable def q_Mu_canBeHomeBehindJust : JF := jf_of qp_Mu_canBeHomeBehindJust 2
set_option maxRecDepth 20000 in
theorem fr_Mu_canBeHomeBehindJust (G : JG) : JFr G 3 false c_Mu_canBeHomeBehindJust 2 2 (some .boolean) 0 qp_Mu_canBeHomeBehindJust := (jfr_sq (jfr_sq (jfr_sq (jfr_if (j := 7) (jsl_run (by decide +kernel)) (by decide +kernel) (by decide)) (jfr_sq (jfr_if (j := 18) (jsl_n (j := 12) (jsl_run (by decide +kernel)) (jsl_n (j := 15) (jsl_cv (ix := 155) mt_Mu_turnsNeeded in_Mu_turnsNeeded sl_Mu_turnsNeeded rfl (by decide) (se_Mu_turnsNeeded _) (by decide) (List.mem_of_getElem? (i := 1109) (by decide +kernel)) (by decide +kernel)) (jsl_run (by decide +kernel)))) (by decide +kernel) (by decide)) (jfr_go (j := 26) (jsl_run (by decide +kernel)) (by decide +kernel) (by decide)) (by decide)) (by decide)) (jfr_go (j := 22) (jsl_run (by decide +kernel)) (by decide +kernel) (by decide)) (by decide)) (jfr_rt (j := 26) (jsl_run (by decide +kernel)) (by decide +kernel)) (by decide))
theorem se_Mu_canBeHomeBehindJust (G : JG) : JSem G y_Mu_canBeHomeBehindJust c_Mu_canBeHomeBehindJust 2 (some .boolean) 2 q_Mu_canBeHomeBehindJust := jsem_of (by decide +kernel) rfl (by intro h; cases h) (fr_Mu_canBeHomeBehindJust G)
def y_La_plainValue : MethodName := ⟨"CellarTurns$Law", "plainValue", "(IIII)I"⟩
abbrev c_La_plainValue : ByteArray := prog_4_method_6_code
theorem mt_La_plainValue : JMt y_La_plainValue c_La_plainValue 4 (some .int) 4 := ⟨(List.mem_of_getElem? (i := 972) (by decide +kernel)), (List.mem_of_getElem? (i := 124) (by decide +kernel)), ⟨by decide +kernel, by decide +kernel⟩, by decide +kernel, by decide⟩
theorem st_La_plainValue : Cond.static y_La_plainValue ∈ lw_tbl := (List.mem_of_getElem? (i := 971) (by decide +kernel))
noncomputable def qp_La_plainValue : JP := (jb_sq (jb_sq (jb_sq (jb_sq (jb_sw (jx_run [(2, 0, 0)]) (-3) [32, 30, 28] 34) 28 (jb_rt (jx_run [(2, 1, 0)]) 1)) 30 (jb_rt (jx_run [(2, 2, 0)]) 1)) 32 (jb_rt (jx_run [(2, 3, 0)]) 1)) 34 (jb_rt (jx_run [(2, 0, 0)]) 1))
noncomputable def q_La_plainValue : JF := jf_of qp_La_plainValue 4
set_option maxRecDepth 20000 in
theorem fr_La_plainValue (G : JG) : JFr G 1 false c_La_plainValue 0 4 (some .int) 0 qp_La_plainValue := (jfr_sq (jfr_sq (jfr_sq (jfr_sq (jfr_sw (j := 1) (jsl_run (by decide +kernel)) (by decide +kernel)) (jfr_rt (j := 29) (jsl_run (by decide +kernel)) (by decide +kernel)) (by decide)) (jfr_rt (j := 31) (jsl_run (by decide +kernel)) (by decide +kernel)) (by decide)) (jfr_rt (j := 33) (jsl_run (by decide +kernel)) (by decide +kernel)) (by decide)) (jfr_rt (j := 35) (jsl_run (by decide +kernel)) (by decide +kernel)) (by decide))
theorem se_La_plainValue (G : JG) : JSem G y_La_plainValue c_La_plainValue 4 (some .int) 0 q_La_plainValue := jsem_of (by decide +kernel) rfl (by intro h; cases h) (fr_La_plainValue G)
def y_La_joined : MethodName := ⟨"CellarTurns$Law", "joined", "(III)I"⟩
abbrev c_La_joined : ByteArray := prog_4_method_7_code
theorem mt_La_joined : JMt y_La_joined c_La_joined 3 (some .int) 3 := ⟨(List.mem_of_getElem? (i := 975) (by decide +kernel)), (List.mem_of_getElem? (i := 124) (by decide +kernel)), ⟨by decide +kernel, by decide +kernel⟩, by decide +kernel, by decide⟩
theorem st_La_joined : Cond.static y_La_joined ∈ lw_tbl := (List.mem_of_getElem? (i := 974) (by decide +kernel))
noncomputable def qp_La_joined : JP := (jb_sq (jb_sq (jb_sq (jb_sq (jb_sq (jb_sq (jb_sq (jb_sw (jx_run [(2, 0, 0)]) (-10) [94, 90, 79, 68, 54, 40] 98) 40 (jb_sq (jb_sq (jb_sq (jb_if (jx_run [(2, 1, 0)]) 0 52 44) 44 (jb_sq (jb_if (jx_run [(2, 2, 0)]) 0 52 48) 48 (jb_go (jx_run [(0, 0, 1)]) 53))) 52 (jb_go (jx_run [(0, 0, 0)]) 53)) 53 (jb_rt (jx_run []) 1))) 54 (jb_sq (jb_sq (jb_sq (jb_if (jx_run [(2, 1, 0)]) 1 62 58) 58 (jb_sq (jb_if (jx_run [(2, 2, 0)]) 0 66 62) 66 (jb_go (jx_run [(0, 0, 0)]) 67))) 62 (jb_go (jx_run [(0, 0, 1)]) 67)) 67 (jb_rt (jx_run []) 1))) 68 (jb_sq (jb_sq (jb_sq (jb_if (jx_run [(2, 1, 0), (2, 2, 0)]) 9 77 73) 73 (jb_go (jx_run [(0, 0, 1)]) 78)) 77 (jb_go (jx_run [(0, 0, 0)]) 78)) 78 (jb_rt (jx_run []) 1))) 79 (jb_sq (jb_sq (jb_sq (jb_if (jx_run [(2, 1, 0), (2, 2, 0)]) 7 88 84) 84 (jb_go (jx_run [(0, 0, 1)]) 89)) 88 (jb_go (jx_run [(0, 0, 0)]) 89)) 89 (jb_rt (jx_run []) 1))) 90 (jb_rt (jx_run [(2, 1, 0), (2, 2, 0), (10, 0, 0)]) 1)) 94 (jb_rt (jx_run [(2, 1, 0), (2, 2, 0), (11, 0, 0)]) 1)) 98 (jb_rt (jx_run [(2, 1, 0), (2, 2, 0), (12, 0, 0)]) 1))
noncomputable def q_La_joined : JF := jf_of qp_La_joined 3
set_option maxRecDepth 20000 in
theorem fr_La_joined (G : JG) : JFr G 1 false c_La_joined 0 3 (some .int) 0 qp_La_joined := (jfr_sq (jfr_sq (jfr_sq (jfr_sq (jfr_sq (jfr_sq (jfr_sq (jfr_sw (j := 1) (jsl_run (by decide +kernel)) (by decide +kernel)) (jfr_sq (jfr_sq (jfr_sq (jfr_if (j := 41) (jsl_run (by decide +kernel)) (by decide +kernel) (by decide)) (jfr_sq (jfr_if (j := 45) (jsl_run (by decide +kernel)) (by decide +kernel) (by decide)) (jfr_go (j := 49) (jsl_run (by decide +kernel)) (by decide +kernel) (by decide)) (by decide)) (by decide)) (jfr_go (j := 53) (jsl_run (by decide +kernel)) (by decide +kernel) (by decide)) (by decide)) (jfr_rt (j := 53) (jsl_run (by decide +kernel)) (by decide +kernel)) (by decide)) (by decide)) (jfr_sq (jfr_sq (jfr_sq (jfr_if (j := 55) (jsl_run (by decide +kernel)) (by decide +kernel) (by decide)) (jfr_sq (jfr_if (j := 59) (jsl_run (by decide +kernel)) (by decide +kernel) (by decide)) (jfr_go (j := 67) (jsl_run (by decide +kernel)) (by decide +kernel) (by decide)) (by decide)) (by decide)) (jfr_go (j := 63) (jsl_run (by decide +kernel)) (by decide +kernel) (by decide)) (by decide)) (jfr_rt (j := 67) (jsl_run (by decide +kernel)) (by decide +kernel)) (by decide)) (by decide)) (jfr_sq (jfr_sq (jfr_sq (jfr_if (j := 70) (jsl_run (by decide +kernel)) (by decide +kernel) (by decide)) (jfr_go (j := 74) (jsl_run (by decide +kernel)) (by decide +kernel) (by decide)) (by decide)) (jfr_go (j := 78) (jsl_run (by decide +kernel)) (by decide +kernel) (by decide)) (by decide)) (jfr_rt (j := 78) (jsl_run (by decide +kernel)) (by decide +kernel)) (by decide)) (by decide)) (jfr_sq (jfr_sq (jfr_sq (jfr_if (j := 81) (jsl_run (by decide +kernel)) (by decide +kernel) (by decide)) (jfr_go (j := 85) (jsl_run (by decide +kernel)) (by decide +kernel) (by decide)) (by decide)) (jfr_go (j := 89) (jsl_run (by decide +kernel)) (by decide +kernel) (by decide)) (by decide)) (jfr_rt (j := 89) (jsl_run (by decide +kernel)) (by decide +kernel)) (by decide)) (by decide)) (jfr_rt (j := 93) (jsl_run (by decide +kernel)) (by decide +kernel)) (by decide)) (jfr_rt (j := 97) (jsl_run (by decide +kernel)) (by decide +kernel)) (by decide)) (jfr_rt (j := 101) (jsl_run (by decide +kernel)) (by decide +kernel)) (by decide))
theorem se_La_joined (G : JG) : JSem G y_La_joined c_La_joined 3 (some .int) 0 q_La_joined := jsem_of (by decide +kernel) rfl (by intro h; cases h) (fr_La_joined G)
def y_La_value : MethodName := ⟨"CellarTurns$Law", "value", "(III)I"⟩
abbrev c_La_value : ByteArray := prog_4_method_5_code
theorem mt_La_value : JMt y_La_value c_La_value 7 (some .int) 3 := ⟨(List.mem_of_getElem? (i := 969) (by decide +kernel)), (List.mem_of_getElem? (i := 124) (by decide +kernel)), ⟨by decide +kernel, by decide +kernel⟩, by decide +kernel, by decide⟩
theorem in_La_value : Cond.instanceMethod y_La_value ∈ lw_tbl := (List.mem_of_getElem? (i := 968) (by decide +kernel))
theorem sl_La_value : Cond.selects y_La_value.cls y_La_value y_La_value ∈ lw_tbl := (List.mem_of_getElem? (i := 25) (by decide +kernel))
noncomputable def qp_La_value : JP := (jb_sq (jb_go (jx_run [(0, 0, 0), (5, 4, 0), (0, 0, 0), (5, 5, 0)]) 6) 6 (jb_sq (jb_lp 6 (jb_sq (jb_if (jx_run [(2, 5, 0), (4, 0, 0), (40, 1, 2)]) 9 149 15) 15 (jb_sq (jb_sq (jb_sq (jb_if (jx_run [(4, 0, 0), (42, 1, 0), (2, 5, 0), (50, 0, 0), (5, 6, 0), (2, 6, 0), (0, 0, -3)]) 8 62 31) 31 (jb_sq (jb_if (jx_run [(2, 4, 0), (4, 0, 0), (42, 1, 1), (60, 0, 0)]) 9 143 41) 41 (jb_go (jn (jx_run [(4, 0, 0), (42, 1, 1), (2, 4, 0), (2, 6, 0), (2, 1, 0), (2, 2, 0), (2, 3, 0)]) (jn (jx_cs 4 q_La_plainValue) (jx_run [(55, 0, 0), (8, 4, 1)]))) 143))) 62 (jb_sq (jb_sq (jb_if (jx_run [(2, 6, 0), (0, 0, -4)]) 7 104 69) 69 (jb_sq (jb_if (jx_run [(2, 4, 0), (0, 0, 1)]) 8 143 75) 75 (jb_sq (jb_sq (jb_sq (jb_if (jx_run [(4, 0, 0), (42, 1, 1), (2, 4, 0), (0, 0, 1), (11, 0, 0), (4, 0, 0), (42, 1, 1), (2, 4, 0), (0, 0, 1), (11, 0, 0), (50, 0, 0)]) 1 99 95) 95 (jb_go (jx_run [(0, 0, 1)]) 100)) 99 (jb_go (jx_run [(0, 0, 0)]) 100)) 100 (jb_go (jx_run [(55, 0, 0)]) 143)))) 104 (jb_sq (jb_if (jx_run [(2, 4, 0), (0, 0, 2)]) 8 143 110) 110 (jb_go (jn (jx_run [(8, 4, -1), (4, 0, 0), (42, 1, 1), (2, 4, 0), (0, 0, 1), (11, 0, 0), (2, 6, 0), (4, 0, 0), (42, 1, 1), (2, 4, 0), (0, 0, 1), (11, 0, 0), (50, 0, 0), (4, 0, 0), (42, 1, 1), (2, 4, 0), (50, 0, 0)]) (jn (jx_cs 3 q_La_joined) (jx_run [(55, 0, 0)]))) 143)))) 143 (jb_go (jx_run [(8, 5, 1)]) 6)))) 149 (jb_rt (jx_run [(4, 0, 0), (42, 1, 1), (0, 0, 0), (50, 0, 0)]) 1)))
noncomputable def q_La_value : JF := jf_of qp_La_value 7
set_option maxRecDepth 20000 in
theorem fr_La_value (G : JG) : JFr G 1 false c_La_value 1 7 (some .int) 0 qp_La_value := (jfr_sq (jfr_go (j := 6) (jsl_run (by decide +kernel)) (by decide +kernel) (by decide)) (jfr_sq (jfr_lp (jfr_sq (jfr_if (j := 12) (jsl_run (by decide +kernel)) (by decide +kernel) (by decide)) (jfr_sq (jfr_sq (jfr_sq (jfr_if (j := 28) (jsl_run (by decide +kernel)) (by decide +kernel) (by decide)) (jfr_sq (jfr_if (j := 38) (jsl_run (by decide +kernel)) (by decide +kernel) (by decide)) (jfr_go (j := 59) (jsl_n (j := 52) (jsl_run (by decide +kernel)) (jsl_n (j := 55) (jsl_cs (ix := 35) mt_La_plainValue st_La_plainValue (se_La_plainValue _) (by decide) (List.mem_of_getElem? (i := 970) (by decide +kernel)) (by decide +kernel)) (jsl_run (by decide +kernel)))) (by decide +kernel) (by decide)) (by decide)) (by decide)) (jfr_sq (jfr_sq (jfr_if (j := 66) (jsl_run (by decide +kernel)) (by decide +kernel) (by decide)) (jfr_sq (jfr_if (j := 72) (jsl_run (by decide +kernel)) (by decide +kernel) (by decide)) (jfr_sq (jfr_sq (jfr_sq (jfr_if (j := 92) (jsl_run (by decide +kernel)) (by decide +kernel) (by decide)) (jfr_go (j := 96) (jsl_run (by decide +kernel)) (by decide +kernel) (by decide)) (by decide)) (jfr_go (j := 100) (jsl_run (by decide +kernel)) (by decide +kernel) (by decide)) (by decide)) (jfr_go (j := 101) (jsl_run (by decide +kernel)) (by decide +kernel) (by decide)) (by decide)) (by decide)) (by decide)) (jfr_sq (jfr_if (j := 107) (jsl_run (by decide +kernel)) (by decide +kernel) (by decide)) (jfr_go (j := 143) (jsl_n (j := 139) (jsl_run (by decide +kernel)) (jsl_n (j := 142) (jsl_cs (ix := 39) mt_La_joined st_La_joined (se_La_joined _) (by decide) (List.mem_of_getElem? (i := 973) (by decide +kernel)) (by decide +kernel)) (jsl_run (by decide +kernel)))) (by decide +kernel) (by decide)) (by decide)) (by decide)) (by decide)) (jfr_go (j := 146) (jsl_run (by decide +kernel)) (by decide +kernel) (by decide)) (by decide)) (by decide)) (by decide)) (jfr_rt (j := 155) (jsl_run (by decide +kernel)) (by decide +kernel)) (by decide)) (by decide))
theorem se_La_value (G : JG) : JSem G y_La_value c_La_value 7 (some .int) 1 q_La_value := jsem_of (by decide +kernel) rfl (by intro h; cases h) (fr_La_value G)
def y_La_costOf : MethodName := ⟨"CellarTurns$Law", "costOf", "(III)I"⟩
abbrev c_La_costOf : ByteArray := prog_4_method_4_code
theorem mt_La_costOf : JMt y_La_costOf c_La_costOf 4 (some .int) 3 := ⟨(List.mem_of_getElem? (i := 965) (by decide +kernel)), (List.mem_of_getElem? (i := 124) (by decide +kernel)), ⟨by decide +kernel, by decide +kernel⟩, by decide +kernel, by decide⟩
theorem in_La_costOf : Cond.instanceMethod y_La_costOf ∈ lw_tbl := (List.mem_of_getElem? (i := 963) (by decide +kernel))
theorem sl_La_costOf : Cond.selects y_La_costOf.cls y_La_costOf y_La_costOf ∈ lw_tbl := (List.mem_of_getElem? (i := 964) (by decide +kernel))
noncomputable def qp_La_costOf : JP := (jb_rt (jn (jx_run [(0, 0, 0), (0, 0, 999), (4, 0, 0), (2, 1, 0), (2, 2, 0), (2, 3, 0)]) (jn (jx_cv 4 1 q_La_value) (jn (jx_cs 2 q_Ma_min) (jx_cs 2 q_Ma_max)))) 1)
noncomputable def q_La_costOf : JF := jf_of qp_La_costOf 4
set_option maxRecDepth 20000 in
theorem fr_La_costOf (G : JG) : JFr G 1 false c_La_costOf 2 4 (some .int) 0 qp_La_costOf := (jfr_rt (j := 17) (jsl_n (j := 8) (jsl_run (by decide +kernel)) (jsl_n (j := 11) (jsl_cv (ix := 22) mt_La_value in_La_value sl_La_value rfl (by decide) (se_La_value _) (by decide) (List.mem_of_getElem? (i := 966) (by decide +kernel)) (by decide +kernel)) (jsl_n (j := 14) (jsl_cs (ix := 26) mt_Ma_min st_Ma_min (se_Ma_min _) (by decide) (List.mem_of_getElem? (i := 976) (by decide +kernel)) (by decide +kernel)) (jsl_cs (ix := 32) mt_Ma_max st_Ma_max (se_Ma_max _) (by decide) (List.mem_of_getElem? (i := 977) (by decide +kernel)) (by decide +kernel))))) (by decide +kernel))
theorem se_La_costOf (G : JG) : JSem G y_La_costOf c_La_costOf 4 (some .int) 2 q_La_costOf := jsem_of (by decide +kernel) rfl (by intro h; cases h) (fr_La_costOf G)
def y_Se_cheapen : MethodName := ⟨"CellarTurns$Search", "cheapen", "(II)V"⟩
abbrev c_Se_cheapen : ByteArray := prog_10_method_8_code
theorem mt_Se_cheapen : JMt y_Se_cheapen c_Se_cheapen 8 none 2 := ⟨(List.mem_of_getElem? (i := 1220) (by decide +kernel)), (List.mem_of_getElem? (i := 128) (by decide +kernel)), ⟨by decide +kernel, by decide +kernel⟩, by decide +kernel, by decide⟩
theorem in_Se_cheapen : Cond.instanceMethod y_Se_cheapen ∈ lw_tbl := (List.mem_of_getElem? (i := 1219) (by decide +kernel))
theorem sl_Se_cheapen : Cond.selects y_Se_cheapen.cls y_Se_cheapen y_Se_cheapen ∈ lw_tbl := (List.mem_of_getElem? (i := 37) (by decide +kernel))
noncomputable def qp_Se_cheapen (Ψ : Nat → JF) : JP := (jb_sq (jb_sq (jb_if (jx_run [(2, 2, 0), (4, 0, 0), (40, 7, 6)]) 8 9 8) 8 (jb_rt (jx_run []) 0)) 9 (jb_sq (jb_sq (jb_if (jx_run [(2, 1, 0)]) 4 33 13) 13 (jb_sq (jb_sq (jb_if (jx_run [(4, 0, 0), (42, 7, 0), (40, 3, 6)]) 1 32 23) 23 (jb_go (jn (jx_run [(4, 0, 0), (2, 2, 0), (43, 7, 6), (4, 0, 0)]) (jx_cv 1 7 q_Se_keepRow)) 32)) 32 (jb_rt (jx_run []) 0))) 33 (jb_sq (jb_go (jn (jx_run [(4, 0, 0), (42, 7, 0), (2, 1, 0)]) (jn (jx_cv 2 3 q_Mu_hopefulPairs) (jn (jx_run [(6, 3, 0), (3, 3, 0)]) (jn (jx_cs 1 q_Lo_bitCount) (jx_run [(5, 5, 0)]))))) 48) 48 (jb_sq (jb_lp 48 (jb_sq (jb_if (jx_run [(2, 5, 0)]) 5 146 53) 53 (jb_go (jn (jx_run [(3, 3, 0)]) (jn (jx_cs 1 q_Lo_numberOfTrailingZeros) (jn (jx_run [(5, 6, 0), (3, 3, 0), (3, 3, 0), (1, 0, 1), (23, 0, 0), (27, 0, 0), (6, 3, 0), (4, 0, 0), (2, 1, 0), (2, 6, 0)]) (jn (jx_cv 3 7 q_Se_tryTurn) (jn (jx_run [(4, 0, 0), (42, 7, 0), (42, 3, 3), (42, 0, 7), (4, 0, 0), (42, 7, 0)]) (jn (jx_cv 1 3 q_Mu_wrongOnes) (jn (jx_run [(4, 0, 0), (42, 7, 0), (40, 3, 7), (0, 0, 1), (11, 0, 0), (4, 0, 0), (42, 7, 0), (40, 3, 8), (0, 0, 1), (11, 0, 0)]) (jn (jx_cv 4 1 q_La_costOf) (jn (jx_run [(5, 7, 0), (4, 0, 0), (2, 1, 0), (0, 0, 1), (11, 0, 0), (2, 2, 0), (2, 7, 0), (10, 0, 0)]) (jn (jx_cv 3 7 (Ψ 0)) (jn (jx_run [(4, 0, 0), (42, 7, 0), (2, 6, 0)]) (jn (jx_cs 1 q_Ct_lesserOf) (jn (jx_run [(2, 6, 0)]) (jn (jx_cs 1 q_Ct_greaterOf) (jn (jx_cv 3 3 q_Mu_changeBack) (jx_run [(8, 5, -1)])))))))))))))))) 48))) 146 (jb_rt (jx_run []) 0)))))
noncomputable def g_Se_cheapen : Nat → Nat → JF
  | 0 => fun _ _ _ => none
  | n + 1 => fun w => match w with
    | 0 => jf_of (qp_Se_cheapen (g_Se_cheapen n)) 8
    | _ => fun _ _ => none
set_option maxRecDepth 20000 in
theorem fr_Se_cheapen (G : JG) (Ψ : Nat → JF) (d : Nat) (hd : 3 ≤ d + 1) (hΨ0 : JSem G y_Se_cheapen c_Se_cheapen 8 none d (Ψ 0)) : JFr G 7 false c_Se_cheapen (d + 1) 8 none 0 (qp_Se_cheapen Ψ) := (jfr_sq (jfr_sq (jfr_if (j := 5) (jsl_run (by decide +kernel)) (by decide +kernel) (by decide)) (jfr_rt (j := 8) (jsl_run (by decide +kernel)) (by decide +kernel)) (by decide)) (jfr_sq (jfr_sq (jfr_if (j := 10) (jsl_run (by decide +kernel)) (by decide +kernel) (by decide)) (jfr_sq (jfr_sq (jfr_if (j := 20) (jsl_run (by decide +kernel)) (by decide +kernel) (by decide)) (jfr_go (j := 32) (jsl_n (j := 29) (jsl_run (by decide +kernel)) (jsl_cv (ix := 45) mt_Se_keepRow in_Se_keepRow sl_Se_keepRow rfl (by decide) (se_Se_keepRow _) (by omega) (List.mem_of_getElem? (i := 1092) (by decide +kernel)) (by decide +kernel))) (by decide +kernel) (by decide)) (by decide)) (jfr_rt (j := 32) (jsl_run (by decide +kernel)) (by decide +kernel)) (by decide)) (by decide)) (jfr_sq (jfr_go (j := 48) (jsl_n (j := 38) (jsl_run (by decide +kernel)) (jsl_n (j := 41) (jsl_cv (ix := 51) mt_Mu_hopefulPairs in_Mu_hopefulPairs sl_Mu_hopefulPairs rfl (by decide) (se_Mu_hopefulPairs _) (by omega) (List.mem_of_getElem? (i := 1187) (by decide +kernel)) (by decide +kernel)) (jsl_n (j := 43) (jsl_run (by decide +kernel)) (jsl_n (j := 46) (jsl_cs (ix := 55) mt_Lo_bitCount st_Lo_bitCount (se_Lo_bitCount _) (by omega) (List.mem_of_getElem? (i := 1115) (by decide +kernel)) (by decide +kernel)) (jsl_run (by decide +kernel)))))) (by decide +kernel) (by decide)) (jfr_sq (jfr_lp (jfr_sq (jfr_if (j := 50) (jsl_run (by decide +kernel)) (by decide +kernel) (by decide)) (jfr_go (j := 143) (jsl_n (j := 54) (jsl_run (by decide +kernel)) (jsl_n (j := 57) (jsl_cs (ix := 61) mt_Lo_numberOfTrailingZeros st_Lo_numberOfTrailingZeros (se_Lo_numberOfTrailingZeros _) (by omega) (List.mem_of_getElem? (i := 1116) (by decide +kernel)) (by decide +kernel)) (jsl_n (j := 69) (jsl_run (by decide +kernel)) (jsl_n (j := 72) (jsl_cv (ix := 64) mt_Se_tryTurn in_Se_tryTurn sl_Se_tryTurn rfl (by decide) (se_Se_tryTurn _) (by omega) (List.mem_of_getElem? (i := 1133) (by decide +kernel)) (by decide +kernel)) (jsl_n (j := 86) (jsl_run (by decide +kernel)) (jsl_n (j := 89) (jsl_cv (ix := 78) mt_Mu_wrongOnes in_Mu_wrongOnes sl_Mu_wrongOnes rfl (by decide) (se_Mu_wrongOnes _) (by omega) (List.mem_of_getElem? (i := 1091) (by decide +kernel)) (by decide +kernel)) (jsl_n (j := 107) (jsl_run (by decide +kernel)) (jsl_n (j := 110) (jsl_cv (ix := 125) mt_La_costOf in_La_costOf sl_La_costOf rfl (by decide) (se_La_costOf _) (by omega) (List.mem_of_getElem? (i := 1221) (by decide +kernel)) (by decide +kernel)) (jsl_n (j := 120) (jsl_run (by decide +kernel)) (jsl_n (j := 123) (jsl_cv (ix := 106) mt_Se_cheapen in_Se_cheapen sl_Se_cheapen rfl (by decide) (hΨ0) (by omega) (List.mem_of_getElem? (i := 1217) (by decide +kernel)) (by decide +kernel)) (jsl_n (j := 129) (jsl_run (by decide +kernel)) (jsl_n (j := 132) (jsl_csN (ix := 68) mt_Ct_lesserOf st_Ct_lesserOf (se_Ct_lesserOf _) (by omega) (List.mem_of_getElem? (i := 1123) (by decide +kernel)) (by decide +kernel)) (jsl_n (j := 134) (jsl_run (by decide +kernel)) (jsl_n (j := 137) (jsl_csN (ix := 72) mt_Ct_greaterOf st_Ct_greaterOf (se_Ct_greaterOf _) (by omega) (List.mem_of_getElem? (i := 1126) (by decide +kernel)) (by decide +kernel)) (jsl_n (j := 140) (jsl_cv (ix := 75) mt_Mu_changeBack in_Mu_changeBack sl_Mu_changeBack rfl (by decide) (se_Mu_changeBack _) (by omega) (List.mem_of_getElem? (i := 1138) (by decide +kernel)) (by decide +kernel)) (jsl_run (by decide +kernel))))))))))))))))) (by decide +kernel) (by decide)) (by decide)) (by decide)) (jfr_rt (j := 146) (jsl_run (by decide +kernel)) (by decide +kernel)) (by decide)) (by decide)) (by decide)) (by decide))
theorem se_g_Se_cheapen (G : JG) (n : Nat) : JSem G y_Se_cheapen c_Se_cheapen 8 none (3 + n) (g_Se_cheapen n 0) := by
  induction n with
  | zero => exact fun _ _ _ _ h => by cases h
  | succ n ih =>
    have h0 := ih
    exact jsem_of (by decide +kernel) rfl (by intro h; cases h) (fr_Se_cheapen G (g_Se_cheapen n) (3 + n) (by omega) h0)
noncomputable abbrev q_Se_cheapen : JF := g_Se_cheapen 40 0
theorem se_Se_cheapen (G : JG) : JSem G y_Se_cheapen c_Se_cheapen 8 none 43 q_Se_cheapen := (se_g_Se_cheapen G 40)
def y_Ct_count : MethodName := ⟨"CellarTurns", "count", "(I)I"⟩
abbrev c_Ct_count : ByteArray := prog_1_method_33_code
theorem mt_Ct_count : JMt y_Ct_count c_Ct_count 2 (some .int) 1 := ⟨(List.mem_of_getElem? (i := 1328) (by decide +kernel)), (List.mem_of_getElem? (i := 117) (by decide +kernel)), ⟨by decide +kernel, by decide +kernel⟩, by decide +kernel, by decide⟩
theorem in_Ct_count : Cond.instanceMethod y_Ct_count ∈ lw_tbl := (List.mem_of_getElem? (i := 1326) (by decide +kernel))
theorem sl_Ct_count : Cond.selects y_Ct_count.cls y_Ct_count y_Ct_count ∈ lw_tbl := (List.mem_of_getElem? (i := 1327) (by decide +kernel))
noncomputable def qp_Ct_count : JP := (jb_sq (jb_sq (jb_sq (jb_sq (jb_sq (jb_sq (jb_sq (jb_sq (jb_sq (jb_sq (jb_sq (jb_sq (jb_sq (jb_sq (jb_sw (jx_run [(2, 1, 0)]) (0) [68, 76, 87, 98, 106, 114, 122, 130, 138, 153, 161, 169, 174] 182) 174 (jb_rt (jx_run [(4, 0, 0), (42, 10, 0), (40, 9, 1)]) 1)) 169 (jb_rt (jx_run [(4, 0, 0), (40, 10, 14)]) 1)) 161 (jb_rt (jx_run [(4, 0, 0), (42, 10, 5), (40, 3, 11)]) 1)) 153 (jb_rt (jx_run [(4, 0, 0), (42, 10, 11), (40, 4, 2)]) 1)) 138 (jb_rt (jn (jx_run [(4, 0, 0), (42, 10, 9), (4, 0, 0), (42, 10, 9), (42, 0, 5)]) (jx_cv 2 0 q_Ho_pairsIn)) 1)) 130 (jb_rt (jx_run [(4, 0, 0), (42, 10, 9), (40, 0, 12)]) 1)) 122 (jb_rt (jx_run [(4, 0, 0), (42, 10, 5), (40, 3, 9)]) 1)) 114 (jb_rt (jn (jx_run [(4, 0, 0), (42, 10, 5)]) (jx_cv 1 3 q_Mu_wrongOnes)) 1)) 106 (jb_rt (jx_run [(4, 0, 0), (42, 10, 5), (40, 3, 8)]) 1)) 98 (jb_rt (jx_run [(4, 0, 0), (42, 10, 5), (40, 3, 7)]) 1)) 87 (jb_rt (jn (jx_run [(4, 0, 0), (42, 10, 5), (40, 3, 4)]) (jx_cs 1 q_In_bitCount)) 1)) 76 (jb_rt (jn (jx_run [(4, 0, 0), (42, 10, 9), (40, 0, 9)]) (jx_cs 1 q_In_bitCount)) 1)) 68 (jb_rt (jx_run [(4, 0, 0), (42, 10, 9), (40, 0, 8)]) 1)) 182 (jb_rt (jx_run [(0, 0, -1)]) 1))
noncomputable def q_Ct_count : JF := jf_of qp_Ct_count 2
set_option maxRecDepth 20000 in
theorem fr_Ct_count (G : JG) : JFr G 10 false c_Ct_count 2 2 (some .int) 0 qp_Ct_count := (jfr_sq (jfr_sq (jfr_sq (jfr_sq (jfr_sq (jfr_sq (jfr_sq (jfr_sq (jfr_sq (jfr_sq (jfr_sq (jfr_sq (jfr_sq (jfr_sq (jfr_sw (j := 1) (jsl_run (by decide +kernel)) (by decide +kernel)) (jfr_rt (j := 181) (jsl_run (by decide +kernel)) (by decide +kernel)) (by decide)) (jfr_rt (j := 173) (jsl_run (by decide +kernel)) (by decide +kernel)) (by decide)) (jfr_rt (j := 168) (jsl_run (by decide +kernel)) (by decide +kernel)) (by decide)) (jfr_rt (j := 160) (jsl_run (by decide +kernel)) (by decide +kernel)) (by decide)) (jfr_rt (j := 152) (jsl_n (j := 149) (jsl_run (by decide +kernel)) (jsl_cv (ix := 314) mt_Ho_pairsIn in_Ho_pairsIn sl_Ho_pairsIn rfl (by decide) (se_Ho_pairsIn _) (by decide) (List.mem_of_getElem? (i := 1330) (by decide +kernel)) (by decide +kernel))) (by decide +kernel)) (by decide)) (jfr_rt (j := 137) (jsl_run (by decide +kernel)) (by decide +kernel)) (by decide)) (jfr_rt (j := 129) (jsl_run (by decide +kernel)) (by decide +kernel)) (by decide)) (jfr_rt (j := 121) (jsl_n (j := 118) (jsl_run (by decide +kernel)) (jsl_cv (ix := 153) mt_Mu_wrongOnes in_Mu_wrongOnes sl_Mu_wrongOnes rfl (by decide) (se_Mu_wrongOnes _) (by decide) (List.mem_of_getElem? (i := 978) (by decide +kernel)) (by decide +kernel))) (by decide +kernel)) (by decide)) (jfr_rt (j := 113) (jsl_run (by decide +kernel)) (by decide +kernel)) (by decide)) (jfr_rt (j := 105) (jsl_run (by decide +kernel)) (by decide +kernel)) (by decide)) (jfr_rt (j := 97) (jsl_n (j := 94) (jsl_run (by decide +kernel)) (jsl_cs (ix := 299) mt_In_bitCount st_In_bitCount (se_In_bitCount _) (by decide) (List.mem_of_getElem? (i := 1329) (by decide +kernel)) (by decide +kernel))) (by decide +kernel)) (by decide)) (jfr_rt (j := 86) (jsl_n (j := 83) (jsl_run (by decide +kernel)) (jsl_cs (ix := 299) mt_In_bitCount st_In_bitCount (se_In_bitCount _) (by decide) (List.mem_of_getElem? (i := 1329) (by decide +kernel)) (by decide +kernel))) (by decide +kernel)) (by decide)) (jfr_rt (j := 75) (jsl_run (by decide +kernel)) (by decide +kernel)) (by decide)) (jfr_rt (j := 183) (jsl_run (by decide +kernel)) (by decide +kernel)) (by decide))
theorem se_Ct_count (G : JG) : JSem G y_Ct_count c_Ct_count 2 (some .int) 2 q_Ct_count := jsem_of (by decide +kernel) rfl (by intro h; cases h) (fr_Ct_count G)
end
section
/-! ===== printed by wip/whole/emit.py: methods as pieces ===== -/
def y_Ri_addTurn : MethodName := ⟨"CellarTurns$RingList", "addTurn", "(II)V"⟩
abbrev c_Ri_addTurn : ByteArray := prog_9_method_4_code
theorem mt_Ri_addTurn : JMt y_Ri_addTurn c_Ri_addTurn 3 none 2 := ⟨(List.mem_of_getElem? (i := 1051) (by decide +kernel)), (List.mem_of_getElem? (i := 127) (by decide +kernel)), ⟨by decide +kernel, by decide +kernel⟩, by decide +kernel, by decide⟩
theorem in_Ri_addTurn : Cond.instanceMethod y_Ri_addTurn ∈ lw_tbl := (List.mem_of_getElem? (i := 1050) (by decide +kernel))
theorem sl_Ri_addTurn : Cond.selects y_Ri_addTurn.cls y_Ri_addTurn y_Ri_addTurn ∈ lw_tbl := (List.mem_of_getElem? (i := 29) (by decide +kernel))
noncomputable def qp_Ri_addTurn : JP := (jb_sq (jb_sq (jb_if (jx_run [(4, 0, 0), (40, 6, 2), (4, 0, 0), (42, 6, 0), (60, 0, 0)]) 9 37 12) 12 (jb_go (jx_run [(4, 0, 0), (42, 6, 0), (4, 0, 0), (40, 6, 2), (0, 0, 10), (2, 1, 0), (12, 0, 0), (2, 2, 0), (10, 0, 0), (55, 0, 0), (4, 0, 0), (70, 0, 0), (40, 6, 2), (0, 0, 1), (10, 0, 0), (43, 6, 2)]) 37)) 37 (jb_rt (jx_run []) 0))
noncomputable def q_Ri_addTurn : JF := jf_of qp_Ri_addTurn 3
set_option maxRecDepth 20000 in
theorem fr_Ri_addTurn (G : JG) : JFr G 6 false c_Ri_addTurn 0 3 none 0 qp_Ri_addTurn := (jfr_sq (jfr_sq (jfr_if (j := 9) (jsl_run (by decide +kernel)) (by decide +kernel) (by decide)) (jfr_go (j := 37) (jsl_run (by decide +kernel)) (by decide +kernel) (by decide)) (by decide)) (jfr_rt (j := 37) (jsl_run (by decide +kernel)) (by decide +kernel)) (by decide))
theorem se_Ri_addTurn (G : JG) : JSem G y_Ri_addTurn c_Ri_addTurn 3 none 0 q_Ri_addTurn := jsem_of (by decide +kernel) rfl (by intro h; cases h) (fr_Ri_addTurn G)
def y_Ri_addRing : MethodName := ⟨"CellarTurns$RingList", "addRing", "(LCellarTurns$Muddle;II)V"⟩
abbrev c_Ri_addRing : ByteArray := prog_9_method_3_code
theorem mt_Ri_addRing : JMt y_Ri_addRing c_Ri_addRing 6 none 3 := ⟨(List.mem_of_getElem? (i := 1046) (by decide +kernel)), (List.mem_of_getElem? (i := 127) (by decide +kernel)), ⟨by decide +kernel, by decide +kernel⟩, by decide +kernel, by decide⟩
theorem in_Ri_addRing : Cond.instanceMethod y_Ri_addRing ∈ lw_tbl := (List.mem_of_getElem? (i := 1045) (by decide +kernel))
theorem sl_Ri_addRing : Cond.selects y_Ri_addRing.cls y_Ri_addRing y_Ri_addRing ∈ lw_tbl := (List.mem_of_getElem? (i := 28) (by decide +kernel))
noncomputable def qp_Ri_addRing : JP := (jb_sq (jb_go (jn (jx_run [(4, 0, 0), (70, 0, 0), (40, 6, 3), (0, 0, 1), (10, 0, 0), (43, 6, 3), (4, 0, 0), (4, 0, 0), (40, 6, 4), (2, 3, 0)]) (jn (jx_cs 2 q_Ma_max) (jx_run [(43, 6, 4), (4, 0, 0), (70, 0, 0), (40, 6, 5), (2, 3, 0), (0, 0, 1), (11, 0, 0), (10, 0, 0), (43, 6, 5), (2, 2, 0), (5, 4, 0), (0, 0, 1), (5, 5, 0)]))) 40) 40 (jb_sq (jb_lp 40 (jb_sq (jb_if (jx_run [(2, 5, 0), (2, 3, 0)]) 9 80 46) 46 (jb_go (jn (jx_run [(4, 0, 0), (0, 0, 8), (2, 4, 0)]) (jn (jx_cv 3 6 q_Ri_addTurn) (jx_run [(4, 0, 0), (42, 6, 1), (2, 4, 0), (4, 0, 0), (40, 6, 2), (55, 0, 0), (4, 1, 0), (42, 3, 0), (2, 4, 0), (50, 0, 0), (5, 4, 0), (8, 5, 1)]))) 40))) 80 (jb_rt (jn (jx_run [(4, 0, 0), (0, 0, 9), (2, 4, 0)]) (jn (jx_cv 3 6 q_Ri_addTurn) (jn (jx_run [(4, 0, 0), (0, 0, 8), (2, 4, 0)]) (jn (jx_cv 3 6 q_Ri_addTurn) (jn (jx_run [(4, 0, 0), (42, 6, 1), (2, 4, 0), (4, 0, 0), (40, 6, 2), (55, 0, 0), (4, 0, 0), (0, 0, 9), (2, 2, 0)]) (jn (jx_cv 3 6 q_Ri_addTurn) (jx_run [(4, 0, 0), (42, 6, 1), (2, 2, 0), (4, 0, 0), (40, 6, 2), (55, 0, 0)]))))))) 0)))
noncomputable def q_Ri_addRing : JF := jf_of qp_Ri_addRing 6
set_option maxRecDepth 20000 in
theorem fr_Ri_addRing (G : JG) : JFr G 6 false c_Ri_addRing 1 6 none 0 qp_Ri_addRing := (jfr_sq (jfr_go (j := 40) (jsl_n (j := 16) (jsl_run (by decide +kernel)) (jsl_n (j := 19) (jsl_cs (ix := 62) mt_Ma_max st_Ma_max (se_Ma_max _) (by decide) (List.mem_of_getElem? (i := 1047) (by decide +kernel)) (by decide +kernel)) (jsl_run (by decide +kernel)))) (by decide +kernel) (by decide)) (jfr_sq (jfr_lp (jfr_sq (jfr_if (j := 43) (jsl_run (by decide +kernel)) (by decide +kernel) (by decide)) (jfr_go (j := 77) (jsl_n (j := 51) (jsl_run (by decide +kernel)) (jsl_n (j := 54) (jsl_cv (ix := 58) mt_Ri_addTurn in_Ri_addTurn sl_Ri_addTurn rfl (by decide) (se_Ri_addTurn _) (by decide) (List.mem_of_getElem? (i := 1048) (by decide +kernel)) (by decide +kernel)) (jsl_run (by decide +kernel)))) (by decide +kernel) (by decide)) (by decide)) (by decide)) (jfr_rt (j := 124) (jsl_n (j := 85) (jsl_run (by decide +kernel)) (jsl_n (j := 88) (jsl_cv (ix := 58) mt_Ri_addTurn in_Ri_addTurn sl_Ri_addTurn rfl (by decide) (se_Ri_addTurn _) (by decide) (List.mem_of_getElem? (i := 1048) (by decide +kernel)) (by decide +kernel)) (jsl_n (j := 93) (jsl_run (by decide +kernel)) (jsl_n (j := 96) (jsl_cv (ix := 58) mt_Ri_addTurn in_Ri_addTurn sl_Ri_addTurn rfl (by decide) (se_Ri_addTurn _) (by decide) (List.mem_of_getElem? (i := 1048) (by decide +kernel)) (by decide +kernel)) (jsl_n (j := 111) (jsl_run (by decide +kernel)) (jsl_n (j := 114) (jsl_cv (ix := 58) mt_Ri_addTurn in_Ri_addTurn sl_Ri_addTurn rfl (by decide) (se_Ri_addTurn _) (by decide) (List.mem_of_getElem? (i := 1048) (by decide +kernel)) (by decide +kernel)) (jsl_run (by decide +kernel)))))))) (by decide +kernel)) (by decide)) (by decide))
theorem se_Ri_addRing (G : JG) : JSem G y_Ri_addRing c_Ri_addRing 6 none 1 q_Ri_addRing := jsem_of (by decide +kernel) rfl (by intro h; cases h) (fr_Ri_addRing G)
def y_Ri_read : MethodName := ⟨"CellarTurns$RingList", "read", "(LCellarTurns$Muddle;)V"⟩
abbrev c_Ri_read : ByteArray := prog_9_method_2_code
theorem mt_Ri_read : JMt y_Ri_read c_Ri_read 5 none 1 := ⟨(List.mem_of_getElem? (i := 1037) (by decide +kernel)), (List.mem_of_getElem? (i := 127) (by decide +kernel)), ⟨by decide +kernel, by decide +kernel⟩, by decide +kernel, by decide⟩
theorem in_Ri_read : Cond.instanceMethod y_Ri_read ∈ lw_tbl := (List.mem_of_getElem? (i := 1035) (by decide +kernel))
theorem sl_Ri_read : Cond.selects y_Ri_read.cls y_Ri_read y_Ri_read ∈ lw_tbl := (List.mem_of_getElem? (i := 1036) (by decide +kernel))
noncomputable def qp_Ri_read : JP := (jb_sq (jb_go (jx_run [(4, 0, 0), (0, 0, 0), (43, 6, 2), (4, 0, 0), (0, 0, 0), (43, 6, 3), (4, 0, 0), (0, 0, 0), (43, 6, 4), (4, 0, 0), (0, 0, 0), (43, 6, 5), (0, 0, 0), (5, 2, 0), (0, 0, 0), (5, 3, 0)]) 24) 24 (jb_sq (jb_lp 24 (jb_sq (jb_if (jx_run [(2, 3, 0), (0, 0, 8)]) 9 43 30) 30 (jb_go (jx_run [(4, 0, 0), (42, 6, 1), (2, 3, 0), (0, 0, 0), (55, 0, 0), (8, 3, 1)]) 24))) 43 (jb_sq (jb_go (jx_run [(0, 0, 0), (5, 3, 0)]) 45) 45 (jb_sq (jb_lp 45 (jb_sq (jb_if (jx_run [(2, 3, 0), (4, 1, 0), (42, 3, 3), (40, 0, 8)]) 9 103 56) 56 (jb_sq (jb_sq (jb_if (jx_run [(4, 1, 0), (42, 3, 0), (2, 3, 0), (50, 0, 0), (2, 3, 0)]) 6 97 66) 66 (jb_sq (jb_if (jx_run [(2, 2, 0), (2, 3, 0), (20, 0, 0), (0, 0, 1), (16, 0, 0)]) 1 97 74) 74 (jb_go (jn (jx_run [(4, 1, 0), (2, 3, 0)]) (jn (jx_cv 2 3 q_Mu_ringOf) (jn (jx_run [(5, 4, 0), (2, 2, 0), (2, 4, 0), (17, 0, 0), (5, 2, 0), (4, 0, 0), (4, 1, 0), (2, 3, 0), (2, 4, 0)]) (jn (jx_cs 1 q_In_bitCount) (jx_cv 4 6 q_Ri_addRing))))) 97))) 97 (jb_go (jx_run [(8, 3, 1)]) 45)))) 103 (jb_sq (jb_sq (jb_if (jx_run [(4, 0, 0), (40, 6, 3), (0, 0, 1), (16, 0, 0), (0, 0, 1)]) 7 121 113) 113 (jb_go (jn (jx_run [(4, 0, 0), (0, 0, 8), (0, 0, 9)]) (jx_cv 3 6 q_Ri_addTurn)) 121)) 121 (jb_rt (jx_run []) 0))))))
noncomputable def q_Ri_read : JF := jf_of qp_Ri_read 5
set_option maxRecDepth 20000 in
theorem fr_Ri_read (G : JG) : JFr G 6 false c_Ri_read 2 5 none 0 qp_Ri_read := (jfr_sq (jfr_go (j := 24) (jsl_run (by decide +kernel)) (by decide +kernel) (by decide)) (jfr_sq (jfr_lp (jfr_sq (jfr_if (j := 27) (jsl_run (by decide +kernel)) (by decide +kernel) (by decide)) (jfr_go (j := 40) (jsl_run (by decide +kernel)) (by decide +kernel) (by decide)) (by decide)) (by decide)) (jfr_sq (jfr_go (j := 45) (jsl_run (by decide +kernel)) (by decide +kernel) (by decide)) (jfr_sq (jfr_lp (jfr_sq (jfr_if (j := 53) (jsl_run (by decide +kernel)) (by decide +kernel) (by decide)) (jfr_sq (jfr_sq (jfr_if (j := 63) (jsl_run (by decide +kernel)) (by decide +kernel) (by decide)) (jfr_sq (jfr_if (j := 71) (jsl_run (by decide +kernel)) (by decide +kernel) (by decide)) (jfr_go (j := 97) (jsl_n (j := 76) (jsl_run (by decide +kernel)) (jsl_n (j := 79) (jsl_cv (ix := 45) mt_Mu_ringOf in_Mu_ringOf sl_Mu_ringOf rfl (by decide) (se_Mu_ringOf _) (by decide) (List.mem_of_getElem? (i := 1038) (by decide +kernel)) (by decide +kernel)) (jsl_n (j := 91) (jsl_run (by decide +kernel)) (jsl_n (j := 94) (jsl_cs (ix := 49) mt_In_bitCount st_In_bitCount (se_In_bitCount _) (by decide) (List.mem_of_getElem? (i := 1042) (by decide +kernel)) (by decide +kernel)) (jsl_cv (ix := 54) mt_Ri_addRing in_Ri_addRing sl_Ri_addRing rfl (by decide) (se_Ri_addRing _) (by decide) (List.mem_of_getElem? (i := 1043) (by decide +kernel)) (by decide +kernel)))))) (by decide +kernel) (by decide)) (by decide)) (by decide)) (jfr_go (j := 100) (jsl_run (by decide +kernel)) (by decide +kernel) (by decide)) (by decide)) (by decide)) (by decide)) (jfr_sq (jfr_sq (jfr_if (j := 110) (jsl_run (by decide +kernel)) (by decide +kernel) (by decide)) (jfr_go (j := 121) (jsl_n (j := 118) (jsl_run (by decide +kernel)) (jsl_cv (ix := 58) mt_Ri_addTurn in_Ri_addTurn sl_Ri_addTurn rfl (by decide) (se_Ri_addTurn _) (by decide) (List.mem_of_getElem? (i := 1048) (by decide +kernel)) (by decide +kernel))) (by decide +kernel) (by decide)) (by decide)) (jfr_rt (j := 121) (jsl_run (by decide +kernel)) (by decide +kernel)) (by decide)) (by decide)) (by decide)) (by decide)) (by decide))
theorem se_Ri_read (G : JG) : JSem G y_Ri_read c_Ri_read 5 none 2 q_Ri_read := jsem_of (by decide +kernel) rfl (by intro h; cases h) (fr_Ri_read G)
def y_Ct_enough : MethodName := ⟨"CellarTurns", "enough", "(I)I"⟩
abbrev c_Ct_enough : ByteArray := prog_1_method_15_code
theorem mt_Ct_enough : JMt y_Ct_enough c_Ct_enough 2 (some .int) 1 := ⟨(List.mem_of_getElem? (i := 1069) (by decide +kernel)), (List.mem_of_getElem? (i := 117) (by decide +kernel)), ⟨by decide +kernel, by decide +kernel⟩, by decide +kernel, by decide⟩
theorem in_Ct_enough : Cond.instanceMethod y_Ct_enough ∈ lw_tbl := (List.mem_of_getElem? (i := 1067) (by decide +kernel))
theorem sl_Ct_enough : Cond.selects y_Ct_enough.cls y_Ct_enough y_Ct_enough ∈ lw_tbl := (List.mem_of_getElem? (i := 1068) (by decide +kernel))
noncomputable def qp_Ct_enough : JP := (jb_sq (jb_sq (jb_if (jn (jx_run [(4, 0, 0), (42, 10, 2), (4, 0, 0), (42, 10, 5)]) (jn (jx_cv 2 6 q_Ri_read) (jx_run [(2, 1, 0), (0, 0, -1)]))) 7 24 16) 16 (jb_rt (jx_run [(4, 0, 0), (42, 10, 2), (40, 6, 2)]) 1)) 24 (jb_sq (jb_sq (jb_sq (jb_if (jx_run [(2, 1, 0)]) 2 51 28) 28 (jb_sq (jb_if (jx_run [(2, 1, 0), (4, 0, 0), (42, 10, 2), (40, 6, 2)]) 9 51 39) 39 (jb_go (jx_run [(4, 0, 0), (42, 10, 2), (42, 6, 0), (2, 1, 0), (50, 0, 0)]) 53))) 51 (jb_go (jx_run [(0, 0, -2)]) 53)) 53 (jb_rt (jx_run []) 1)))
noncomputable def q_Ct_enough : JF := jf_of qp_Ct_enough 2
set_option maxRecDepth 20000 in
theorem fr_Ct_enough (G : JG) : JFr G 10 false c_Ct_enough 3 2 (some .int) 0 qp_Ct_enough := (jfr_sq (jfr_sq (jfr_if (j := 13) (jsl_n (j := 8) (jsl_run (by decide +kernel)) (jsl_n (j := 11) (jsl_cv (ix := 192) mt_Ri_read in_Ri_read sl_Ri_read rfl (by decide) (se_Ri_read _) (by decide) (List.mem_of_getElem? (i := 1034) (by decide +kernel)) (by decide +kernel)) (jsl_run (by decide +kernel)))) (by decide +kernel) (by decide)) (jfr_rt (j := 23) (jsl_run (by decide +kernel)) (by decide +kernel)) (by decide)) (jfr_sq (jfr_sq (jfr_sq (jfr_if (j := 25) (jsl_run (by decide +kernel)) (by decide +kernel) (by decide)) (jfr_sq (jfr_if (j := 36) (jsl_run (by decide +kernel)) (by decide +kernel) (by decide)) (jfr_go (j := 48) (jsl_run (by decide +kernel)) (by decide +kernel) (by decide)) (by decide)) (by decide)) (jfr_go (j := 53) (jsl_run (by decide +kernel)) (by decide +kernel) (by decide)) (by decide)) (jfr_rt (j := 53) (jsl_run (by decide +kernel)) (by decide +kernel)) (by decide)) (by decide))
theorem se_Ct_enough (G : JG) : JSem G y_Ct_enough c_Ct_enough 2 (some .int) 3 q_Ct_enough := jsem_of (by decide +kernel) rfl (by intro h; cases h) (fr_Ct_enough G)
def y_Pl_put : MethodName := ⟨"CellarTurns$Plan", "put", "(II)V"⟩
abbrev c_Pl_put : ByteArray := prog_7_method_3_code
theorem mt_Pl_put : JMt y_Pl_put c_Pl_put 3 none 2 := ⟨(List.mem_of_getElem? (i := 892) (by decide +kernel)), (List.mem_of_getElem? (i := 126) (by decide +kernel)), ⟨by decide +kernel, by decide +kernel⟩, by decide +kernel, by decide⟩
theorem in_Pl_put : Cond.instanceMethod y_Pl_put ∈ lw_tbl := (List.mem_of_getElem? (i := 890) (by decide +kernel))
theorem sl_Pl_put : Cond.selects y_Pl_put.cls y_Pl_put y_Pl_put ∈ lw_tbl := (List.mem_of_getElem? (i := 891) (by decide +kernel))
noncomputable def qp_Pl_put : JP := (jb_sq (jb_sq (jb_if (jx_run [(4, 0, 0), (40, 4, 2), (0, 0, 30)]) 9 32 9) 9 (jb_sq (jb_if (jx_run [(2, 1, 0)]) 2 32 13) 13 (jb_sq (jb_if (jx_run [(2, 1, 0), (0, 0, 3)]) 9 32 18) 18 (jb_go (jx_run [(4, 0, 0), (42, 4, 1), (4, 0, 0), (40, 4, 2), (0, 0, 3), (12, 0, 0), (2, 1, 0), (10, 0, 0), (2, 2, 0), (55, 0, 0)]) 32)))) 32 (jb_rt (jx_run []) 0))
noncomputable def q_Pl_put : JF := jf_of qp_Pl_put 3
set_option maxRecDepth 20000 in
theorem fr_Pl_put (G : JG) : JFr G 4 false c_Pl_put 0 3 none 0 qp_Pl_put := (jfr_sq (jfr_sq (jfr_if (j := 6) (jsl_run (by decide +kernel)) (by decide +kernel) (by decide)) (jfr_sq (jfr_if (j := 10) (jsl_run (by decide +kernel)) (by decide +kernel) (by decide)) (jfr_sq (jfr_if (j := 15) (jsl_run (by decide +kernel)) (by decide +kernel) (by decide)) (jfr_go (j := 32) (jsl_run (by decide +kernel)) (by decide +kernel) (by decide)) (by decide)) (by decide)) (by decide)) (jfr_rt (j := 32) (jsl_run (by decide +kernel)) (by decide +kernel)) (by decide))
theorem se_Pl_put (G : JG) : JSem G y_Pl_put c_Pl_put 3 none 0 q_Pl_put := jsem_of (by decide +kernel) rfl (by intro h; cases h) (fr_Pl_put G)
def y_Pl_closeLine : MethodName := ⟨"CellarTurns$Plan", "closeLine", "(I)V"⟩
abbrev c_Pl_closeLine : ByteArray := prog_7_method_4_code
theorem mt_Pl_closeLine : JMt y_Pl_closeLine c_Pl_closeLine 2 none 1 := ⟨(List.mem_of_getElem? (i := 896) (by decide +kernel)), (List.mem_of_getElem? (i := 126) (by decide +kernel)), ⟨by decide +kernel, by decide +kernel⟩, by decide +kernel, by decide⟩
theorem in_Pl_closeLine : Cond.instanceMethod y_Pl_closeLine ∈ lw_tbl := (List.mem_of_getElem? (i := 894) (by decide +kernel))
theorem sl_Pl_closeLine : Cond.selects y_Pl_closeLine.cls y_Pl_closeLine y_Pl_closeLine ∈ lw_tbl := (List.mem_of_getElem? (i := 895) (by decide +kernel))
noncomputable def qp_Pl_closeLine : JP := (jb_sq (jb_sq (jb_if (jx_run [(4, 0, 0), (40, 4, 2), (0, 0, 30)]) 9 29 9) 9 (jb_go (jx_run [(4, 0, 0), (42, 4, 0), (4, 0, 0), (40, 4, 2), (2, 1, 0), (55, 0, 0), (4, 0, 0), (70, 0, 0), (40, 4, 2), (0, 0, 1), (10, 0, 0), (43, 4, 2)]) 29)) 29 (jb_rt (jx_run []) 0))
noncomputable def q_Pl_closeLine : JF := jf_of qp_Pl_closeLine 2
set_option maxRecDepth 20000 in
theorem fr_Pl_closeLine (G : JG) : JFr G 4 false c_Pl_closeLine 0 2 none 0 qp_Pl_closeLine := (jfr_sq (jfr_sq (jfr_if (j := 6) (jsl_run (by decide +kernel)) (by decide +kernel) (by decide)) (jfr_go (j := 29) (jsl_run (by decide +kernel)) (by decide +kernel) (by decide)) (by decide)) (jfr_rt (j := 29) (jsl_run (by decide +kernel)) (by decide +kernel)) (by decide))
theorem se_Pl_closeLine (G : JG) : JSem G y_Pl_closeLine c_Pl_closeLine 2 none 0 q_Pl_closeLine := jsem_of (by decide +kernel) rfl (by intro h; cases h) (fr_Pl_closeLine G)
def y_Mu_playTurn : MethodName := ⟨"CellarTurns$Muddle", "playTurn", "(II)V"⟩
abbrev c_Mu_playTurn : ByteArray := prog_6_method_10_code
theorem mt_Mu_playTurn : JMt y_Mu_playTurn c_Mu_playTurn 4 none 2 := ⟨(List.mem_of_getElem? (i := 944) (by decide +kernel)), (List.mem_of_getElem? (i := 129) (by decide +kernel)), ⟨by decide +kernel, by decide +kernel⟩, by decide +kernel, by decide⟩
theorem in_Mu_playTurn : Cond.instanceMethod y_Mu_playTurn ∈ lw_tbl := (List.mem_of_getElem? (i := 942) (by decide +kernel))
theorem sl_Mu_playTurn : Cond.selects y_Mu_playTurn.cls y_Mu_playTurn y_Mu_playTurn ∈ lw_tbl := (List.mem_of_getElem? (i := 943) (by decide +kernel))
noncomputable def qp_Mu_playTurn : JP := (jb_rt (jn (jx_run [(4, 0, 0), (40, 3, 8), (5, 3, 0), (4, 0, 0), (2, 1, 0), (2, 2, 0)]) (jn (jx_cv 3 3 q_Mu_change) (jn (jx_run [(4, 0, 0), (70, 0, 0), (40, 3, 9), (4, 0, 0), (42, 3, 3), (42, 0, 7), (4, 0, 0)]) (jn (jx_cv 1 3 q_Mu_wrongOnes) (jn (jx_run [(4, 0, 0), (40, 3, 7), (0, 0, 1), (11, 0, 0), (2, 3, 0)]) (jn (jx_cv 4 1 q_La_costOf) (jx_run [(10, 0, 0), (43, 3, 9)]))))))) 0)
noncomputable def q_Mu_playTurn : JF := jf_of qp_Mu_playTurn 4
set_option maxRecDepth 20000 in
theorem fr_Mu_playTurn (G : JG) : JFr G 3 false c_Mu_playTurn 3 4 none 0 qp_Mu_playTurn := (jfr_rt (j := 41) (jsl_n (j := 8) (jsl_run (by decide +kernel)) (jsl_n (j := 11) (jsl_cv (ix := 112) mt_Mu_change in_Mu_change sl_Mu_change rfl (by decide) (se_Mu_change _) (by decide) (List.mem_of_getElem? (i := 945) (by decide +kernel)) (by decide +kernel)) (jsl_n (j := 24) (jsl_run (by decide +kernel)) (jsl_n (j := 27) (jsl_cv (ix := 120) mt_Mu_wrongOnes in_Mu_wrongOnes sl_Mu_wrongOnes rfl (by decide) (se_Mu_wrongOnes _) (by decide) (List.mem_of_getElem? (i := 957) (by decide +kernel)) (by decide +kernel)) (jsl_n (j := 34) (jsl_run (by decide +kernel)) (jsl_n (j := 37) (jsl_cv (ix := 123) mt_La_costOf in_La_costOf sl_La_costOf rfl (by decide) (se_La_costOf _) (by decide) (List.mem_of_getElem? (i := 962) (by decide +kernel)) (by decide +kernel)) (jsl_run (by decide +kernel)))))))) (by decide +kernel))
theorem se_Mu_playTurn (G : JG) : JSem G y_Mu_playTurn c_Mu_playTurn 4 none 3 q_Mu_playTurn := jsem_of (by decide +kernel) rfl (by intro h; cases h) (fr_Mu_playTurn G)
def y_Ct_playDrawnTurns : MethodName := ⟨"CellarTurns", "playDrawnTurns", "(J)J"⟩
abbrev c_Ct_playDrawnTurns : ByteArray := prog_1_method_36_code
theorem mt_Ct_playDrawnTurns : JMt y_Ct_playDrawnTurns c_Ct_playDrawnTurns 11 (some .long) 1 := ⟨(List.mem_of_getElem? (i := 1312) (by decide +kernel)), (List.mem_of_getElem? (i := 117) (by decide +kernel)), ⟨by decide +kernel, by decide +kernel⟩, by decide +kernel, by decide⟩
theorem in_Ct_playDrawnTurns : Cond.instanceMethod y_Ct_playDrawnTurns ∈ lw_tbl := (List.mem_of_getElem? (i := 1311) (by decide +kernel))
theorem sl_Ct_playDrawnTurns : Cond.selects y_Ct_playDrawnTurns.cls y_Ct_playDrawnTurns y_Ct_playDrawnTurns ∈ lw_tbl := (List.mem_of_getElem? (i := 45) (by decide +kernel))
noncomputable def qp_Ct_playDrawnTurns : JP := (jb_sq (jb_go (jx_run [(3, 1, 0), (6, 3, 0), (0, 0, 0), (5, 5, 0)]) 5) 5 (jb_sq (jb_lp 5 (jb_sq (jb_if (jx_run [(2, 5, 0), (0, 0, 6)]) 9 117 12) 12 (jb_sq (jb_sq (jb_if (jn (jx_run [(4, 0, 0), (42, 10, 6)]) (jn (jx_cv 1 3 q_Mu_openPairs) (jn (jx_run [(6, 6, 0), (3, 6, 0)]) (jn (jx_cs 1 q_Lo_bitCount) (jx_run [(5, 8, 0), (2, 8, 0)]))))) 1 36 33) 33 (jb_go (jx_run []) 117)) 36 (jb_sq (jb_go (jx_run [(3, 3, 0), (1, 0, 1103515245), (24, 0, 0), (1, 0, 12345), (22, 0, 0), (1, 0, 2147483648), (26, 0, 0), (6, 3, 0), (3, 3, 0), (1, 0, 65536), (25, 0, 0), (2, 8, 0), (34, 0, 0), (26, 0, 0), (35, 0, 0), (5, 9, 0), (0, 0, 0), (5, 10, 0)]) 65) 65 (jb_sq (jb_lp 65 (jb_sq (jb_if (jx_run [(2, 10, 0), (2, 9, 0)]) 9 87 72) 72 (jb_go (jx_run [(3, 6, 0), (3, 6, 0), (1, 0, 1), (23, 0, 0), (27, 0, 0), (6, 6, 0), (8, 10, 1)]) 65))) 87 (jb_go (jn (jx_run [(3, 6, 0)]) (jn (jx_cs 1 q_Lo_numberOfTrailingZeros) (jn (jx_run [(5, 10, 0), (4, 0, 0), (42, 10, 6), (2, 10, 0)]) (jn (jx_cs 1 q_Ct_lesserOf) (jn (jx_run [(2, 10, 0)]) (jn (jx_cs 1 q_Ct_greaterOf) (jn (jx_cv 3 3 q_Mu_playTurn) (jx_run [(8, 5, 1)])))))))) 5)))))) 117 (jb_rt (jx_run [(3, 3, 0)]) 2)))
noncomputable def q_Ct_playDrawnTurns : JF := jf_of qp_Ct_playDrawnTurns 11
set_option maxRecDepth 20000 in
theorem fr_Ct_playDrawnTurns (G : JG) : JFr G 10 false c_Ct_playDrawnTurns 4 11 (some .long) 0 qp_Ct_playDrawnTurns := (jfr_sq (jfr_go (j := 5) (jsl_run (by decide +kernel)) (by decide +kernel) (by decide)) (jfr_sq (jfr_lp (jfr_sq (jfr_if (j := 9) (jsl_run (by decide +kernel)) (by decide +kernel) (by decide)) (jfr_sq (jfr_sq (jfr_if (j := 30) (jsl_n (j := 16) (jsl_run (by decide +kernel)) (jsl_n (j := 19) (jsl_cv (ix := 204) mt_Mu_openPairs in_Mu_openPairs sl_Mu_openPairs rfl (by decide) (se_Mu_openPairs _) (by decide) (List.mem_of_getElem? (i := 1056) (by decide +kernel)) (by decide +kernel)) (jsl_n (j := 23) (jsl_run (by decide +kernel)) (jsl_n (j := 26) (jsl_cs (ix := 208) mt_Lo_bitCount st_Lo_bitCount (se_Lo_bitCount _) (by decide) (List.mem_of_getElem? (i := 1060) (by decide +kernel)) (by decide +kernel)) (jsl_run (by decide +kernel)))))) (by decide +kernel) (by decide)) (jfr_go (j := 33) (jsl_run (by decide +kernel)) (by decide +kernel) (by decide)) (by decide)) (jfr_sq (jfr_go (j := 65) (jsl_run (by decide +kernel)) (by decide +kernel) (by decide)) (jfr_sq (jfr_lp (jfr_sq (jfr_if (j := 69) (jsl_run (by decide +kernel)) (by decide +kernel) (by decide)) (jfr_go (j := 84) (jsl_run (by decide +kernel)) (by decide +kernel) (by decide)) (by decide)) (by decide)) (jfr_go (j := 114) (jsl_n (j := 89) (jsl_run (by decide +kernel)) (jsl_n (j := 92) (jsl_cs (ix := 332) mt_Lo_numberOfTrailingZeros st_Lo_numberOfTrailingZeros (se_Lo_numberOfTrailingZeros _) (by decide) (List.mem_of_getElem? (i := 1317) (by decide +kernel)) (by decide +kernel)) (jsl_n (j := 100) (jsl_run (by decide +kernel)) (jsl_n (j := 103) (jsl_cs (ix := 335) mt_Ct_lesserOf st_Ct_lesserOf (se_Ct_lesserOf _) (by decide) (List.mem_of_getElem? (i := 1318) (by decide +kernel)) (by decide +kernel)) (jsl_n (j := 105) (jsl_run (by decide +kernel)) (jsl_n (j := 108) (jsl_cs (ix := 338) mt_Ct_greaterOf st_Ct_greaterOf (se_Ct_greaterOf _) (by decide) (List.mem_of_getElem? (i := 1319) (by decide +kernel)) (by decide +kernel)) (jsl_n (j := 111) (jsl_cv (ix := 149) mt_Mu_playTurn in_Mu_playTurn sl_Mu_playTurn rfl (by decide) (se_Mu_playTurn _) (by decide) (List.mem_of_getElem? (i := 941) (by decide +kernel)) (by decide +kernel)) (jsl_run (by decide +kernel))))))))) (by decide +kernel) (by decide)) (by decide)) (by decide)) (by decide)) (by decide)) (by decide)) (jfr_rt (j := 118) (jsl_run (by decide +kernel)) (by decide +kernel)) (by decide)) (by decide))
theorem se_Ct_playDrawnTurns (G : JG) : JSem G y_Ct_playDrawnTurns c_Ct_playDrawnTurns 11 (some .long) 4 q_Ct_playDrawnTurns := jsem_of (by decide +kernel) rfl (by intro h; cases h) (fr_Ct_playDrawnTurns G)
def y_Tp_addBytes : MethodName := ⟨"CellarTurns$Tape", "addBytes", "(J)V"⟩
abbrev c_Tp_addBytes : ByteArray := prog_12_method_2_code
theorem mt_Tp_addBytes : JMt y_Tp_addBytes c_Tp_addBytes 6 none 1 := ⟨(List.mem_of_getElem? (i := 609) (by decide +kernel)), (List.mem_of_getElem? (i := 118) (by decide +kernel)), ⟨by decide +kernel, by decide +kernel⟩, by decide +kernel, by decide⟩
theorem in_Tp_addBytes : Cond.instanceMethod y_Tp_addBytes ∈ lw_tbl := (List.mem_of_getElem? (i := 607) (by decide +kernel))
theorem sl_Tp_addBytes : Cond.selects y_Tp_addBytes.cls y_Tp_addBytes y_Tp_addBytes ∈ lw_tbl := (List.mem_of_getElem? (i := 608) (by decide +kernel))
noncomputable def qp_Tp_addBytes : JP := (jb_sq (jb_go (jx_run [(0, 0, 56), (5, 3, 0)]) 3) 3 (jb_sq (jb_lp 3 (jb_sq (jb_if (jx_run [(2, 3, 0)]) 2 88 7) 7 (jb_sq (jb_sq (jb_sq (jb_if (jx_run [(3, 1, 0), (2, 3, 0), (32, 0, 0), (35, 0, 0), (0, 0, 255), (16, 0, 0), (5, 4, 0), (2, 4, 0), (0, 0, 10)]) 6 38 24) 24 (jb_sq (jb_sq (jb_if (jx_run [(2, 4, 0), (0, 0, 32)]) 8 42 31) 31 (jb_if (jx_run [(2, 4, 0), (0, 0, 126)]) 10 42 38)) 42 (jb_go (jx_run [(0, 0, 0)]) 43))) 38 (jb_go (jx_run [(0, 0, 1)]) 43)) 43 (jb_sq (jb_sq (jb_if (jx_run [(5, 5, 0), (2, 5, 0)]) 0 82 50) 50 (jb_sq (jb_if (jx_run [(4, 0, 0), (40, 9, 1), (0, 0, 1000)]) 9 82 60) 60 (jb_go (jx_run [(4, 0, 0), (42, 9, 0), (4, 0, 0), (40, 9, 1), (2, 4, 0), (36, 0, 0), (57, 0, 0), (4, 0, 0), (70, 0, 0), (40, 9, 1), (0, 0, 1), (10, 0, 0), (43, 9, 1)]) 82))) 82 (jb_go (jx_run [(8, 3, -8)]) 3))))) 88 (jb_rt (jx_run []) 0)))
noncomputable def q_Tp_addBytes : JF := jf_of qp_Tp_addBytes 6
set_option maxRecDepth 20000 in
theorem fr_Tp_addBytes (G : JG) : JFr G 9 false c_Tp_addBytes 0 6 none 0 qp_Tp_addBytes := (jfr_sq (jfr_go (j := 3) (jsl_run (by decide +kernel)) (by decide +kernel) (by decide)) (jfr_sq (jfr_lp (jfr_sq (jfr_if (j := 4) (jsl_run (by decide +kernel)) (by decide +kernel) (by decide)) (jfr_sq (jfr_sq (jfr_sq (jfr_if (j := 21) (jsl_run (by decide +kernel)) (by decide +kernel) (by decide)) (jfr_sq (jfr_sq (jfr_if (j := 28) (jsl_run (by decide +kernel)) (by decide +kernel) (by decide)) (jfr_if (j := 35) (jsl_run (by decide +kernel)) (by decide +kernel) (by decide)) (by decide)) (jfr_go (j := 43) (jsl_run (by decide +kernel)) (by decide +kernel) (by decide)) (by decide)) (by decide)) (jfr_go (j := 39) (jsl_run (by decide +kernel)) (by decide +kernel) (by decide)) (by decide)) (jfr_sq (jfr_sq (jfr_if (j := 47) (jsl_run (by decide +kernel)) (by decide +kernel) (by decide)) (jfr_sq (jfr_if (j := 57) (jsl_run (by decide +kernel)) (by decide +kernel) (by decide)) (jfr_go (j := 82) (jsl_run (by decide +kernel)) (by decide +kernel) (by decide)) (by decide)) (by decide)) (jfr_go (j := 85) (jsl_run (by decide +kernel)) (by decide +kernel) (by decide)) (by decide)) (by decide)) (by decide)) (by decide)) (jfr_rt (j := 88) (jsl_run (by decide +kernel)) (by decide +kernel)) (by decide)) (by decide))
theorem se_Tp_addBytes (G : JG) : JSem G y_Tp_addBytes c_Tp_addBytes 6 none 0 q_Tp_addBytes := jsem_of (by decide +kernel) rfl (by intro h; cases h) (fr_Tp_addBytes G)
def y_Ct_feed : MethodName := ⟨"CellarTurns", "feed", "(JJJ)I"⟩
abbrev c_Ct_feed : ByteArray := prog_1_method_2_code
theorem mt_Ct_feed : JMt y_Ct_feed c_Ct_feed 7 (some .int) 3 := ⟨(List.mem_of_getElem? (i := 605) (by decide +kernel)), (List.mem_of_getElem? (i := 117) (by decide +kernel)), ⟨by decide +kernel, by decide +kernel⟩, by decide +kernel, by decide⟩
theorem in_Ct_feed : Cond.instanceMethod y_Ct_feed ∈ lw_tbl := (List.mem_of_getElem? (i := 603) (by decide +kernel))
theorem sl_Ct_feed : Cond.selects y_Ct_feed.cls y_Ct_feed y_Ct_feed ∈ lw_tbl := (List.mem_of_getElem? (i := 604) (by decide +kernel))
noncomputable def qp_Ct_feed : JP := (jb_rt (jn (jx_run [(4, 0, 0), (42, 10, 0), (3, 1, 0)]) (jn (jx_cv 2 9 q_Tp_addBytes) (jn (jx_run [(4, 0, 0), (42, 10, 0), (3, 3, 0)]) (jn (jx_cv 2 9 q_Tp_addBytes) (jn (jx_run [(4, 0, 0), (42, 10, 0), (3, 5, 0)]) (jn (jx_cv 2 9 q_Tp_addBytes) (jx_run [(4, 0, 0), (42, 10, 0), (40, 9, 1)]))))))) 1)
noncomputable def q_Ct_feed : JF := jf_of qp_Ct_feed 7
set_option maxRecDepth 20000 in
theorem fr_Ct_feed (G : JG) : JFr G 10 false c_Ct_feed 1 7 (some .int) 0 qp_Ct_feed := (jfr_rt (j := 32) (jsl_n (j := 5) (jsl_run (by decide +kernel)) (jsl_n (j := 8) (jsl_cv (ix := 85) mt_Tp_addBytes in_Tp_addBytes sl_Tp_addBytes rfl (by decide) (se_Tp_addBytes _) (by decide) (List.mem_of_getElem? (i := 606) (by decide +kernel)) (by decide +kernel)) (jsl_n (j := 13) (jsl_run (by decide +kernel)) (jsl_n (j := 16) (jsl_cv (ix := 85) mt_Tp_addBytes in_Tp_addBytes sl_Tp_addBytes rfl (by decide) (se_Tp_addBytes _) (by decide) (List.mem_of_getElem? (i := 606) (by decide +kernel)) (by decide +kernel)) (jsl_n (j := 22) (jsl_run (by decide +kernel)) (jsl_n (j := 25) (jsl_cv (ix := 85) mt_Tp_addBytes in_Tp_addBytes sl_Tp_addBytes rfl (by decide) (se_Tp_addBytes _) (by decide) (List.mem_of_getElem? (i := 606) (by decide +kernel)) (by decide +kernel)) (jsl_run (by decide +kernel)))))))) (by decide +kernel))
theorem se_Ct_feed (G : JG) : JSem G y_Ct_feed c_Ct_feed 7 (some .int) 1 q_Ct_feed := jsem_of (by decide +kernel) rfl (by intro h; cases h) (fr_Ct_feed G)
def y_Mu_allowsFetch : MethodName := ⟨"CellarTurns$Muddle", "allowsFetch", "(I)Z"⟩
abbrev c_Mu_allowsFetch : ByteArray := prog_6_method_8_code
theorem mt_Mu_allowsFetch : JMt y_Mu_allowsFetch c_Mu_allowsFetch 2 (some .boolean) 1 := ⟨(List.mem_of_getElem? (i := 1003) (by decide +kernel)), (List.mem_of_getElem? (i := 129) (by decide +kernel)), ⟨by decide +kernel, by decide +kernel⟩, by decide +kernel, by decide⟩
theorem in_Mu_allowsFetch : Cond.instanceMethod y_Mu_allowsFetch ∈ lw_tbl := (List.mem_of_getElem? (i := 1001) (by decide +kernel))
theorem sl_Mu_allowsFetch : Cond.selects y_Mu_allowsFetch.cls y_Mu_allowsFetch y_Mu_allowsFetch ∈ lw_tbl := (List.mem_of_getElem? (i := 1002) (by decide +kernel))
noncomputable def qp_Mu_allowsFetch : JP := (jb_sq (jb_sq (jb_sq (jb_if (jn (jx_run [(4, 0, 0), (42, 3, 3), (2, 1, 0)]) (jx_cv 2 0 q_Ho_has)) 0 37 11) 11 (jb_sq (jb_if (jx_run [(4, 0, 0), (42, 3, 3), (40, 0, 9), (4, 0, 0), (40, 3, 4), (0, 0, -1), (18, 0, 0), (16, 0, 0), (2, 1, 0), (20, 0, 0), (0, 0, 1), (16, 0, 0), (0, 0, 1)]) 7 37 33) 33 (jb_go (jx_run [(0, 0, 1)]) 38))) 37 (jb_go (jx_run [(0, 0, 0)]) 38)) 38 (jb_rt (jx_run []) 4))
noncomputable def q_Mu_allowsFetch : JF := jf_of qp_Mu_allowsFetch 2
set_option maxRecDepth 20000 in
theorem fr_Mu_allowsFetch (G : JG) : JFr G 3 false c_Mu_allowsFetch 1 2 (some .boolean) 0 qp_Mu_allowsFetch := (jfr_sq (jfr_sq (jfr_sq (jfr_if (j := 8) (jsl_n (j := 5) (jsl_run (by decide +kernel)) (jsl_cv (ix := 92) mt_Ho_has in_Ho_has sl_Ho_has rfl (by decide) (se_Ho_has _) (by decide) (List.mem_of_getElem? (i := 917) (by decide +kernel)) (by decide +kernel))) (by decide +kernel) (by decide)) (jfr_sq (jfr_if (j := 30) (jsl_run (by decide +kernel)) (by decide +kernel) (by decide)) (jfr_go (j := 34) (jsl_run (by decide +kernel)) (by decide +kernel) (by decide)) (by decide)) (by decide)) (jfr_go (j := 38) (jsl_run (by decide +kernel)) (by decide +kernel) (by decide)) (by decide)) (jfr_rt (j := 38) (jsl_run (by decide +kernel)) (by decide +kernel)) (by decide))
theorem se_Mu_allowsFetch (G : JG) : JSem G y_Mu_allowsFetch c_Mu_allowsFetch 2 (some .boolean) 1 q_Mu_allowsFetch := jsem_of (by decide +kernel) rfl (by intro h; cases h) (fr_Mu_allowsFetch G)
def y_Mu_playFetch : MethodName := ⟨"CellarTurns$Muddle", "playFetch", "(I)V"⟩
abbrev c_Mu_playFetch : ByteArray := prog_6_method_12_code
theorem mt_Mu_playFetch : JMt y_Mu_playFetch c_Mu_playFetch 2 none 1 := ⟨(List.mem_of_getElem? (i := 1007) (by decide +kernel)), (List.mem_of_getElem? (i := 129) (by decide +kernel)), ⟨by decide +kernel, by decide +kernel⟩, by decide +kernel, by decide⟩
theorem in_Mu_playFetch : Cond.instanceMethod y_Mu_playFetch ∈ lw_tbl := (List.mem_of_getElem? (i := 1005) (by decide +kernel))
theorem sl_Mu_playFetch : Cond.selects y_Mu_playFetch.cls y_Mu_playFetch y_Mu_playFetch ∈ lw_tbl := (List.mem_of_getElem? (i := 1006) (by decide +kernel))
noncomputable def qp_Mu_playFetch : JP := (jb_rt (jn (jx_run [(4, 0, 0), (70, 0, 0), (40, 3, 4), (0, 0, 1), (2, 1, 0), (19, 0, 0), (17, 0, 0), (43, 3, 4), (4, 0, 0), (70, 0, 0), (40, 3, 9), (4, 0, 0), (42, 3, 3), (42, 0, 2), (2, 1, 0), (50, 0, 0), (10, 0, 0), (43, 3, 9), (4, 0, 0), (2, 1, 0)]) (jx_cv 2 3 q_Mu_settle)) 0)
noncomputable def q_Mu_playFetch : JF := jf_of qp_Mu_playFetch 2
set_option maxRecDepth 20000 in
theorem fr_Mu_playFetch (G : JG) : JFr G 3 false c_Mu_playFetch 1 2 none 0 qp_Mu_playFetch := (jfr_rt (j := 35) (jsl_n (j := 32) (jsl_run (by decide +kernel)) (jsl_cv (ix := 72) mt_Mu_settle in_Mu_settle sl_Mu_settle rfl (by decide) (se_Mu_settle _) (by decide) (List.mem_of_getElem? (i := 426) (by decide +kernel)) (by decide +kernel))) (by decide +kernel))
theorem se_Mu_playFetch (G : JG) : JSem G y_Mu_playFetch c_Mu_playFetch 2 none 1 q_Mu_playFetch := jsem_of (by decide +kernel) rfl (by intro h; cases h) (fr_Mu_playFetch G)
def y_Se_leadsHome : MethodName := ⟨"CellarTurns$Search", "leadsHome", "(I)Z"⟩
abbrev c_Se_leadsHome : ByteArray := prog_10_method_4_code
theorem mt_Se_leadsHome : JMt y_Se_leadsHome c_Se_leadsHome 7 (some .boolean) 1 := ⟨(List.mem_of_getElem? (i := 1186) (by decide +kernel)), (List.mem_of_getElem? (i := 128) (by decide +kernel)), ⟨by decide +kernel, by decide +kernel⟩, by decide +kernel, by decide⟩
theorem in_Se_leadsHome : Cond.instanceMethod y_Se_leadsHome ∈ lw_tbl := (List.mem_of_getElem? (i := 1185) (by decide +kernel))
theorem sl_Se_leadsHome : Cond.selects y_Se_leadsHome.cls y_Se_leadsHome y_Se_leadsHome ∈ lw_tbl := (List.mem_of_getElem? (i := 34) (by decide +kernel))
noncomputable def qp_Se_leadsHome (Ψ : Nat → JF) : JP := (jb_sq (jb_sq (jb_if (jx_run [(2, 1, 0)]) 4 20 4) 4 (jb_sq (jb_sq (jb_sq (jb_if (jx_run [(4, 0, 0), (42, 7, 0), (40, 3, 6)]) 1 18 14) 14 (jb_go (jx_run [(0, 0, 1)]) 19)) 18 (jb_go (jx_run [(0, 0, 0)]) 19)) 19 (jb_rt (jx_run []) 4))) 20 (jb_sq (jb_go (jn (jx_run [(4, 0, 0), (42, 7, 0), (2, 1, 0)]) (jn (jx_cv 2 3 q_Mu_hopefulPairs) (jn (jx_run [(6, 2, 0), (0, 0, 0), (5, 4, 0), (3, 2, 0)]) (jn (jx_cs 1 q_Lo_bitCount) (jx_run [(5, 5, 0)]))))) 38) 38 (jb_sq (jb_lp 38 (jb_sq (jb_if (jx_run [(2, 5, 0)]) 5 99 43) 43 (jb_sq (jb_if (jx_run [(2, 4, 0)]) 1 99 48) 48 (jb_go (jn (jx_run [(3, 2, 0)]) (jn (jx_cs 1 q_Lo_numberOfTrailingZeros) (jn (jx_run [(5, 6, 0), (3, 2, 0), (3, 2, 0), (1, 0, 1), (23, 0, 0), (27, 0, 0), (6, 2, 0), (4, 0, 0), (2, 1, 0), (2, 6, 0)]) (jn (jx_cv 3 7 q_Se_tryTurn) (jn (jx_run [(4, 0, 0), (2, 1, 0), (0, 0, 1), (11, 0, 0)]) (jn (jx_cv 2 7 (Ψ 0)) (jn (jx_run [(5, 4, 0), (4, 0, 0), (42, 7, 0), (2, 6, 0)]) (jn (jx_cs 1 q_Ct_lesserOf) (jn (jx_run [(2, 6, 0)]) (jn (jx_cs 1 q_Ct_greaterOf) (jn (jx_cv 3 3 q_Mu_changeBack) (jx_run [(8, 5, -1)])))))))))))) 38)))) 99 (jb_rt (jx_run [(2, 4, 0)]) 4))))
noncomputable def g_Se_leadsHome : Nat → Nat → JF
  | 0 => fun _ _ _ => none
  | n + 1 => fun w => match w with
    | 0 => jf_of (qp_Se_leadsHome (g_Se_leadsHome n)) 7
    | _ => fun _ _ => none
set_option maxRecDepth 20000 in
theorem fr_Se_leadsHome (G : JG) (Ψ : Nat → JF) (d : Nat) (hd : 3 ≤ d + 1) (hΨ0 : JSem G y_Se_leadsHome c_Se_leadsHome 7 (some .boolean) d (Ψ 0)) : JFr G 7 false c_Se_leadsHome (d + 1) 7 (some .boolean) 0 (qp_Se_leadsHome Ψ) := (jfr_sq (jfr_sq (jfr_if (j := 1) (jsl_run (by decide +kernel)) (by decide +kernel) (by decide)) (jfr_sq (jfr_sq (jfr_sq (jfr_if (j := 11) (jsl_run (by decide +kernel)) (by decide +kernel) (by decide)) (jfr_go (j := 15) (jsl_run (by decide +kernel)) (by decide +kernel) (by decide)) (by decide)) (jfr_go (j := 19) (jsl_run (by decide +kernel)) (by decide +kernel) (by decide)) (by decide)) (jfr_rt (j := 19) (jsl_run (by decide +kernel)) (by decide +kernel)) (by decide)) (by decide)) (jfr_sq (jfr_go (j := 38) (jsl_n (j := 25) (jsl_run (by decide +kernel)) (jsl_n (j := 28) (jsl_cv (ix := 51) mt_Mu_hopefulPairs in_Mu_hopefulPairs sl_Mu_hopefulPairs rfl (by decide) (se_Mu_hopefulPairs _) (by omega) (List.mem_of_getElem? (i := 1187) (by decide +kernel)) (by decide +kernel)) (jsl_n (j := 33) (jsl_run (by decide +kernel)) (jsl_n (j := 36) (jsl_cs (ix := 55) mt_Lo_bitCount st_Lo_bitCount (se_Lo_bitCount _) (by omega) (List.mem_of_getElem? (i := 1115) (by decide +kernel)) (by decide +kernel)) (jsl_run (by decide +kernel)))))) (by decide +kernel) (by decide)) (jfr_sq (jfr_lp (jfr_sq (jfr_if (j := 40) (jsl_run (by decide +kernel)) (by decide +kernel) (by decide)) (jfr_sq (jfr_if (j := 45) (jsl_run (by decide +kernel)) (by decide +kernel) (by decide)) (jfr_go (j := 96) (jsl_n (j := 49) (jsl_run (by decide +kernel)) (jsl_n (j := 52) (jsl_cs (ix := 61) mt_Lo_numberOfTrailingZeros st_Lo_numberOfTrailingZeros (se_Lo_numberOfTrailingZeros _) (by omega) (List.mem_of_getElem? (i := 1116) (by decide +kernel)) (by decide +kernel)) (jsl_n (j := 64) (jsl_run (by decide +kernel)) (jsl_n (j := 67) (jsl_cv (ix := 64) mt_Se_tryTurn in_Se_tryTurn sl_Se_tryTurn rfl (by decide) (se_Se_tryTurn _) (by omega) (List.mem_of_getElem? (i := 1133) (by decide +kernel)) (by decide +kernel)) (jsl_n (j := 71) (jsl_run (by decide +kernel)) (jsl_n (j := 74) (jsl_cv (ix := 42) mt_Se_leadsHome in_Se_leadsHome sl_Se_leadsHome rfl (by decide) (hΨ0) (by omega) (List.mem_of_getElem? (i := 1183) (by decide +kernel)) (by decide +kernel)) (jsl_n (j := 82) (jsl_run (by decide +kernel)) (jsl_n (j := 85) (jsl_csN (ix := 68) mt_Ct_lesserOf st_Ct_lesserOf (se_Ct_lesserOf _) (by omega) (List.mem_of_getElem? (i := 1123) (by decide +kernel)) (by decide +kernel)) (jsl_n (j := 87) (jsl_run (by decide +kernel)) (jsl_n (j := 90) (jsl_csN (ix := 72) mt_Ct_greaterOf st_Ct_greaterOf (se_Ct_greaterOf _) (by omega) (List.mem_of_getElem? (i := 1126) (by decide +kernel)) (by decide +kernel)) (jsl_n (j := 93) (jsl_cv (ix := 75) mt_Mu_changeBack in_Mu_changeBack sl_Mu_changeBack rfl (by decide) (se_Mu_changeBack _) (by omega) (List.mem_of_getElem? (i := 1138) (by decide +kernel)) (by decide +kernel)) (jsl_run (by decide +kernel))))))))))))) (by decide +kernel) (by decide)) (by decide)) (by decide)) (by decide)) (jfr_rt (j := 101) (jsl_run (by decide +kernel)) (by decide +kernel)) (by decide)) (by decide)) (by decide))
theorem se_g_Se_leadsHome (G : JG) (n : Nat) : JSem G y_Se_leadsHome c_Se_leadsHome 7 (some .boolean) (3 + n) (g_Se_leadsHome n 0) := by
  induction n with
  | zero => exact fun _ _ _ _ h => by cases h
  | succ n ih =>
    have h0 := ih
    exact jsem_of (by decide +kernel) rfl (by intro h; cases h) (fr_Se_leadsHome G (g_Se_leadsHome n) (3 + n) (by omega) h0)
noncomputable abbrev q_Se_leadsHome : JF := g_Se_leadsHome 40 0
theorem se_Se_leadsHome (G : JG) : JSem G y_Se_leadsHome c_Se_leadsHome 7 (some .boolean) 43 q_Se_leadsHome := (se_g_Se_leadsHome G 40)
def y_Ct_home : MethodName := ⟨"CellarTurns", "home", "(I)I"⟩
abbrev c_Ct_home : ByteArray := prog_1_method_16_code
theorem mt_Ct_home : JMt y_Ct_home c_Ct_home 2 (some .int) 1 := ⟨(List.mem_of_getElem? (i := 1073) (by decide +kernel)), (List.mem_of_getElem? (i := 117) (by decide +kernel)), ⟨by decide +kernel, by decide +kernel⟩, by decide +kernel, by decide⟩
theorem in_Ct_home : Cond.instanceMethod y_Ct_home ∈ lw_tbl := (List.mem_of_getElem? (i := 1071) (by decide +kernel))
theorem sl_Ct_home : Cond.selects y_Ct_home.cls y_Ct_home y_Ct_home ∈ lw_tbl := (List.mem_of_getElem? (i := 1072) (by decide +kernel))
noncomputable def qp_Ct_home : JP := (jb_sq (jb_sq (jb_if (jn (jx_run [(4, 0, 0), (42, 10, 9), (2, 1, 0)]) (jx_cv 2 0 q_Ho_has)) 1 13 11) 11 (jb_rt (jx_run [(0, 0, -1)]) 1)) 13 (jb_rt (jn (jx_run [(4, 0, 0), (42, 10, 2), (4, 0, 0), (42, 10, 5)]) (jn (jx_cv 2 6 q_Ri_read) (jx_run [(4, 0, 0), (42, 10, 2), (42, 6, 1), (2, 1, 0), (50, 0, 0)]))) 1))
noncomputable def q_Ct_home : JF := jf_of qp_Ct_home 2
set_option maxRecDepth 20000 in
theorem fr_Ct_home (G : JG) : JFr G 10 false c_Ct_home 3 2 (some .int) 0 qp_Ct_home := (jfr_sq (jfr_sq (jfr_if (j := 8) (jsl_n (j := 5) (jsl_run (by decide +kernel)) (jsl_cv (ix := 113) mt_Ho_has in_Ho_has sl_Ho_has rfl (by decide) (se_Ho_has _) (by decide) (List.mem_of_getElem? (i := 901) (by decide +kernel)) (by decide +kernel))) (by decide +kernel) (by decide)) (jfr_rt (j := 12) (jsl_run (by decide +kernel)) (by decide +kernel)) (by decide)) (jfr_rt (j := 33) (jsl_n (j := 21) (jsl_run (by decide +kernel)) (jsl_n (j := 24) (jsl_cv (ix := 192) mt_Ri_read in_Ri_read sl_Ri_read rfl (by decide) (se_Ri_read _) (by decide) (List.mem_of_getElem? (i := 1034) (by decide +kernel)) (by decide +kernel)) (jsl_run (by decide +kernel)))) (by decide +kernel)) (by decide))
theorem se_Ct_home (G : JG) : JSem G y_Ct_home c_Ct_home 2 (some .int) 3 q_Ct_home := jsem_of (by decide +kernel) rfl (by intro h; cases h) (fr_Ct_home G)
def y_Mu_allows : MethodName := ⟨"CellarTurns$Muddle", "allows", "(II)Z"⟩
abbrev c_Mu_allows : ByteArray := prog_6_method_6_code
theorem mt_Mu_allows : JMt y_Mu_allows c_Mu_allows 3 (some .boolean) 2 := ⟨(List.mem_of_getElem? (i := 916) (by decide +kernel)), (List.mem_of_getElem? (i := 129) (by decide +kernel)), ⟨by decide +kernel, by decide +kernel⟩, by decide +kernel, by decide⟩
theorem in_Mu_allows : Cond.instanceMethod y_Mu_allows ∈ lw_tbl := (List.mem_of_getElem? (i := 914) (by decide +kernel))
theorem sl_Mu_allows : Cond.selects y_Mu_allows.cls y_Mu_allows y_Mu_allows ∈ lw_tbl := (List.mem_of_getElem? (i := 915) (by decide +kernel))
noncomputable def qp_Mu_allows : JP := (jb_sq (jb_sq (jb_sq (jb_if (jn (jx_run [(4, 0, 0), (42, 3, 3), (2, 1, 0)]) (jx_cv 2 0 q_Ho_has)) 0 39 11) 11 (jb_sq (jb_if (jn (jx_run [(4, 0, 0), (42, 3, 3), (2, 2, 0)]) (jx_cv 2 0 q_Ho_has)) 0 39 22) 22 (jb_sq (jb_if (jn (jx_run [(4, 0, 0), (2, 1, 0)]) (jn (jx_cv 2 3 q_Mu_partnersOf) (jx_run [(2, 2, 0), (20, 0, 0), (0, 0, 1), (16, 0, 0), (0, 0, 1)]))) 7 39 35) 35 (jb_go (jx_run [(0, 0, 1)]) 40)))) 39 (jb_go (jx_run [(0, 0, 0)]) 40)) 40 (jb_rt (jx_run []) 4))
noncomputable def q_Mu_allows : JF := jf_of qp_Mu_allows 3
set_option maxRecDepth 20000 in
theorem fr_Mu_allows (G : JG) : JFr G 3 false c_Mu_allows 1 3 (some .boolean) 0 qp_Mu_allows := (jfr_sq (jfr_sq (jfr_sq (jfr_if (j := 8) (jsl_n (j := 5) (jsl_run (by decide +kernel)) (jsl_cv (ix := 92) mt_Ho_has in_Ho_has sl_Ho_has rfl (by decide) (se_Ho_has _) (by decide) (List.mem_of_getElem? (i := 917) (by decide +kernel)) (by decide +kernel))) (by decide +kernel) (by decide)) (jfr_sq (jfr_if (j := 19) (jsl_n (j := 16) (jsl_run (by decide +kernel)) (jsl_cv (ix := 92) mt_Ho_has in_Ho_has sl_Ho_has rfl (by decide) (se_Ho_has _) (by decide) (List.mem_of_getElem? (i := 917) (by decide +kernel)) (by decide +kernel))) (by decide +kernel) (by decide)) (jfr_sq (jfr_if (j := 32) (jsl_n (j := 24) (jsl_run (by decide +kernel)) (jsl_n (j := 27) (jsl_cv (ix := 96) mt_Mu_partnersOf in_Mu_partnersOf sl_Mu_partnersOf rfl (by decide) (se_Mu_partnersOf _) (by decide) (List.mem_of_getElem? (i := 918) (by decide +kernel)) (by decide +kernel)) (jsl_run (by decide +kernel)))) (by decide +kernel) (by decide)) (jfr_go (j := 36) (jsl_run (by decide +kernel)) (by decide +kernel) (by decide)) (by decide)) (by decide)) (by decide)) (jfr_go (j := 40) (jsl_run (by decide +kernel)) (by decide +kernel) (by decide)) (by decide)) (jfr_rt (j := 40) (jsl_run (by decide +kernel)) (by decide +kernel)) (by decide))
theorem se_Mu_allows (G : JG) : JSem G y_Mu_allows c_Mu_allows 3 (some .boolean) 1 q_Mu_allows := jsem_of (by decide +kernel) rfl (by intro h; cases h) (fr_Mu_allows G)
def y_Mu_canSitTwice : MethodName := ⟨"CellarTurns$Muddle", "canSitTwice", "(I)Z"⟩
abbrev c_Mu_canSitTwice : ByteArray := prog_6_method_9_code
theorem mt_Mu_canSitTwice : JMt y_Mu_canSitTwice c_Mu_canSitTwice 2 (some .boolean) 1 := ⟨(List.mem_of_getElem? (i := 991) (by decide +kernel)), (List.mem_of_getElem? (i := 129) (by decide +kernel)), ⟨by decide +kernel, by decide +kernel⟩, by decide +kernel, by decide⟩
theorem in_Mu_canSitTwice : Cond.instanceMethod y_Mu_canSitTwice ∈ lw_tbl := (List.mem_of_getElem? (i := 990) (by decide +kernel))
theorem sl_Mu_canSitTwice : Cond.selects y_Mu_canSitTwice.cls y_Mu_canSitTwice y_Mu_canSitTwice ∈ lw_tbl := (List.mem_of_getElem? (i := 26) (by decide +kernel))
noncomputable def qp_Mu_canSitTwice : JP := (jb_sq (jb_sq (jb_sq (jb_if (jx_run [(4, 0, 0), (42, 3, 2), (2, 1, 0), (50, 0, 0), (4, 0, 0), (42, 3, 3), (42, 0, 6), (2, 1, 0), (50, 0, 0), (0, 0, 2), (11, 0, 0)]) 10 24 20) 20 (jb_go (jx_run [(0, 0, 1)]) 25)) 24 (jb_go (jx_run [(0, 0, 0)]) 25)) 25 (jb_rt (jx_run []) 4))
noncomputable def q_Mu_canSitTwice : JF := jf_of qp_Mu_canSitTwice 2
set_option maxRecDepth 20000 in
theorem fr_Mu_canSitTwice (G : JG) : JFr G 3 false c_Mu_canSitTwice 0 2 (some .boolean) 0 qp_Mu_canSitTwice := (jfr_sq (jfr_sq (jfr_sq (jfr_if (j := 17) (jsl_run (by decide +kernel)) (by decide +kernel) (by decide)) (jfr_go (j := 21) (jsl_run (by decide +kernel)) (by decide +kernel) (by decide)) (by decide)) (jfr_go (j := 25) (jsl_run (by decide +kernel)) (by decide +kernel) (by decide)) (by decide)) (jfr_rt (j := 25) (jsl_run (by decide +kernel)) (by decide +kernel)) (by decide))
theorem se_Mu_canSitTwice (G : JG) : JSem G y_Mu_canSitTwice c_Mu_canSitTwice 2 (some .boolean) 0 q_Mu_canSitTwice := jsem_of (by decide +kernel) rfl (by intro h; cases h) (fr_Mu_canSitTwice G)
def y_Mu_allowsRound : MethodName := ⟨"CellarTurns$Muddle", "allowsRound", "(III)Z"⟩
abbrev c_Mu_allowsRound : ByteArray := prog_6_method_7_code
theorem mt_Mu_allowsRound : JMt y_Mu_allowsRound c_Mu_allowsRound 4 (some .boolean) 3 := ⟨(List.mem_of_getElem? (i := 986) (by decide +kernel)), (List.mem_of_getElem? (i := 129) (by decide +kernel)), ⟨by decide +kernel, by decide +kernel⟩, by decide +kernel, by decide⟩
theorem in_Mu_allowsRound : Cond.instanceMethod y_Mu_allowsRound ∈ lw_tbl := (List.mem_of_getElem? (i := 984) (by decide +kernel))
theorem sl_Mu_allowsRound : Cond.selects y_Mu_allowsRound.cls y_Mu_allowsRound y_Mu_allowsRound ∈ lw_tbl := (List.mem_of_getElem? (i := 985) (by decide +kernel))
noncomputable def qp_Mu_allowsRound : JP := (jb_sq (jb_sq (jb_sq (jb_if (jn (jx_run [(4, 0, 0), (2, 1, 0), (2, 2, 0)]) (jx_cv 3 3 q_Mu_allows)) 0 55 9) 9 (jb_sq (jb_if (jn (jx_run [(4, 0, 0), (2, 2, 0), (2, 3, 0)]) (jx_cv 3 3 q_Mu_allows)) 0 55 18) 18 (jb_sq (jb_if (jn (jx_run [(4, 0, 0), (2, 1, 0), (2, 3, 0)]) (jx_cv 3 3 q_Mu_allows)) 0 55 27) 27 (jb_sq (jb_if (jn (jx_run [(4, 0, 0), (2, 1, 0)]) (jx_cv 2 3 q_Mu_canSitTwice)) 0 55 35) 35 (jb_sq (jb_if (jn (jx_run [(4, 0, 0), (2, 2, 0)]) (jx_cv 2 3 q_Mu_canSitTwice)) 0 55 43) 43 (jb_sq (jb_if (jn (jx_run [(4, 0, 0), (2, 3, 0)]) (jx_cv 2 3 q_Mu_canSitTwice)) 0 55 51) 51 (jb_go (jx_run [(0, 0, 1)]) 56))))))) 55 (jb_go (jx_run [(0, 0, 0)]) 56)) 56 (jb_rt (jx_run []) 4))
noncomputable def q_Mu_allowsRound : JF := jf_of qp_Mu_allowsRound 4
set_option maxRecDepth 20000 in
theorem fr_Mu_allowsRound (G : JG) : JFr G 3 false c_Mu_allowsRound 2 4 (some .boolean) 0 qp_Mu_allowsRound := (jfr_sq (jfr_sq (jfr_sq (jfr_if (j := 6) (jsl_n (j := 3) (jsl_run (by decide +kernel)) (jsl_cv (ix := 99) mt_Mu_allows in_Mu_allows sl_Mu_allows rfl (by decide) (se_Mu_allows _) (by decide) (List.mem_of_getElem? (i := 987) (by decide +kernel)) (by decide +kernel))) (by decide +kernel) (by decide)) (jfr_sq (jfr_if (j := 15) (jsl_n (j := 12) (jsl_run (by decide +kernel)) (jsl_cv (ix := 99) mt_Mu_allows in_Mu_allows sl_Mu_allows rfl (by decide) (se_Mu_allows _) (by decide) (List.mem_of_getElem? (i := 987) (by decide +kernel)) (by decide +kernel))) (by decide +kernel) (by decide)) (jfr_sq (jfr_if (j := 24) (jsl_n (j := 21) (jsl_run (by decide +kernel)) (jsl_cv (ix := 99) mt_Mu_allows in_Mu_allows sl_Mu_allows rfl (by decide) (se_Mu_allows _) (by decide) (List.mem_of_getElem? (i := 987) (by decide +kernel)) (by decide +kernel))) (by decide +kernel) (by decide)) (jfr_sq (jfr_if (j := 32) (jsl_n (j := 29) (jsl_run (by decide +kernel)) (jsl_cv (ix := 103) mt_Mu_canSitTwice in_Mu_canSitTwice sl_Mu_canSitTwice rfl (by decide) (se_Mu_canSitTwice _) (by decide) (List.mem_of_getElem? (i := 988) (by decide +kernel)) (by decide +kernel))) (by decide +kernel) (by decide)) (jfr_sq (jfr_if (j := 40) (jsl_n (j := 37) (jsl_run (by decide +kernel)) (jsl_cv (ix := 103) mt_Mu_canSitTwice in_Mu_canSitTwice sl_Mu_canSitTwice rfl (by decide) (se_Mu_canSitTwice _) (by decide) (List.mem_of_getElem? (i := 988) (by decide +kernel)) (by decide +kernel))) (by decide +kernel) (by decide)) (jfr_sq (jfr_if (j := 48) (jsl_n (j := 45) (jsl_run (by decide +kernel)) (jsl_cv (ix := 103) mt_Mu_canSitTwice in_Mu_canSitTwice sl_Mu_canSitTwice rfl (by decide) (se_Mu_canSitTwice _) (by decide) (List.mem_of_getElem? (i := 988) (by decide +kernel)) (by decide +kernel))) (by decide +kernel) (by decide)) (jfr_go (j := 52) (jsl_run (by decide +kernel)) (by decide +kernel) (by decide)) (by decide)) (by decide)) (by decide)) (by decide)) (by decide)) (by decide)) (jfr_go (j := 56) (jsl_run (by decide +kernel)) (by decide +kernel) (by decide)) (by decide)) (jfr_rt (j := 56) (jsl_run (by decide +kernel)) (by decide +kernel)) (by decide))
theorem se_Mu_allowsRound (G : JG) : JSem G y_Mu_allowsRound c_Mu_allowsRound 4 (some .boolean) 2 q_Mu_allowsRound := jsem_of (by decide +kernel) rfl (by intro h; cases h) (fr_Mu_allowsRound G)
def y_Mu_playRound : MethodName := ⟨"CellarTurns$Muddle", "playRound", "(III)V"⟩
abbrev c_Mu_playRound : ByteArray := prog_6_method_11_code
theorem mt_Mu_playRound : JMt y_Mu_playRound c_Mu_playRound 6 none 3 := ⟨(List.mem_of_getElem? (i := 995) (by decide +kernel)), (List.mem_of_getElem? (i := 129) (by decide +kernel)), ⟨by decide +kernel, by decide +kernel⟩, by decide +kernel, by decide⟩
theorem in_Mu_playRound : Cond.instanceMethod y_Mu_playRound ∈ lw_tbl := (List.mem_of_getElem? (i := 993) (by decide +kernel))
theorem sl_Mu_playRound : Cond.selects y_Mu_playRound.cls y_Mu_playRound y_Mu_playRound ∈ lw_tbl := (List.mem_of_getElem? (i := 994) (by decide +kernel))
noncomputable def qp_Mu_playRound : JP := (jb_rt (jn (jx_run [(4, 0, 0), (40, 3, 8), (5, 4, 0), (4, 0, 0), (42, 3, 0), (2, 3, 0), (50, 0, 0), (5, 5, 0), (4, 0, 0), (42, 3, 0), (2, 3, 0), (4, 0, 0), (42, 3, 0), (2, 2, 0), (50, 0, 0), (55, 0, 0), (4, 0, 0), (42, 3, 0), (2, 2, 0), (4, 0, 0), (42, 3, 0), (2, 1, 0), (50, 0, 0), (55, 0, 0), (4, 0, 0), (42, 3, 0), (2, 1, 0), (2, 5, 0), (55, 0, 0), (4, 0, 0), (2, 1, 0), (2, 2, 0)]) (jn (jx_cv 3 3 q_Mu_join) (jn (jx_run [(4, 0, 0), (2, 2, 0), (2, 3, 0)]) (jn (jx_cv 3 3 q_Mu_join) (jn (jx_run [(4, 0, 0), (2, 1, 0), (2, 3, 0)]) (jn (jx_cv 3 3 q_Mu_join) (jn (jx_run [(4, 0, 0), (70, 0, 0), (40, 3, 7), (0, 0, 1), (10, 0, 0), (43, 3, 7), (4, 0, 0), (2, 1, 0)]) (jn (jx_cv 2 3 q_Mu_settle) (jn (jx_run [(4, 0, 0), (2, 2, 0)]) (jn (jx_cv 2 3 q_Mu_settle) (jn (jx_run [(4, 0, 0), (2, 3, 0)]) (jn (jx_cv 2 3 q_Mu_settle) (jn (jx_run [(4, 0, 0), (70, 0, 0), (40, 3, 9), (4, 0, 0), (42, 3, 3), (42, 0, 7), (4, 0, 0)]) (jn (jx_cv 1 3 q_Mu_wrongOnes) (jn (jx_run [(4, 0, 0), (40, 3, 7), (0, 0, 1), (11, 0, 0), (2, 4, 0)]) (jn (jx_cv 4 1 q_La_costOf) (jx_run [(10, 0, 0), (43, 3, 9)]))))))))))))))))) 0)
noncomputable def q_Mu_playRound : JF := jf_of qp_Mu_playRound 6
set_option maxRecDepth 20000 in
theorem fr_Mu_playRound (G : JG) : JFr G 3 false c_Mu_playRound 3 6 none 0 qp_Mu_playRound := (jfr_rt (j := 120) (jsl_n (j := 49) (jsl_run (by decide +kernel)) (jsl_n (j := 52) (jsl_cv (ix := 129) mt_Mu_join in_Mu_join sl_Mu_join rfl (by decide) (se_Mu_join _) (by decide) (List.mem_of_getElem? (i := 953) (by decide +kernel)) (by decide +kernel)) (jsl_n (j := 55) (jsl_run (by decide +kernel)) (jsl_n (j := 58) (jsl_cv (ix := 129) mt_Mu_join in_Mu_join sl_Mu_join rfl (by decide) (se_Mu_join _) (by decide) (List.mem_of_getElem? (i := 953) (by decide +kernel)) (by decide +kernel)) (jsl_n (j := 61) (jsl_run (by decide +kernel)) (jsl_n (j := 64) (jsl_cv (ix := 129) mt_Mu_join in_Mu_join sl_Mu_join rfl (by decide) (se_Mu_join _) (by decide) (List.mem_of_getElem? (i := 953) (by decide +kernel)) (by decide +kernel)) (jsl_n (j := 76) (jsl_run (by decide +kernel)) (jsl_n (j := 79) (jsl_cv (ix := 72) mt_Mu_settle in_Mu_settle sl_Mu_settle rfl (by decide) (se_Mu_settle _) (by decide) (List.mem_of_getElem? (i := 426) (by decide +kernel)) (by decide +kernel)) (jsl_n (j := 81) (jsl_run (by decide +kernel)) (jsl_n (j := 84) (jsl_cv (ix := 72) mt_Mu_settle in_Mu_settle sl_Mu_settle rfl (by decide) (se_Mu_settle _) (by decide) (List.mem_of_getElem? (i := 426) (by decide +kernel)) (by decide +kernel)) (jsl_n (j := 86) (jsl_run (by decide +kernel)) (jsl_n (j := 89) (jsl_cv (ix := 72) mt_Mu_settle in_Mu_settle sl_Mu_settle rfl (by decide) (se_Mu_settle _) (by decide) (List.mem_of_getElem? (i := 426) (by decide +kernel)) (by decide +kernel)) (jsl_n (j := 102) (jsl_run (by decide +kernel)) (jsl_n (j := 105) (jsl_cv (ix := 120) mt_Mu_wrongOnes in_Mu_wrongOnes sl_Mu_wrongOnes rfl (by decide) (se_Mu_wrongOnes _) (by decide) (List.mem_of_getElem? (i := 957) (by decide +kernel)) (by decide +kernel)) (jsl_n (j := 113) (jsl_run (by decide +kernel)) (jsl_n (j := 116) (jsl_cv (ix := 123) mt_La_costOf in_La_costOf sl_La_costOf rfl (by decide) (se_La_costOf _) (by decide) (List.mem_of_getElem? (i := 962) (by decide +kernel)) (by decide +kernel)) (jsl_run (by decide +kernel)))))))))))))))))) (by decide +kernel))
theorem se_Mu_playRound (G : JG) : JSem G y_Mu_playRound c_Mu_playRound 6 none 3 q_Mu_playRound := jsem_of (by decide +kernel) rfl (by intro h; cases h) (fr_Mu_playRound G)
def y_Pl_playLine : MethodName := ⟨"CellarTurns$Plan", "playLine", "(LCellarTurns$Muddle;I)Z"⟩
abbrev c_Pl_playLine : ByteArray := prog_7_method_6_code
theorem mt_Pl_playLine : JMt y_Pl_playLine c_Pl_playLine 7 (some .boolean) 2 := ⟨(List.mem_of_getElem? (i := 1023) (by decide +kernel)), (List.mem_of_getElem? (i := 126) (by decide +kernel)), ⟨by decide +kernel, by decide +kernel⟩, by decide +kernel, by decide⟩
theorem in_Pl_playLine : Cond.instanceMethod y_Pl_playLine ∈ lw_tbl := (List.mem_of_getElem? (i := 1022) (by decide +kernel))
theorem sl_Pl_playLine : Cond.selects y_Pl_playLine.cls y_Pl_playLine y_Pl_playLine ∈ lw_tbl := (List.mem_of_getElem? (i := 27) (by decide +kernel))
noncomputable def qp_Pl_playLine : JP := (jb_sq (jb_sq (jb_sq (jb_if (jx_run [(4, 0, 0), (42, 4, 1), (2, 2, 0), (0, 0, 3), (12, 0, 0), (50, 0, 0), (5, 3, 0), (4, 0, 0), (42, 4, 1), (2, 2, 0), (0, 0, 3), (12, 0, 0), (0, 0, 1), (10, 0, 0), (50, 0, 0), (5, 4, 0), (4, 0, 0), (42, 4, 1), (2, 2, 0), (0, 0, 3), (12, 0, 0), (0, 0, 2), (10, 0, 0), (50, 0, 0), (5, 5, 0), (4, 0, 0), (42, 4, 0), (2, 2, 0), (50, 0, 0), (0, 0, 1)]) 7 63 43) 43 (jb_sq (jb_if (jn (jx_run [(4, 1, 0), (2, 3, 0)]) (jn (jx_cv 2 3 q_Mu_allowsFetch) (jx_run [(5, 6, 0), (2, 6, 0)]))) 0 122 55) 55 (jb_go (jn (jx_run [(4, 1, 0), (2, 3, 0)]) (jx_cv 2 3 q_Mu_playFetch)) 122))) 63 (jb_sq (jb_sq (jb_if (jx_run [(4, 0, 0), (42, 4, 0), (2, 2, 0), (50, 0, 0), (0, 0, 2)]) 7 97 73) 73 (jb_sq (jb_if (jn (jx_run [(4, 1, 0), (2, 3, 0), (2, 4, 0)]) (jn (jx_cv 3 3 q_Mu_allows) (jx_run [(5, 6, 0), (2, 6, 0)]))) 0 122 87) 87 (jb_go (jn (jx_run [(4, 1, 0), (2, 3, 0), (2, 4, 0)]) (jx_cv 3 3 q_Mu_playTurn)) 122))) 97 (jb_sq (jb_if (jn (jx_run [(4, 1, 0), (2, 3, 0), (2, 4, 0), (2, 5, 0)]) (jn (jx_cv 4 3 q_Mu_allowsRound) (jx_run [(5, 6, 0), (2, 6, 0)]))) 0 122 113) 113 (jb_go (jn (jx_run [(4, 1, 0), (2, 3, 0), (2, 4, 0), (2, 5, 0)]) (jx_cv 4 3 q_Mu_playRound)) 122)))) 122 (jb_rt (jx_run [(2, 6, 0)]) 4))
noncomputable def q_Pl_playLine : JF := jf_of qp_Pl_playLine 7
set_option maxRecDepth 20000 in
theorem fr_Pl_playLine (G : JG) : JFr G 4 false c_Pl_playLine 4 7 (some .boolean) 0 qp_Pl_playLine := (jfr_sq (jfr_sq (jfr_sq (jfr_if (j := 40) (jsl_run (by decide +kernel)) (by decide +kernel) (by decide)) (jfr_sq (jfr_if (j := 52) (jsl_n (j := 45) (jsl_run (by decide +kernel)) (jsl_n (j := 48) (jsl_cv (ix := 26) mt_Mu_allowsFetch in_Mu_allowsFetch sl_Mu_allowsFetch rfl (by decide) (se_Mu_allowsFetch _) (by decide) (List.mem_of_getElem? (i := 1024) (by decide +kernel)) (by decide +kernel)) (jsl_run (by decide +kernel)))) (by decide +kernel) (by decide)) (jfr_go (j := 60) (jsl_n (j := 57) (jsl_run (by decide +kernel)) (jsl_cv (ix := 32) mt_Mu_playFetch in_Mu_playFetch sl_Mu_playFetch rfl (by decide) (se_Mu_playFetch _) (by decide) (List.mem_of_getElem? (i := 1025) (by decide +kernel)) (by decide +kernel))) (by decide +kernel) (by decide)) (by decide)) (by decide)) (jfr_sq (jfr_sq (jfr_if (j := 70) (jsl_run (by decide +kernel)) (by decide +kernel) (by decide)) (jfr_sq (jfr_if (j := 84) (jsl_n (j := 77) (jsl_run (by decide +kernel)) (jsl_n (j := 80) (jsl_cv (ix := 36) mt_Mu_allows in_Mu_allows sl_Mu_allows rfl (by decide) (se_Mu_allows _) (by decide) (List.mem_of_getElem? (i := 1026) (by decide +kernel)) (by decide +kernel)) (jsl_run (by decide +kernel)))) (by decide +kernel) (by decide)) (jfr_go (j := 94) (jsl_n (j := 91) (jsl_run (by decide +kernel)) (jsl_cv (ix := 40) mt_Mu_playTurn in_Mu_playTurn sl_Mu_playTurn rfl (by decide) (se_Mu_playTurn _) (by decide) (List.mem_of_getElem? (i := 1027) (by decide +kernel)) (by decide +kernel))) (by decide +kernel) (by decide)) (by decide)) (by decide)) (jfr_sq (jfr_if (j := 110) (jsl_n (j := 103) (jsl_run (by decide +kernel)) (jsl_n (j := 106) (jsl_cv (ix := 44) mt_Mu_allowsRound in_Mu_allowsRound sl_Mu_allowsRound rfl (by decide) (se_Mu_allowsRound _) (by decide) (List.mem_of_getElem? (i := 1028) (by decide +kernel)) (by decide +kernel)) (jsl_run (by decide +kernel)))) (by decide +kernel) (by decide)) (jfr_go (j := 122) (jsl_n (j := 119) (jsl_run (by decide +kernel)) (jsl_cv (ix := 48) mt_Mu_playRound in_Mu_playRound sl_Mu_playRound rfl (by decide) (se_Mu_playRound _) (by decide) (List.mem_of_getElem? (i := 1029) (by decide +kernel)) (by decide +kernel))) (by decide +kernel) (by decide)) (by decide)) (by decide)) (by decide)) (jfr_rt (j := 124) (jsl_run (by decide +kernel)) (by decide +kernel)) (by decide))
theorem se_Pl_playLine (G : JG) : JSem G y_Pl_playLine c_Pl_playLine 7 (some .boolean) 4 q_Pl_playLine := jsem_of (by decide +kernel) rfl (by intro h; cases h) (fr_Pl_playLine G)
def y_Pl_playOn : MethodName := ⟨"CellarTurns$Plan", "playOn", "(LCellarTurns$Muddle;)I"⟩
abbrev c_Pl_playOn : ByteArray := prog_7_method_5_code
theorem mt_Pl_playOn : JMt y_Pl_playOn c_Pl_playOn 4 (some .int) 1 := ⟨(List.mem_of_getElem? (i := 1019) (by decide +kernel)), (List.mem_of_getElem? (i := 126) (by decide +kernel)), ⟨by decide +kernel, by decide +kernel⟩, by decide +kernel, by decide⟩
theorem in_Pl_playOn : Cond.instanceMethod y_Pl_playOn ∈ lw_tbl := (List.mem_of_getElem? (i := 1017) (by decide +kernel))
theorem sl_Pl_playOn : Cond.selects y_Pl_playOn.cls y_Pl_playOn y_Pl_playOn ∈ lw_tbl := (List.mem_of_getElem? (i := 1018) (by decide +kernel))
noncomputable def qp_Pl_playOn : JP := (jb_sq (jb_go (jx_run [(0, 0, -1), (5, 2, 0), (0, 0, 0), (5, 3, 0)]) 4) 4 (jb_sq (jb_lp 4 (jb_sq (jb_if (jx_run [(2, 3, 0), (4, 0, 0), (40, 4, 2)]) 9 34 12) 12 (jb_sq (jb_sq (jb_if (jn (jx_run [(4, 0, 0), (4, 1, 0), (2, 3, 0)]) (jx_cv 3 4 q_Pl_playLine)) 1 28 21) 21 (jb_sq (jb_if (jx_run [(2, 2, 0), (0, 0, -1)]) 7 28 26) 26 (jb_go (jx_run [(2, 3, 0), (5, 2, 0)]) 28))) 28 (jb_go (jx_run [(8, 3, 1)]) 4)))) 34 (jb_rt (jx_run [(2, 2, 0)]) 1)))
noncomputable def q_Pl_playOn : JF := jf_of qp_Pl_playOn 4
set_option maxRecDepth 20000 in
theorem fr_Pl_playOn (G : JG) : JFr G 4 false c_Pl_playOn 5 4 (some .int) 0 qp_Pl_playOn := (jfr_sq (jfr_go (j := 4) (jsl_run (by decide +kernel)) (by decide +kernel) (by decide)) (jfr_sq (jfr_lp (jfr_sq (jfr_if (j := 9) (jsl_run (by decide +kernel)) (by decide +kernel) (by decide)) (jfr_sq (jfr_sq (jfr_if (j := 18) (jsl_n (j := 15) (jsl_run (by decide +kernel)) (jsl_cv (ix := 22) mt_Pl_playLine in_Pl_playLine sl_Pl_playLine rfl (by decide) (se_Pl_playLine _) (by decide) (List.mem_of_getElem? (i := 1020) (by decide +kernel)) (by decide +kernel))) (by decide +kernel) (by decide)) (jfr_sq (jfr_if (j := 23) (jsl_run (by decide +kernel)) (by decide +kernel) (by decide)) (jfr_go (j := 28) (jsl_run (by decide +kernel)) (by decide +kernel) (by decide)) (by decide)) (by decide)) (jfr_go (j := 31) (jsl_run (by decide +kernel)) (by decide +kernel) (by decide)) (by decide)) (by decide)) (by decide)) (jfr_rt (j := 35) (jsl_run (by decide +kernel)) (by decide +kernel)) (by decide)) (by decide))
theorem se_Pl_playOn (G : JG) : JSem G y_Pl_playOn c_Pl_playOn 4 (some .int) 5 q_Pl_playOn := jsem_of (by decide +kernel) rfl (by intro h; cases h) (fr_Pl_playOn G)
def y_Ct_judged : MethodName := ⟨"CellarTurns", "judged", "(I)I"⟩
abbrev c_Ct_judged : ByteArray := prog_1_method_12_code
theorem mt_Ct_judged : JMt y_Ct_judged c_Ct_judged 3 (some .int) 1 := ⟨(List.mem_of_getElem? (i := 1015) (by decide +kernel)), (List.mem_of_getElem? (i := 117) (by decide +kernel)), ⟨by decide +kernel, by decide +kernel⟩, by decide +kernel, by decide⟩
theorem in_Ct_judged : Cond.instanceMethod y_Ct_judged ∈ lw_tbl := (List.mem_of_getElem? (i := 1013) (by decide +kernel))
theorem sl_Ct_judged : Cond.selects y_Ct_judged.cls y_Ct_judged y_Ct_judged ∈ lw_tbl := (List.mem_of_getElem? (i := 1014) (by decide +kernel))
noncomputable def qp_Ct_judged : JP := (jb_sq (jb_sq (jb_if (jx_run [(2, 1, 0)]) 2 9 4) 4 (jb_sq (jb_if (jx_run [(2, 1, 0), (0, 0, 2)]) 11 12 9) 12 (jb_sq (jb_sq (jb_if (jn (jx_run [(4, 0, 0), (42, 10, 6), (4, 0, 0), (42, 10, 9)]) (jn (jx_cv 2 3 q_Mu_begin) (jn (jx_run [(4, 0, 0), (42, 10, 11), (4, 0, 0), (42, 10, 6)]) (jn (jx_cv 2 4 q_Pl_playOn) (jx_run [(5, 2, 0), (2, 1, 0)]))))) 1 41 39) 39 (jb_rt (jx_run [(2, 2, 0)]) 1)) 41 (jb_sq (jb_sq (jb_sq (jb_if (jx_run [(2, 1, 0), (0, 0, 1)]) 7 56 46) 46 (jb_go (jn (jx_run [(4, 0, 0), (42, 10, 6)]) (jx_cv 1 3 q_Mu_wrongOnes)) 63)) 56 (jb_go (jx_run [(4, 0, 0), (42, 10, 6), (40, 3, 9)]) 63)) 63 (jb_rt (jx_run []) 1))))) 9 (jb_rt (jx_run [(0, 0, -2)]) 1))
noncomputable def q_Ct_judged : JF := jf_of qp_Ct_judged 3
set_option maxRecDepth 20000 in
theorem fr_Ct_judged (G : JG) : JFr G 10 false c_Ct_judged 6 3 (some .int) 0 qp_Ct_judged := (jfr_sq (jfr_sq (jfr_if (j := 1) (jsl_run (by decide +kernel)) (by decide +kernel) (by decide)) (jfr_sq (jfr_if (j := 6) (jsl_run (by decide +kernel)) (by decide +kernel) (by decide)) (jfr_sq (jfr_sq (jfr_if (j := 36) (jsl_n (j := 20) (jsl_run (by decide +kernel)) (jsl_n (j := 23) (jsl_cv (ix := 97) mt_Mu_begin in_Mu_begin sl_Mu_begin rfl (by decide) (se_Mu_begin _) (by decide) (List.mem_of_getElem? (i := 867) (by decide +kernel)) (by decide +kernel)) (jsl_n (j := 31) (jsl_run (by decide +kernel)) (jsl_n (j := 34) (jsl_cv (ix := 185) mt_Pl_playOn in_Pl_playOn sl_Pl_playOn rfl (by decide) (se_Pl_playOn _) (by decide) (List.mem_of_getElem? (i := 1016) (by decide +kernel)) (by decide +kernel)) (jsl_run (by decide +kernel)))))) (by decide +kernel) (by decide)) (jfr_rt (j := 40) (jsl_run (by decide +kernel)) (by decide +kernel)) (by decide)) (jfr_sq (jfr_sq (jfr_sq (jfr_if (j := 43) (jsl_run (by decide +kernel)) (by decide +kernel) (by decide)) (jfr_go (j := 53) (jsl_n (j := 50) (jsl_run (by decide +kernel)) (jsl_cv (ix := 153) mt_Mu_wrongOnes in_Mu_wrongOnes sl_Mu_wrongOnes rfl (by decide) (se_Mu_wrongOnes _) (by decide) (List.mem_of_getElem? (i := 978) (by decide +kernel)) (by decide +kernel))) (by decide +kernel) (by decide)) (by decide)) (jfr_go (j := 63) (jsl_run (by decide +kernel)) (by decide +kernel) (by decide)) (by decide)) (jfr_rt (j := 63) (jsl_run (by decide +kernel)) (by decide +kernel)) (by decide)) (by decide)) (by decide)) (by decide)) (jfr_rt (j := 11) (jsl_run (by decide +kernel)) (by decide +kernel)) (by decide))
theorem se_Ct_judged (G : JG) : JSem G y_Ct_judged c_Ct_judged 3 (some .int) 6 q_Ct_judged := jsem_of (by decide +kernel) rfl (by intro h; cases h) (fr_Ct_judged G)
def y_Ct_left : MethodName := ⟨"CellarTurns", "left", "()I"⟩
abbrev c_Ct_left : ByteArray := prog_1_method_14_code
theorem mt_Ct_left : JMt y_Ct_left c_Ct_left 1 (some .int) 0 := ⟨(List.mem_of_getElem? (i := 1055) (by decide +kernel)), (List.mem_of_getElem? (i := 117) (by decide +kernel)), ⟨by decide +kernel, by decide +kernel⟩, by decide +kernel, by decide⟩
theorem in_Ct_left : Cond.instanceMethod y_Ct_left ∈ lw_tbl := (List.mem_of_getElem? (i := 1053) (by decide +kernel))
theorem sl_Ct_left : Cond.selects y_Ct_left.cls y_Ct_left y_Ct_left ∈ lw_tbl := (List.mem_of_getElem? (i := 1054) (by decide +kernel))
noncomputable def qp_Ct_left : JP := (jb_rt (jn (jx_run [(4, 0, 0), (42, 10, 5)]) (jn (jx_cv 1 3 q_Mu_openPairs) (jx_cs 1 q_Lo_bitCount))) 1)
noncomputable def q_Ct_left : JF := jf_of qp_Ct_left 1
set_option maxRecDepth 20000 in
theorem fr_Ct_left (G : JG) : JFr G 10 false c_Ct_left 2 1 (some .int) 0 qp_Ct_left := (jfr_rt (j := 10) (jsl_n (j := 4) (jsl_run (by decide +kernel)) (jsl_n (j := 7) (jsl_cv (ix := 204) mt_Mu_openPairs in_Mu_openPairs sl_Mu_openPairs rfl (by decide) (se_Mu_openPairs _) (by decide) (List.mem_of_getElem? (i := 1056) (by decide +kernel)) (by decide +kernel)) (jsl_cs (ix := 208) mt_Lo_bitCount st_Lo_bitCount (se_Lo_bitCount _) (by decide) (List.mem_of_getElem? (i := 1060) (by decide +kernel)) (by decide +kernel)))) (by decide +kernel))
theorem se_Ct_left (G : JG) : JSem G y_Ct_left c_Ct_left 1 (some .int) 2 q_Ct_left := jsem_of (by decide +kernel) rfl (by intro h; cases h) (fr_Ct_left G)
def y_Mu_fitsSeen : MethodName := ⟨"CellarTurns$Muddle", "fitsSeen", "()Z"⟩
abbrev c_Mu_fitsSeen : ByteArray := prog_6_method_14_code
theorem mt_Mu_fitsSeen : JMt y_Mu_fitsSeen c_Mu_fitsSeen 5 (some .boolean) 0 := ⟨(List.mem_of_getElem? (i := 1291) (by decide +kernel)), (List.mem_of_getElem? (i := 129) (by decide +kernel)), ⟨by decide +kernel, by decide +kernel⟩, by decide +kernel, by decide⟩
theorem in_Mu_fitsSeen : Cond.instanceMethod y_Mu_fitsSeen ∈ lw_tbl := (List.mem_of_getElem? (i := 1289) (by decide +kernel))
theorem sl_Mu_fitsSeen : Cond.selects y_Mu_fitsSeen.cls y_Mu_fitsSeen y_Mu_fitsSeen ∈ lw_tbl := (List.mem_of_getElem? (i := 1290) (by decide +kernel))
noncomputable def qp_Mu_fitsSeen : JP := (jb_sq (jb_go (jx_run [(4, 0, 0), (41, 3, 10), (6, 1, 0), (0, 0, 0), (5, 3, 0)]) 7) 7 (jb_sq (jb_lp 7 (jb_sq (jb_if (jx_run [(2, 3, 0), (4, 0, 0), (40, 3, 11)]) 9 53 15) 15 (jb_sq (jb_sq (jb_if (jx_run [(3, 1, 0), (1, 0, 63), (27, 0, 0), (35, 0, 0), (5, 4, 0), (4, 0, 0), (42, 3, 0), (2, 4, 0), (0, 0, 3), (20, 0, 0), (50, 0, 0), (2, 4, 0), (0, 0, 7), (16, 0, 0)]) 6 42 40) 40 (jb_rt (jx_run [(0, 0, 0)]) 4)) 42 (jb_go (jx_run [(3, 1, 0), (0, 0, 6), (31, 0, 0), (6, 1, 0), (8, 3, 1)]) 7)))) 53 (jb_rt (jx_run [(0, 0, 1)]) 4)))
noncomputable def q_Mu_fitsSeen : JF := jf_of qp_Mu_fitsSeen 5
set_option maxRecDepth 20000 in
theorem fr_Mu_fitsSeen (G : JG) : JFr G 3 false c_Mu_fitsSeen 0 5 (some .boolean) 0 qp_Mu_fitsSeen := (jfr_sq (jfr_go (j := 7) (jsl_run (by decide +kernel)) (by decide +kernel) (by decide)) (jfr_sq (jfr_lp (jfr_sq (jfr_if (j := 12) (jsl_run (by decide +kernel)) (by decide +kernel) (by decide)) (jfr_sq (jfr_sq (jfr_if (j := 37) (jsl_run (by decide +kernel)) (by decide +kernel) (by decide)) (jfr_rt (j := 41) (jsl_run (by decide +kernel)) (by decide +kernel)) (by decide)) (jfr_go (j := 50) (jsl_run (by decide +kernel)) (by decide +kernel) (by decide)) (by decide)) (by decide)) (by decide)) (jfr_rt (j := 54) (jsl_run (by decide +kernel)) (by decide +kernel)) (by decide)) (by decide))
theorem se_Mu_fitsSeen (G : JG) : JSem G y_Mu_fitsSeen c_Mu_fitsSeen 5 (some .boolean) 0 q_Mu_fitsSeen := jsem_of (by decide +kernel) rfl (by intro h; cases h) (fr_Mu_fitsSeen G)
def y_Ta_countRow : MethodName := ⟨"CellarTurns$Tally", "countRow", "(J)V"⟩
abbrev c_Ta_countRow : ByteArray := prog_11_method_12_code
theorem mt_Ta_countRow : JMt y_Ta_countRow c_Ta_countRow 4 none 1 := ⟨(List.mem_of_getElem? (i := 1287) (by decide +kernel)), (List.mem_of_getElem? (i := 132) (by decide +kernel)), ⟨by decide +kernel, by decide +kernel⟩, by decide +kernel, by decide⟩
theorem in_Ta_countRow : Cond.instanceMethod y_Ta_countRow ∈ lw_tbl := (List.mem_of_getElem? (i := 1286) (by decide +kernel))
theorem sl_Ta_countRow : Cond.selects y_Ta_countRow.cls y_Ta_countRow y_Ta_countRow ∈ lw_tbl := (List.mem_of_getElem? (i := 43) (by decide +kernel))
noncomputable def qp_Ta_countRow : JP := (jb_sq (jb_sq (jb_if (jn (jx_run [(4, 0, 0), (42, 8, 0)]) (jx_cv 1 3 q_Mu_fitsSeen)) 1 11 10) 10 (jb_rt (jx_run []) 0)) 11 (jb_sq (jb_go (jx_run [(4, 0, 0), (70, 0, 0), (40, 8, 5), (0, 0, 1), (10, 0, 0), (43, 8, 5), (4, 0, 0), (70, 0, 0), (41, 8, 6), (3, 1, 0), (27, 0, 0), (44, 8, 6), (4, 0, 0), (70, 0, 0), (41, 8, 7), (3, 1, 0), (28, 0, 0), (44, 8, 7), (0, 0, 0), (5, 3, 0)]) 43) 43 (jb_sq (jb_lp 43 (jb_sq (jb_if (jx_run [(4, 0, 0), (40, 8, 8)]) 0 93 50) 50 (jb_sq (jb_if (jx_run [(2, 3, 0), (4, 0, 0), (42, 8, 0), (42, 3, 3), (40, 0, 8)]) 9 93 64) 64 (jb_go (jx_run [(4, 0, 0), (42, 8, 2), (0, 0, 8), (2, 3, 0), (12, 0, 0), (4, 0, 0), (42, 8, 0), (42, 3, 0), (2, 3, 0), (50, 0, 0), (10, 0, 0), (72, 0, 0), (50, 0, 0), (0, 0, 1), (10, 0, 0), (55, 0, 0), (8, 3, 1)]) 43)))) 93 (jb_rt (jx_run []) 0))))
noncomputable def q_Ta_countRow : JF := jf_of qp_Ta_countRow 4
set_option maxRecDepth 20000 in
theorem fr_Ta_countRow (G : JG) : JFr G 8 false c_Ta_countRow 1 4 none 0 qp_Ta_countRow := (jfr_sq (jfr_sq (jfr_if (j := 7) (jsl_n (j := 4) (jsl_run (by decide +kernel)) (jsl_cv (ix := 160) mt_Mu_fitsSeen in_Mu_fitsSeen sl_Mu_fitsSeen rfl (by decide) (se_Mu_fitsSeen _) (by decide) (List.mem_of_getElem? (i := 1288) (by decide +kernel)) (by decide +kernel))) (by decide +kernel) (by decide)) (jfr_rt (j := 10) (jsl_run (by decide +kernel)) (by decide +kernel)) (by decide)) (jfr_sq (jfr_go (j := 43) (jsl_run (by decide +kernel)) (by decide +kernel) (by decide)) (jfr_sq (jfr_lp (jfr_sq (jfr_if (j := 47) (jsl_run (by decide +kernel)) (by decide +kernel) (by decide)) (jfr_sq (jfr_if (j := 61) (jsl_run (by decide +kernel)) (by decide +kernel) (by decide)) (jfr_go (j := 90) (jsl_run (by decide +kernel)) (by decide +kernel) (by decide)) (by decide)) (by decide)) (by decide)) (jfr_rt (j := 93) (jsl_run (by decide +kernel)) (by decide +kernel)) (by decide)) (by decide)) (by decide))
theorem se_Ta_countRow (G : JG) : JSem G y_Ta_countRow c_Ta_countRow 4 none 1 q_Ta_countRow := jsem_of (by decide +kernel) rfl (by intro h; cases h) (fr_Ta_countRow G)
def y_Ta_followRows : MethodName := ⟨"CellarTurns$Tally", "followRows", "(IJ)V"⟩
abbrev c_Ta_followRows : ByteArray := prog_11_method_11_code
theorem mt_Ta_followRows : JMt y_Ta_followRows c_Ta_followRows 8 none 2 := ⟨(List.mem_of_getElem? (i := 1282) (by decide +kernel)), (List.mem_of_getElem? (i := 132) (by decide +kernel)), ⟨by decide +kernel, by decide +kernel⟩, by decide +kernel, by decide⟩
theorem in_Ta_followRows : Cond.instanceMethod y_Ta_followRows ∈ lw_tbl := (List.mem_of_getElem? (i := 1281) (by decide +kernel))
theorem sl_Ta_followRows : Cond.selects y_Ta_followRows.cls y_Ta_followRows y_Ta_followRows ∈ lw_tbl := (List.mem_of_getElem? (i := 42) (by decide +kernel))
noncomputable def qp_Ta_followRows (Ψ : Nat → JF) : JP := (jb_sq (jb_go (jn (jx_run [(4, 0, 0), (42, 8, 0)]) (jn (jx_cv 1 3 q_Mu_openPairs) (jn (jx_run [(6, 4, 0), (3, 4, 0)]) (jn (jx_cs 1 q_Lo_bitCount) (jx_run [(5, 6, 0)]))))) 16) 16 (jb_sq (jb_lp 16 (jb_sq (jb_if (jx_run [(2, 6, 0)]) 5 142 21) 21 (jb_sq (jb_sq (jb_sq (jb_if (jn (jx_run [(3, 4, 0)]) (jn (jx_cs 1 q_Lo_numberOfTrailingZeros) (jx_run [(5, 7, 0), (3, 4, 0), (3, 4, 0), (1, 0, 1), (23, 0, 0), (27, 0, 0), (6, 4, 0), (2, 1, 0), (0, 0, 1)]))) 11 92 42) 42 (jb_go (jn (jx_run [(4, 0, 0), (42, 8, 0), (2, 7, 0)]) (jn (jx_cs 1 q_Ct_lesserOf) (jn (jx_run [(2, 7, 0)]) (jn (jx_cs 1 q_Ct_greaterOf) (jn (jx_cv 3 3 q_Mu_change) (jn (jx_run [(4, 0, 0), (2, 1, 0), (0, 0, 1), (11, 0, 0), (3, 2, 0), (1, 0, 1), (2, 7, 0), (30, 0, 0), (28, 0, 0)]) (jn (jx_cv 3 8 (Ψ 0)) (jn (jx_run [(4, 0, 0), (42, 8, 0), (2, 7, 0)]) (jn (jx_cs 1 q_Ct_lesserOf) (jn (jx_run [(2, 7, 0)]) (jn (jx_cs 1 q_Ct_greaterOf) (jx_cv 3 3 q_Mu_changeBack)))))))))))) 136)) 92 (jb_go (jn (jx_run [(4, 0, 0), (42, 8, 0), (2, 7, 0)]) (jn (jx_cs 1 q_Ct_lesserOf) (jn (jx_run [(2, 7, 0)]) (jn (jx_cs 1 q_Ct_greaterOf) (jn (jx_cv 3 3 q_Mu_swapMinds) (jn (jx_run [(4, 0, 0), (3, 2, 0), (1, 0, 1), (2, 7, 0), (30, 0, 0), (28, 0, 0)]) (jn (jx_cv 2 8 q_Ta_countRow) (jn (jx_run [(4, 0, 0), (42, 8, 0), (2, 7, 0)]) (jn (jx_cs 1 q_Ct_lesserOf) (jn (jx_run [(2, 7, 0)]) (jn (jx_cs 1 q_Ct_greaterOf) (jx_cv 3 3 q_Mu_swapMinds)))))))))))) 136)) 136 (jb_go (jx_run [(8, 6, -1)]) 16)))) 142 (jb_rt (jx_run []) 0)))
noncomputable def g_Ta_followRows : Nat → Nat → JF
  | 0 => fun _ _ _ => none
  | n + 1 => fun w => match w with
    | 0 => jf_of (qp_Ta_followRows (g_Ta_followRows n)) 8
    | _ => fun _ _ => none
set_option maxRecDepth 20000 in
theorem fr_Ta_followRows (G : JG) (Ψ : Nat → JF) (d : Nat) (hd : 2 ≤ d + 1) (hΨ0 : JSem G y_Ta_followRows c_Ta_followRows 8 none d (Ψ 0)) : JFr G 8 false c_Ta_followRows (d + 1) 8 none 0 (qp_Ta_followRows Ψ) := (jfr_sq (jfr_go (j := 16) (jsl_n (j := 4) (jsl_run (by decide +kernel)) (jsl_n (j := 7) (jsl_cv (ix := 70) mt_Mu_openPairs in_Mu_openPairs sl_Mu_openPairs rfl (by decide) (se_Mu_openPairs _) (by omega) (List.mem_of_getElem? (i := 1163) (by decide +kernel)) (by decide +kernel)) (jsl_n (j := 11) (jsl_run (by decide +kernel)) (jsl_n (j := 14) (jsl_cs (ix := 74) mt_Lo_bitCount st_Lo_bitCount (se_Lo_bitCount _) (by omega) (List.mem_of_getElem? (i := 1164) (by decide +kernel)) (by decide +kernel)) (jsl_run (by decide +kernel)))))) (by decide +kernel) (by decide)) (jfr_sq (jfr_lp (jfr_sq (jfr_if (j := 18) (jsl_run (by decide +kernel)) (by decide +kernel) (by decide)) (jfr_sq (jfr_sq (jfr_sq (jfr_if (j := 39) (jsl_n (j := 23) (jsl_run (by decide +kernel)) (jsl_n (j := 26) (jsl_cs (ix := 79) mt_Lo_numberOfTrailingZeros st_Lo_numberOfTrailingZeros (se_Lo_numberOfTrailingZeros _) (by omega) (List.mem_of_getElem? (i := 1165) (by decide +kernel)) (by decide +kernel)) (jsl_run (by decide +kernel)))) (by decide +kernel) (by decide)) (jfr_go (j := 89) (jsl_n (j := 48) (jsl_run (by decide +kernel)) (jsl_n (j := 51) (jsl_csN (ix := 82) mt_Ct_lesserOf st_Ct_lesserOf (se_Ct_lesserOf _) (by omega) (List.mem_of_getElem? (i := 1166) (by decide +kernel)) (by decide +kernel)) (jsl_n (j := 53) (jsl_run (by decide +kernel)) (jsl_n (j := 56) (jsl_csN (ix := 85) mt_Ct_greaterOf st_Ct_greaterOf (se_Ct_greaterOf _) (by omega) (List.mem_of_getElem? (i := 1167) (by decide +kernel)) (by decide +kernel)) (jsl_n (j := 59) (jsl_cv (ix := 91) mt_Mu_change in_Mu_change sl_Mu_change rfl (by decide) (se_Mu_change _) (by omega) (List.mem_of_getElem? (i := 1169) (by decide +kernel)) (by decide +kernel)) (jsl_n (j := 69) (jsl_run (by decide +kernel)) (jsl_n (j := 72) (jsl_cv (ix := 149) mt_Ta_followRows in_Ta_followRows sl_Ta_followRows rfl (by decide) (hΨ0) (by omega) (List.mem_of_getElem? (i := 1279) (by decide +kernel)) (by decide +kernel)) (jsl_n (j := 78) (jsl_run (by decide +kernel)) (jsl_n (j := 81) (jsl_csN (ix := 82) mt_Ct_lesserOf st_Ct_lesserOf (se_Ct_lesserOf _) (by omega) (List.mem_of_getElem? (i := 1166) (by decide +kernel)) (by decide +kernel)) (jsl_n (j := 83) (jsl_run (by decide +kernel)) (jsl_n (j := 86) (jsl_csN (ix := 85) mt_Ct_greaterOf st_Ct_greaterOf (se_Ct_greaterOf _) (by omega) (List.mem_of_getElem? (i := 1167) (by decide +kernel)) (by decide +kernel)) (jsl_cv (ix := 95) mt_Mu_changeBack in_Mu_changeBack sl_Mu_changeBack rfl (by decide) (se_Mu_changeBack _) (by omega) (List.mem_of_getElem? (i := 1170) (by decide +kernel)) (by decide +kernel))))))))))))) (by decide +kernel) (by decide)) (by decide)) (jfr_go (j := 136) (jsl_n (j := 98) (jsl_run (by decide +kernel)) (jsl_n (j := 101) (jsl_csN (ix := 82) mt_Ct_lesserOf st_Ct_lesserOf (se_Ct_lesserOf _) (by omega) (List.mem_of_getElem? (i := 1166) (by decide +kernel)) (by decide +kernel)) (jsl_n (j := 103) (jsl_run (by decide +kernel)) (jsl_n (j := 106) (jsl_csN (ix := 85) mt_Ct_greaterOf st_Ct_greaterOf (se_Ct_greaterOf _) (by omega) (List.mem_of_getElem? (i := 1167) (by decide +kernel)) (by decide +kernel)) (jsl_n (j := 109) (jsl_cv (ix := 153) mt_Mu_swapMinds in_Mu_swapMinds sl_Mu_swapMinds rfl (by decide) (se_Mu_swapMinds _) (by omega) (List.mem_of_getElem? (i := 1283) (by decide +kernel)) (by decide +kernel)) (jsl_n (j := 116) (jsl_run (by decide +kernel)) (jsl_n (j := 119) (jsl_cv (ix := 156) mt_Ta_countRow in_Ta_countRow sl_Ta_countRow rfl (by decide) (se_Ta_countRow _) (by omega) (List.mem_of_getElem? (i := 1284) (by decide +kernel)) (by decide +kernel)) (jsl_n (j := 125) (jsl_run (by decide +kernel)) (jsl_n (j := 128) (jsl_csN (ix := 82) mt_Ct_lesserOf st_Ct_lesserOf (se_Ct_lesserOf _) (by omega) (List.mem_of_getElem? (i := 1166) (by decide +kernel)) (by decide +kernel)) (jsl_n (j := 130) (jsl_run (by decide +kernel)) (jsl_n (j := 133) (jsl_csN (ix := 85) mt_Ct_greaterOf st_Ct_greaterOf (se_Ct_greaterOf _) (by omega) (List.mem_of_getElem? (i := 1167) (by decide +kernel)) (by decide +kernel)) (jsl_cv (ix := 153) mt_Mu_swapMinds in_Mu_swapMinds sl_Mu_swapMinds rfl (by decide) (se_Mu_swapMinds _) (by omega) (List.mem_of_getElem? (i := 1283) (by decide +kernel)) (by decide +kernel))))))))))))) (by decide +kernel) (by decide)) (by decide)) (jfr_go (j := 139) (jsl_run (by decide +kernel)) (by decide +kernel) (by decide)) (by decide)) (by decide)) (by decide)) (jfr_rt (j := 142) (jsl_run (by decide +kernel)) (by decide +kernel)) (by decide)) (by decide))
theorem se_g_Ta_followRows (G : JG) (n : Nat) : JSem G y_Ta_followRows c_Ta_followRows 8 none (2 + n) (g_Ta_followRows n 0) := by
  induction n with
  | zero => exact fun _ _ _ _ h => by cases h
  | succ n ih =>
    have h0 := ih
    exact jsem_of (by decide +kernel) rfl (by intro h; cases h) (fr_Ta_followRows G (g_Ta_followRows n) (2 + n) (by omega) h0)
noncomputable abbrev q_Ta_followRows : JF := g_Ta_followRows 40 0
theorem se_Ta_followRows (G : JG) : JSem G y_Ta_followRows c_Ta_followRows 8 none 42 q_Ta_followRows := (se_g_Ta_followRows G 40)
def y_Ta_rowsAtWorst : MethodName := ⟨"CellarTurns$Tally", "rowsAtWorst", "(I)I"⟩
abbrev c_Ta_rowsAtWorst : ByteArray := prog_11_method_14_code
theorem mt_Ta_rowsAtWorst : JMt y_Ta_rowsAtWorst c_Ta_rowsAtWorst 4 (some .int) 1 := ⟨(List.mem_of_getElem? (i := 1304) (by decide +kernel)), (List.mem_of_getElem? (i := 132) (by decide +kernel)), ⟨by decide +kernel, by decide +kernel⟩, by decide +kernel, by decide⟩
theorem in_Ta_rowsAtWorst : Cond.instanceMethod y_Ta_rowsAtWorst ∈ lw_tbl := (List.mem_of_getElem? (i := 1303) (by decide +kernel))
theorem sl_Ta_rowsAtWorst : Cond.selects y_Ta_rowsAtWorst.cls y_Ta_rowsAtWorst y_Ta_rowsAtWorst ∈ lw_tbl := (List.mem_of_getElem? (i := 44) (by decide +kernel))
noncomputable def qp_Ta_rowsAtWorst : JP := (jb_sq (jb_go (jx_run [(0, 0, 0), (5, 2, 0), (0, 0, 0), (5, 3, 0)]) 4) 4 (jb_sq (jb_lp 4 (jb_sq (jb_if (jx_run [(2, 3, 0), (0, 0, 8)]) 9 32 10) 10 (jb_go (jn (jx_run [(2, 2, 0), (4, 0, 0), (42, 8, 2), (0, 0, 8), (2, 1, 0), (12, 0, 0), (2, 3, 0), (10, 0, 0), (50, 0, 0)]) (jn (jx_cs 2 q_Ma_max) (jx_run [(5, 2, 0), (8, 3, 1)]))) 4))) 32 (jb_rt (jx_run [(2, 2, 0)]) 1)))
noncomputable def q_Ta_rowsAtWorst : JF := jf_of qp_Ta_rowsAtWorst 4
set_option maxRecDepth 20000 in
theorem fr_Ta_rowsAtWorst (G : JG) : JFr G 8 false c_Ta_rowsAtWorst 1 4 (some .int) 0 qp_Ta_rowsAtWorst := (jfr_sq (jfr_go (j := 4) (jsl_run (by decide +kernel)) (by decide +kernel) (by decide)) (jfr_sq (jfr_lp (jfr_sq (jfr_if (j := 7) (jsl_run (by decide +kernel)) (by decide +kernel) (by decide)) (jfr_go (j := 29) (jsl_n (j := 22) (jsl_run (by decide +kernel)) (jsl_n (j := 25) (jsl_cs (ix := 43) mt_Ma_max st_Ma_max (se_Ma_max _) (by decide) (List.mem_of_getElem? (i := 1160) (by decide +kernel)) (by decide +kernel)) (jsl_run (by decide +kernel)))) (by decide +kernel) (by decide)) (by decide)) (by decide)) (jfr_rt (j := 33) (jsl_run (by decide +kernel)) (by decide +kernel)) (by decide)) (by decide))
theorem se_Ta_rowsAtWorst (G : JG) : JSem G y_Ta_rowsAtWorst c_Ta_rowsAtWorst 4 (some .int) 1 q_Ta_rowsAtWorst := jsem_of (by decide +kernel) rfl (by intro h; cases h) (fr_Ta_rowsAtWorst G)
def y_Ta_bodyThatPartsBest : MethodName := ⟨"CellarTurns$Tally", "bodyThatPartsBest", "()I"⟩
abbrev c_Ta_bodyThatPartsBest : ByteArray := prog_11_method_13_code
theorem mt_Ta_bodyThatPartsBest : JMt y_Ta_bodyThatPartsBest c_Ta_bodyThatPartsBest 5 (some .int) 0 := ⟨(List.mem_of_getElem? (i := 1300) (by decide +kernel)), (List.mem_of_getElem? (i := 132) (by decide +kernel)), ⟨by decide +kernel, by decide +kernel⟩, by decide +kernel, by decide⟩
theorem in_Ta_bodyThatPartsBest : Cond.instanceMethod y_Ta_bodyThatPartsBest ∈ lw_tbl := (List.mem_of_getElem? (i := 1298) (by decide +kernel))
theorem sl_Ta_bodyThatPartsBest : Cond.selects y_Ta_bodyThatPartsBest.cls y_Ta_bodyThatPartsBest y_Ta_bodyThatPartsBest ∈ lw_tbl := (List.mem_of_getElem? (i := 1299) (by decide +kernel))
noncomputable def qp_Ta_bodyThatPartsBest : JP := (jb_sq (jb_go (jx_run [(4, 0, 0), (40, 8, 5), (5, 1, 0), (0, 0, -1), (5, 2, 0), (0, 0, 0), (5, 3, 0)]) 9) 9 (jb_sq (jb_lp 9 (jb_sq (jb_if (jx_run [(2, 3, 0), (4, 0, 0), (42, 8, 0), (42, 3, 3), (40, 0, 8)]) 9 73 23) 23 (jb_sq (jb_sq (jb_sq (jb_if (jx_run [(4, 0, 0), (42, 8, 0), (40, 3, 4), (2, 3, 0), (20, 0, 0), (0, 0, 1), (16, 0, 0), (0, 0, 1)]) 7 42 38) 38 (jb_go (jx_run [(0, 0, 1)]) 43)) 42 (jb_go (jx_run [(0, 0, 0)]) 43)) 43 (jb_sq (jb_sq (jb_if (jx_run [(5, 4, 0), (2, 4, 0)]) 0 67 50) 50 (jb_sq (jb_if (jn (jx_run [(4, 0, 0), (2, 3, 0)]) (jn (jx_cv 2 8 q_Ta_rowsAtWorst) (jx_run [(2, 1, 0)]))) 9 67 59) 59 (jb_go (jn (jx_run [(4, 0, 0), (2, 3, 0)]) (jn (jx_cv 2 8 q_Ta_rowsAtWorst) (jx_run [(5, 1, 0), (2, 3, 0), (5, 2, 0)]))) 67))) 67 (jb_go (jx_run [(8, 3, 1)]) 9))))) 73 (jb_rt (jx_run [(2, 2, 0)]) 1)))
noncomputable def q_Ta_bodyThatPartsBest : JF := jf_of qp_Ta_bodyThatPartsBest 5
set_option maxRecDepth 20000 in
theorem fr_Ta_bodyThatPartsBest (G : JG) : JFr G 8 false c_Ta_bodyThatPartsBest 2 5 (some .int) 0 qp_Ta_bodyThatPartsBest := (jfr_sq (jfr_go (j := 9) (jsl_run (by decide +kernel)) (by decide +kernel) (by decide)) (jfr_sq (jfr_lp (jfr_sq (jfr_if (j := 20) (jsl_run (by decide +kernel)) (by decide +kernel) (by decide)) (jfr_sq (jfr_sq (jfr_sq (jfr_if (j := 35) (jsl_run (by decide +kernel)) (by decide +kernel) (by decide)) (jfr_go (j := 39) (jsl_run (by decide +kernel)) (by decide +kernel) (by decide)) (by decide)) (jfr_go (j := 43) (jsl_run (by decide +kernel)) (by decide +kernel) (by decide)) (by decide)) (jfr_sq (jfr_sq (jfr_if (j := 47) (jsl_run (by decide +kernel)) (by decide +kernel) (by decide)) (jfr_sq (jfr_if (j := 56) (jsl_n (j := 52) (jsl_run (by decide +kernel)) (jsl_n (j := 55) (jsl_cv (ix := 164) mt_Ta_rowsAtWorst in_Ta_rowsAtWorst sl_Ta_rowsAtWorst rfl (by decide) (se_Ta_rowsAtWorst _) (by decide) (List.mem_of_getElem? (i := 1301) (by decide +kernel)) (by decide +kernel)) (jsl_run (by decide +kernel)))) (by decide +kernel) (by decide)) (jfr_go (j := 67) (jsl_n (j := 61) (jsl_run (by decide +kernel)) (jsl_n (j := 64) (jsl_cv (ix := 164) mt_Ta_rowsAtWorst in_Ta_rowsAtWorst sl_Ta_rowsAtWorst rfl (by decide) (se_Ta_rowsAtWorst _) (by decide) (List.mem_of_getElem? (i := 1301) (by decide +kernel)) (by decide +kernel)) (jsl_run (by decide +kernel)))) (by decide +kernel) (by decide)) (by decide)) (by decide)) (jfr_go (j := 70) (jsl_run (by decide +kernel)) (by decide +kernel) (by decide)) (by decide)) (by decide)) (by decide)) (by decide)) (jfr_rt (j := 74) (jsl_run (by decide +kernel)) (by decide +kernel)) (by decide)) (by decide))
theorem se_Ta_bodyThatPartsBest (G : JG) : JSem G y_Ta_bodyThatPartsBest c_Ta_bodyThatPartsBest 5 (some .int) 2 q_Ta_bodyThatPartsBest := jsem_of (by decide +kernel) rfl (by intro h; cases h) (fr_Ta_bodyThatPartsBest G)
def y_Ct_may : MethodName := ⟨"CellarTurns", "may", "(II)Z"⟩
abbrev c_Ct_may : ByteArray := prog_1_method_7_code
theorem mt_Ct_may : JMt y_Ct_may c_Ct_may 3 (some .boolean) 2 := ⟨(List.mem_of_getElem? (i := 912) (by decide +kernel)), (List.mem_of_getElem? (i := 117) (by decide +kernel)), ⟨by decide +kernel, by decide +kernel⟩, by decide +kernel, by decide⟩
theorem in_Ct_may : Cond.instanceMethod y_Ct_may ∈ lw_tbl := (List.mem_of_getElem? (i := 910) (by decide +kernel))
theorem sl_Ct_may : Cond.selects y_Ct_may.cls y_Ct_may y_Ct_may ∈ lw_tbl := (List.mem_of_getElem? (i := 911) (by decide +kernel))
noncomputable def qp_Ct_may : JP := (jb_rt (jn (jx_run [(4, 0, 0), (42, 10, 5), (2, 1, 0), (2, 2, 0)]) (jx_cv 3 3 q_Mu_allows)) 4)
noncomputable def q_Ct_may : JF := jf_of qp_Ct_may 3
set_option maxRecDepth 20000 in
theorem fr_Ct_may (G : JG) : JFr G 10 false c_Ct_may 2 3 (some .boolean) 0 qp_Ct_may := (jfr_rt (j := 9) (jsl_n (j := 6) (jsl_run (by decide +kernel)) (jsl_cv (ix := 142) mt_Mu_allows in_Mu_allows sl_Mu_allows rfl (by decide) (se_Mu_allows _) (by decide) (List.mem_of_getElem? (i := 913) (by decide +kernel)) (by decide +kernel))) (by decide +kernel))
theorem se_Ct_may (G : JG) : JSem G y_Ct_may c_Ct_may 3 (some .boolean) 2 q_Ct_may := jsem_of (by decide +kernel) rfl (by intro h; cases h) (fr_Ct_may G)
def y_Ct_met : MethodName := ⟨"CellarTurns", "met", "(I)I"⟩
abbrev c_Ct_met : ByteArray := prog_1_method_17_code
theorem mt_Ct_met : JMt y_Ct_met c_Ct_met 2 (some .int) 1 := ⟨(List.mem_of_getElem? (i := 1077) (by decide +kernel)), (List.mem_of_getElem? (i := 117) (by decide +kernel)), ⟨by decide +kernel, by decide +kernel⟩, by decide +kernel, by decide⟩
theorem in_Ct_met : Cond.instanceMethod y_Ct_met ∈ lw_tbl := (List.mem_of_getElem? (i := 1075) (by decide +kernel))
theorem sl_Ct_met : Cond.selects y_Ct_met.cls y_Ct_met y_Ct_met ∈ lw_tbl := (List.mem_of_getElem? (i := 1076) (by decide +kernel))
noncomputable def qp_Ct_met : JP := (jb_sq (jb_sq (jb_sq (jb_if (jn (jx_run [(4, 0, 0), (42, 10, 9), (2, 1, 0)]) (jx_cv 2 0 q_Ho_has)) 0 23 11) 11 (jb_go (jx_run [(4, 0, 0), (42, 10, 5), (42, 3, 1), (2, 1, 0), (50, 0, 0)]) 24)) 23 (jb_go (jx_run [(0, 0, -1)]) 24)) 24 (jb_rt (jx_run []) 1))
noncomputable def q_Ct_met : JF := jf_of qp_Ct_met 2
set_option maxRecDepth 20000 in
theorem fr_Ct_met (G : JG) : JFr G 10 false c_Ct_met 1 2 (some .int) 0 qp_Ct_met := (jfr_sq (jfr_sq (jfr_sq (jfr_if (j := 8) (jsl_n (j := 5) (jsl_run (by decide +kernel)) (jsl_cv (ix := 113) mt_Ho_has in_Ho_has sl_Ho_has rfl (by decide) (se_Ho_has _) (by decide) (List.mem_of_getElem? (i := 901) (by decide +kernel)) (by decide +kernel))) (by decide +kernel) (by decide)) (jfr_go (j := 20) (jsl_run (by decide +kernel)) (by decide +kernel) (by decide)) (by decide)) (jfr_go (j := 24) (jsl_run (by decide +kernel)) (by decide +kernel) (by decide)) (by decide)) (jfr_rt (j := 24) (jsl_run (by decide +kernel)) (by decide +kernel)) (by decide))
theorem se_Ct_met (G : JG) : JSem G y_Ct_met c_Ct_met 2 (some .int) 1 q_Ct_met := jsem_of (by decide +kernel) rfl (by intro h; cases h) (fr_Ct_met G)
def y_Ct_mind : MethodName := ⟨"CellarTurns", "mind", "(I)I"⟩
abbrev c_Ct_mind : ByteArray := prog_1_method_6_code
theorem mt_Ct_mind : JMt y_Ct_mind c_Ct_mind 3 (some .int) 1 := ⟨(List.mem_of_getElem? (i := 908) (by decide +kernel)), (List.mem_of_getElem? (i := 117) (by decide +kernel)), ⟨by decide +kernel, by decide +kernel⟩, by decide +kernel, by decide⟩
theorem in_Ct_mind : Cond.instanceMethod y_Ct_mind ∈ lw_tbl := (List.mem_of_getElem? (i := 906) (by decide +kernel))
theorem sl_Ct_mind : Cond.selects y_Ct_mind.cls y_Ct_mind y_Ct_mind ∈ lw_tbl := (List.mem_of_getElem? (i := 907) (by decide +kernel))
noncomputable def qp_Ct_mind : JP := (jb_sq (jb_go (jx_run [(0, 0, 0), (5, 2, 0)]) 2) 2 (jb_sq (jb_lp 2 (jb_sq (jb_if (jx_run [(2, 2, 0), (4, 0, 0), (42, 10, 9), (40, 0, 8)]) 9 34 13) 13 (jb_sq (jb_sq (jb_if (jx_run [(4, 0, 0), (42, 10, 5), (42, 3, 0), (2, 2, 0), (50, 0, 0), (2, 1, 0)]) 7 28 26) 26 (jb_rt (jx_run [(2, 2, 0)]) 1)) 28 (jb_go (jx_run [(8, 2, 1)]) 2)))) 34 (jb_rt (jx_run [(0, 0, -1)]) 1)))
noncomputable def q_Ct_mind : JF := jf_of qp_Ct_mind 3
set_option maxRecDepth 20000 in
theorem fr_Ct_mind (G : JG) : JFr G 10 false c_Ct_mind 0 3 (some .int) 0 qp_Ct_mind := (jfr_sq (jfr_go (j := 2) (jsl_run (by decide +kernel)) (by decide +kernel) (by decide)) (jfr_sq (jfr_lp (jfr_sq (jfr_if (j := 10) (jsl_run (by decide +kernel)) (by decide +kernel) (by decide)) (jfr_sq (jfr_sq (jfr_if (j := 23) (jsl_run (by decide +kernel)) (by decide +kernel) (by decide)) (jfr_rt (j := 27) (jsl_run (by decide +kernel)) (by decide +kernel)) (by decide)) (jfr_go (j := 31) (jsl_run (by decide +kernel)) (by decide +kernel) (by decide)) (by decide)) (by decide)) (by decide)) (jfr_rt (j := 35) (jsl_run (by decide +kernel)) (by decide +kernel)) (by decide)) (by decide))
theorem se_Ct_mind (G : JG) : JSem G y_Ct_mind c_Ct_mind 3 (some .int) 0 q_Ct_mind := jsem_of (by decide +kernel) rfl (by intro h; cases h) (fr_Ct_mind G)
end
section
/-! ===== printed by wip/whole/emit.py: methods as pieces ===== -/
def y_Ta_raise : MethodName := ⟨"CellarTurns$Tally", "raise", "(I)V"⟩
abbrev c_Ta_raise : ByteArray := prog_11_method_3_code
theorem mt_Ta_raise : JMt y_Ta_raise c_Ta_raise 8 none 1 := ⟨(List.mem_of_getElem? (i := 1158) (by decide +kernel)), (List.mem_of_getElem? (i := 132) (by decide +kernel)), ⟨by decide +kernel, by decide +kernel⟩, by decide +kernel, by decide⟩
theorem in_Ta_raise : Cond.instanceMethod y_Ta_raise ∈ lw_tbl := (List.mem_of_getElem? (i := 1157) (by decide +kernel))
theorem sl_Ta_raise : Cond.selects y_Ta_raise.cls y_Ta_raise y_Ta_raise ∈ lw_tbl := (List.mem_of_getElem? (i := 33) (by decide +kernel))
noncomputable def qp_Ta_raise (Ψ : Nat → JF) : JP := (jb_sq (jb_sq (jb_if (jx_run [(2, 1, 0)]) 4 23 4) 4 (jb_rt (jn (jx_run [(4, 0, 0), (4, 0, 0), (40, 8, 4), (4, 0, 0), (42, 8, 0)]) (jn (jx_cv 1 3 q_Mu_wrongOnes) (jn (jx_cs 2 q_Ma_max) (jx_run [(43, 8, 4)])))) 0)) 23 (jb_sq (jb_sq (jb_if (jn (jx_run [(4, 0, 0), (42, 8, 0), (40, 3, 4), (4, 0, 0), (42, 8, 0), (42, 3, 3), (40, 0, 10), (0, 0, -1), (18, 0, 0), (16, 0, 0)]) (jn (jx_cs 1 q_In_bitCount) (jn (jx_run [(5, 2, 0), (2, 2, 0), (4, 0, 0), (42, 8, 0)]) (jn (jx_cv 1 3 q_Mu_wrongOnes) (jn (jx_run [(0, 0, 2), (2, 1, 0), (12, 0, 0), (10, 0, 0)]) (jn (jx_cs 2 q_Ma_min) (jx_run [(4, 0, 0), (40, 8, 4)]))))))) 10 70 69) 69 (jb_rt (jx_run []) 0)) 70 (jb_sq (jb_go (jn (jx_run [(4, 0, 0), (42, 8, 0)]) (jn (jx_cv 1 3 q_Mu_openPairs) (jn (jx_run [(6, 3, 0), (3, 3, 0)]) (jn (jx_cs 1 q_Lo_bitCount) (jx_run [(5, 5, 0)]))))) 84) 84 (jb_sq (jb_lp 84 (jb_sq (jb_if (jx_run [(2, 5, 0)]) 5 178 89) 89 (jb_sq (jb_sq (jb_sq (jb_if (jn (jx_run [(3, 3, 0)]) (jn (jx_cs 1 q_Lo_numberOfTrailingZeros) (jn (jx_cs 1 q_Ct_lesserOf) (jn (jx_run [(5, 6, 0), (3, 3, 0)]) (jn (jx_cs 1 q_Lo_numberOfTrailingZeros) (jn (jx_cs 1 q_Ct_greaterOf) (jx_run [(5, 7, 0), (3, 3, 0), (3, 3, 0), (1, 0, 1), (23, 0, 0), (27, 0, 0), (6, 3, 0), (2, 1, 0), (0, 0, 1)]))))))) 7 143 118) 118 (jb_go (jn (jx_run [(4, 0, 0), (4, 0, 0), (40, 8, 4), (4, 0, 0), (42, 8, 0), (2, 6, 0), (2, 7, 0)]) (jn (jx_cv 3 3 q_Mu_wrongBehind) (jn (jx_cs 2 q_Ma_max) (jx_run [(43, 8, 4)])))) 172)) 143 (jb_go (jn (jx_run [(4, 0, 0), (42, 8, 0), (2, 6, 0), (2, 7, 0)]) (jn (jx_cv 3 3 q_Mu_change) (jn (jx_run [(4, 0, 0), (2, 1, 0), (0, 0, 1), (11, 0, 0)]) (jn (jx_cv 2 8 (Ψ 0)) (jn (jx_run [(4, 0, 0), (42, 8, 0), (2, 6, 0), (2, 7, 0)]) (jx_cv 3 3 q_Mu_changeBack)))))) 172)) 172 (jb_go (jx_run [(8, 5, -1)]) 84)))) 178 (jb_rt (jx_run []) 0)))))
noncomputable def g_Ta_raise : Nat → Nat → JF
  | 0 => fun _ _ _ => none
  | n + 1 => fun w => match w with
    | 0 => jf_of (qp_Ta_raise (g_Ta_raise n)) 8
    | _ => fun _ _ => none
set_option maxRecDepth 20000 in
theorem fr_Ta_raise (G : JG) (Ψ : Nat → JF) (d : Nat) (hd : 2 ≤ d + 1) (hΨ0 : JSem G y_Ta_raise c_Ta_raise 8 none d (Ψ 0)) : JFr G 8 false c_Ta_raise (d + 1) 8 none 0 (qp_Ta_raise Ψ) := (jfr_sq (jfr_sq (jfr_if (j := 1) (jsl_run (by decide +kernel)) (by decide +kernel) (by decide)) (jfr_rt (j := 22) (jsl_n (j := 13) (jsl_run (by decide +kernel)) (jsl_n (j := 16) (jsl_cv (ix := 39) mt_Mu_wrongOnes in_Mu_wrongOnes sl_Mu_wrongOnes rfl (by decide) (se_Mu_wrongOnes _) (by omega) (List.mem_of_getElem? (i := 1159) (by decide +kernel)) (by decide +kernel)) (jsl_n (j := 19) (jsl_cs (ix := 43) mt_Ma_max st_Ma_max (se_Ma_max _) (by omega) (List.mem_of_getElem? (i := 1160) (by decide +kernel)) (by decide +kernel)) (jsl_run (by decide +kernel))))) (by decide +kernel)) (by decide)) (jfr_sq (jfr_sq (jfr_if (j := 66) (jsl_n (j := 43) (jsl_run (by decide +kernel)) (jsl_n (j := 46) (jsl_cs (ix := 61) mt_In_bitCount st_In_bitCount (se_In_bitCount _) (by omega) (List.mem_of_getElem? (i := 1161) (by decide +kernel)) (by decide +kernel)) (jsl_n (j := 52) (jsl_run (by decide +kernel)) (jsl_n (j := 55) (jsl_cv (ix := 39) mt_Mu_wrongOnes in_Mu_wrongOnes sl_Mu_wrongOnes rfl (by decide) (se_Mu_wrongOnes _) (by omega) (List.mem_of_getElem? (i := 1159) (by decide +kernel)) (by decide +kernel)) (jsl_n (j := 59) (jsl_run (by decide +kernel)) (jsl_n (j := 62) (jsl_cs (ix := 67) mt_Ma_min st_Ma_min (se_Ma_min _) (by omega) (List.mem_of_getElem? (i := 1162) (by decide +kernel)) (by decide +kernel)) (jsl_run (by decide +kernel)))))))) (by decide +kernel) (by decide)) (jfr_rt (j := 69) (jsl_run (by decide +kernel)) (by decide +kernel)) (by decide)) (jfr_sq (jfr_go (j := 84) (jsl_n (j := 74) (jsl_run (by decide +kernel)) (jsl_n (j := 77) (jsl_cv (ix := 70) mt_Mu_openPairs in_Mu_openPairs sl_Mu_openPairs rfl (by decide) (se_Mu_openPairs _) (by omega) (List.mem_of_getElem? (i := 1163) (by decide +kernel)) (by decide +kernel)) (jsl_n (j := 79) (jsl_run (by decide +kernel)) (jsl_n (j := 82) (jsl_cs (ix := 74) mt_Lo_bitCount st_Lo_bitCount (se_Lo_bitCount _) (by omega) (List.mem_of_getElem? (i := 1164) (by decide +kernel)) (by decide +kernel)) (jsl_run (by decide +kernel)))))) (by decide +kernel) (by decide)) (jfr_sq (jfr_lp (jfr_sq (jfr_if (j := 86) (jsl_run (by decide +kernel)) (by decide +kernel) (by decide)) (jfr_sq (jfr_sq (jfr_sq (jfr_if (j := 115) (jsl_n (j := 90) (jsl_run (by decide +kernel)) (jsl_n (j := 93) (jsl_cs (ix := 79) mt_Lo_numberOfTrailingZeros st_Lo_numberOfTrailingZeros (se_Lo_numberOfTrailingZeros _) (by omega) (List.mem_of_getElem? (i := 1165) (by decide +kernel)) (by decide +kernel)) (jsl_n (j := 96) (jsl_csN (ix := 82) mt_Ct_lesserOf st_Ct_lesserOf (se_Ct_lesserOf _) (by omega) (List.mem_of_getElem? (i := 1166) (by decide +kernel)) (by decide +kernel)) (jsl_n (j := 99) (jsl_run (by decide +kernel)) (jsl_n (j := 102) (jsl_cs (ix := 79) mt_Lo_numberOfTrailingZeros st_Lo_numberOfTrailingZeros (se_Lo_numberOfTrailingZeros _) (by omega) (List.mem_of_getElem? (i := 1165) (by decide +kernel)) (by decide +kernel)) (jsl_n (j := 105) (jsl_csN (ix := 85) mt_Ct_greaterOf st_Ct_greaterOf (se_Ct_greaterOf _) (by omega) (List.mem_of_getElem? (i := 1167) (by decide +kernel)) (by decide +kernel)) (jsl_run (by decide +kernel)))))))) (by decide +kernel) (by decide)) (jfr_go (j := 140) (jsl_n (j := 131) (jsl_run (by decide +kernel)) (jsl_n (j := 134) (jsl_cv (ix := 88) mt_Mu_wrongBehind in_Mu_wrongBehind sl_Mu_wrongBehind rfl (by decide) (se_Mu_wrongBehind _) (by omega) (List.mem_of_getElem? (i := 1168) (by decide +kernel)) (by decide +kernel)) (jsl_n (j := 137) (jsl_cs (ix := 43) mt_Ma_max st_Ma_max (se_Ma_max _) (by omega) (List.mem_of_getElem? (i := 1160) (by decide +kernel)) (by decide +kernel)) (jsl_run (by decide +kernel))))) (by decide +kernel) (by decide)) (by decide)) (jfr_go (j := 172) (jsl_n (j := 151) (jsl_run (by decide +kernel)) (jsl_n (j := 154) (jsl_cv (ix := 91) mt_Mu_change in_Mu_change sl_Mu_change rfl (by decide) (se_Mu_change _) (by omega) (List.mem_of_getElem? (i := 1169) (by decide +kernel)) (by decide +kernel)) (jsl_n (j := 158) (jsl_run (by decide +kernel)) (jsl_n (j := 161) (jsl_cv (ix := 35) mt_Ta_raise in_Ta_raise sl_Ta_raise rfl (by decide) (hΨ0) (by omega) (List.mem_of_getElem? (i := 1155) (by decide +kernel)) (by decide +kernel)) (jsl_n (j := 169) (jsl_run (by decide +kernel)) (jsl_cv (ix := 95) mt_Mu_changeBack in_Mu_changeBack sl_Mu_changeBack rfl (by decide) (se_Mu_changeBack _) (by omega) (List.mem_of_getElem? (i := 1170) (by decide +kernel)) (by decide +kernel))))))) (by decide +kernel) (by decide)) (by decide)) (jfr_go (j := 175) (jsl_run (by decide +kernel)) (by decide +kernel) (by decide)) (by decide)) (by decide)) (by decide)) (jfr_rt (j := 178) (jsl_run (by decide +kernel)) (by decide +kernel)) (by decide)) (by decide)) (by decide)) (by decide))
theorem se_g_Ta_raise (G : JG) (n : Nat) : JSem G y_Ta_raise c_Ta_raise 8 none (2 + n) (g_Ta_raise n 0) := by
  induction n with
  | zero => exact fun _ _ _ _ h => by cases h
  | succ n ih =>
    have h0 := ih
    exact jsem_of (by decide +kernel) rfl (by intro h; cases h) (fr_Ta_raise G (g_Ta_raise n) (2 + n) (by omega) h0)
noncomputable abbrev q_Ta_raise : JF := g_Ta_raise 40 0
theorem se_Ta_raise (G : JG) : JSem G y_Ta_raise c_Ta_raise 8 none 42 q_Ta_raise := (se_g_Ta_raise G 40)
def y_Ta_codeOfMinds : MethodName := ⟨"CellarTurns$Tally", "codeOfMinds", "()I"⟩
abbrev c_Ta_codeOfMinds : ByteArray := prog_11_method_6_code
theorem mt_Ta_codeOfMinds : JMt y_Ta_codeOfMinds c_Ta_codeOfMinds 3 (some .int) 0 := ⟨(List.mem_of_getElem? (i := 1237) (by decide +kernel)), (List.mem_of_getElem? (i := 132) (by decide +kernel)), ⟨by decide +kernel, by decide +kernel⟩, by decide +kernel, by decide⟩
theorem in_Ta_codeOfMinds : Cond.instanceMethod y_Ta_codeOfMinds ∈ lw_tbl := (List.mem_of_getElem? (i := 1236) (by decide +kernel))
theorem sl_Ta_codeOfMinds : Cond.selects y_Ta_codeOfMinds.cls y_Ta_codeOfMinds y_Ta_codeOfMinds ∈ lw_tbl := (List.mem_of_getElem? (i := 39) (by decide +kernel))
noncomputable def qp_Ta_codeOfMinds : JP := (jb_sq (jb_go (jx_run [(0, 0, 0), (5, 1, 0), (0, 0, 0), (5, 2, 0)]) 4) 4 (jb_sq (jb_lp 4 (jb_sq (jb_if (jx_run [(2, 2, 0), (4, 0, 0), (42, 8, 0), (42, 3, 3), (40, 0, 8)]) 9 39 18) 18 (jb_go (jx_run [(0, 0, 8), (2, 1, 0), (12, 0, 0), (4, 0, 0), (42, 8, 0), (42, 3, 0), (2, 2, 0), (50, 0, 0), (10, 0, 0), (5, 1, 0), (8, 2, 1)]) 4))) 39 (jb_rt (jx_run [(2, 1, 0)]) 1)))
noncomputable def q_Ta_codeOfMinds : JF := jf_of qp_Ta_codeOfMinds 3
set_option maxRecDepth 20000 in
theorem fr_Ta_codeOfMinds (G : JG) : JFr G 8 false c_Ta_codeOfMinds 0 3 (some .int) 0 qp_Ta_codeOfMinds := (jfr_sq (jfr_go (j := 4) (jsl_run (by decide +kernel)) (by decide +kernel) (by decide)) (jfr_sq (jfr_lp (jfr_sq (jfr_if (j := 15) (jsl_run (by decide +kernel)) (by decide +kernel) (by decide)) (jfr_go (j := 36) (jsl_run (by decide +kernel)) (by decide +kernel) (by decide)) (by decide)) (by decide)) (jfr_rt (j := 40) (jsl_run (by decide +kernel)) (by decide +kernel)) (by decide)) (by decide))
theorem se_Ta_codeOfMinds (G : JG) : JSem G y_Ta_codeOfMinds c_Ta_codeOfMinds 3 (some .int) 0 q_Ta_codeOfMinds := jsem_of (by decide +kernel) rfl (by intro h; cases h) (fr_Ta_codeOfMinds G)
def y_Ta_addCode : MethodName := ⟨"CellarTurns$Tally", "addCode", "(I)V"⟩
abbrev c_Ta_addCode : ByteArray := prog_11_method_7_code
theorem mt_Ta_addCode : JMt y_Ta_addCode c_Ta_addCode 4 none 1 := ⟨(List.mem_of_getElem? (i := 1241) (by decide +kernel)), (List.mem_of_getElem? (i := 132) (by decide +kernel)), ⟨by decide +kernel, by decide +kernel⟩, by decide +kernel, by decide⟩
theorem in_Ta_addCode : Cond.instanceMethod y_Ta_addCode ∈ lw_tbl := (List.mem_of_getElem? (i := 1240) (by decide +kernel))
theorem sl_Ta_addCode : Cond.selects y_Ta_addCode.cls y_Ta_addCode y_Ta_addCode ∈ lw_tbl := (List.mem_of_getElem? (i := 40) (by decide +kernel))
noncomputable def qp_Ta_addCode : JP := (jb_sq (jb_go (jn (jx_run [(2, 1, 0), (0, 0, 31), (12, 0, 0), (2, 1, 0), (0, 0, 9), (20, 0, 0), (10, 0, 0), (0, 0, 1024)]) (jn (jx_cs 2 q_Ma_floorMod) (jx_run [(5, 2, 0), (0, 0, 0), (5, 3, 0)]))) 18) 18 (jb_sq (jb_lp 18 (jb_sq (jb_if (jx_run [(2, 3, 0), (0, 0, 1024)]) 9 79 25) 25 (jb_sq (jb_if (jx_run [(4, 0, 0), (42, 8, 1), (2, 2, 0), (50, 0, 0), (2, 1, 0)]) 6 79 35) 35 (jb_sq (jb_sq (jb_sq (jb_if (jx_run [(4, 0, 0), (42, 8, 1), (2, 2, 0), (50, 0, 0), (0, 0, -1)]) 7 65 45) 45 (jb_go (jx_run [(4, 0, 0), (42, 8, 1), (2, 2, 0), (2, 1, 0), (55, 0, 0), (4, 0, 0), (70, 0, 0), (40, 8, 3), (0, 0, 1), (10, 0, 0), (43, 8, 3)]) 73)) 65 (jb_go (jx_run [(2, 2, 0), (0, 0, 1), (10, 0, 0), (0, 0, 1024), (14, 0, 0), (5, 2, 0)]) 73)) 73 (jb_go (jx_run [(8, 3, 1)]) 18))))) 79 (jb_rt (jx_run []) 0)))
noncomputable def q_Ta_addCode : JF := jf_of qp_Ta_addCode 4
set_option maxRecDepth 20000 in
theorem fr_Ta_addCode (G : JG) : JFr G 8 false c_Ta_addCode 1 4 none 0 qp_Ta_addCode := (jfr_sq (jfr_go (j := 18) (jsl_n (j := 12) (jsl_run (by decide +kernel)) (jsl_n (j := 15) (jsl_cs (ix := 116) mt_Ma_floorMod st_Ma_floorMod (se_Ma_floorMod _) (by decide) (List.mem_of_getElem? (i := 1242) (by decide +kernel)) (by decide +kernel)) (jsl_run (by decide +kernel)))) (by decide +kernel) (by decide)) (jfr_sq (jfr_lp (jfr_sq (jfr_if (j := 22) (jsl_run (by decide +kernel)) (by decide +kernel) (by decide)) (jfr_sq (jfr_if (j := 32) (jsl_run (by decide +kernel)) (by decide +kernel) (by decide)) (jfr_sq (jfr_sq (jfr_sq (jfr_if (j := 42) (jsl_run (by decide +kernel)) (by decide +kernel) (by decide)) (jfr_go (j := 62) (jsl_run (by decide +kernel)) (by decide +kernel) (by decide)) (by decide)) (jfr_go (j := 73) (jsl_run (by decide +kernel)) (by decide +kernel) (by decide)) (by decide)) (jfr_go (j := 76) (jsl_run (by decide +kernel)) (by decide +kernel) (by decide)) (by decide)) (by decide)) (by decide)) (by decide)) (jfr_rt (j := 79) (jsl_run (by decide +kernel)) (by decide +kernel)) (by decide)) (by decide))
theorem se_Ta_addCode (G : JG) : JSem G y_Ta_addCode c_Ta_addCode 4 none 1 q_Ta_addCode := jsem_of (by decide +kernel) rfl (by intro h; cases h) (fr_Ta_addCode G)
def y_Ta_gather : MethodName := ⟨"CellarTurns$Tally", "gather", "(I)V"⟩
abbrev c_Ta_gather : ByteArray := prog_11_method_5_code
theorem mt_Ta_gather : JMt y_Ta_gather c_Ta_gather 7 none 1 := ⟨(List.mem_of_getElem? (i := 1233) (by decide +kernel)), (List.mem_of_getElem? (i := 132) (by decide +kernel)), ⟨by decide +kernel, by decide +kernel⟩, by decide +kernel, by decide⟩
theorem in_Ta_gather : Cond.instanceMethod y_Ta_gather ∈ lw_tbl := (List.mem_of_getElem? (i := 1232) (by decide +kernel))
theorem sl_Ta_gather : Cond.selects y_Ta_gather.cls y_Ta_gather y_Ta_gather ∈ lw_tbl := (List.mem_of_getElem? (i := 38) (by decide +kernel))
noncomputable def qp_Ta_gather (Ψ : Nat → JF) : JP := (jb_sq (jb_sq (jb_if (jx_run [(2, 1, 0)]) 4 13 4) 4 (jb_rt (jn (jx_run [(4, 0, 0), (4, 0, 0)]) (jn (jx_cv 1 8 q_Ta_codeOfMinds) (jx_cv 2 8 q_Ta_addCode))) 0)) 13 (jb_sq (jb_go (jn (jx_run [(4, 0, 0), (42, 8, 0)]) (jn (jx_cv 1 3 q_Mu_openPairs) (jn (jx_run [(6, 2, 0), (3, 2, 0)]) (jn (jx_cs 1 q_Lo_bitCount) (jx_run [(5, 4, 0)]))))) 27) 27 (jb_sq (jb_lp 27 (jb_sq (jb_if (jx_run [(2, 4, 0)]) 5 91 32) 32 (jb_go (jn (jx_run [(3, 2, 0)]) (jn (jx_cs 1 q_Lo_numberOfTrailingZeros) (jn (jx_cs 1 q_Ct_lesserOf) (jn (jx_run [(5, 5, 0), (3, 2, 0)]) (jn (jx_cs 1 q_Lo_numberOfTrailingZeros) (jn (jx_cs 1 q_Ct_greaterOf) (jn (jx_run [(5, 6, 0), (3, 2, 0), (3, 2, 0), (1, 0, 1), (23, 0, 0), (27, 0, 0), (6, 2, 0), (4, 0, 0), (42, 8, 0), (2, 5, 0), (2, 6, 0)]) (jn (jx_cv 3 3 q_Mu_change) (jn (jx_run [(4, 0, 0), (2, 1, 0), (0, 0, 1), (11, 0, 0)]) (jn (jx_cv 2 8 (Ψ 0)) (jn (jx_run [(4, 0, 0), (42, 8, 0), (2, 5, 0), (2, 6, 0)]) (jn (jx_cv 3 3 q_Mu_changeBack) (jx_run [(8, 4, -1)]))))))))))))) 27))) 91 (jb_rt (jx_run []) 0))))
noncomputable def g_Ta_gather : Nat → Nat → JF
  | 0 => fun _ _ _ => none
  | n + 1 => fun w => match w with
    | 0 => jf_of (qp_Ta_gather (g_Ta_gather n)) 7
    | _ => fun _ _ => none
set_option maxRecDepth 20000 in
theorem fr_Ta_gather (G : JG) (Ψ : Nat → JF) (d : Nat) (hd : 2 ≤ d + 1) (hΨ0 : JSem G y_Ta_gather c_Ta_gather 7 none d (Ψ 0)) : JFr G 8 false c_Ta_gather (d + 1) 7 none 0 (qp_Ta_gather Ψ) := (jfr_sq (jfr_sq (jfr_if (j := 1) (jsl_run (by decide +kernel)) (by decide +kernel) (by decide)) (jfr_rt (j := 12) (jsl_n (j := 6) (jsl_run (by decide +kernel)) (jsl_n (j := 9) (jsl_cv (ix := 104) mt_Ta_codeOfMinds in_Ta_codeOfMinds sl_Ta_codeOfMinds rfl (by decide) (se_Ta_codeOfMinds _) (by omega) (List.mem_of_getElem? (i := 1234) (by decide +kernel)) (by decide +kernel)) (jsl_cv (ix := 107) mt_Ta_addCode in_Ta_addCode sl_Ta_addCode rfl (by decide) (se_Ta_addCode _) (by omega) (List.mem_of_getElem? (i := 1238) (by decide +kernel)) (by decide +kernel)))) (by decide +kernel)) (by decide)) (jfr_sq (jfr_go (j := 27) (jsl_n (j := 17) (jsl_run (by decide +kernel)) (jsl_n (j := 20) (jsl_cv (ix := 70) mt_Mu_openPairs in_Mu_openPairs sl_Mu_openPairs rfl (by decide) (se_Mu_openPairs _) (by omega) (List.mem_of_getElem? (i := 1163) (by decide +kernel)) (by decide +kernel)) (jsl_n (j := 22) (jsl_run (by decide +kernel)) (jsl_n (j := 25) (jsl_cs (ix := 74) mt_Lo_bitCount st_Lo_bitCount (se_Lo_bitCount _) (by omega) (List.mem_of_getElem? (i := 1164) (by decide +kernel)) (by decide +kernel)) (jsl_run (by decide +kernel)))))) (by decide +kernel) (by decide)) (jfr_sq (jfr_lp (jfr_sq (jfr_if (j := 29) (jsl_run (by decide +kernel)) (by decide +kernel) (by decide)) (jfr_go (j := 88) (jsl_n (j := 33) (jsl_run (by decide +kernel)) (jsl_n (j := 36) (jsl_cs (ix := 79) mt_Lo_numberOfTrailingZeros st_Lo_numberOfTrailingZeros (se_Lo_numberOfTrailingZeros _) (by omega) (List.mem_of_getElem? (i := 1165) (by decide +kernel)) (by decide +kernel)) (jsl_n (j := 39) (jsl_csN (ix := 82) mt_Ct_lesserOf st_Ct_lesserOf (se_Ct_lesserOf _) (by omega) (List.mem_of_getElem? (i := 1166) (by decide +kernel)) (by decide +kernel)) (jsl_n (j := 42) (jsl_run (by decide +kernel)) (jsl_n (j := 45) (jsl_cs (ix := 79) mt_Lo_numberOfTrailingZeros st_Lo_numberOfTrailingZeros (se_Lo_numberOfTrailingZeros _) (by omega) (List.mem_of_getElem? (i := 1165) (by decide +kernel)) (by decide +kernel)) (jsl_n (j := 48) (jsl_csN (ix := 85) mt_Ct_greaterOf st_Ct_greaterOf (se_Ct_greaterOf _) (by omega) (List.mem_of_getElem? (i := 1167) (by decide +kernel)) (by decide +kernel)) (jsl_n (j := 64) (jsl_run (by decide +kernel)) (jsl_n (j := 67) (jsl_cv (ix := 91) mt_Mu_change in_Mu_change sl_Mu_change rfl (by decide) (se_Mu_change _) (by omega) (List.mem_of_getElem? (i := 1169) (by decide +kernel)) (by decide +kernel)) (jsl_n (j := 71) (jsl_run (by decide +kernel)) (jsl_n (j := 74) (jsl_cv (ix := 101) mt_Ta_gather in_Ta_gather sl_Ta_gather rfl (by decide) (hΨ0) (by omega) (List.mem_of_getElem? (i := 1230) (by decide +kernel)) (by decide +kernel)) (jsl_n (j := 82) (jsl_run (by decide +kernel)) (jsl_n (j := 85) (jsl_cv (ix := 95) mt_Mu_changeBack in_Mu_changeBack sl_Mu_changeBack rfl (by decide) (se_Mu_changeBack _) (by omega) (List.mem_of_getElem? (i := 1170) (by decide +kernel)) (by decide +kernel)) (jsl_run (by decide +kernel)))))))))))))) (by decide +kernel) (by decide)) (by decide)) (by decide)) (jfr_rt (j := 91) (jsl_run (by decide +kernel)) (by decide +kernel)) (by decide)) (by decide)) (by decide))
theorem se_g_Ta_gather (G : JG) (n : Nat) : JSem G y_Ta_gather c_Ta_gather 7 none (2 + n) (g_Ta_gather n 0) := by
  induction n with
  | zero => exact fun _ _ _ _ h => by cases h
  | succ n ih =>
    have h0 := ih
    exact jsem_of (by decide +kernel) rfl (by intro h; cases h) (fr_Ta_gather G (g_Ta_gather n) (2 + n) (by omega) h0)
noncomputable abbrev q_Ta_gather : JF := g_Ta_gather 40 0
theorem se_Ta_gather (G : JG) : JSem G y_Ta_gather c_Ta_gather 7 none 42 q_Ta_gather := (se_g_Ta_gather G 40)
def y_Ct_pairOf : MethodName := ⟨"CellarTurns", "pairOf", "(II)I"⟩
abbrev c_Ct_pairOf : ByteArray := prog_1_method_37_code
theorem mt_Ct_pairOf : JMt y_Ct_pairOf c_Ct_pairOf 2 (some .int) 2 := ⟨(List.mem_of_getElem? (i := 1407) (by decide +kernel)), (List.mem_of_getElem? (i := 117) (by decide +kernel)), ⟨by decide +kernel, by decide +kernel⟩, by decide +kernel, by decide⟩
theorem st_Ct_pairOf : Cond.static y_Ct_pairOf ∈ lw_tbl := (List.mem_of_getElem? (i := 1406) (by decide +kernel))
noncomputable def qp_Ct_pairOf : JP := (jb_rt (jn (jx_run [(0, 0, 8), (2, 0, 0), (2, 1, 0)]) (jn (jx_cs 2 q_Ma_min) (jn (jx_run [(12, 0, 0), (2, 0, 0), (2, 1, 0)]) (jn (jx_cs 2 q_Ma_max) (jx_run [(10, 0, 0)]))))) 1)
noncomputable def q_Ct_pairOf : JF := jf_of qp_Ct_pairOf 2
set_option maxRecDepth 20000 in
theorem fr_Ct_pairOf (G : JG) : JFr G 10 false c_Ct_pairOf 1 2 (some .int) 0 qp_Ct_pairOf := (jfr_rt (j := 14) (jsl_n (j := 4) (jsl_run (by decide +kernel)) (jsl_n (j := 7) (jsl_cs (ix := 321) mt_Ma_min st_Ma_min (se_Ma_min _) (by decide) (List.mem_of_getElem? (i := 940) (by decide +kernel)) (by decide +kernel)) (jsl_n (j := 10) (jsl_run (by decide +kernel)) (jsl_n (j := 13) (jsl_cs (ix := 341) mt_Ma_max st_Ma_max (se_Ma_max _) (by decide) (List.mem_of_getElem? (i := 1408) (by decide +kernel)) (by decide +kernel)) (jsl_run (by decide +kernel)))))) (by decide +kernel))
theorem se_Ct_pairOf (G : JG) : JSem G y_Ct_pairOf c_Ct_pairOf 2 (some .int) 1 q_Ct_pairOf := jsem_of (by decide +kernel) rfl (by intro h; cases h) (fr_Ct_pairOf G)
def y_Ct_ready : MethodName := ⟨"CellarTurns", "ready", "(III)Z"⟩
abbrev c_Ct_ready : ByteArray := prog_1_method_18_code
theorem mt_Ct_ready : JMt y_Ct_ready c_Ct_ready 4 (some .boolean) 3 := ⟨(List.mem_of_getElem? (i := 1081) (by decide +kernel)), (List.mem_of_getElem? (i := 117) (by decide +kernel)), ⟨by decide +kernel, by decide +kernel⟩, by decide +kernel, by decide⟩
theorem in_Ct_ready : Cond.instanceMethod y_Ct_ready ∈ lw_tbl := (List.mem_of_getElem? (i := 1079) (by decide +kernel))
theorem sl_Ct_ready : Cond.selects y_Ct_ready.cls y_Ct_ready y_Ct_ready ∈ lw_tbl := (List.mem_of_getElem? (i := 1080) (by decide +kernel))
noncomputable def qp_Ct_ready : JP := (jb_rt (jn (jx_run [(4, 0, 0), (42, 10, 5), (2, 1, 0), (2, 2, 0), (2, 3, 0)]) (jx_cv 4 3 q_Mu_allowsRound)) 4)
noncomputable def q_Ct_ready : JF := jf_of qp_Ct_ready 4
set_option maxRecDepth 20000 in
theorem fr_Ct_ready (G : JG) : JFr G 10 false c_Ct_ready 3 4 (some .boolean) 0 qp_Ct_ready := (jfr_rt (j := 10) (jsl_n (j := 7) (jsl_run (by decide +kernel)) (jsl_cv (ix := 157) mt_Mu_allowsRound in_Mu_allowsRound sl_Mu_allowsRound rfl (by decide) (se_Mu_allowsRound _) (by decide) (List.mem_of_getElem? (i := 983) (by decide +kernel)) (by decide +kernel))) (by decide +kernel))
theorem se_Ct_ready (G : JG) : JSem G y_Ct_ready c_Ct_ready 4 (some .boolean) 3 q_Ct_ready := jsem_of (by decide +kernel) rfl (by intro h; cases h) (fr_Ct_ready G)
def y_Ct_rings : MethodName := ⟨"CellarTurns", "rings", "(I)I"⟩
abbrev c_Ct_rings : ByteArray := prog_1_method_13_code
theorem mt_Ct_rings : JMt y_Ct_rings c_Ct_rings 2 (some .int) 1 := ⟨(List.mem_of_getElem? (i := 1033) (by decide +kernel)), (List.mem_of_getElem? (i := 117) (by decide +kernel)), ⟨by decide +kernel, by decide +kernel⟩, by decide +kernel, by decide⟩
theorem in_Ct_rings : Cond.instanceMethod y_Ct_rings ∈ lw_tbl := (List.mem_of_getElem? (i := 1031) (by decide +kernel))
theorem sl_Ct_rings : Cond.selects y_Ct_rings.cls y_Ct_rings y_Ct_rings ∈ lw_tbl := (List.mem_of_getElem? (i := 1032) (by decide +kernel))
noncomputable def qp_Ct_rings : JP := (jb_sq (jb_sq (jb_sq (jb_sq (jb_sw (jn (jx_run [(4, 0, 0), (42, 10, 2), (4, 0, 0), (42, 10, 5)]) (jn (jx_cv 2 6 q_Ri_read) (jx_run [(2, 1, 0)]))) (0) [40, 48, 56] 66) 56 (jb_rt (jx_run [(4, 0, 0), (42, 10, 2), (40, 6, 5), (0, 0, 1), (16, 0, 0)]) 1)) 48 (jb_rt (jx_run [(4, 0, 0), (42, 10, 2), (40, 6, 4)]) 1)) 40 (jb_rt (jx_run [(4, 0, 0), (42, 10, 2), (40, 6, 3)]) 1)) 66 (jb_rt (jx_run [(0, 0, -1)]) 1))
noncomputable def q_Ct_rings : JF := jf_of qp_Ct_rings 2
set_option maxRecDepth 20000 in
theorem fr_Ct_rings (G : JG) : JFr G 10 false c_Ct_rings 3 2 (some .int) 0 qp_Ct_rings := (jfr_sq (jfr_sq (jfr_sq (jfr_sq (jfr_sw (j := 12) (jsl_n (j := 8) (jsl_run (by decide +kernel)) (jsl_n (j := 11) (jsl_cv (ix := 192) mt_Ri_read in_Ri_read sl_Ri_read rfl (by decide) (se_Ri_read _) (by decide) (List.mem_of_getElem? (i := 1034) (by decide +kernel)) (by decide +kernel)) (jsl_run (by decide +kernel)))) (by decide +kernel)) (jfr_rt (j := 65) (jsl_run (by decide +kernel)) (by decide +kernel)) (by decide)) (jfr_rt (j := 55) (jsl_run (by decide +kernel)) (by decide +kernel)) (by decide)) (jfr_rt (j := 47) (jsl_run (by decide +kernel)) (by decide +kernel)) (by decide)) (jfr_rt (j := 67) (jsl_run (by decide +kernel)) (by decide +kernel)) (by decide))
theorem se_Ct_rings (G : JG) : JSem G y_Ct_rings c_Ct_rings 2 (some .int) 3 q_Ct_rings := jsem_of (by decide +kernel) rfl (by intro h; cases h) (fr_Ct_rings G)
def y_Mu_addSeen : MethodName := ⟨"CellarTurns$Muddle", "addSeen", "(II)V"⟩
abbrev c_Mu_addSeen : ByteArray := prog_6_method_13_code
theorem mt_Mu_addSeen : JMt y_Mu_addSeen c_Mu_addSeen 3 none 2 := ⟨(List.mem_of_getElem? (i := 1264) (by decide +kernel)), (List.mem_of_getElem? (i := 129) (by decide +kernel)), ⟨by decide +kernel, by decide +kernel⟩, by decide +kernel, by decide⟩
theorem in_Mu_addSeen : Cond.instanceMethod y_Mu_addSeen ∈ lw_tbl := (List.mem_of_getElem? (i := 1262) (by decide +kernel))
theorem sl_Mu_addSeen : Cond.selects y_Mu_addSeen.cls y_Mu_addSeen y_Mu_addSeen ∈ lw_tbl := (List.mem_of_getElem? (i := 1263) (by decide +kernel))
noncomputable def qp_Mu_addSeen : JP := (jb_rt (jx_run [(4, 0, 0), (4, 0, 0), (41, 3, 10), (0, 0, 6), (30, 0, 0), (0, 0, 8), (2, 1, 0), (12, 0, 0), (2, 2, 0), (10, 0, 0), (34, 0, 0), (28, 0, 0), (44, 3, 10), (4, 0, 0), (70, 0, 0), (40, 3, 11), (0, 0, 1), (10, 0, 0), (43, 3, 11)]) 0)
noncomputable def q_Mu_addSeen : JF := jf_of qp_Mu_addSeen 3
set_option maxRecDepth 20000 in
theorem fr_Mu_addSeen (G : JG) : JFr G 3 false c_Mu_addSeen 0 3 none 0 qp_Mu_addSeen := (jfr_rt (j := 29) (jsl_run (by decide +kernel)) (by decide +kernel))
theorem se_Mu_addSeen (G : JG) : JSem G y_Mu_addSeen c_Mu_addSeen 3 none 0 q_Mu_addSeen := jsem_of (by decide +kernel) rfl (by intro h; cases h) (fr_Mu_addSeen G)
def y_Ct_see : MethodName := ⟨"CellarTurns", "see", "(II)Z"⟩
abbrev c_Ct_see : ByteArray := prog_1_method_27_code
theorem mt_Ct_see : JMt y_Ct_see c_Ct_see 3 (some .boolean) 2 := ⟨(List.mem_of_getElem? (i := 1260) (by decide +kernel)), (List.mem_of_getElem? (i := 117) (by decide +kernel)), ⟨by decide +kernel, by decide +kernel⟩, by decide +kernel, by decide⟩
theorem in_Ct_see : Cond.instanceMethod y_Ct_see ∈ lw_tbl := (List.mem_of_getElem? (i := 1258) (by decide +kernel))
theorem sl_Ct_see : Cond.selects y_Ct_see.cls y_Ct_see y_Ct_see ∈ lw_tbl := (List.mem_of_getElem? (i := 1259) (by decide +kernel))
noncomputable def qp_Ct_see : JP := (jb_sq (jb_sq (jb_if (jn (jx_run [(4, 0, 0), (42, 10, 9), (2, 1, 0)]) (jx_cv 2 0 q_Ho_has)) 0 34 11) 11 (jb_sq (jb_if (jn (jx_run [(4, 0, 0), (42, 10, 9), (2, 2, 0)]) (jx_cv 2 0 q_Ho_has)) 0 34 22) 22 (jb_sq (jb_if (jx_run [(4, 0, 0), (42, 10, 5), (40, 3, 11), (0, 0, 8)]) 8 36 34) 36 (jb_rt (jn (jx_run [(4, 0, 0), (42, 10, 5), (2, 1, 0), (2, 2, 0)]) (jn (jx_cv 3 3 q_Mu_addSeen) (jx_run [(0, 0, 1)]))) 4)))) 34 (jb_rt (jx_run [(0, 0, 0)]) 4))
noncomputable def q_Ct_see : JF := jf_of qp_Ct_see 3
set_option maxRecDepth 20000 in
theorem fr_Ct_see (G : JG) : JFr G 10 false c_Ct_see 1 3 (some .boolean) 0 qp_Ct_see := (jfr_sq (jfr_sq (jfr_if (j := 8) (jsl_n (j := 5) (jsl_run (by decide +kernel)) (jsl_cv (ix := 113) mt_Ho_has in_Ho_has sl_Ho_has rfl (by decide) (se_Ho_has _) (by decide) (List.mem_of_getElem? (i := 901) (by decide +kernel)) (by decide +kernel))) (by decide +kernel) (by decide)) (jfr_sq (jfr_if (j := 19) (jsl_n (j := 16) (jsl_run (by decide +kernel)) (jsl_cv (ix := 113) mt_Ho_has in_Ho_has sl_Ho_has rfl (by decide) (se_Ho_has _) (by decide) (List.mem_of_getElem? (i := 901) (by decide +kernel)) (by decide +kernel))) (by decide +kernel) (by decide)) (jfr_sq (jfr_if (j := 31) (jsl_run (by decide +kernel)) (by decide +kernel) (by decide)) (jfr_rt (j := 46) (jsl_n (j := 42) (jsl_run (by decide +kernel)) (jsl_n (j := 45) (jsl_cv (ix := 260) mt_Mu_addSeen in_Mu_addSeen sl_Mu_addSeen rfl (by decide) (se_Mu_addSeen _) (by decide) (List.mem_of_getElem? (i := 1261) (by decide +kernel)) (by decide +kernel)) (jsl_run (by decide +kernel)))) (by decide +kernel)) (by decide)) (by decide)) (by decide)) (jfr_rt (j := 35) (jsl_run (by decide +kernel)) (by decide +kernel)) (by decide))
theorem se_Ct_see (G : JG) : JSem G y_Ct_see c_Ct_see 3 (some .boolean) 1 q_Ct_see := jsem_of (by decide +kernel) rfl (by intro h; cases h) (fr_Ct_see G)
end
section
theorem i_vc : Claimed_1_1 ∧ Claimed_1_2 := sorry
end
