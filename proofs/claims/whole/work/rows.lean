section
-- ===== PART A: goes FIRST, ahead of the names: the tables' words, and 'selects' of the private methods out of them =====
/-- a private method of a class that the tables say can be made, by its rows of tables_1 -/
def lw_okq (q : MethodName × Nat) : Prop := (q.1.cls ≠ "java/lang/invoke/MethodHandle" ∧ q.1.cls ≠ "java/lang/invoke/VarHandle") ∧ Cond.instantiable q.1.cls q.2 ∈ tables_1 ∧ Cond.privateMethod q.1 ∈ tables_1 ∧ Cond.instanceMethod q.1 ∈ tables_1
theorem lw_p0 : lw_okq (⟨"CellarTurns$House", "limitOf", "(I)I"⟩, 15) := ⟨⟨by decide +kernel, by decide +kernel⟩, List.mem_of_getElem? (i := 107) (by decide +kernel), List.mem_of_getElem? (i := 143) (by decide +kernel), List.mem_of_getElem? (i := 144) (by decide +kernel)⟩
theorem lw_p1 : lw_okq (⟨"CellarTurns$Muddle", "settle", "(I)V"⟩, 12) := ⟨⟨by decide +kernel, by decide +kernel⟩, List.mem_of_getElem? (i := 283) (by decide +kernel), List.mem_of_getElem? (i := 311) (by decide +kernel), List.mem_of_getElem? (i := 312) (by decide +kernel)⟩
theorem lw_p2 : lw_okq (⟨"CellarTurns$Tape", "isLetter", "(I)Z"⟩, 9) := ⟨⟨by decide +kernel, by decide +kernel⟩, List.mem_of_getElem? (i := 39) (by decide +kernel), List.mem_of_getElem? (i := 512) (by decide +kernel), List.mem_of_getElem? (i := 513) (by decide +kernel)⟩
theorem lw_p3 : lw_okq (⟨"CellarTurns$Tape", "takeWord", "()V"⟩, 9) := ⟨⟨by decide +kernel, by decide +kernel⟩, List.mem_of_getElem? (i := 39) (by decide +kernel), List.mem_of_getElem? (i := 516) (by decide +kernel), List.mem_of_getElem? (i := 517) (by decide +kernel)⟩
theorem lw_p4 : lw_okq (⟨"CellarTurns$Tape", "isDigit", "(I)Z"⟩, 9) := ⟨⟨by decide +kernel, by decide +kernel⟩, List.mem_of_getElem? (i := 39) (by decide +kernel), List.mem_of_getElem? (i := 527) (by decide +kernel), List.mem_of_getElem? (i := 528) (by decide +kernel)⟩
theorem lw_p5 : lw_okq (⟨"CellarTurns$Tape", "takeNumber", "()V"⟩, 9) := ⟨⟨by decide +kernel, by decide +kernel⟩, List.mem_of_getElem? (i := 39) (by decide +kernel), List.mem_of_getElem? (i := 531) (by decide +kernel), List.mem_of_getElem? (i := 532) (by decide +kernel)⟩
theorem lw_p6 : lw_okq (⟨"CellarTurns$Tape", "takeSign", "()V"⟩, 9) := ⟨⟨by decide +kernel, by decide +kernel⟩, List.mem_of_getElem? (i := 39) (by decide +kernel), List.mem_of_getElem? (i := 535) (by decide +kernel), List.mem_of_getElem? (i := 536) (by decide +kernel)⟩
theorem lw_p7 : lw_okq (⟨"CellarTurns$Reader", "houseLine", "(LCellarTurns$House;)Z"⟩, 2) := ⟨⟨by decide +kernel, by decide +kernel⟩, List.mem_of_getElem? (i := 84) (by decide +kernel), List.mem_of_getElem? (i := 628) (by decide +kernel), List.mem_of_getElem? (i := 629) (by decide +kernel)⟩
theorem lw_p8 : lw_okq (⟨"CellarTurns$Reader", "personLine", "(LCellarTurns$House;)Z"⟩, 2) := ⟨⟨by decide +kernel, by decide +kernel⟩, List.mem_of_getElem? (i := 84) (by decide +kernel), List.mem_of_getElem? (i := 640) (by decide +kernel), List.mem_of_getElem? (i := 641) (by decide +kernel)⟩
theorem lw_p9 : lw_okq (⟨"CellarTurns$Reader", "atUntoldName", "(LCellarTurns$House;)Z"⟩, 2) := ⟨⟨by decide +kernel, by decide +kernel⟩, List.mem_of_getElem? (i := 84) (by decide +kernel), List.mem_of_getElem? (i := 651) (by decide +kernel), List.mem_of_getElem? (i := 652) (by decide +kernel)⟩
theorem lw_p10 : lw_okq (⟨"CellarTurns$Reader", "newLine", "(LCellarTurns$House;)Z"⟩, 2) := ⟨⟨by decide +kernel, by decide +kernel⟩, List.mem_of_getElem? (i := 84) (by decide +kernel), List.mem_of_getElem? (i := 675) (by decide +kernel), List.mem_of_getElem? (i := 676) (by decide +kernel)⟩
theorem lw_p11 : lw_okq (⟨"CellarTurns$Reader", "atNumber", "(II)Z"⟩, 2) := ⟨⟨by decide +kernel, by decide +kernel⟩, List.mem_of_getElem? (i := 84) (by decide +kernel), List.mem_of_getElem? (i := 681) (by decide +kernel), List.mem_of_getElem? (i := 682) (by decide +kernel)⟩
theorem lw_p12 : lw_okq (⟨"CellarTurns$Reader", "ringLine", "(LCellarTurns$House;)Z"⟩, 2) := ⟨⟨by decide +kernel, by decide +kernel⟩, List.mem_of_getElem? (i := 84) (by decide +kernel), List.mem_of_getElem? (i := 690) (by decide +kernel), List.mem_of_getElem? (i := 691) (by decide +kernel)⟩
theorem lw_p13 : lw_okq (⟨"CellarTurns$Reader", "toldBody", "(LCellarTurns$House;I)I"⟩, 2) := ⟨⟨by decide +kernel, by decide +kernel⟩, List.mem_of_getElem? (i := 84) (by decide +kernel), List.mem_of_getElem? (i := 694) (by decide +kernel), List.mem_of_getElem? (i := 695) (by decide +kernel)⟩
theorem lw_p14 : lw_okq (⟨"CellarTurns$Reader", "pairLine", "(LCellarTurns$House;[I)Z"⟩, 2) := ⟨⟨by decide +kernel, by decide +kernel⟩, List.mem_of_getElem? (i := 84) (by decide +kernel), List.mem_of_getElem? (i := 698) (by decide +kernel), List.mem_of_getElem? (i := 699) (by decide +kernel)⟩
theorem lw_p15 : lw_okq (⟨"CellarTurns$Reader", "oftenLine", "(LCellarTurns$House;)Z"⟩, 2) := ⟨⟨by decide +kernel, by decide +kernel⟩, List.mem_of_getElem? (i := 84) (by decide +kernel), List.mem_of_getElem? (i := 702) (by decide +kernel), List.mem_of_getElem? (i := 703) (by decide +kernel)⟩
def lw_privs_1 : List (MethodName × Nat) := [(⟨"CellarTurns$House", "limitOf", "(I)I"⟩, 15), (⟨"CellarTurns$Muddle", "settle", "(I)V"⟩, 12), (⟨"CellarTurns$Tape", "isLetter", "(I)Z"⟩, 9), (⟨"CellarTurns$Tape", "takeWord", "()V"⟩, 9), (⟨"CellarTurns$Tape", "isDigit", "(I)Z"⟩, 9), (⟨"CellarTurns$Tape", "takeNumber", "()V"⟩, 9), (⟨"CellarTurns$Tape", "takeSign", "()V"⟩, 9), (⟨"CellarTurns$Reader", "houseLine", "(LCellarTurns$House;)Z"⟩, 2), (⟨"CellarTurns$Reader", "personLine", "(LCellarTurns$House;)Z"⟩, 2), (⟨"CellarTurns$Reader", "atUntoldName", "(LCellarTurns$House;)Z"⟩, 2), (⟨"CellarTurns$Reader", "newLine", "(LCellarTurns$House;)Z"⟩, 2), (⟨"CellarTurns$Reader", "atNumber", "(II)Z"⟩, 2), (⟨"CellarTurns$Reader", "ringLine", "(LCellarTurns$House;)Z"⟩, 2), (⟨"CellarTurns$Reader", "toldBody", "(LCellarTurns$House;I)I"⟩, 2), (⟨"CellarTurns$Reader", "pairLine", "(LCellarTurns$House;[I)Z"⟩, 2), (⟨"CellarTurns$Reader", "oftenLine", "(LCellarTurns$House;)Z"⟩, 2)]
theorem lw_r1 : ∀ q ∈ lw_privs_1, lw_okq q := List.forall_mem_cons.mpr ⟨lw_p0, List.forall_mem_cons.mpr ⟨lw_p1, List.forall_mem_cons.mpr ⟨lw_p2, List.forall_mem_cons.mpr ⟨lw_p3, List.forall_mem_cons.mpr ⟨lw_p4, List.forall_mem_cons.mpr ⟨lw_p5, List.forall_mem_cons.mpr ⟨lw_p6, List.forall_mem_cons.mpr ⟨lw_p7, List.forall_mem_cons.mpr ⟨lw_p8, List.forall_mem_cons.mpr ⟨lw_p9, List.forall_mem_cons.mpr ⟨lw_p10, List.forall_mem_cons.mpr ⟨lw_p11, List.forall_mem_cons.mpr ⟨lw_p12, List.forall_mem_cons.mpr ⟨lw_p13, List.forall_mem_cons.mpr ⟨lw_p14, List.forall_mem_cons.mpr ⟨lw_p15, fun _ h => absurd h List.not_mem_nil⟩⟩⟩⟩⟩⟩⟩⟩⟩⟩⟩⟩⟩⟩⟩⟩
theorem lw_p16 : lw_okq (⟨"CellarTurns$Reader", "costsLine", "(LCellarTurns$House;)Z"⟩, 2) := ⟨⟨by decide +kernel, by decide +kernel⟩, List.mem_of_getElem? (i := 84) (by decide +kernel), List.mem_of_getElem? (i := 706) (by decide +kernel), List.mem_of_getElem? (i := 707) (by decide +kernel)⟩
theorem lw_p17 : lw_okq (⟨"CellarTurns$LawReader", "test", "(LCellarTurns$Law;I)Z"⟩, 1) := ⟨⟨by decide +kernel, by decide +kernel⟩, List.mem_of_getElem? (i := 90) (by decide +kernel), List.mem_of_getElem? (i := 714) (by decide +kernel), List.mem_of_getElem? (i := 715) (by decide +kernel)⟩
theorem lw_p18 : lw_okq (⟨"CellarTurns$LawReader", "sum", "(LCellarTurns$Law;I)Z"⟩, 1) := ⟨⟨by decide +kernel, by decide +kernel⟩, List.mem_of_getElem? (i := 90) (by decide +kernel), List.mem_of_getElem? (i := 718) (by decide +kernel), List.mem_of_getElem? (i := 719) (by decide +kernel)⟩
theorem lw_p19 : lw_okq (⟨"CellarTurns$LawReader", "product", "(LCellarTurns$Law;I)Z"⟩, 1) := ⟨⟨by decide +kernel, by decide +kernel⟩, List.mem_of_getElem? (i := 90) (by decide +kernel), List.mem_of_getElem? (i := 722) (by decide +kernel), List.mem_of_getElem? (i := 723) (by decide +kernel)⟩
theorem lw_p20 : lw_okq (⟨"CellarTurns$LawReader", "part", "(LCellarTurns$Law;I)Z"⟩, 1) := ⟨⟨by decide +kernel, by decide +kernel⟩, List.mem_of_getElem? (i := 90) (by decide +kernel), List.mem_of_getElem? (i := 726) (by decide +kernel), List.mem_of_getElem? (i := 727) (by decide +kernel)⟩
theorem lw_p21 : lw_okq (⟨"CellarTurns$LawReader", "valueHere", "()I"⟩, 1) := ⟨⟨by decide +kernel, by decide +kernel⟩, List.mem_of_getElem? (i := 90) (by decide +kernel), List.mem_of_getElem? (i := 732) (by decide +kernel), List.mem_of_getElem? (i := 733) (by decide +kernel)⟩
theorem lw_p22 : lw_okq (⟨"CellarTurns$Reader", "planLine", "(LCellarTurns$House;LCellarTurns$Plan;)Z"⟩, 2) := ⟨⟨by decide +kernel, by decide +kernel⟩, List.mem_of_getElem? (i := 84) (by decide +kernel), List.mem_of_getElem? (i := 766) (by decide +kernel), List.mem_of_getElem? (i := 767) (by decide +kernel)⟩
theorem lw_p23 : lw_okq (⟨"CellarTurns", "remember", "()V"⟩, 16) := ⟨⟨by decide +kernel, by decide +kernel⟩, List.mem_of_getElem? (i := 31) (by decide +kernel), List.mem_of_getElem? (i := 811) (by decide +kernel), List.mem_of_getElem? (i := 812) (by decide +kernel)⟩
theorem lw_p24 : lw_okq (⟨"CellarTurns$Muddle", "join", "(II)V"⟩, 12) := ⟨⟨by decide +kernel, by decide +kernel⟩, List.mem_of_getElem? (i := 283) (by decide +kernel), List.mem_of_getElem? (i := 838) (by decide +kernel), List.mem_of_getElem? (i := 839) (by decide +kernel)⟩
theorem lw_p25 : lw_okq (⟨"CellarTurns$Law", "value", "(III)I"⟩, 3) := ⟨⟨by decide +kernel, by decide +kernel⟩, List.mem_of_getElem? (i := 113) (by decide +kernel), List.mem_of_getElem? (i := 851) (by decide +kernel), List.mem_of_getElem? (i := 852) (by decide +kernel)⟩
theorem lw_p26 : lw_okq (⟨"CellarTurns$Muddle", "canSitTwice", "(I)Z"⟩, 12) := ⟨⟨by decide +kernel, by decide +kernel⟩, List.mem_of_getElem? (i := 283) (by decide +kernel), List.mem_of_getElem? (i := 873) (by decide +kernel), List.mem_of_getElem? (i := 874) (by decide +kernel)⟩
theorem lw_p27 : lw_okq (⟨"CellarTurns$Plan", "playLine", "(LCellarTurns$Muddle;I)Z"⟩, 3) := ⟨⟨by decide +kernel, by decide +kernel⟩, List.mem_of_getElem? (i := 228) (by decide +kernel), List.mem_of_getElem? (i := 905) (by decide +kernel), List.mem_of_getElem? (i := 906) (by decide +kernel)⟩
theorem lw_p28 : lw_okq (⟨"CellarTurns$RingList", "addRing", "(LCellarTurns$Muddle;II)V"⟩, 6) := ⟨⟨by decide +kernel, by decide +kernel⟩, List.mem_of_getElem? (i := 246) (by decide +kernel), List.mem_of_getElem? (i := 928) (by decide +kernel), List.mem_of_getElem? (i := 929) (by decide +kernel)⟩
theorem lw_p29 : lw_okq (⟨"CellarTurns$RingList", "addTurn", "(II)V"⟩, 6) := ⟨⟨by decide +kernel, by decide +kernel⟩, List.mem_of_getElem? (i := 246) (by decide +kernel), List.mem_of_getElem? (i := 933) (by decide +kernel), List.mem_of_getElem? (i := 934) (by decide +kernel)⟩
theorem lw_p30 : lw_okq (⟨"CellarTurns$Search", "keepRow", "()V"⟩, 7) := ⟨⟨by decide +kernel, by decide +kernel⟩, List.mem_of_getElem? (i := 277) (by decide +kernel), List.mem_of_getElem? (i := 977) (by decide +kernel), List.mem_of_getElem? (i := 978) (by decide +kernel)⟩
theorem lw_p31 : lw_okq (⟨"CellarTurns$Search", "lessen", "(I)V"⟩, 7) := ⟨⟨by decide +kernel, by decide +kernel⟩, List.mem_of_getElem? (i := 277) (by decide +kernel), List.mem_of_getElem? (i := 981) (by decide +kernel), List.mem_of_getElem? (i := 982) (by decide +kernel)⟩
def lw_privs_2 : List (MethodName × Nat) := [(⟨"CellarTurns$Reader", "costsLine", "(LCellarTurns$House;)Z"⟩, 2), (⟨"CellarTurns$LawReader", "test", "(LCellarTurns$Law;I)Z"⟩, 1), (⟨"CellarTurns$LawReader", "sum", "(LCellarTurns$Law;I)Z"⟩, 1), (⟨"CellarTurns$LawReader", "product", "(LCellarTurns$Law;I)Z"⟩, 1), (⟨"CellarTurns$LawReader", "part", "(LCellarTurns$Law;I)Z"⟩, 1), (⟨"CellarTurns$LawReader", "valueHere", "()I"⟩, 1), (⟨"CellarTurns$Reader", "planLine", "(LCellarTurns$House;LCellarTurns$Plan;)Z"⟩, 2), (⟨"CellarTurns", "remember", "()V"⟩, 16), (⟨"CellarTurns$Muddle", "join", "(II)V"⟩, 12), (⟨"CellarTurns$Law", "value", "(III)I"⟩, 3), (⟨"CellarTurns$Muddle", "canSitTwice", "(I)Z"⟩, 12), (⟨"CellarTurns$Plan", "playLine", "(LCellarTurns$Muddle;I)Z"⟩, 3), (⟨"CellarTurns$RingList", "addRing", "(LCellarTurns$Muddle;II)V"⟩, 6), (⟨"CellarTurns$RingList", "addTurn", "(II)V"⟩, 6), (⟨"CellarTurns$Search", "keepRow", "()V"⟩, 7), (⟨"CellarTurns$Search", "lessen", "(I)V"⟩, 7)]
theorem lw_r2 : ∀ q ∈ lw_privs_2, lw_okq q := List.forall_mem_cons.mpr ⟨lw_p16, List.forall_mem_cons.mpr ⟨lw_p17, List.forall_mem_cons.mpr ⟨lw_p18, List.forall_mem_cons.mpr ⟨lw_p19, List.forall_mem_cons.mpr ⟨lw_p20, List.forall_mem_cons.mpr ⟨lw_p21, List.forall_mem_cons.mpr ⟨lw_p22, List.forall_mem_cons.mpr ⟨lw_p23, List.forall_mem_cons.mpr ⟨lw_p24, List.forall_mem_cons.mpr ⟨lw_p25, List.forall_mem_cons.mpr ⟨lw_p26, List.forall_mem_cons.mpr ⟨lw_p27, List.forall_mem_cons.mpr ⟨lw_p28, List.forall_mem_cons.mpr ⟨lw_p29, List.forall_mem_cons.mpr ⟨lw_p30, List.forall_mem_cons.mpr ⟨lw_p31, fun _ h => absurd h List.not_mem_nil⟩⟩⟩⟩⟩⟩⟩⟩⟩⟩⟩⟩⟩⟩⟩⟩
theorem lw_p32 : lw_okq (⟨"CellarTurns$Search", "tryTurn", "(II)V"⟩, 7) := ⟨⟨by decide +kernel, by decide +kernel⟩, List.mem_of_getElem? (i := 277) (by decide +kernel), List.mem_of_getElem? (i := 1018) (by decide +kernel), List.mem_of_getElem? (i := 1019) (by decide +kernel)⟩
theorem lw_p33 : lw_okq (⟨"CellarTurns$Tally", "raise", "(I)V"⟩, 9) := ⟨⟨by decide +kernel, by decide +kernel⟩, List.mem_of_getElem? (i := 396) (by decide +kernel), List.mem_of_getElem? (i := 1040) (by decide +kernel), List.mem_of_getElem? (i := 1041) (by decide +kernel)⟩
theorem lw_p34 : lw_okq (⟨"CellarTurns$Search", "leadsHome", "(I)Z"⟩, 7) := ⟨⟨by decide +kernel, by decide +kernel⟩, List.mem_of_getElem? (i := 277) (by decide +kernel), List.mem_of_getElem? (i := 1068) (by decide +kernel), List.mem_of_getElem? (i := 1069) (by decide +kernel)⟩
theorem lw_p35 : lw_okq (⟨"CellarTurns$Muddle", "pairsWithinRings", "()J"⟩, 12) := ⟨⟨by decide +kernel, by decide +kernel⟩, List.mem_of_getElem? (i := 283) (by decide +kernel), List.mem_of_getElem? (i := 1077) (by decide +kernel), List.mem_of_getElem? (i := 1078) (by decide +kernel)⟩
theorem lw_p36 : lw_okq (⟨"CellarTurns", "leadsHomeWith", "(II)Z"⟩, 16) := ⟨⟨by decide +kernel, by decide +kernel⟩, List.mem_of_getElem? (i := 31) (by decide +kernel), List.mem_of_getElem? (i := 1085) (by decide +kernel), List.mem_of_getElem? (i := 1086) (by decide +kernel)⟩
theorem lw_p37 : lw_okq (⟨"CellarTurns$Search", "cheapen", "(II)V"⟩, 7) := ⟨⟨by decide +kernel, by decide +kernel⟩, List.mem_of_getElem? (i := 277) (by decide +kernel), List.mem_of_getElem? (i := 1102) (by decide +kernel), List.mem_of_getElem? (i := 1103) (by decide +kernel)⟩
theorem lw_p38 : lw_okq (⟨"CellarTurns$Tally", "gather", "(I)V"⟩, 9) := ⟨⟨by decide +kernel, by decide +kernel⟩, List.mem_of_getElem? (i := 396) (by decide +kernel), List.mem_of_getElem? (i := 1115) (by decide +kernel), List.mem_of_getElem? (i := 1116) (by decide +kernel)⟩
theorem lw_p39 : lw_okq (⟨"CellarTurns$Tally", "codeOfMinds", "()I"⟩, 9) := ⟨⟨by decide +kernel, by decide +kernel⟩, List.mem_of_getElem? (i := 396) (by decide +kernel), List.mem_of_getElem? (i := 1119) (by decide +kernel), List.mem_of_getElem? (i := 1120) (by decide +kernel)⟩
theorem lw_p40 : lw_okq (⟨"CellarTurns$Tally", "addCode", "(I)V"⟩, 9) := ⟨⟨by decide +kernel, by decide +kernel⟩, List.mem_of_getElem? (i := 396) (by decide +kernel), List.mem_of_getElem? (i := 1123) (by decide +kernel), List.mem_of_getElem? (i := 1124) (by decide +kernel)⟩
theorem lw_p41 : lw_okq (⟨"CellarTurns$Tally", "shareAtHome", "(II)I"⟩, 9) := ⟨⟨by decide +kernel, by decide +kernel⟩, List.mem_of_getElem? (i := 396) (by decide +kernel), List.mem_of_getElem? (i := 1137) (by decide +kernel), List.mem_of_getElem? (i := 1138) (by decide +kernel)⟩
theorem lw_p42 : lw_okq (⟨"CellarTurns$Tally", "followRows", "(IJ)V"⟩, 9) := ⟨⟨by decide +kernel, by decide +kernel⟩, List.mem_of_getElem? (i := 396) (by decide +kernel), List.mem_of_getElem? (i := 1164) (by decide +kernel), List.mem_of_getElem? (i := 1165) (by decide +kernel)⟩
theorem lw_p43 : lw_okq (⟨"CellarTurns$Tally", "countRow", "(J)V"⟩, 9) := ⟨⟨by decide +kernel, by decide +kernel⟩, List.mem_of_getElem? (i := 396) (by decide +kernel), List.mem_of_getElem? (i := 1169) (by decide +kernel), List.mem_of_getElem? (i := 1170) (by decide +kernel)⟩
theorem lw_p44 : lw_okq (⟨"CellarTurns$Tally", "rowsAtWorst", "(I)I"⟩, 9) := ⟨⟨by decide +kernel, by decide +kernel⟩, List.mem_of_getElem? (i := 396) (by decide +kernel), List.mem_of_getElem? (i := 1186) (by decide +kernel), List.mem_of_getElem? (i := 1187) (by decide +kernel)⟩
theorem lw_p45 : lw_okq (⟨"CellarTurns", "playDrawnTurns", "(J)J"⟩, 16) := ⟨⟨by decide +kernel, by decide +kernel⟩, List.mem_of_getElem? (i := 31) (by decide +kernel), List.mem_of_getElem? (i := 1194) (by decide +kernel), List.mem_of_getElem? (i := 1195) (by decide +kernel)⟩
theorem lw_p46 : lw_okq (⟨"java/lang/Throwable", "fillInStackTrace", "(I)Ljava/lang/Throwable;"⟩, 6) := ⟨⟨by decide +kernel, by decide +kernel⟩, List.mem_of_getElem? (i := 1260) (by decide +kernel), List.mem_of_getElem? (i := 1258) (by decide +kernel), List.mem_of_getElem? (i := 1259) (by decide +kernel)⟩
theorem lw_p47 : lw_okq (⟨"CellarTurnsModel", "lay", "(J)V"⟩, 45) := ⟨⟨by decide +kernel, by decide +kernel⟩, List.mem_of_getElem? (i := 1304) (by decide +kernel), List.mem_of_getElem? (i := 1302) (by decide +kernel), List.mem_of_getElem? (i := 1303) (by decide +kernel)⟩
def lw_privs_3 : List (MethodName × Nat) := [(⟨"CellarTurns$Search", "tryTurn", "(II)V"⟩, 7), (⟨"CellarTurns$Tally", "raise", "(I)V"⟩, 9), (⟨"CellarTurns$Search", "leadsHome", "(I)Z"⟩, 7), (⟨"CellarTurns$Muddle", "pairsWithinRings", "()J"⟩, 12), (⟨"CellarTurns", "leadsHomeWith", "(II)Z"⟩, 16), (⟨"CellarTurns$Search", "cheapen", "(II)V"⟩, 7), (⟨"CellarTurns$Tally", "gather", "(I)V"⟩, 9), (⟨"CellarTurns$Tally", "codeOfMinds", "()I"⟩, 9), (⟨"CellarTurns$Tally", "addCode", "(I)V"⟩, 9), (⟨"CellarTurns$Tally", "shareAtHome", "(II)I"⟩, 9), (⟨"CellarTurns$Tally", "followRows", "(IJ)V"⟩, 9), (⟨"CellarTurns$Tally", "countRow", "(J)V"⟩, 9), (⟨"CellarTurns$Tally", "rowsAtWorst", "(I)I"⟩, 9), (⟨"CellarTurns", "playDrawnTurns", "(J)J"⟩, 16), (⟨"java/lang/Throwable", "fillInStackTrace", "(I)Ljava/lang/Throwable;"⟩, 6), (⟨"CellarTurnsModel", "lay", "(J)V"⟩, 45)]
theorem lw_r3 : ∀ q ∈ lw_privs_3, lw_okq q := List.forall_mem_cons.mpr ⟨lw_p32, List.forall_mem_cons.mpr ⟨lw_p33, List.forall_mem_cons.mpr ⟨lw_p34, List.forall_mem_cons.mpr ⟨lw_p35, List.forall_mem_cons.mpr ⟨lw_p36, List.forall_mem_cons.mpr ⟨lw_p37, List.forall_mem_cons.mpr ⟨lw_p38, List.forall_mem_cons.mpr ⟨lw_p39, List.forall_mem_cons.mpr ⟨lw_p40, List.forall_mem_cons.mpr ⟨lw_p41, List.forall_mem_cons.mpr ⟨lw_p42, List.forall_mem_cons.mpr ⟨lw_p43, List.forall_mem_cons.mpr ⟨lw_p44, List.forall_mem_cons.mpr ⟨lw_p45, List.forall_mem_cons.mpr ⟨lw_p46, List.forall_mem_cons.mpr ⟨lw_p47, fun _ h => absurd h List.not_mem_nil⟩⟩⟩⟩⟩⟩⟩⟩⟩⟩⟩⟩⟩⟩⟩⟩
theorem lw_p48 : lw_okq (⟨"CellarTurnsModel", "standsAsAlways", "(I)V"⟩, 45) := ⟨⟨by decide +kernel, by decide +kernel⟩, List.mem_of_getElem? (i := 1304) (by decide +kernel), List.mem_of_getElem? (i := 1333) (by decide +kernel), List.mem_of_getElem? (i := 1334) (by decide +kernel)⟩
theorem lw_p49 : lw_okq (⟨"CellarTurnsModel", "begins", "()V"⟩, 45) := ⟨⟨by decide +kernel, by decide +kernel⟩, List.mem_of_getElem? (i := 1304) (by decide +kernel), List.mem_of_getElem? (i := 1337) (by decide +kernel), List.mem_of_getElem? (i := 1338) (by decide +kernel)⟩
theorem lw_p50 : lw_okq (⟨"CellarTurnsModel", "starts", "(I)V"⟩, 45) := ⟨⟨by decide +kernel, by decide +kernel⟩, List.mem_of_getElem? (i := 1304) (by decide +kernel), List.mem_of_getElem? (i := 1341) (by decide +kernel), List.mem_of_getElem? (i := 1342) (by decide +kernel)⟩
theorem lw_p51 : lw_okq (⟨"CellarTurnsModel", "bodies", "()I"⟩, 45) := ⟨⟨by decide +kernel, by decide +kernel⟩, List.mem_of_getElem? (i := 1304) (by decide +kernel), List.mem_of_getElem? (i := 1345) (by decide +kernel), List.mem_of_getElem? (i := 1346) (by decide +kernel)⟩
theorem lw_p52 : lw_okq (⟨"CellarTurnsModel", "bodyOf", "(II)I"⟩, 45) := ⟨⟨by decide +kernel, by decide +kernel⟩, List.mem_of_getElem? (i := 1304) (by decide +kernel), List.mem_of_getElem? (i := 1349) (by decide +kernel), List.mem_of_getElem? (i := 1350) (by decide +kernel)⟩
theorem lw_p53 : lw_okq (⟨"CellarTurnsModel", "cutAll", "()V"⟩, 45) := ⟨⟨by decide +kernel, by decide +kernel⟩, List.mem_of_getElem? (i := 1304) (by decide +kernel), List.mem_of_getElem? (i := 1494) (by decide +kernel), List.mem_of_getElem? (i := 1495) (by decide +kernel)⟩
theorem lw_p54 : lw_okq (⟨"CellarTurnsModel", "readLine", "()V"⟩, 45) := ⟨⟨by decide +kernel, by decide +kernel⟩, List.mem_of_getElem? (i := 1304) (by decide +kernel), List.mem_of_getElem? (i := 1513) (by decide +kernel), List.mem_of_getElem? (i := 1514) (by decide +kernel)⟩
theorem lw_p55 : lw_okq (⟨"CellarTurnsModel", "isWord", "(I)Z"⟩, 45) := ⟨⟨by decide +kernel, by decide +kernel⟩, List.mem_of_getElem? (i := 1304) (by decide +kernel), List.mem_of_getElem? (i := 1517) (by decide +kernel), List.mem_of_getElem? (i := 1518) (by decide +kernel)⟩
theorem lw_p56 : lw_okq (⟨"CellarTurnsModel", "readBody", "(Z)V"⟩, 45) := ⟨⟨by decide +kernel, by decide +kernel⟩, List.mem_of_getElem? (i := 1304) (by decide +kernel), List.mem_of_getElem? (i := 1521) (by decide +kernel), List.mem_of_getElem? (i := 1522) (by decide +kernel)⟩
theorem lw_p57 : lw_okq (⟨"CellarTurnsModel", "wrong", "(I)V"⟩, 45) := ⟨⟨by decide +kernel, by decide +kernel⟩, List.mem_of_getElem? (i := 1304) (by decide +kernel), List.mem_of_getElem? (i := 1525) (by decide +kernel), List.mem_of_getElem? (i := 1526) (by decide +kernel)⟩
theorem lw_p58 : lw_okq (⟨"CellarTurnsModel", "isName", "()Z"⟩, 45) := ⟨⟨by decide +kernel, by decide +kernel⟩, List.mem_of_getElem? (i := 1304) (by decide +kernel), List.mem_of_getElem? (i := 1529) (by decide +kernel), List.mem_of_getElem? (i := 1530) (by decide +kernel)⟩
theorem lw_p59 : lw_okq (⟨"CellarTurnsModel", "wordHere", "(II)I"⟩, 45) := ⟨⟨by decide +kernel, by decide +kernel⟩, List.mem_of_getElem? (i := 1304) (by decide +kernel), List.mem_of_getElem? (i := 1533) (by decide +kernel), List.mem_of_getElem? (i := 1534) (by decide +kernel)⟩
theorem lw_p60 : lw_okq (⟨"CellarTurnsModel", "find", "(Z)I"⟩, 45) := ⟨⟨by decide +kernel, by decide +kernel⟩, List.mem_of_getElem? (i := 1304) (by decide +kernel), List.mem_of_getElem? (i := 1537) (by decide +kernel), List.mem_of_getElem? (i := 1538) (by decide +kernel)⟩
theorem lw_p61 : lw_okq (⟨"CellarTurnsModel", "takeWord", "(I)V"⟩, 45) := ⟨⟨by decide +kernel, by decide +kernel⟩, List.mem_of_getElem? (i := 1304) (by decide +kernel), List.mem_of_getElem? (i := 1541) (by decide +kernel), List.mem_of_getElem? (i := 1542) (by decide +kernel)⟩
theorem lw_p62 : lw_okq (⟨"CellarTurnsModel", "hasWord", "(I)Z"⟩, 45) := ⟨⟨by decide +kernel, by decide +kernel⟩, List.mem_of_getElem? (i := 1304) (by decide +kernel), List.mem_of_getElem? (i := 1545) (by decide +kernel), List.mem_of_getElem? (i := 1546) (by decide +kernel)⟩
theorem lw_p63 : lw_okq (⟨"CellarTurnsModel", "takeNumber", "(II)I"⟩, 45) := ⟨⟨by decide +kernel, by decide +kernel⟩, List.mem_of_getElem? (i := 1304) (by decide +kernel), List.mem_of_getElem? (i := 1549) (by decide +kernel), List.mem_of_getElem? (i := 1550) (by decide +kernel)⟩
def lw_privs_4 : List (MethodName × Nat) := [(⟨"CellarTurnsModel", "standsAsAlways", "(I)V"⟩, 45), (⟨"CellarTurnsModel", "begins", "()V"⟩, 45), (⟨"CellarTurnsModel", "starts", "(I)V"⟩, 45), (⟨"CellarTurnsModel", "bodies", "()I"⟩, 45), (⟨"CellarTurnsModel", "bodyOf", "(II)I"⟩, 45), (⟨"CellarTurnsModel", "cutAll", "()V"⟩, 45), (⟨"CellarTurnsModel", "readLine", "()V"⟩, 45), (⟨"CellarTurnsModel", "isWord", "(I)Z"⟩, 45), (⟨"CellarTurnsModel", "readBody", "(Z)V"⟩, 45), (⟨"CellarTurnsModel", "wrong", "(I)V"⟩, 45), (⟨"CellarTurnsModel", "isName", "()Z"⟩, 45), (⟨"CellarTurnsModel", "wordHere", "(II)I"⟩, 45), (⟨"CellarTurnsModel", "find", "(Z)I"⟩, 45), (⟨"CellarTurnsModel", "takeWord", "(I)V"⟩, 45), (⟨"CellarTurnsModel", "hasWord", "(I)Z"⟩, 45), (⟨"CellarTurnsModel", "takeNumber", "(II)I"⟩, 45)]
theorem lw_r4 : ∀ q ∈ lw_privs_4, lw_okq q := List.forall_mem_cons.mpr ⟨lw_p48, List.forall_mem_cons.mpr ⟨lw_p49, List.forall_mem_cons.mpr ⟨lw_p50, List.forall_mem_cons.mpr ⟨lw_p51, List.forall_mem_cons.mpr ⟨lw_p52, List.forall_mem_cons.mpr ⟨lw_p53, List.forall_mem_cons.mpr ⟨lw_p54, List.forall_mem_cons.mpr ⟨lw_p55, List.forall_mem_cons.mpr ⟨lw_p56, List.forall_mem_cons.mpr ⟨lw_p57, List.forall_mem_cons.mpr ⟨lw_p58, List.forall_mem_cons.mpr ⟨lw_p59, List.forall_mem_cons.mpr ⟨lw_p60, List.forall_mem_cons.mpr ⟨lw_p61, List.forall_mem_cons.mpr ⟨lw_p62, List.forall_mem_cons.mpr ⟨lw_p63, fun _ h => absurd h List.not_mem_nil⟩⟩⟩⟩⟩⟩⟩⟩⟩⟩⟩⟩⟩⟩⟩⟩
theorem lw_p64 : lw_okq (⟨"CellarTurnsModel", "takeOne", "(II)I"⟩, 45) := ⟨⟨by decide +kernel, by decide +kernel⟩, List.mem_of_getElem? (i := 1304) (by decide +kernel), List.mem_of_getElem? (i := 1553) (by decide +kernel), List.mem_of_getElem? (i := 1554) (by decide +kernel)⟩
theorem lw_p65 : lw_okq (⟨"CellarTurnsModel", "readRing", "()V"⟩, 45) := ⟨⟨by decide +kernel, by decide +kernel⟩, List.mem_of_getElem? (i := 1304) (by decide +kernel), List.mem_of_getElem? (i := 1557) (by decide +kernel), List.mem_of_getElem? (i := 1558) (by decide +kernel)⟩
theorem lw_p66 : lw_okq (⟨"CellarTurnsModel", "personHere", "()I"⟩, 45) := ⟨⟨by decide +kernel, by decide +kernel⟩, List.mem_of_getElem? (i := 1304) (by decide +kernel), List.mem_of_getElem? (i := 1561) (by decide +kernel), List.mem_of_getElem? (i := 1562) (by decide +kernel)⟩
theorem lw_p67 : lw_okq (⟨"CellarTurnsModel", "readPair", "(I)V"⟩, 45) := ⟨⟨by decide +kernel, by decide +kernel⟩, List.mem_of_getElem? (i := 1304) (by decide +kernel), List.mem_of_getElem? (i := 1565) (by decide +kernel), List.mem_of_getElem? (i := 1566) (by decide +kernel)⟩
theorem lw_p68 : lw_okq (⟨"CellarTurnsModel", "readOnce", "()V"⟩, 45) := ⟨⟨by decide +kernel, by decide +kernel⟩, List.mem_of_getElem? (i := 1304) (by decide +kernel), List.mem_of_getElem? (i := 1569) (by decide +kernel), List.mem_of_getElem? (i := 1570) (by decide +kernel)⟩
theorem lw_p69 : lw_okq (⟨"CellarTurnsModel", "all", "(I)V"⟩, 45) := ⟨⟨by decide +kernel, by decide +kernel⟩, List.mem_of_getElem? (i := 1304) (by decide +kernel), List.mem_of_getElem? (i := 1573) (by decide +kernel), List.mem_of_getElem? (i := 1574) (by decide +kernel)⟩
theorem lw_p70 : lw_okq (⟨"CellarTurnsModel", "test", "(I)V"⟩, 45) := ⟨⟨by decide +kernel, by decide +kernel⟩, List.mem_of_getElem? (i := 1304) (by decide +kernel), List.mem_of_getElem? (i := 1577) (by decide +kernel), List.mem_of_getElem? (i := 1578) (by decide +kernel)⟩
theorem lw_p71 : lw_okq (⟨"CellarTurnsModel", "sums", "(I)V"⟩, 45) := ⟨⟨by decide +kernel, by decide +kernel⟩, List.mem_of_getElem? (i := 1304) (by decide +kernel), List.mem_of_getElem? (i := 1581) (by decide +kernel), List.mem_of_getElem? (i := 1582) (by decide +kernel)⟩
theorem lw_p72 : lw_okq (⟨"CellarTurnsModel", "products", "(I)V"⟩, 45) := ⟨⟨by decide +kernel, by decide +kernel⟩, List.mem_of_getElem? (i := 1304) (by decide +kernel), List.mem_of_getElem? (i := 1585) (by decide +kernel), List.mem_of_getElem? (i := 1586) (by decide +kernel)⟩
theorem lw_p73 : lw_okq (⟨"CellarTurnsModel", "takePart", "(I)V"⟩, 45) := ⟨⟨by decide +kernel, by decide +kernel⟩, List.mem_of_getElem? (i := 1304) (by decide +kernel), List.mem_of_getElem? (i := 1589) (by decide +kernel), List.mem_of_getElem? (i := 1590) (by decide +kernel)⟩
theorem lw_p74 : lw_okq (⟨"CellarTurnsModel", "isSign", "(I)Z"⟩, 45) := ⟨⟨by decide +kernel, by decide +kernel⟩, List.mem_of_getElem? (i := 1304) (by decide +kernel), List.mem_of_getElem? (i := 1593) (by decide +kernel), List.mem_of_getElem? (i := 1594) (by decide +kernel)⟩
theorem lw_p75 : lw_okq (⟨"CellarTurnsModel", "emit", "(II)V"⟩, 45) := ⟨⟨by decide +kernel, by decide +kernel⟩, List.mem_of_getElem? (i := 1304) (by decide +kernel), List.mem_of_getElem? (i := 1597) (by decide +kernel), List.mem_of_getElem? (i := 1598) (by decide +kernel)⟩
theorem lw_p76 : lw_okq (⟨"CellarTurnsModel", "hasSign", "(I)Z"⟩, 45) := ⟨⟨by decide +kernel, by decide +kernel⟩, List.mem_of_getElem? (i := 1304) (by decide +kernel), List.mem_of_getElem? (i := 1601) (by decide +kernel), List.mem_of_getElem? (i := 1602) (by decide +kernel)⟩
theorem lw_p77 : lw_okq (⟨"CellarTurnsModel", "takeSign", "(I)V"⟩, 45) := ⟨⟨by decide +kernel, by decide +kernel⟩, List.mem_of_getElem? (i := 1304) (by decide +kernel), List.mem_of_getElem? (i := 1605) (by decide +kernel), List.mem_of_getElem? (i := 1606) (by decide +kernel)⟩
theorem lw_p78 : lw_okq (⟨"CellarTurnsModel", "readEvening", "(II)V"⟩, 45) := ⟨⟨by decide +kernel, by decide +kernel⟩, List.mem_of_getElem? (i := 1304) (by decide +kernel), List.mem_of_getElem? (i := 1613) (by decide +kernel), List.mem_of_getElem? (i := 1614) (by decide +kernel)⟩
theorem lw_p79 : lw_okq (⟨"CellarTurnsModel", "bodyHere", "(Z)I"⟩, 45) := ⟨⟨by decide +kernel, by decide +kernel⟩, List.mem_of_getElem? (i := 1304) (by decide +kernel), List.mem_of_getElem? (i := 1617) (by decide +kernel), List.mem_of_getElem? (i := 1618) (by decide +kernel)⟩
def lw_privs_5 : List (MethodName × Nat) := [(⟨"CellarTurnsModel", "takeOne", "(II)I"⟩, 45), (⟨"CellarTurnsModel", "readRing", "()V"⟩, 45), (⟨"CellarTurnsModel", "personHere", "()I"⟩, 45), (⟨"CellarTurnsModel", "readPair", "(I)V"⟩, 45), (⟨"CellarTurnsModel", "readOnce", "()V"⟩, 45), (⟨"CellarTurnsModel", "all", "(I)V"⟩, 45), (⟨"CellarTurnsModel", "test", "(I)V"⟩, 45), (⟨"CellarTurnsModel", "sums", "(I)V"⟩, 45), (⟨"CellarTurnsModel", "products", "(I)V"⟩, 45), (⟨"CellarTurnsModel", "takePart", "(I)V"⟩, 45), (⟨"CellarTurnsModel", "isSign", "(I)Z"⟩, 45), (⟨"CellarTurnsModel", "emit", "(II)V"⟩, 45), (⟨"CellarTurnsModel", "hasSign", "(I)Z"⟩, 45), (⟨"CellarTurnsModel", "takeSign", "(I)V"⟩, 45), (⟨"CellarTurnsModel", "readEvening", "(II)V"⟩, 45), (⟨"CellarTurnsModel", "bodyHere", "(Z)I"⟩, 45)]
theorem lw_r5 : ∀ q ∈ lw_privs_5, lw_okq q := List.forall_mem_cons.mpr ⟨lw_p64, List.forall_mem_cons.mpr ⟨lw_p65, List.forall_mem_cons.mpr ⟨lw_p66, List.forall_mem_cons.mpr ⟨lw_p67, List.forall_mem_cons.mpr ⟨lw_p68, List.forall_mem_cons.mpr ⟨lw_p69, List.forall_mem_cons.mpr ⟨lw_p70, List.forall_mem_cons.mpr ⟨lw_p71, List.forall_mem_cons.mpr ⟨lw_p72, List.forall_mem_cons.mpr ⟨lw_p73, List.forall_mem_cons.mpr ⟨lw_p74, List.forall_mem_cons.mpr ⟨lw_p75, List.forall_mem_cons.mpr ⟨lw_p76, List.forall_mem_cons.mpr ⟨lw_p77, List.forall_mem_cons.mpr ⟨lw_p78, List.forall_mem_cons.mpr ⟨lw_p79, fun _ h => absurd h List.not_mem_nil⟩⟩⟩⟩⟩⟩⟩⟩⟩⟩⟩⟩⟩⟩⟩⟩
theorem lw_p80 : lw_okq (⟨"CellarTurnsModel", "isBody", "(I)Z"⟩, 45) := ⟨⟨by decide +kernel, by decide +kernel⟩, List.mem_of_getElem? (i := 1304) (by decide +kernel), List.mem_of_getElem? (i := 1625) (by decide +kernel), List.mem_of_getElem? (i := 1626) (by decide +kernel)⟩
theorem lw_p81 : lw_okq (⟨"CellarTurnsModel", "isWrong", "(II)Z"⟩, 45) := ⟨⟨by decide +kernel, by decide +kernel⟩, List.mem_of_getElem? (i := 1304) (by decide +kernel), List.mem_of_getElem? (i := 1632) (by decide +kernel), List.mem_of_getElem? (i := 1633) (by decide +kernel)⟩
theorem lw_p82 : lw_okq (⟨"CellarTurnsModel", "isThere", "(II)Z"⟩, 45) := ⟨⟨by decide +kernel, by decide +kernel⟩, List.mem_of_getElem? (i := 1304) (by decide +kernel), List.mem_of_getElem? (i := 1636) (by decide +kernel), List.mem_of_getElem? (i := 1637) (by decide +kernel)⟩
theorem lw_p83 : lw_okq (⟨"CellarTurnsModel", "mayTurn", "(III)Z"⟩, 45) := ⟨⟨by decide +kernel, by decide +kernel⟩, List.mem_of_getElem? (i := 1304) (by decide +kernel), List.mem_of_getElem? (i := 1648) (by decide +kernel), List.mem_of_getElem? (i := 1649) (by decide +kernel)⟩
theorem lw_p84 : lw_okq (⟨"CellarTurnsModel", "limitOf", "(I)I"⟩, 45) := ⟨⟨by decide +kernel, by decide +kernel⟩, List.mem_of_getElem? (i := 1304) (by decide +kernel), List.mem_of_getElem? (i := 1652) (by decide +kernel), List.mem_of_getElem? (i := 1653) (by decide +kernel)⟩
theorem lw_p85 : lw_okq (⟨"CellarTurnsModel", "keeps", "()V"⟩, 45) := ⟨⟨by decide +kernel, by decide +kernel⟩, List.mem_of_getElem? (i := 1304) (by decide +kernel), List.mem_of_getElem? (i := 1660) (by decide +kernel), List.mem_of_getElem? (i := 1661) (by decide +kernel)⟩
theorem lw_p86 : lw_okq (⟨"CellarTurnsModel", "copies", "(III)V"⟩, 45) := ⟨⟨by decide +kernel, by decide +kernel⟩, List.mem_of_getElem? (i := 1304) (by decide +kernel), List.mem_of_getElem? (i := 1664) (by decide +kernel), List.mem_of_getElem? (i := 1665) (by decide +kernel)⟩
theorem lw_p87 : lw_okq (⟨"CellarTurnsModel", "turns", "(III)I"⟩, 45) := ⟨⟨by decide +kernel, by decide +kernel⟩, List.mem_of_getElem? (i := 1304) (by decide +kernel), List.mem_of_getElem? (i := 1668) (by decide +kernel), List.mem_of_getElem? (i := 1669) (by decide +kernel)⟩
theorem lw_p88 : lw_okq (⟨"CellarTurnsModel", "swaps", "(III)V"⟩, 45) := ⟨⟨by decide +kernel, by decide +kernel⟩, List.mem_of_getElem? (i := 1304) (by decide +kernel), List.mem_of_getElem? (i := 1672) (by decide +kernel), List.mem_of_getElem? (i := 1673) (by decide +kernel)⟩
theorem lw_p89 : lw_okq (⟨"CellarTurnsModel", "costNow", "(II)I"⟩, 45) := ⟨⟨by decide +kernel, by decide +kernel⟩, List.mem_of_getElem? (i := 1304) (by decide +kernel), List.mem_of_getElem? (i := 1676) (by decide +kernel), List.mem_of_getElem? (i := 1677) (by decide +kernel)⟩
theorem lw_p90 : lw_okq (⟨"CellarTurnsModel", "wrongs", "(I)I"⟩, 45) := ⟨⟨by decide +kernel, by decide +kernel⟩, List.mem_of_getElem? (i := 1304) (by decide +kernel), List.mem_of_getElem? (i := 1680) (by decide +kernel), List.mem_of_getElem? (i := 1681) (by decide +kernel)⟩
theorem lw_p91 : lw_okq (⟨"CellarTurnsModel", "worthAt", "(I)I"⟩, 45) := ⟨⟨by decide +kernel, by decide +kernel⟩, List.mem_of_getElem? (i := 1304) (by decide +kernel), List.mem_of_getElem? (i := 1684) (by decide +kernel), List.mem_of_getElem? (i := 1685) (by decide +kernel)⟩
theorem lw_p92 : lw_okq (⟨"CellarTurnsModel", "meets", "(IIII)V"⟩, 45) := ⟨⟨by decide +kernel, by decide +kernel⟩, List.mem_of_getElem? (i := 1304) (by decide +kernel), List.mem_of_getElem? (i := 1691) (by decide +kernel), List.mem_of_getElem? (i := 1692) (by decide +kernel)⟩
theorem lw_p93 : lw_okq (⟨"CellarTurnsModel", "mayRound", "(IIII)Z"⟩, 45) := ⟨⟨by decide +kernel, by decide +kernel⟩, List.mem_of_getElem? (i := 1304) (by decide +kernel), List.mem_of_getElem? (i := 1699) (by decide +kernel), List.mem_of_getElem? (i := 1700) (by decide +kernel)⟩
theorem lw_p94 : lw_okq (⟨"CellarTurnsModel", "rounds", "(IIII)V"⟩, 45) := ⟨⟨by decide +kernel, by decide +kernel⟩, List.mem_of_getElem? (i := 1304) (by decide +kernel), List.mem_of_getElem? (i := 1703) (by decide +kernel), List.mem_of_getElem? (i := 1704) (by decide +kernel)⟩
theorem lw_p95 : lw_okq (⟨"CellarTurnsModel", "mayFetch", "(II)Z"⟩, 45) := ⟨⟨by decide +kernel, by decide +kernel⟩, List.mem_of_getElem? (i := 1304) (by decide +kernel), List.mem_of_getElem? (i := 1711) (by decide +kernel), List.mem_of_getElem? (i := 1712) (by decide +kernel)⟩
def lw_privs_6 : List (MethodName × Nat) := [(⟨"CellarTurnsModel", "isBody", "(I)Z"⟩, 45), (⟨"CellarTurnsModel", "isWrong", "(II)Z"⟩, 45), (⟨"CellarTurnsModel", "isThere", "(II)Z"⟩, 45), (⟨"CellarTurnsModel", "mayTurn", "(III)Z"⟩, 45), (⟨"CellarTurnsModel", "limitOf", "(I)I"⟩, 45), (⟨"CellarTurnsModel", "keeps", "()V"⟩, 45), (⟨"CellarTurnsModel", "copies", "(III)V"⟩, 45), (⟨"CellarTurnsModel", "turns", "(III)I"⟩, 45), (⟨"CellarTurnsModel", "swaps", "(III)V"⟩, 45), (⟨"CellarTurnsModel", "costNow", "(II)I"⟩, 45), (⟨"CellarTurnsModel", "wrongs", "(I)I"⟩, 45), (⟨"CellarTurnsModel", "worthAt", "(I)I"⟩, 45), (⟨"CellarTurnsModel", "meets", "(IIII)V"⟩, 45), (⟨"CellarTurnsModel", "mayRound", "(IIII)Z"⟩, 45), (⟨"CellarTurnsModel", "rounds", "(IIII)V"⟩, 45), (⟨"CellarTurnsModel", "mayFetch", "(II)Z"⟩, 45)]
theorem lw_r6 : ∀ q ∈ lw_privs_6, lw_okq q := List.forall_mem_cons.mpr ⟨lw_p80, List.forall_mem_cons.mpr ⟨lw_p81, List.forall_mem_cons.mpr ⟨lw_p82, List.forall_mem_cons.mpr ⟨lw_p83, List.forall_mem_cons.mpr ⟨lw_p84, List.forall_mem_cons.mpr ⟨lw_p85, List.forall_mem_cons.mpr ⟨lw_p86, List.forall_mem_cons.mpr ⟨lw_p87, List.forall_mem_cons.mpr ⟨lw_p88, List.forall_mem_cons.mpr ⟨lw_p89, List.forall_mem_cons.mpr ⟨lw_p90, List.forall_mem_cons.mpr ⟨lw_p91, List.forall_mem_cons.mpr ⟨lw_p92, List.forall_mem_cons.mpr ⟨lw_p93, List.forall_mem_cons.mpr ⟨lw_p94, List.forall_mem_cons.mpr ⟨lw_p95, fun _ h => absurd h List.not_mem_nil⟩⟩⟩⟩⟩⟩⟩⟩⟩⟩⟩⟩⟩⟩⟩⟩
theorem lw_p96 : lw_okq (⟨"CellarTurnsModel", "fetches", "(II)V"⟩, 45) := ⟨⟨by decide +kernel, by decide +kernel⟩, List.mem_of_getElem? (i := 1304) (by decide +kernel), List.mem_of_getElem? (i := 1715) (by decide +kernel), List.mem_of_getElem? (i := 1716) (by decide +kernel)⟩
theorem lw_p97 : lw_okq (⟨"CellarTurnsModel", "does", "(IIII)Z"⟩, 45) := ⟨⟨by decide +kernel, by decide +kernel⟩, List.mem_of_getElem? (i := 1304) (by decide +kernel), List.mem_of_getElem? (i := 1727) (by decide +kernel), List.mem_of_getElem? (i := 1728) (by decide +kernel)⟩
theorem lw_p98 : lw_okq (⟨"CellarTurnsModel", "findRings", "()V"⟩, 45) := ⟨⟨by decide +kernel, by decide +kernel⟩, List.mem_of_getElem? (i := 1304) (by decide +kernel), List.mem_of_getElem? (i := 1735) (by decide +kernel), List.mem_of_getElem? (i := 1736) (by decide +kernel)⟩
theorem lw_p99 : lw_okq (⟨"CellarTurnsModel", "adds", "(II)V"⟩, 45) := ⟨⟨by decide +kernel, by decide +kernel⟩, List.mem_of_getElem? (i := 1304) (by decide +kernel), List.mem_of_getElem? (i := 1739) (by decide +kernel), List.mem_of_getElem? (i := 1740) (by decide +kernel)⟩
theorem lw_p100 : lw_okq (⟨"CellarTurnsModel", "pairsLeft", "(I)I"⟩, 45) := ⟨⟨by decide +kernel, by decide +kernel⟩, List.mem_of_getElem? (i := 1304) (by decide +kernel), List.mem_of_getElem? (i := 1747) (by decide +kernel), List.mem_of_getElem? (i := 1748) (by decide +kernel)⟩
theorem lw_p101 : lw_okq (⟨"CellarTurnsModel", "mostFrom", "(I)V"⟩, 45) := ⟨⟨by decide +kernel, by decide +kernel⟩, List.mem_of_getElem? (i := 1304) (by decide +kernel), List.mem_of_getElem? (i := 1775) (by decide +kernel), List.mem_of_getElem? (i := 1776) (by decide +kernel)⟩
theorem lw_p102 : lw_okq (⟨"CellarTurnsModel", "unturns", "(IIII)V"⟩, 45) := ⟨⟨by decide +kernel, by decide +kernel⟩, List.mem_of_getElem? (i := 1304) (by decide +kernel), List.mem_of_getElem? (i := 1779) (by decide +kernel), List.mem_of_getElem? (i := 1780) (by decide +kernel)⟩
theorem lw_p103 : lw_okq (⟨"CellarTurnsModel", "fewestIn", "(I)I"⟩, 45) := ⟨⟨by decide +kernel, by decide +kernel⟩, List.mem_of_getElem? (i := 1304) (by decide +kernel), List.mem_of_getElem? (i := 1787) (by decide +kernel), List.mem_of_getElem? (i := 1788) (by decide +kernel)⟩
theorem lw_p104 : lw_okq (⟨"CellarTurnsModel", "undoes", "(II)Z"⟩, 45) := ⟨⟨by decide +kernel, by decide +kernel⟩, List.mem_of_getElem? (i := 1304) (by decide +kernel), List.mem_of_getElem? (i := 1791) (by decide +kernel), List.mem_of_getElem? (i := 1792) (by decide +kernel)⟩
theorem lw_p105 : lw_okq (⟨"CellarTurnsModel", "keepsRow", "(II)V"⟩, 45) := ⟨⟨by decide +kernel, by decide +kernel⟩, List.mem_of_getElem? (i := 1304) (by decide +kernel), List.mem_of_getElem? (i := 1795) (by decide +kernel), List.mem_of_getElem? (i := 1796) (by decide +kernel)⟩
theorem lw_p106 : lw_okq (⟨"CellarTurnsModel", "leastFrom", "(II)V"⟩, 45) := ⟨⟨by decide +kernel, by decide +kernel⟩, List.mem_of_getElem? (i := 1304) (by decide +kernel), List.mem_of_getElem? (i := 1807) (by decide +kernel), List.mem_of_getElem? (i := 1808) (by decide +kernel)⟩
theorem lw_p107 : lw_okq (⟨"CellarTurnsModel", "cheapFrom", "(III)V"⟩, 45) := ⟨⟨by decide +kernel, by decide +kernel⟩, List.mem_of_getElem? (i := 1304) (by decide +kernel), List.mem_of_getElem? (i := 1815) (by decide +kernel), List.mem_of_getElem? (i := 1816) (by decide +kernel)⟩
theorem lw_p108 : lw_okq (⟨"CellarTurnsModel", "muddlesFrom", "(I)V"⟩, 45) := ⟨⟨by decide +kernel, by decide +kernel⟩, List.mem_of_getElem? (i := 1304) (by decide +kernel), List.mem_of_getElem? (i := 1823) (by decide +kernel), List.mem_of_getElem? (i := 1824) (by decide +kernel)⟩
theorem lw_p109 : lw_okq (⟨"CellarTurnsModel", "chanceFrom", "(II)I"⟩, 45) := ⟨⟨by decide +kernel, by decide +kernel⟩, List.mem_of_getElem? (i := 1304) (by decide +kernel), List.mem_of_getElem? (i := 1833) (by decide +kernel), List.mem_of_getElem? (i := 1834) (by decide +kernel)⟩
theorem lw_p110 : lw_okq (⟨"CellarTurnsModel", "findRows", "(I)V"⟩, 45) := ⟨⟨by decide +kernel, by decide +kernel⟩, List.mem_of_getElem? (i := 1304) (by decide +kernel), List.mem_of_getElem? (i := 1845) (by decide +kernel), List.mem_of_getElem? (i := 1846) (by decide +kernel)⟩
theorem lw_p111 : lw_okq (⟨"CellarTurnsModel", "rowsFrom", "(II)V"⟩, 45) := ⟨⟨by decide +kernel, by decide +kernel⟩, List.mem_of_getElem? (i := 1304) (by decide +kernel), List.mem_of_getElem? (i := 1849) (by decide +kernel), List.mem_of_getElem? (i := 1850) (by decide +kernel)⟩
def lw_privs_7 : List (MethodName × Nat) := [(⟨"CellarTurnsModel", "fetches", "(II)V"⟩, 45), (⟨"CellarTurnsModel", "does", "(IIII)Z"⟩, 45), (⟨"CellarTurnsModel", "findRings", "()V"⟩, 45), (⟨"CellarTurnsModel", "adds", "(II)V"⟩, 45), (⟨"CellarTurnsModel", "pairsLeft", "(I)I"⟩, 45), (⟨"CellarTurnsModel", "mostFrom", "(I)V"⟩, 45), (⟨"CellarTurnsModel", "unturns", "(IIII)V"⟩, 45), (⟨"CellarTurnsModel", "fewestIn", "(I)I"⟩, 45), (⟨"CellarTurnsModel", "undoes", "(II)Z"⟩, 45), (⟨"CellarTurnsModel", "keepsRow", "(II)V"⟩, 45), (⟨"CellarTurnsModel", "leastFrom", "(II)V"⟩, 45), (⟨"CellarTurnsModel", "cheapFrom", "(III)V"⟩, 45), (⟨"CellarTurnsModel", "muddlesFrom", "(I)V"⟩, 45), (⟨"CellarTurnsModel", "chanceFrom", "(II)I"⟩, 45), (⟨"CellarTurnsModel", "findRows", "(I)V"⟩, 45), (⟨"CellarTurnsModel", "rowsFrom", "(II)V"⟩, 45)]
theorem lw_r7 : ∀ q ∈ lw_privs_7, lw_okq q := List.forall_mem_cons.mpr ⟨lw_p96, List.forall_mem_cons.mpr ⟨lw_p97, List.forall_mem_cons.mpr ⟨lw_p98, List.forall_mem_cons.mpr ⟨lw_p99, List.forall_mem_cons.mpr ⟨lw_p100, List.forall_mem_cons.mpr ⟨lw_p101, List.forall_mem_cons.mpr ⟨lw_p102, List.forall_mem_cons.mpr ⟨lw_p103, List.forall_mem_cons.mpr ⟨lw_p104, List.forall_mem_cons.mpr ⟨lw_p105, List.forall_mem_cons.mpr ⟨lw_p106, List.forall_mem_cons.mpr ⟨lw_p107, List.forall_mem_cons.mpr ⟨lw_p108, List.forall_mem_cons.mpr ⟨lw_p109, List.forall_mem_cons.mpr ⟨lw_p110, List.forall_mem_cons.mpr ⟨lw_p111, fun _ h => absurd h List.not_mem_nil⟩⟩⟩⟩⟩⟩⟩⟩⟩⟩⟩⟩⟩⟩⟩⟩
theorem lw_p112 : lw_okq (⟨"CellarTurnsModel", "isAsSeen", "()Z"⟩, 45) := ⟨⟨by decide +kernel, by decide +kernel⟩, List.mem_of_getElem? (i := 1304) (by decide +kernel), List.mem_of_getElem? (i := 1853) (by decide +kernel), List.mem_of_getElem? (i := 1854) (by decide +kernel)⟩
theorem lw_p113 : lw_okq (⟨"CellarTurnsModel", "draw", "(I)I"⟩, 45) := ⟨⟨by decide +kernel, by decide +kernel⟩, List.mem_of_getElem? (i := 1304) (by decide +kernel), List.mem_of_getElem? (i := 1869) (by decide +kernel), List.mem_of_getElem? (i := 1870) (by decide +kernel)⟩
theorem lw_p114 : lw_okq (⟨"CellarTurnsModel", "turnsBy", "(I)I"⟩, 45) := ⟨⟨by decide +kernel, by decide +kernel⟩, List.mem_of_getElem? (i := 1304) (by decide +kernel), List.mem_of_getElem? (i := 1877) (by decide +kernel), List.mem_of_getElem? (i := 1878) (by decide +kernel)⟩
theorem lw_p115 : lw_okq (⟨"CellarTurnsModel", "thereMany", "()I"⟩, 45) := ⟨⟨by decide +kernel, by decide +kernel⟩, List.mem_of_getElem? (i := 1304) (by decide +kernel), List.mem_of_getElem? (i := 1889) (by decide +kernel), List.mem_of_getElem? (i := 1890) (by decide +kernel)⟩
def lw_privs_8 : List (MethodName × Nat) := [(⟨"CellarTurnsModel", "isAsSeen", "()Z"⟩, 45), (⟨"CellarTurnsModel", "draw", "(I)I"⟩, 45), (⟨"CellarTurnsModel", "turnsBy", "(I)I"⟩, 45), (⟨"CellarTurnsModel", "thereMany", "()I"⟩, 45)]
theorem lw_r8 : ∀ q ∈ lw_privs_8, lw_okq q := List.forall_mem_cons.mpr ⟨lw_p112, List.forall_mem_cons.mpr ⟨lw_p113, List.forall_mem_cons.mpr ⟨lw_p114, List.forall_mem_cons.mpr ⟨lw_p115, fun _ h => absurd h List.not_mem_nil⟩⟩⟩⟩
def lw_privs : List (MethodName × Nat) := lw_privs_1 ++ (lw_privs_2 ++ (lw_privs_3 ++ (lw_privs_4 ++ (lw_privs_5 ++ (lw_privs_6 ++ (lw_privs_7 ++ (lw_privs_8)))))))
def lw_tbl : List Cond := k2_sels lw_privs ++ tables_1
theorem lw_privs_ok : ∀ q ∈ lw_privs, lw_okq q := by
  show ∀ q ∈ lw_privs_1 ++ (lw_privs_2 ++ (lw_privs_3 ++ (lw_privs_4 ++ (lw_privs_5 ++ (lw_privs_6 ++ (lw_privs_7 ++ (lw_privs_8))))))), lw_okq q
  exact List.forall_mem_append.mpr ⟨lw_r1, List.forall_mem_append.mpr ⟨lw_r2, List.forall_mem_append.mpr ⟨lw_r3, List.forall_mem_append.mpr ⟨lw_r4, List.forall_mem_append.mpr ⟨lw_r5, List.forall_mem_append.mpr ⟨lw_r6, List.forall_mem_append.mpr ⟨lw_r7, lw_r8⟩⟩⟩⟩⟩⟩⟩
end
section
/-! ===== a small machine: its states are lists of locals, a stack, and cells numbered from 64 on; what a piece of code does is a function on them ===== -/
/-- the launch, the size of the heap at the law's begin, that heap, where the constants lie, the classes' numbers and slots, the array classes -/
abbrev JG : Type := Launch × Nat × Heap × (Nat → Nat) × va_G × (Nat → ClassId)
def jg_l (G : JG) : Launch := G.1
def jg_sz (G : JG) : Nat := G.2.1
def jg_H (G : JG) : Heap := G.2.2.1
def jg_sa (G : JG) : Nat → Nat := G.2.2.2.1
def jg_D (G : JG) : va_G := G.2.2.2.2.1
def jg_A (G : JG) : Nat → ClassId := G.2.2.2.2.2
/-- shapes (class or array kind, size), ints, longs, references -/
abbrev JH : Type := List (Nat × Nat) × (Nat → Nat → Int32) × (Nat → Nat → Int64) × (Nat → Nat → Option Nat)
abbrev JL : Type := List (Option Value)
abbrev JS : Type := JL × List Value × JH
abbrev JF : Type := List Value → JH → Option (Option Value × JH)
abbrev JN : Type := JS → Option JS
abbrev JP : Type := JS → Option (Nat × JS)
abbrev JO : Type := Nat × Nat × Int
def ju {α : Type} (f : Nat → Nat → α) (a k : Nat) (v : α) : Nat → Nat → α := fun b j => if b = a ∧ j = k then v else f b j
def jh_n (σ : JH) : Nat := σ.1.length
def jh_w (σ : JH) : Nat := (σ.1.map (fun q => q.2)).sum
def jh_setI (σ : JH) (a k : Nat) (x : Int32) : JH := (σ.1, ju σ.2.1 a k x, σ.2.2)
def jh_setJ (σ : JH) (a k : Nat) (x : Int64) : JH := (σ.1, σ.2.1, ju σ.2.2.1 a k x, σ.2.2.2)
def jh_setR (σ : JH) (a k : Nat) (x : Option Nat) : JH := (σ.1, σ.2.1, σ.2.2.1, ju σ.2.2.2 a k x)
/-- a new cell: its place is the number of shapes; all is 0 or null in it -/
def jh_new (σ : JH) (t n : Nat) : JH := (σ.1 ++ [(t, n)], (fun b j => if b = σ.1.length then 0 else σ.2.1 b j), (fun b j => if b = σ.1.length then 0 else σ.2.2.1 b j), (fun b j => if b = σ.1.length then none else σ.2.2.2 b j))
def jr (G : JG) (r : Nat) : Nat := if r < 64 then jg_sa G r else jg_sz G + (r - 64)
def jv (G : JG) : Value → Value
  | .ref r => .ref (jr G r)
  | v => v
/-- 0: an int's kind, 1: long, 2: a reference -/
def jt_k (t : FieldType) : Nat := match t with
  | .long => 1
  | .object _ => 2
  | .array _ => 2
  | _ => 0
def jf (σ : JH) (a k : Nat) (t : FieldType) : Value := match jt_k t with
  | 0 => .int (σ.2.1 a k)
  | 1 => .long (σ.2.2.1 a k)
  | _ => va_rf (σ.2.2.2 a k)
def jt_at (t : Nat) : FieldType := match t with
  | 101 => .long
  | 102 => .byte
  | 103 => .boolean
  | 104 => .object "CellarTurns$Muddle"
  | _ => .int
/-- a local is set: one of a slot before it that holds a long is lost; a long takes the next slot, too -/
def jl_clr (L : JL) (i : Nat) : JL := match i with
  | 0 => L
  | j + 1 => match L[j]? with
    | some (some w) => if w.category = 2 then L.set j none else L
    | _ => L
def jl_set (L : JL) (i : Nat) (v : Value) : JL := (jl_clr L i).set i (some v)
def jl_set2 (L : JL) (i : Nat) (v : Value) : JL := ((jl_clr L i).set i (some v)).set (i + 1) none
/-! ===== the classes and their fields; which field a place of a class's pool means; its constants ===== -/
def jt_tab : List (String × List (String × String × Bool × FieldType)) := [
  ("CellarTurns$House", [("names", "[J", true, .array .long), ("kinds", "[I", true, .array .int), ("prices", "[I", true, .array .int), ("minds", "[I", true, .array .int), ("been", "[I", true, .array .int), ("bars", "[I", true, .array .int), ("limits", "[I", true, .array .int), ("law", "LCellarTurns$Law;", true, .object "CellarTurns$Law"), ("bodies", "I", false, .int), ("newBits", "I", false, .int), ("catBits", "I", false, .int), ("ringBits", "I", false, .int), ("often", "I", false, .int), ("oftenTold", "Z", false, .boolean), ("costsTold", "Z", false, .boolean)]),
  ("CellarTurns$Law", [("steps", "[I", true, .array .int), ("waiting", "[I", true, .array .int), ("length", "I", false, .int)]),
  ("CellarTurns$LawReader", [("tape", "LCellarTurns$Tape;", true, .object "CellarTurns$Tape")]),
  ("CellarTurns$Muddle", [("minds", "[I", true, .array .int), ("met", "[I", true, .array .int), ("sat", "[I", true, .array .int), ("house", "LCellarTurns$House;", false, .object "CellarTurns$House"), ("there", "I", false, .int), ("open", "I", false, .int), ("astray", "I", false, .int), ("turns", "I", false, .int), ("pairs", "I", false, .int), ("cost", "I", false, .int), ("seen", "J", false, .long), ("seenCount", "I", false, .int)]),
  ("CellarTurns$Plan", [("names", "[I", true, .array .int), ("bodies", "[I", true, .array .int), ("lines", "I", false, .int)]),
  ("CellarTurns$Reader", [("tape", "LCellarTurns$Tape;", true, .object "CellarTurns$Tape"), ("laws", "LCellarTurns$LawReader;", true, .object "CellarTurns$LawReader")]),
  ("CellarTurns$RingList", [("turns", "[I", true, .array .int), ("homeBehind", "[I", true, .array .int), ("length", "I", false, .int), ("rings", "I", false, .int), ("longest", "I", false, .int), ("turnsWanted", "I", false, .int)]),
  ("CellarTurns$Search", [("muddle", "LCellarTurns$Muddle;", true, .object "CellarTurns$Muddle"), ("row", "[I", true, .array .int), ("kept", "[I", true, .array .int), ("depth", "I", false, .int), ("length", "I", false, .int), ("wrong", "I", false, .int), ("cost", "I", false, .int)]),
  ("CellarTurns$Tally", [("muddle", "LCellarTurns$Muddle;", true, .object "CellarTurns$Muddle"), ("codes", "[I", true, .array .int), ("rowsByMind", "[I", true, .array .int), ("codeCount", "I", false, .int), ("mostFound", "I", false, .int), ("rowCount", "I", false, .int), ("pairsInAll", "J", false, .long), ("pairsInSome", "J", false, .long), ("minding", "Z", false, .boolean)]),
  ("CellarTurns$Tape", [("signs", "[B", true, .array .byte), ("length", "I", false, .int), ("next", "I", false, .int), ("place", "I", false, .int), ("word", "LCellarTurns$Word;", false, .object "CellarTurns$Word"), ("letters", "J", false, .long), ("number", "I", false, .int), ("sign", "C", false, .char), ("fault", "I", false, .int)]),
  ("CellarTurns", [("tape", "LCellarTurns$Tape;", true, .object "CellarTurns$Tape"), ("reader", "LCellarTurns$Reader;", true, .object "CellarTurns$Reader"), ("ringList", "LCellarTurns$RingList;", true, .object "CellarTurns$RingList"), ("search", "LCellarTurns$Search;", true, .object "CellarTurns$Search"), ("tally", "LCellarTurns$Tally;", true, .object "CellarTurns$Tally"), ("now", "LCellarTurns$Muddle;", true, .object "CellarTurns$Muddle"), ("trial", "LCellarTurns$Muddle;", true, .object "CellarTurns$Muddle"), ("past", "[LCellarTurns$Muddle;", true, .array (.object "CellarTurns$Muddle")), ("marked", "[LCellarTurns$Muddle;", true, .array (.object "CellarTurns$Muddle")), ("house", "LCellarTurns$House;", false, .object "CellarTurns$House"), ("spareHouse", "LCellarTurns$House;", false, .object "CellarTurns$House"), ("plan", "LCellarTurns$Plan;", false, .object "CellarTurns$Plan"), ("sparePlan", "LCellarTurns$Plan;", false, .object "CellarTurns$Plan"), ("pastEnd", "I", false, .int), ("pastCount", "I", false, .int), ("laid", "I", false, .int)]),
  ("CellarTurnsModel", [("thrown", "I", false, .int), ("tape", "[I", true, .array .int), ("taped", "I", false, .int), ("size", "I", false, .int), ("sort", "[I", true, .array .int), ("place", "[I", true, .array .int), ("value", "[J", true, .array .long), ("at", "I", false, .int), ("fault", "I", false, .int), ("words", "[J", true, .array .long), ("rooms", "[I", true, .array .int), ("op", "[I", true, .array .int), ("arg", "[I", true, .array .int), ("codes", "I", false, .int), ("names", "[J", true, .array .long), ("readNames", "[J", true, .array .long), ("namesMany", "I", false, .int), ("readMany", "I", false, .int), ("once", "I", false, .int), ("ringed", "I", false, .int), ("lines", "[I", true, .array .int), ("facts", "[I", true, .array .int), ("pile", "[I", true, .array .int), ("state", "[I", true, .array .int), ("undos", "I", false, .int), ("isMarked", "[Z", true, .array .boolean), ("enoughOne", "[I", true, .array .int), ("enoughOther", "[I", true, .array .int), ("enoughMany", "I", false, .int), ("ringsMany", "I", false, .int), ("ringsLongest", "I", false, .int), ("ringsOdd", "I", false, .int), ("ring", "[I", true, .array .int), ("minds", "[I", true, .array .int), ("mostWrong", "I", false, .int), ("row", "[I", true, .array .int), ("bestRow", "[I", true, .array .int), ("bestTurns", "I", false, .int), ("bestWorth", "I", false, .int), ("muddled", "[J", true, .array .long), ("muddledMany", "I", false, .int), ("rowsMany", "I", false, .int), ("pairIn", "[I", true, .array .int), ("mindIn", "[I", true, .array .int), ("g", "J", false, .long)])]
def jt_own : List String := ["CellarTurns$House", "CellarTurns$Law", "CellarTurns$LawReader", "CellarTurns$Muddle", "CellarTurns$Plan", "CellarTurns$Reader", "CellarTurns$RingList", "CellarTurns$Search", "CellarTurns$Tally", "CellarTurns$Tape", "CellarTurns", "CellarTurnsModel", "CellarTurnsLaw", "CellarTurns$Word", "java/lang/Math", "java/lang/Integer", "java/lang/Long", "java/lang/Enum", "java/lang/String", "java/lang/StringLatin1", "java/lang/StringUTF16"]
def jt_fls : List ((Nat × Nat) × Nat × Nat × Bool) := [
  ((9, 9), 9, 0, false),
  ((10, 89), 9, 1, true),
  ((9, 28), 9, 1, false),
  ((9, 31), 9, 2, false),
  ((9, 40), 9, 3, false),
  ((9, 21), 9, 4, false),
  ((2, 19), 9, 4, true),
  ((5, 62), 9, 4, true),
  ((5, 115), 9, 5, true),
  ((9, 51), 9, 5, false),
  ((9, 24), 9, 6, false),
  ((2, 73), 9, 6, true),
  ((5, 142), 9, 6, true),
  ((2, 45), 9, 7, true),
  ((9, 43), 9, 7, false),
  ((5, 149), 9, 7, true),
  ((9, 34), 9, 8, false),
  ((2, 9), 2, 0, false),
  ((5, 9), 5, 0, false),
  ((5, 20), 5, 1, false),
  ((1, 9), 1, 0, false),
  ((1, 15), 1, 1, false),
  ((1, 18), 1, 2, false),
  ((0, 9), 0, 0, false),
  ((0, 15), 0, 1, false),
  ((10, 117), 0, 1, true),
  ((0, 19), 0, 2, false),
  ((10, 124), 0, 2, true),
  ((3, 132), 0, 2, true),
  ((0, 22), 0, 3, false),
  ((3, 68), 0, 3, true),
  ((5, 160), 0, 3, true),
  ((0, 25), 0, 4, false),
  ((3, 48), 0, 4, true),
  ((5, 80), 0, 4, true),
  ((0, 28), 0, 5, false),
  ((5, 87), 0, 5, true),
  ((3, 143), 0, 5, true),
  ((10, 311), 0, 5, true),
  ((0, 31), 0, 6, false),
  ((3, 109), 0, 6, true),
  ((0, 37), 0, 7, false),
  ((7, 113), 0, 7, true),
  ((3, 116), 0, 7, true),
  ((5, 173), 0, 7, true),
  ((0, 48), 0, 8, false),
  ((6, 37), 0, 8, true),
  ((3, 69), 0, 8, true),
  ((10, 139), 0, 8, true),
  ((8, 110), 0, 8, true),
  ((0, 52), 0, 9, false),
  ((10, 121), 0, 9, true),
  ((5, 131), 0, 9, true),
  ((3, 106), 0, 9, true),
  ((0, 55), 0, 10, false),
  ((8, 56), 0, 10, true),
  ((3, 140), 0, 10, true),
  ((0, 58), 0, 11, false),
  ((5, 157), 0, 11, true),
  ((0, 61), 0, 12, false),
  ((5, 167), 0, 12, true),
  ((10, 308), 0, 12, true),
  ((0, 64), 0, 13, false),
  ((5, 163), 0, 13, true),
  ((0, 68), 0, 14, false),
  ((5, 170), 0, 14, true),
  ((4, 9), 4, 0, false),
  ((4, 15), 4, 1, false),
  ((4, 18), 4, 2, false),
  ((5, 184), 4, 2, true),
  ((10, 318), 4, 2, true),
  ((6, 9), 6, 0, false),
  ((10, 215), 6, 0, true),
  ((6, 15), 6, 1, false),
  ((10, 218), 6, 1, true),
  ((6, 18), 6, 2, false),
  ((10, 214), 6, 2, true),
  ((6, 22), 6, 3, false),
  ((10, 195), 6, 3, true),
  ((6, 25), 6, 4, false),
  ((10, 198), 6, 4, true),
  ((6, 28), 6, 5, false),
  ((10, 201), 6, 5, true),
  ((3, 9), 3, 0, false),
  ((6, 42), 3, 0, true),
  ((10, 130), 3, 0, true),
  ((8, 113), 3, 0, true),
  ((3, 15), 3, 1, false),
  ((10, 221), 3, 1, true),
  ((3, 18), 3, 2, false),
  ((10, 133), 3, 2, true),
  ((3, 21), 3, 3, false),
  ((6, 31), 3, 3, true),
  ((8, 52), 3, 3, true),
  ((7, 109), 3, 3, true),
  ((3, 35), 3, 4, false),
  ((8, 49), 3, 4, true),
  ((10, 127), 3, 4, true),
  ((3, 39), 3, 5, false),
  ((3, 42), 3, 6, false),
  ((7, 48), 3, 6, true),
  ((10, 136), 3, 6, true),
  ((8, 123), 3, 6, true),
  ((3, 45), 3, 7, false),
  ((7, 119), 3, 7, true),
  ((10, 303), 3, 7, true),
  ((3, 55), 3, 8, false),
  ((7, 122), 3, 8, true),
  ((10, 305), 3, 8, true),
  ((3, 58), 3, 9, false),
  ((10, 189), 3, 9, true),
  ((3, 61), 3, 10, false),
  ((3, 65), 3, 11, false),
  ((10, 257), 3, 11, true),
  ((7, 23), 7, 0, false),
  ((7, 9), 7, 1, false),
  ((7, 15), 7, 2, false),
  ((7, 35), 7, 3, false),
  ((7, 27), 7, 4, false),
  ((10, 240), 7, 4, true),
  ((7, 82), 7, 5, false),
  ((10, 244), 7, 5, true),
  ((7, 103), 7, 6, false),
  ((10, 250), 7, 6, true),
  ((8, 23), 8, 0, false),
  ((8, 11), 8, 1, false),
  ((8, 15), 8, 2, false),
  ((8, 98), 8, 3, false),
  ((8, 31), 8, 4, false),
  ((8, 137), 8, 5, false),
  ((10, 267), 8, 5, true),
  ((8, 142), 8, 6, false),
  ((10, 282), 8, 6, true),
  ((8, 146), 8, 7, false),
  ((10, 286), 8, 7, true),
  ((8, 133), 8, 8, false),
  ((10, 10), 10, 0, false),
  ((10, 21), 10, 1, false),
  ((10, 48), 10, 2, false),
  ((10, 57), 10, 3, false),
  ((10, 64), 10, 4, false),
  ((10, 71), 10, 5, false),
  ((10, 75), 10, 6, false),
  ((10, 78), 10, 7, false),
  ((10, 82), 10, 8, false),
  ((10, 28), 10, 9, false),
  ((10, 32), 10, 10, false),
  ((10, 38), 10, 11, false),
  ((10, 42), 10, 12, false),
  ((10, 172), 10, 13, false),
  ((10, 103), 10, 14, false),
  ((10, 106), 10, 15, false),
  ((11, 1), 11, 0, false),
  ((11, 14), 11, 1, false),
  ((11, 11), 11, 2, false),
  ((11, 148), 11, 3, false),
  ((11, 24), 11, 4, false),
  ((11, 27), 11, 5, false),
  ((11, 30), 11, 6, false),
  ((11, 167), 11, 7, false),
  ((11, 170), 11, 8, false),
  ((11, 76), 11, 9, false),
  ((11, 79), 11, 10, false),
  ((11, 82), 11, 11, false),
  ((11, 85), 11, 12, false),
  ((11, 206), 11, 13, false),
  ((11, 88), 11, 14, false),
  ((11, 91), 11, 15, false),
  ((11, 192), 11, 16, false),
  ((11, 189), 11, 17, false),
  ((11, 209), 11, 18, false),
  ((11, 212), 11, 19, false),
  ((11, 94), 11, 20, false),
  ((11, 97), 11, 21, false),
  ((11, 100), 11, 22, false),
  ((11, 103), 11, 23, false),
  ((11, 288), 11, 24, false),
  ((11, 106), 11, 25, false),
  ((11, 110), 11, 26, false),
  ((11, 113), 11, 27, false),
  ((11, 353), 11, 28, false),
  ((11, 356), 11, 29, false),
  ((11, 359), 11, 30, false),
  ((11, 362), 11, 31, false),
  ((11, 116), 11, 32, false),
  ((11, 119), 11, 33, false),
  ((11, 374), 11, 34, false),
  ((11, 122), 11, 35, false),
  ((11, 125), 11, 36, false),
  ((11, 383), 11, 37, false),
  ((11, 386), 11, 38, false),
  ((11, 128), 11, 39, false),
  ((11, 406), 11, 40, false),
  ((11, 419), 11, 41, false),
  ((11, 131), 11, 42, false),
  ((11, 134), 11, 43, false),
  ((11, 428), 11, 44, false)]
def jt_flx : List Nat := [162, 163, 164, 165, 166, 167, 168, 169, 170, 171, 172, 173, 174, 175, 176, 177, 178, 211, 215, 216, 234, 235, 236, 269, 270, 271, 272, 273, 274, 275, 276, 277, 278, 279, 280, 281, 282, 283, 284, 285, 286, 287, 288, 289, 290, 291, 292, 293, 294, 295, 296, 297, 298, 299, 300, 301, 302, 303, 304, 305, 306, 307, 308, 309, 310, 311, 349, 350, 351, 352, 353, 367, 368, 369, 370, 371, 372, 373, 374, 375, 376, 377, 378, 430, 431, 432, 433, 434, 435, 436, 437, 438, 439, 440, 441, 442, 443, 444, 445, 446, 447, 448, 449, 450, 451, 452, 453, 454, 455, 456, 457, 458, 459, 460, 486, 487, 488, 489, 490, 491, 492, 493, 494, 495, 519, 520, 521, 522, 523, 524, 525, 526, 527, 528, 529, 530, 553, 554, 555, 556, 557, 558, 559, 560, 561, 562, 563, 564, 565, 566, 567, 568, 1468, 1469, 1470, 1471, 1472, 1473, 1474, 1475, 1476, 1477, 1478, 1479, 1480, 1481, 1482, 1483, 1484, 1485, 1486, 1487, 1488, 1489, 1490, 1491, 1492, 1493, 1494, 1495, 1496, 1497, 1498, 1499, 1500, 1501, 1502, 1503, 1504, 1505, 1506, 1507, 1508, 1509, 1510, 1511, 1512]
def jt_lcs : List ((Nat × Nat) × Value) := [
  ((15, 265), .int (1431655765)),
  ((15, 266), .int (858993459)),
  ((15, 267), .int (252645135)),
  ((9, 74), .long (27)),
  ((16, 314), .long (6148914691236517205)),
  ((16, 316), .long (3689348814741910323)),
  ((16, 318), .long (1085102592571150095)),
  ((15, 264), .int (65536)),
  ((7, 102), .int (2147483647)),
  ((8, 119), .int (1000000)),
  ((8, 140), .long (-1)),
  ((3, 135), .long (63)),
  ((10, 324), .long (1103515245)),
  ((10, 326), .long (12345)),
  ((10, 328), .long (2147483648)),
  ((10, 330), .long (65536)),
  ((11, 34), .long (1119812451)),
  ((11, 36), .long (19374)),
  ((11, 38), .long (30910767)),
  ((11, 40), .long (924600)),
  ((11, 42), .long (108350)),
  ((11, 44), .long (2793)),
  ((11, 46), .long (28443912)),
  ((11, 48), .long (6409048)),
  ((11, 50), .long (1042489)),
  ((11, 52), .long (34523964)),
  ((11, 54), .long (11525730)),
  ((11, 56), .long (30596128)),
  ((11, 58), .long (12777)),
  ((11, 60), .long (26332)),
  ((11, 62), .long (4164)),
  ((11, 64), .long (19741)),
  ((11, 66), .long (1891)),
  ((11, 68), .long (573)),
  ((11, 70), .long (44038517)),
  ((11, 72), .long (38572112)),
  ((11, 74), .long (18002)),
  ((11, 151), .long (37)),
  ((11, 160), .long (10)),
  ((11, 162), .long (48)),
  ((11, 404), .long (8)),
  ((11, 415), .int (1000000)),
  ((11, 432), .long (1103515245)),
  ((11, 434), .long (12345)),
  ((11, 436), .long (2147483648)),
  ((11, 438), .long (65536)),
  ((12, 19), .long (4294967295))]
def jt_lcx : List Nat := [423, 424, 425, 635, 1063, 1064, 1065, 1122, 1216, 1251, 1278, 1292, 1313, 1314, 1315, 1316, 1427, 1428, 1429, 1430, 1431, 1432, 1433, 1434, 1435, 1436, 1437, 1438, 1439, 1440, 1441, 1442, 1443, 1444, 1445, 1446, 1447, 1616, 1623, 1624, 1942, 1947, 1988, 1989, 1990, 1991, 2008]
def jt_nws : List ((Nat × Nat) × Nat) := [((12, 8), 10), ((10, 7), 9), ((10, 16), 5), ((5, 15), 2), ((10, 25), 0), ((0, 34), 1), ((10, 35), 4), ((10, 45), 6), ((10, 52), 7), ((7, 18), 3), ((10, 61), 8), ((8, 18), 3), ((10, 68), 3), ((12, 16), 11)]
def jt_nwx : List Nat := [146, 154, 199, 205, 222, 228, 343, 361, 392, 398, 511, 517, 550, 1422]
def jt_ixs : List (Nat × Nat) := [(223, 123), (229, 124), (206, 122), (399, 129), (344, 126), (200, 121), (362, 127), (393, 128), (512, 132), (155, 118), (147, 117), (1420, 133)]
def jt_lay : List (List Nat) := [[312, 314, 316, 318, 320, 322, 324, 326, 328, 330, 332, 334, 336, 338, 340], [237, 239, 241], [212], [461, 463, 465, 467, 469, 471, 473, 475, 477, 479, 481, 483], [354, 356, 358], [217, 219], [379, 381, 383, 385, 387, 389], [496, 498, 500, 502, 504, 506, 508], [531, 533, 535, 537, 539, 541, 543, 545, 547], [179, 181, 183, 185, 187, 189, 191, 193, 195], [569, 571, 573, 575, 577, 579, 581, 583, 585, 587, 589, 591, 593, 595, 597, 599], [1513, 1515, 1517, 1519, 1521, 1523, 1525, 1527, 1529, 1531, 1533, 1535, 1537, 1539, 1541, 1543, 1545, 1547, 1549, 1551, 1553, 1555, 1557, 1559, 1561, 1563, 1565, 1567, 1569, 1571, 1573, 1575, 1577, 1579, 1581, 1583, 1585, 1587, 1589, 1591, 1593, 1595, 1597, 1599, 1601]]
def jt_C (ci : Nat) : String := (jt_tab.getD ci ("", [])).1
def jt_N (ci : Nat) : Nat := (jt_tab.getD ci ("", [])).2.length
def jt_f (ci k : Nat) : String × String × Bool × FieldType := (jt_tab.getD ci ("", [])).2.getD k ("", "", false, .int)
def jt_T (ci : Nat) : u_T := fun k => (jt_C ci, (jt_f ci k).1, (jt_f ci k).2.1, (jt_f ci k).2.2.1)
def jt_ty (ci k : Nat) : FieldType := (jt_f ci k).2.2.2
def jt_cls : List vw_C := (List.range 12).map (fun ci => (jt_C ci, jt_T ci, jt_N ci))
def jt_fl (own ix : Nat) : Option (Nat × Nat × Bool) := jt_fls.lookup (own, ix)
def jt_lc (own ix : Nat) : Option Value := jt_lcs.lookup (own, ix)
def jt_nw (own ix : Nat) : Option Nat := jt_nws.lookup (own, ix)
/-- the words of the tables that stay true while classes warm -/
def jt_gw (w : Cond) : Bool := goodWord w || (match w with
  | .fieldLinkNest _ _ _ _ _ _ => true
  | .methodLinkNest _ _ _ _ => true
  | .declares _ => true
  | .castable _ _ => true
  | _ => false)
theorem jt_cls_at {ci : Nat} (h : ci < 12) : jt_cls[ci]? = some (jt_C ci, jt_T ci, jt_N ci) := by
  unfold jt_cls
  rw [List.getElem?_map, List.getElem?_range h]
  rfl
theorem jt_lay_ok : ∀ ci, ci < 12 → ∀ k, k < jt_N ci → lw_tbl[(jt_lay.getD ci []).getD k 0]? = some (u_lay (jt_C ci) (jt_T ci) k) := by decide +kernel
theorem jt_lay_in {ci : Nat} (h : ci < 12) : ∀ w ∈ u_ws (jt_C ci) (jt_T ci) (jt_N ci), w ∈ lw_tbl := by
  intro w hw
  obtain ⟨k, hk, rfl⟩ := List.mem_map.mp hw
  exact List.mem_of_getElem? (jt_lay_ok ci h k (List.mem_range.mp hk))
theorem jt_ty_ok : ∀ ci, ci < 12 → ∀ k, k < jt_N ci → parseFieldDescriptor (jt_T ci k).2.2.1 = some (jt_ty ci k) := by decide +kernel
theorem jt_nm_ok : ∀ ci, ci < 12 → ∀ a, a < jt_N ci → ∀ b, b < jt_N ci → a ≠ b → (jt_T ci a).2.1 ≠ (jt_T ci b).2.1 := by decide +kernel
theorem jt_ix_ok : ∀ ci, ci < 12 → lw_tbl[(jt_ixs.getD ci (0, 0)).1]? = some (.instantiable (jt_C ci) (jt_N ci)) ∧ lw_tbl[(jt_ixs.getD ci (0, 0)).2]? = some (.initialized (jt_C ci)) := by decide +kernel
def jt_flw (e : (Nat × Nat) × Nat × Nat × Bool) : Cond := if e.2.2.2 = true then .fieldLinkNest (jt_own.getD e.1.1 "") e.1.2 (jt_C e.2.1) (jt_f e.2.1 e.2.2.1).1 (jt_f e.2.1 e.2.2.1).2.1 "CellarTurns" else .fieldLink (jt_own.getD e.1.1 "") e.1.2 (jt_C e.2.1) (jt_f e.2.1 e.2.2.1).1 (jt_f e.2.1 e.2.2.1).2.1
theorem jt_fl_ok : ∀ q ∈ jt_fls.zip jt_flx, lw_tbl[q.2]? = some (jt_flw q.1) ∧ q.1.2.1 < 12 ∧ q.1.2.2.1 < jt_N q.1.2.1 := by decide +kernel
def jt_lcw (e : (Nat × Nat) × Value) : Cond := match e.2 with
  | .int v => .constant (jt_own.getD e.1.1 "") e.1.2 v
  | .long v => .constantLong (jt_own.getD e.1.1 "") e.1.2 v
  | _ => .initialized ""
theorem jt_lc_ok : ∀ q ∈ jt_lcs.zip jt_lcx, lw_tbl[q.2]? = some (jt_lcw q.1) := by decide +kernel
theorem jt_nw_ok : ∀ q ∈ jt_nws.zip jt_nwx, lw_tbl[q.2]? = some (.classLink (jt_own.getD q.1.1.1 "") q.1.1.2 (jt_C q.1.2)) ∧ q.1.2 < 12 := by decide +kernel
theorem jt_look {α β : Type} [BEq α] [LawfulBEq α] {l : List (α × β)} {a : α} {b : β} (h : l.lookup a = some b) : (a, b) ∈ l := by
  induction l with
  | nil => cases h
  | cons q r ih =>
    obtain ⟨x, y⟩ := q
    rw [List.lookup_cons] at h
    by_cases hx : (a == x) = true
    · rw [hx] at h
      cases h
      rw [eq_of_beq hx]
      exact List.mem_cons_self
    · rw [Bool.not_eq_true] at hx
      rw [hx] at h
      exact List.mem_cons_of_mem _ (ih h)
theorem jt_zip {α : Type} {l : List α} {x : List Nat} (hl : l.length = x.length) {a : α} (h : a ∈ l) : ∃ n, (a, n) ∈ l.zip x := by
  obtain ⟨i, hi⟩ := List.getElem?_of_mem h
  have h1 : i < l.length := (List.getElem?_eq_some_iff.mp hi).1
  have h2 : i < x.length := by omega
  refine ⟨x[i], List.mem_of_getElem? (i := i) ?_⟩
  rw [List.getElem?_zip_eq_some]
  exact ⟨hi, List.getElem?_eq_getElem h2⟩
theorem jt_fl_at {own ix ci k : Nat} {b : Bool} (h : jt_fl own ix = some (ci, k, b)) : jt_flw ((own, ix), ci, k, b) ∈ lw_tbl ∧ ci < 12 ∧ k < jt_N ci := by
  obtain ⟨n, hn⟩ := jt_zip (x := jt_flx) (by decide +kernel) (jt_look h)
  have h1 := jt_fl_ok _ hn
  exact ⟨List.mem_of_getElem? h1.1, h1.2.1, h1.2.2⟩
theorem jt_lc_at {own ix : Nat} {v : Value} (h : jt_lc own ix = some v) : jt_lcw ((own, ix), v) ∈ lw_tbl := by
  obtain ⟨n, hn⟩ := jt_zip (x := jt_lcx) (by decide +kernel) (jt_look h)
  exact List.mem_of_getElem? (jt_lc_ok _ hn)
theorem jt_nw_at {own ix ci : Nat} (h : jt_nw own ix = some ci) : Cond.classLink (jt_own.getD own "") ix (jt_C ci) ∈ lw_tbl ∧ ci < 12 := by
  obtain ⟨n, hn⟩ := jt_zip (x := jt_nwx) (by decide +kernel) (jt_look h)
  have h1 := jt_nw_ok _ hn
  exact ⟨List.mem_of_getElem? h1.1, h1.2⟩
end
section
/-- where a static field lies, its class's statics cell in H -/
def vx_L (C n d : String) (A : Nat → Prop) (U : State) (H : Heap) : Prop := ∃ (c : ClassId) (k : Class) (i : Nat) (f : Field) (a : Nat) (cell : Cell), U.vm.findClass C = some c ∧ U.fieldFound? C n d = some (c, k, i, f) ∧ f.isStatic = true ∧ k.statics = some a ∧ H[a]? = some cell ∧ cell.vm.isStatics = true ∧ cell.cls = c ∧ f.slot < cell.slots.size ∧ k.staticTypes[f.slot]? = some f.type ∧ ¬ A a
theorem vx_L.moved {C n d : String} {A : Nat → Prop} {u U : State} {H : Heap} (hvm : u.vm.Alike U.vm) (h : vx_L C n d A u H) : vx_L C n d A U H := by
  obtain ⟨c, k, i, f, a, cell, h1, h2, h3, h4, h5, h6, h7, h8, h9, h10⟩ := h
  obtain ⟨k', hi', he⟩ := State.fieldFound?_setVm hvm h2
  exact ⟨c, k', i, f, a, cell, by rw [hvm.findClass]; exact h1, hi', h3, by rw [he]; exact h4, h5, h6, h7, h8, by rw [he]; exact h9, h10⟩
theorem vx_L.kept {C n d : String} {A : Nat → Prop} {U : State} {H H1 : Heap} (h : vx_L C n d A U H) (hq : ∀ a : Nat, a < H.size → ¬ A a → H1[a]? = H[a]?) : vx_L C n d A U H1 := by
  obtain ⟨c, k, i, f, a, cell, h1, h2, h3, h4, h5, h6, h7, h8, h9, h10⟩ := h
  exact ⟨c, k, i, f, a, cell, h1, h2, h3, h4, by rw [hq a (Array.getElem?_eq_some_iff.mp h5).1 h10]; exact h5, h6, h7, h8, h9, h10⟩
theorem vx_L.narrow {C n d : String} {A B : Nat → Prop} {U : State} {H : Heap} (h : vx_L C n d A U H) (hAB : ∀ q, B q → A q) : vx_L C n d B U H := by
  obtain ⟨c, k, i, f, a, cell, h1, h2, h3, h4, h5, h6, h7, h8, h9, h10⟩ := h
  exact ⟨c, k, i, f, a, cell, h1, h2, h3, h4, h5, h6, h7, h8, h9, fun z => h10 (hAB _ z)⟩
theorem vx_L.word {C n d : String} {A : Nat → Prop} {s : State} {args : Array Value} (h : vx_L C n d A s s.heap) : (Cond.laysStatic C n d).before args s = true := by
  obtain ⟨c, k, i, f, a, cell, h1, h2, h3, h4, h5, h6, h7, h8, h9, -⟩ := h
  show (Cond.laysStatic C n d).holds args s none s [] = true
  exact Cond.laysStatic_of h1 h2 h3 h4 h5 h6 h7 h8 h9
/-- .. and what it holds: null or some reference -/
def vx_Zq (C n d : String) (A : Nat → Prop) (U : State) (H : Heap) : Prop := va_Zq C n d A U H ∧ vx_L C n d A U H
theorem vx_Zq.moved {C n d : String} {A : Nat → Prop} {u U : State} {H : Heap} (hvm : u.vm.Alike U.vm) (h : vx_Zq C n d A u H) : vx_Zq C n d A U H := ⟨va_Zq.moved hvm h.1, vx_L.moved hvm h.2⟩
theorem vx_Zq.kept {C n d : String} {A : Nat → Prop} {U : State} {H H1 : Heap} (h : vx_Zq C n d A U H) (hq : ∀ a : Nat, a < H.size → ¬ A a → H1[a]? = H[a]?) : vx_Zq C n d A U H1 := ⟨va_Zq.kept h.1 hq, vx_L.kept h.2 hq⟩
theorem vx_Zq.narrow {C n d : String} {A B : Nat → Prop} {U : State} {H : Heap} (h : vx_Zq C n d A U H) (hAB : ∀ q, B q → A q) : vx_Zq C n d B U H := ⟨va_Zq.narrow h.1 hAB, vx_L.narrow h.2 hAB⟩
theorem vx_Zqof {args : Array Value} {s : State} {C n d : String} {A : Nat → Prop} (hl : (Cond.laysStatic C n d).before args s = true) (hini : (Cond.initialized C).before args s = true) (h : (Cond.isRef (.static C n d)).before args s = true) (hA : ∀ a : Nat, a < s.heap.size → ¬ A a) : vx_Zq C n d A s s.heap := by
  refine ⟨va_Zqof hl hini h hA, ?_⟩
  obtain ⟨c, k, i, f, a, cell, h1, h2, h3, h4, h5, h6, h7, h8, h9⟩ := Cond.laysStatic_spec hl
  exact ⟨c, k, i, f, a, cell, h1, h2, h3, h4, h5, h6, h7, h8, h9, hA a (Array.getElem?_eq_some_iff.mp h5).1⟩
end
section
/-! ===== the small machine's steps ===== -/
def jo_ipush (n : Int) : JN := fun s => some (s.1, .int (Int32.ofInt n) :: s.2.1, s.2.2)
def jo_lpush (n : Int) : JN := fun s => some (s.1, .long (Int64.ofInt n) :: s.2.1, s.2.2)
def jo_iload (i : Nat) : JN := fun s => match s.1[i]? with
  | some (some (.int x)) => some (s.1, .int x :: s.2.1, s.2.2)
  | _ => none
def jo_lload (i : Nat) : JN := fun s => match s.1[i]? with
  | some (some (.long x)) => some (s.1, .long x :: s.2.1, s.2.2)
  | _ => none
def jo_aload (i : Nat) : JN := fun s => match s.1[i]? with
  | some (some (.ref x)) => some (s.1, .ref x :: s.2.1, s.2.2)
  | _ => none
def jo_istore (i : Nat) : JN := fun s => match s.2.1 with
  | .int x :: st => if i < s.1.length then some (jl_set s.1 i (.int x), st, s.2.2) else none
  | _ => none
def jo_lstore (i : Nat) : JN := fun s => match s.2.1 with
  | .long x :: st => if i + 1 < s.1.length then some (jl_set2 s.1 i (.long x), st, s.2.2) else none
  | _ => none
def jo_astore (i : Nat) : JN := fun s => match s.2.1 with
  | .ref x :: st => if i < s.1.length then some (jl_set s.1 i (.ref x), st, s.2.2) else none
  | _ => none
def jo_iinc (i : Nat) (n : Int) : JN := fun s => match s.1[i]? with
  | some (some (.int x)) => some (jl_set s.1 i (.int (x + Int32.ofInt n)), s.2.1, s.2.2)
  | _ => none
def jo_ii (f : Int32 → Int32 → Int32) : JN := fun s => match s.2.1 with
  | .int y :: .int x :: st => some (s.1, .int (f x y) :: st, s.2.2)
  | _ => none
def jo_id (f : Int32 → Int32 → Int32) : JN := fun s => match s.2.1 with
  | .int y :: .int x :: st => if y = 0 then none else some (s.1, .int (f x y) :: st, s.2.2)
  | _ => none
def jo_ll (f : Int64 → Int64 → Int64) : JN := fun s => match s.2.1 with
  | .long y :: .long x :: st => some (s.1, .long (f x y) :: st, s.2.2)
  | _ => none
def jo_lq (f : Int64 → Int64 → Int64) : JN := fun s => match s.2.1 with
  | .long y :: .long x :: st => if y = 0 then none else some (s.1, .long (f x y) :: st, s.2.2)
  | _ => none
def jo_li (f : Int64 → Int32 → Int64) : JN := fun s => match s.2.1 with
  | .int y :: .long x :: st => some (s.1, .long (f x y) :: st, s.2.2)
  | _ => none
def jo_i (f : Int32 → Int32) : JN := fun s => match s.2.1 with
  | .int x :: st => some (s.1, .int (f x) :: st, s.2.2)
  | _ => none
def jo_i2l : JN := fun s => match s.2.1 with
  | .int x :: st => some (s.1, .long x.toInt64 :: st, s.2.2)
  | _ => none
def jo_l2i : JN := fun s => match s.2.1 with
  | .long x :: st => some (s.1, .int x.toInt32 :: st, s.2.2)
  | _ => none
def jo_lcmp : JN := fun s => match s.2.1 with
  | .long y :: .long x :: st => some (s.1, .int (lg_cmp x y) :: st, s.2.2)
  | _ => none
def jo_dup : JN := fun s => match s.2.1 with
  | v :: st => if v.category = 1 then some (s.1, v :: v :: st, s.2.2) else none
  | _ => none
def jo_pop : JN := fun s => match s.2.1 with
  | v :: st => if v.category = 1 then some (s.1, st, s.2.2) else none
  | _ => none
def jo_dup2 : JN := fun s => match s.2.1 with
  | v :: w :: st => if v.category = 1 ∧ w.category = 1 then some (s.1, v :: w :: v :: w :: st, s.2.2) else none
  | _ => none
def jo_dupx1 : JN := fun s => match s.2.1 with
  | v :: w :: st => if v.category = 1 ∧ w.category = 1 then some (s.1, v :: w :: v :: st, s.2.2) else none
  | _ => none
/-- fields: the class's number, the field's -/
def jo_getI (ci k : Nat) : JN := fun s => match s.2.1 with
  | .ref a :: st => match s.2.2.1[a]? with
    | some (t, _) => if t = ci then some (s.1, .int (s.2.2.2.1 a k) :: st, s.2.2) else none
    | none => none
  | _ => none
def jo_getJ (ci k : Nat) : JN := fun s => match s.2.1 with
  | .ref a :: st => match s.2.2.1[a]? with
    | some (t, _) => if t = ci then some (s.1, .long (s.2.2.2.2.1 a k) :: st, s.2.2) else none
    | none => none
  | _ => none
def jo_getR (ci k : Nat) : JN := fun s => match s.2.1 with
  | .ref a :: st => match s.2.2.1[a]? with
    | some (t, _) => if t = ci then some (s.1, va_rf (s.2.2.2.2.2 a k) :: st, s.2.2) else none
    | none => none
  | _ => none
def jo_putI (ci k : Nat) (ty : FieldType) : JN := fun s => match s.2.1 with
  | .int x :: .ref a :: st => match s.2.2.1[a]? with
    | some (t, _) => if t = ci ∧ narrow ty (.int x) = .int x ∧ fits ty (.int x) = true then some (s.1, st, jh_setI s.2.2 a k x) else none
    | none => none
  | _ => none
def jo_putJ (ci k : Nat) : JN := fun s => match s.2.1 with
  | .long x :: .ref a :: st => match s.2.2.1[a]? with
    | some (t, _) => if t = ci then some (s.1, st, jh_setJ s.2.2 a k x) else none
    | none => none
  | _ => none
def jo_putR (ci k : Nat) : JN := fun s => match s.2.1 with
  | .ref x :: .ref a :: st => match s.2.2.1[a]? with
    | some (t, _) => if t = ci then some (s.1, st, jh_setR s.2.2 a k (some x)) else none
    | none => none
  | _ => none
/-- arrays: the kinds that a load may read, the kind that a store may write -/
def jo_ldI (ks : List Nat) : JN := fun s => match s.2.1 with
  | .int i :: .ref a :: st => match s.2.2.1[a]? with
    | some (t, n) => if t ∈ ks ∧ ¬ (i < 0 ∨ n ≤ i.toNatClampNeg) then some (s.1, .int (s.2.2.2.1 a i.toNatClampNeg) :: st, s.2.2) else none
    | none => none
  | _ => none
def jo_ldJ : JN := fun s => match s.2.1 with
  | .int i :: .ref a :: st => match s.2.2.1[a]? with
    | some (t, n) => if t = 101 ∧ ¬ (i < 0 ∨ n ≤ i.toNatClampNeg) then some (s.1, .long (s.2.2.2.2.1 a i.toNatClampNeg) :: st, s.2.2) else none
    | none => none
  | _ => none
def jo_ldR : JN := fun s => match s.2.1 with
  | .int i :: .ref a :: st => match s.2.2.1[a]? with
    | some (t, n) => if (t = 104 ∨ t = 201) ∧ ¬ (i < 0 ∨ n ≤ i.toNatClampNeg) then some (s.1, va_rf (s.2.2.2.2.2 a i.toNatClampNeg) :: st, s.2.2) else none
    | none => none
  | _ => none
def jo_stI : JN := fun s => match s.2.1 with
  | .int x :: .int i :: .ref a :: st => match s.2.2.1[a]? with
    | some (t, n) => if t = 100 ∧ ¬ (i < 0 ∨ n ≤ i.toNatClampNeg) then some (s.1, st, jh_setI s.2.2 a i.toNatClampNeg x) else none
    | none => none
  | _ => none
def jo_stB : JN := fun s => match s.2.1 with
  | .int x :: .int i :: .ref a :: st => match s.2.2.1[a]? with
    | some (t, n) => if (t = 102 ∨ t = 103) ∧ ¬ (i < 0 ∨ n ≤ i.toNatClampNeg) then some (s.1, st, jh_setI s.2.2 a i.toNatClampNeg (vp_nar (jt_at t) x)) else none
    | none => none
  | _ => none
def jo_stJ : JN := fun s => match s.2.1 with
  | .long x :: .int i :: .ref a :: st => match s.2.2.1[a]? with
    | some (t, n) => if t = 101 ∧ ¬ (i < 0 ∨ n ≤ i.toNatClampNeg) then some (s.1, st, jh_setJ s.2.2 a i.toNatClampNeg x) else none
    | none => none
  | _ => none
def jo_stR : JN := fun s => match s.2.1 with
  | .ref x :: .int i :: .ref a :: st => match s.2.2.1[a]? with
    | some (t, n) => if t = 104 ∧ ¬ (i < 0 ∨ n ≤ i.toNatClampNeg) ∧ s.2.2.1[x]? = some (3, 12) then some (s.1, st, jh_setR s.2.2 a i.toNatClampNeg (some x)) else none
    | none => none
  | _ => none
def jo_len : JN := fun s => match s.2.1 with
  | .ref a :: st => match s.2.2.1[a]? with
    | some (t, n) => if 100 ≤ t then some (s.1, .int (Int32.ofNat n) :: st, s.2.2) else none
    | none => none
  | _ => none
/-- no cell is unknown -/
def jh_clean (σ : JH) : Bool := (σ.1.drop 64).all (fun q => !(q.1 == 99))
def jo_new (ci : Nat) : JN := fun s => if jh_clean s.2.2 = true then some (s.1, .ref s.2.2.1.length :: s.2.1, jh_new s.2.2 ci (jt_N ci)) else none
def jo_newa (t : Nat) : JN := fun s => match s.2.1 with
  | .int n :: st => if n < 0 ∨ 5000 < n.toNatClampNeg ∨ jh_clean s.2.2 = false then none else some (s.1, .ref s.2.2.1.length :: st, jh_new s.2.2 t n.toNatClampNeg)
  | _ => none
def jo_stat (r : Nat) : JN := fun s => some (s.1, .ref r :: s.2.1, s.2.2)
/-- a step by its number: (which, a number, a number) -/
def jx_op (o : JO) : JN := match o.1 with
  | 0 => jo_ipush o.2.2
  | 1 => jo_lpush o.2.2
  | 2 => jo_iload o.2.1
  | 3 => jo_lload o.2.1
  | 4 => jo_aload o.2.1
  | 5 => jo_istore o.2.1
  | 6 => jo_lstore o.2.1
  | 7 => jo_astore o.2.1
  | 8 => jo_iinc o.2.1 o.2.2
  | 10 => jo_ii (fun x y => x + y)
  | 11 => jo_ii (fun x y => x - y)
  | 12 => jo_ii (fun x y => x * y)
  | 13 => jo_id (fun x y => x / y)
  | 14 => jo_id (fun x y => x - x / y * y)
  | 15 => jo_i (fun x => -x)
  | 16 => jo_ii (fun x y => x &&& y)
  | 17 => jo_ii (fun x y => x ||| y)
  | 18 => jo_ii (fun x y => x ^^^ y)
  | 19 => jo_ii (fun x y => x <<< (y &&& 31))
  | 20 => jo_ii (fun x y => x >>> (y &&& 31))
  | 21 => jo_ii (fun x y => (x.toUInt32 >>> (y.toUInt32 &&& Int32.toUInt32 31)).toInt32)
  | 22 => jo_ll (fun x y => x + y)
  | 23 => jo_ll (fun x y => x - y)
  | 24 => jo_ll (fun x y => x * y)
  | 25 => jo_lq (fun x y => x / y)
  | 26 => jo_lq (fun x y => x - x / y * y)
  | 27 => jo_ll (fun x y => x &&& y)
  | 28 => jo_ll (fun x y => x ||| y)
  | 29 => jo_ll (fun x y => x ^^^ y)
  | 30 => jo_li (fun x y => x <<< (y.toInt64 &&& 63))
  | 31 => jo_li (fun x y => x >>> (y.toInt64 &&& 63))
  | 32 => jo_li (fun x y => (x.toUInt64 >>> (y.toInt64.toUInt64 &&& Int64.toUInt64 63)).toInt64)
  | 33 => jo_lcmp
  | 34 => jo_i2l
  | 35 => jo_l2i
  | 36 => jo_i (fun x => x.toInt8.toInt32)
  | 37 => jo_i (fun x => (x.toUInt32 % 65536).toInt32)
  | 40 => jo_getI o.2.1 o.2.2.toNat
  | 41 => jo_getJ o.2.1 o.2.2.toNat
  | 42 => jo_getR o.2.1 o.2.2.toNat
  | 43 => jo_putI o.2.1 o.2.2.toNat .int
  | 44 => jo_putJ o.2.1 o.2.2.toNat
  | 45 => jo_putR o.2.1 o.2.2.toNat
  | 46 => jo_putI o.2.1 o.2.2.toNat .boolean
  | 47 => jo_putI o.2.1 o.2.2.toNat .char
  | 48 => jo_putR o.2.1 o.2.2.toNat
  | 50 => jo_ldI [100, 200]
  | 51 => jo_ldJ
  | 52 => jo_ldI [102, 103, 202]
  | 54 => jo_ldR
  | 55 => jo_stI
  | 56 => jo_stJ
  | 57 => jo_stB
  | 59 => jo_stR
  | 60 => jo_len
  | 61 => jo_new o.2.1
  | 62 => jo_newa o.2.1
  | 63 => jo_newa 104
  | 64 => jo_stat o.2.1
  | 70 => jo_dup
  | 71 => jo_pop
  | 72 => jo_dup2
  | 73 => jo_dupx1
  | _ => fun _ => none
def jx_run : List JO → JN
  | [] => fun s => some s
  | o :: r => fun s => (jx_op o s).bind (jx_run r)
/-- the statics that are constants: a place of a pool, the constant's number -/
def jt_sts : List (String × String × String × Nat) := [("CellarTurns$Word", "OTHER", "LCellarTurns$Word;", 21), ("CellarTurns$Word", "ALL", "[LCellarTurns$Word;", 23), ("CellarTurns$1", "$SwitchMap$CellarTurns$Word", "[I", 22), ("CellarTurns$Word", "PRICE", "LCellarTurns$Word;", 2), ("CellarTurns$Word", "NOT", "LCellarTurns$Word;", 15), ("CellarTurns$Word", "AND", "LCellarTurns$Word;", 16), ("CellarTurns$Word", "OR", "LCellarTurns$Word;", 17)]
def jt_gss : List ((Nat × Nat) × Nat) := [((9, 15), 0), ((13, 109), 1), ((13, 67), 0), ((5, 56), 2), ((2, 77), 2), ((5, 135), 3), ((2, 55), 4), ((2, 25), 5), ((2, 30), 6)]
def jt_gsx : List Nat := [160, 639, 641, 747, 851, 794, 845, 858, 860]
def jt_gs (own ix : Nat) : Option Nat := jt_gss.lookup (own, ix)
def jt_sq (k : Nat) : String × String × String × Nat := jt_sts.getD k ("", "", "", 0)
/-- the fields of constants: of a Word (50) and of a text (51) -/
def jt_wls : List ((Nat × Nat) × JO) := [((13, 101), (41, 50, 1)), ((9, 55), (40, 50, 2)), ((17, 7), (40, 50, 0)), ((18, 15), (40, 51, 0)), ((18, 9), (42, 51, 1))]
def jt_wl (own ix : Nat) : Option JO := jt_wls.lookup (own, ix)
/-- texts: own class, place, text, number -/
def jt_str : List (String × Nat × String × Nat) := [("CellarTurns$Tape", 80, "()<=+-*;", 25), ("CellarTurns", 272, "no such turns or no such pair", 26), ("CellarTurns", 277, "no row of turns fits what was seen", 27)]
/-- which step an instruction is; the fields of Word have the class number 50 -/
def jx_fld (own ix : Nat) (put ini : Bool) : Option JO := match jt_fl own ix with
  | some (ci, k, nest) => match put, jt_ty ci k, (jt_f ci k).2.2.1 with
    | false, .long, _ => some (41, ci, k)
    | false, .object _, _ => some (42, ci, k)
    | false, .array _, _ => some (42, ci, k)
    | false, .int, _ => some (40, ci, k)
    | false, .boolean, _ => some (40, ci, k)
    | false, .char, _ => some (40, ci, k)
    | true, .int, false => some (43, ci, k)
    | true, .long, false => some (44, ci, k)
    | true, .object _, false => some (45, ci, k)
    | true, .boolean, false => some (46, ci, k)
    | true, .char, false => some (47, ci, k)
    | true, .object _, true => if ini = true ∧ nest = false ∧ ci = own then some (48, ci, k) else none
    | true, .array _, true => if ini = true ∧ nest = false ∧ ci = own then some (48, ci, k) else none
    | _, _, _ => none
  | none => none
def jx_of (own : Nat) (ini : Bool) (i : Instr) : Option JO := match i with
  | .iconst n => some (0, 0, (Int32.ofInt n).toInt)
  | .bipush n => some (0, 0, ((Int8.ofInt n).toInt32).toInt)
  | .sipush n => some (0, 0, ((Int16.ofInt n).toInt32).toInt)
  | .ldc ix => match jt_lc own ix with
    | some (.int v) => some (0, 0, v.toInt)
    | _ => if own = 9 ∧ ix = 80 then some (64, 25, 0) else none
  | .ldc_w ix => match jt_lc own ix with
    | some (.int v) => some (0, 0, v.toInt)
    | _ => none
  | .lconst n => some (1, 0, (Int64.ofNat n).toInt)
  | .ldc2_w ix => match jt_lc own ix with
    | some (.long v) => some (1, 0, v.toInt)
    | _ => none
  | .iload i => some (2, i, 0)
  | .iload_n i => some (2, i, 0)
  | .lload i => some (3, i, 0)
  | .lload_n i => some (3, i, 0)
  | .aload i => some (4, i, 0)
  | .aload_n i => some (4, i, 0)
  | .istore i => some (5, i, 0)
  | .istore_n i => some (5, i, 0)
  | .lstore i => some (6, i, 0)
  | .lstore_n i => some (6, i, 0)
  | .astore i => some (7, i, 0)
  | .astore_n i => some (7, i, 0)
  | .iinc i n => some (8, i, n)
  | .iadd => some (10, 0, 0)
  | .isub => some (11, 0, 0)
  | .imul => some (12, 0, 0)
  | .idiv => some (13, 0, 0)
  | .irem => some (14, 0, 0)
  | .ineg => some (15, 0, 0)
  | .iand => some (16, 0, 0)
  | .ior => some (17, 0, 0)
  | .ixor => some (18, 0, 0)
  | .ishl => some (19, 0, 0)
  | .ishr => some (20, 0, 0)
  | .iushr => some (21, 0, 0)
  | .ladd => some (22, 0, 0)
  | .lsub => some (23, 0, 0)
  | .lmul => some (24, 0, 0)
  | .ldiv => some (25, 0, 0)
  | .lrem => some (26, 0, 0)
  | .land => some (27, 0, 0)
  | .lor => some (28, 0, 0)
  | .lxor => some (29, 0, 0)
  | .lshl => some (30, 0, 0)
  | .lshr => some (31, 0, 0)
  | .lushr => some (32, 0, 0)
  | .lcmp => some (33, 0, 0)
  | .i2l => some (34, 0, 0)
  | .l2i => some (35, 0, 0)
  | .i2b => some (36, 0, 0)
  | .i2c => some (37, 0, 0)
  | .getfield ix => match jt_wl own ix with
    | some o => some o
    | none => jx_fld own ix false ini
  | .getstatic ix => match jt_gs own ix with
    | some k => some (64, (jt_sq k).2.2.2, 0)
    | none => if own = 18 ∧ ix = 38 then some (0, 0, 1) else none
  | .putfield ix => jx_fld own ix true ini
  | .iaload => some (50, 0, 0)
  | .laload => some (51, 0, 0)
  | .baload => some (52, 0, 0)
  | .aaload => some (54, 0, 0)
  | .iastore => some (55, 0, 0)
  | .lastore => some (56, 0, 0)
  | .bastore => some (57, 0, 0)
  | .aastore => some (59, 0, 0)
  | .arraylength => some (60, 0, 0)
  | .new ix => match jt_nw own ix with
    | some ci => some (61, ci, 0)
    | none => none
  | .newarray t => match t with
    | .int => some (62, 100, 0)
    | .long => some (62, 101, 0)
    | .byte => some (62, 102, 0)
    | .boolean => some (62, 103, 0)
    | _ => none
  | .anewarray ix => match jt_nw own ix with
    | some 3 => some (63, 0, 0)
    | _ => none
  | .dup => some (70, 0, 0)
  | .pop => some (71, 0, 0)
  | .dup2 => some (72, 0, 0)
  | .dup_x1 => some (73, 0, 0)
  | _ => none
def jx_len (i : Instr) : Nat := match i with
  | .bipush _ => 2
  | .sipush _ => 3
  | .ldc _ => 2
  | .ldc_w _ => 3
  | .ldc2_w _ => 3
  | .iload _ => 2
  | .lload _ => 2
  | .aload _ => 2
  | .istore _ => 2
  | .lstore _ => 2
  | .astore _ => 2
  | .iinc _ _ => 3
  | .getfield _ => 3
  | .getstatic _ => 3
  | .putfield _ => 3
  | .new _ => 3
  | .newarray _ => 2
  | .anewarray _ => 3
  | _ => 1
end
section
/-! ===== the small machine and the real one: what a state of the one says of the other ===== -/
def jt_A (G : JG) : Nat → Prop := fun q => jg_sz G ≤ q
/-- a constant's cell: 50 a Word (its ordinal, letters, whether it is reserved), 51 a text (its coder, its bytes), 200 a row of ints, 201 a row of Words, 202 a row of bytes, 99 nothing is known -/
def jsc (G : JG) (σ : JH) (U : State) (i t n : Nat) : Prop :=
  (t = 50 ∨ t = 51 ∨ t = 99 ∨ t = 200 ∨ t = 201 ∨ t = 202) ∧
  (t = 50 → va_O "CellarTurns$Word" (jg_sa G i) (jt_A G) U (jg_H G) ∧ va_OF "java/lang/Enum" "ordinal" "I" (.int (σ.2.1 i 0)) (jg_sa G i) (jt_A G) U (jg_H G) ∧ va_OF "CellarTurns$Word" "letters" "J" (.long (σ.2.2.1 i 1)) (jg_sa G i) (jt_A G) U (jg_H G) ∧ va_OF "CellarTurns$Word" "reserved" "Z" (.int (σ.2.1 i 2)) (jg_sa G i) (jt_A G) U (jg_H G)) ∧
  (t = 200 → va_T .int (jg_sa G i) n (fun j => .int (σ.2.1 i j)) (jt_A G) U (jg_H G)) ∧
  (t = 201 → va_T (.object "CellarTurns$Word") (jg_sa G i) n (fun j => jv G (va_rf (σ.2.2.2 i j))) (jt_A G) U (jg_H G)) ∧
  (t = 202 → va_T .byte (jg_sa G i) n (fun j => .int (σ.2.1 i j)) (jt_A G) U (jg_H G)) ∧
  (t = 51 → va_O "java/lang/String" (jg_sa G i) (jt_A G) U (jg_H G) ∧ va_OF "java/lang/String" "coder" "B" (.int (σ.2.1 i 0)) (jg_sa G i) (jt_A G) U (jg_H G) ∧ va_OF "java/lang/String" "value" "[B" (jv G (va_rf (σ.2.2.2 i 1))) (jg_sa G i) (jt_A G) U (jg_H G))
def jst (G : JG) (σ : JH) (U : State) : Prop := ∀ i t n, i < 64 → σ.1[i]? = some (t, n) → jsc G σ U i t n
/-- a made cell -/
def jc (G : JG) (σ : JH) (H : Heap) (i t n : Nat) : Prop :=
  (t < 12 ∧ n = jt_N t ∧ t_OB (jr G i) ((jg_D G).1 t) n ((jg_D G).2 t) H (fun k => jv G (jf σ i k (jt_ty t k)))) ∨
  (100 ≤ t ∧ t ≤ 104 ∧ H[jr G i]? = some (arrV (jg_A G t) n (fun j => jv G (jf σ i j (jt_at t))))) ∨ t = 99
def jm (G : JG) (σ : JH) (U : State) (H : Heap) : Prop :=
  (jh_clean σ = true → H.size + 64 = jg_sz G + jh_n σ) ∧ (64 ≤ jh_n σ ∧ jg_sz G ≤ H.size) ∧ (∀ q : Nat, q < jg_sz G → H[q]? = (jg_H G)[q]?) ∧ (∀ i t n, 64 ≤ i → σ.1[i]? = some (t, n) → jc G σ H i t n) ∧ jst G σ U ∧ jg_sz G = (jg_H G).size
/-- what the tables say -/
def JGl (G : JG) (U : State) : Prop :=
  (∀ w ∈ lw_tbl, jt_gw w = true → w.before #[] U = true) ∧ va_K (jg_D G) jt_cls [] U ∧
  (∀ t, 100 ≤ t → t ≤ 104 → ArrOfT U (jg_A G t) (jt_at t) ∧ va_RA U (jg_A G t) (jt_at t)) ∧ va_AO "CellarTurns$Muddle" U ∧
  (∀ q ∈ jt_sts, va_Z q.1 q.2.1 q.2.2.1 (.ref (jg_sa G q.2.2.2)) (jt_A G) U (jg_H G)) ∧ (∀ i j, i < 22 → j < 22 → jg_sa G i = jg_sa G j → i = j) ∧
  va_Z "java/lang/String" "COMPACT_STRINGS" "Z" (.int 1) (jt_A G) U (jg_H G) ∧ (∀ q ∈ jt_str, vk_R q.1 q.2.1 q.2.2.1 (jg_sa G q.2.2.2) U) ∧ vx_Zq Bundle.tN "UNASSIGNED_STACK" Bundle.steD (jt_A G) U (jg_H G) ∧ vx_Zq Bundle.tN "SUPPRESSED_SENTINEL" Bundle.listD (jt_A G) U (jg_H G)
def jl (G : JG) (ls : Array Slot) (nL : Nat) (L : JL) : Prop := ls.size = nL ∧ lv_wf ls ∧ L.length = nL ∧ ∀ (i : Nat) (v : Value), L[i]? = some (some v) → ls[i]? = some (.val (jv G v))
section JW
variable {G : JG} {p : Program} {e : Env} {R : Room} {s : State} {m : MethodId} {args : Array Value} {below : List Frame} {meth : Method} {c : Code} {cc : ByteArray} {n0 w0 nE wE nL own : Nat} {ini : Bool} {Q : State → Prop}
/-- from this place with this state the method comes to its end -/
def JK (G : JG) (p : Program) (e : Env) (R : Room) (s : State) (m : MethodId) (args : Array Value) (below : List Frame) (meth : Method) (c : Code) (nL n0 w0 nE wE : Nat) (Q : State → Prop) (pc : Nat) (S : JS) : Prop :=
  jh_n S.2.2 ≤ nE ∧ jh_w S.2.2 ≤ wE ∧ ∀ (H : Heap) (locs : List Loc) (ls : Array Slot), n0 ≤ jh_n S.2.2 → w0 ≤ jh_w S.2.2 → jm G S.2.2 s H → (∀ q ∈ locs, jg_sz G ≤ q.base) → jl G ls nL S.1 →
    W p (jg_l G) e R s m args below meth c H locs (jh_n S.2.2 - n0) (jh_w S.2.2 - w0) Q (F0 m pc ls (S.2.1.map (jv G)))
/-- what stays the same along a method -/
def JX (G : JG) (p : Program) (R : Room) (s : State) (m : MethodId) (meth : Method) (c : Code) (cc : ByteArray) (nL n0 w0 nE wE own : Nat) (ini : Bool) : Prop :=
  p.tables.exec = Jvm.exec ∧ c.code = cc ∧ c.maxLocals = nL ∧ s.vm.findClass (jt_own.getD own "") = some m.cls ∧ JGl G s ∧ R.cells = nE - n0 ∧ R.slots = wE - w0 ∧ (ini = true → meth.name = "<init>")
theorem jx_word {w : Cond} (h : JGl G s) (hw : w ∈ lw_tbl) (hg : jt_gw w = true) (ht : w.onTables = true) : w.before args s = true := va_Nw.use ht (h.1 w hw hg)
theorem jk_st {pc pc' : Nat} {L : JL} {st st' : List Value} {σ : JH}
    (h : ∀ (H : Heap) (locs : List Loc) (ls : Array Slot) (cells slots : Nat), jl G ls nL L → jm G σ s H → W p (jg_l G) e R s m args below meth c H locs cells slots Q (F0 m pc' ls (st'.map (jv G))) → W p (jg_l G) e R s m args below meth c H locs cells slots Q (F0 m pc ls (st.map (jv G))))
    (k : JK G p e R s m args below meth c nL n0 w0 nE wE Q pc' (L, st', σ)) : JK G p e R s m args below meth c nL n0 w0 nE wE Q pc (L, st, σ) :=
  ⟨k.1, k.2.1, fun H locs ls h1 h2 h3 h4 h5 => h H locs ls _ _ h5 h3 (k.2.2 H locs ls h1 h2 h3 h4 h5)⟩
theorem jk_lo {pc pc' : Nat} {L L' : JL} {st st' : List Value} {σ : JH}
    (h : ∀ (H : Heap) (locs : List Loc) (ls : Array Slot) (cells slots : Nat), jl G ls nL L → (∀ ls', jl G ls' nL L' → W p (jg_l G) e R s m args below meth c H locs cells slots Q (F0 m pc' ls' (st'.map (jv G)))) → W p (jg_l G) e R s m args below meth c H locs cells slots Q (F0 m pc ls (st.map (jv G))))
    (k : JK G p e R s m args below meth c nL n0 w0 nE wE Q pc' (L', st', σ)) : JK G p e R s m args below meth c nL n0 w0 nE wE Q pc (L, st, σ) :=
  ⟨k.1, k.2.1, fun H locs ls h1 h2 h3 h4 h5 => h H locs ls _ _ h5 (fun ls' h => k.2.2 H locs ls' h1 h2 h3 h4 h)⟩
/-- a write: the shapes stay -/
theorem jk_wr {pc pc' : Nat} {L : JL} {st st' : List Value} {σ σ' : JH} (hs : σ'.1 = σ.1)
    (h : ∀ (H : Heap) (locs : List Loc) (ls : Array Slot) (cells slots : Nat), jm G σ s H → (∀ q ∈ locs, jg_sz G ≤ q.base) → (∀ (H' : Heap) (locs' : List Loc), jm G σ' s H' → (∀ q ∈ locs', jg_sz G ≤ q.base) → W p (jg_l G) e R s m args below meth c H' locs' cells slots Q (F0 m pc' ls (st'.map (jv G)))) → W p (jg_l G) e R s m args below meth c H locs cells slots Q (F0 m pc ls (st.map (jv G))))
    (k : JK G p e R s m args below meth c nL n0 w0 nE wE Q pc' (L, st', σ')) : JK G p e R s m args below meth c nL n0 w0 nE wE Q pc (L, st, σ) := by
  have hn : jh_n σ' = jh_n σ := by unfold jh_n; rw [hs]
  have hw : jh_w σ' = jh_w σ := by unfold jh_w; rw [hs]
  obtain ⟨k1, k2, k3⟩ := k
  refine ⟨hn ▸ k1, hw ▸ k2, fun H locs ls h1 h2 h3 h4 h5 => h H locs ls _ _ h3 h4 fun H' locs' g1 g2 => ?_⟩
  have := k3 H' locs' ls (by rw [hn]; exact h1) (by rw [hw]; exact h2) g1 g2 h5
  rwa [hn, hw] at this
/-- locals -/
theorem jl_at {ls : Array Slot} {L : JL} {i : Nat} {v : Value} (h : jl G ls nL L) (hi : L[i]? = some (some v)) : ls[i]? = some (.val (jv G v)) := h.2.2.2 i v hi
def jl_prs (G : JG) (L : JL) : List (Nat × Value) := (List.range L.length).filterMap (fun i => match L[i]? with
  | some (some v) => some (i, jv G v)
  | _ => none)
theorem jl_mem {L : JL} {q : Nat × Value} : q ∈ jl_prs G L ↔ ∃ v, L[q.1]? = some (some v) ∧ q.2 = jv G v := by
  unfold jl_prs
  rw [List.mem_filterMap]
  constructor
  · rintro ⟨i, hi, h⟩
    revert h
    split
    · rename_i v hv
      rintro ⟨⟩
      exact ⟨v, hv, rfl⟩
    · intro h; cases h
  · rintro ⟨v, h1, h2⟩
    refine ⟨q.1, List.mem_range.mpr (List.getElem?_eq_some_iff.mp h1).1, ?_⟩
    rw [h1]
    show some (q.1, jv G v) = some q
    rw [← h2]
theorem jl_has {ls : Array Slot} {L : JL} (h : jl G ls nL L) : lv_has ls nL (jl_prs G L) := ⟨h.1, h.2.1, fun q hq => by
  obtain ⟨v, h1, h2⟩ := jl_mem.mp hq
  rw [h2]
  exact h.2.2.2 _ _ h1⟩
theorem jv_cat (v : Value) : (jv G v).category = v.category := by cases v <;> rfl
theorem jl_clr_len (L : JL) (i : Nat) : (jl_clr L i).length = L.length := by
  unfold jl_clr
  split
  · rfl
  · split
    · split
      · exact List.length_set
      · rfl
    · rfl
theorem jl_clr_at {L : JL} {i j : Nat} {v : Value} (h : (jl_clr L i)[j]? = some (some v)) : L[j]? = some (some v) ∧ ¬ (j + 1 = i ∧ v.category = 2) := by
  unfold jl_clr at h
  cases i with
  | zero => exact ⟨h, fun q => by omega⟩
  | succ k =>
    simp only at h
    split at h
    · rename_i w hw
      split at h
      · rename_i hc
        by_cases hk : k = j
        · subst hk
          rw [List.getElem?_set_self' , hw] at h
          cases h
        · rw [List.getElem?_set_ne hk] at h
          exact ⟨h, fun q => hk (by omega)⟩
      · rename_i hc
        refine ⟨h, fun q => ?_⟩
        obtain ⟨q1, q2⟩ := q
        have : j = k := by omega
        subst this
        rw [hw] at h
        cases h
        exact hc q2
    · rename_i hn
      refine ⟨h, fun q => ?_⟩
      have : j = k := by omega
      subst this
      exact hn v h
theorem jl_set_ok {ls' : Array Slot} {L : JL} {i : Nat} {v : Value} (hlen : L.length = nL) (h : lv_has ls' nL ((i, jv G v) :: (jl_prs G L).filter (fun q => !(q.1 == i) && !(q.1 + 1 == i && q.2.category == 2)))) : jl G ls' nL (jl_set L i v) := by
  refine ⟨h.1, h.2.1, by unfold jl_set; rw [List.length_set, jl_clr_len]; exact hlen, fun j w hj => ?_⟩
  unfold jl_set at hj
  by_cases hij : i = j
  · subst hij
    rw [List.getElem?_set_self'] at hj
    cases hq : (jl_clr L i)[i]? with
    | none => rw [hq] at hj; cases hj
    | some z =>
      rw [hq] at hj
      cases hj
      exact h.2.2 (i, jv G v) List.mem_cons_self
  · rw [List.getElem?_set_ne hij] at hj
    obtain ⟨h1, h2⟩ := jl_clr_at hj
    refine h.2.2 (j, jv G w) (List.mem_cons_of_mem _ (List.mem_filter.mpr ⟨jl_mem.mpr ⟨w, h1, rfl⟩, ?_⟩))
    simp only [jv_cat, Bool.and_eq_true, Bool.not_eq_true', beq_eq_false_iff_ne, Bool.and_eq_false_iff, ne_eq]
    refine ⟨fun q => hij q.symm, ?_⟩
    by_cases q : j + 1 = i
    · exact Or.inr fun z => h2 ⟨q, z⟩
    · exact Or.inl q
theorem jl_set2_ok {ls' : Array Slot} {L : JL} {i : Nat} {v : Value} (hlen : L.length = nL) (h : lv_has ls' nL ((i, jv G v) :: (jl_prs G L).filter (fun q => !(q.1 == i) && (!(q.1 == i + 1) && !(q.1 + 1 == i && q.2.category == 2))))) : jl G ls' nL (jl_set2 L i v) := by
  refine ⟨h.1, h.2.1, by unfold jl_set2; rw [List.length_set, List.length_set, jl_clr_len]; exact hlen, fun j w hj => ?_⟩
  unfold jl_set2 at hj
  by_cases hij1 : i + 1 = j
  · subst hij1
    rw [List.getElem?_set_self'] at hj
    revert hj
    cases hz : ((jl_clr L i).set i (some v))[i + 1]? <;> intro hj <;> cases hj
  · rw [List.getElem?_set_ne hij1] at hj
    by_cases hij : i = j
    · subst hij
      rw [List.getElem?_set_self'] at hj
      cases hq : (jl_clr L i)[i]? with
      | none => rw [hq] at hj; cases hj
      | some z =>
        rw [hq] at hj
        cases hj
        exact h.2.2 (i, jv G v) List.mem_cons_self
    · rw [List.getElem?_set_ne hij] at hj
      obtain ⟨h1, h2⟩ := jl_clr_at hj
      refine h.2.2 (j, jv G w) (List.mem_cons_of_mem _ (List.mem_filter.mpr ⟨jl_mem.mpr ⟨w, h1, rfl⟩, ?_⟩))
      simp only [jv_cat, Bool.and_eq_true, Bool.not_eq_true', beq_eq_false_iff_ne, Bool.and_eq_false_iff, ne_eq]
      refine ⟨fun q => hij q.symm, fun q => hij1 q.symm, ?_⟩
      by_cases q : j + 1 = i
      · exact Or.inr fun z => h2 ⟨q, z⟩
      · exact Or.inl q
end JW
end
section
/-! ===== reads, writes and new cells ===== -/
section JW
variable {G : JG} {p : Program} {e : Env} {R : Room} {s : State} {m : MethodId} {args : Array Value} {below : List Frame} {meth : Method} {c : Code} {cc : ByteArray} {n0 w0 nE wE nL own : Nat} {ini : Bool} {Q : State → Prop} {H H' : Heap} {locs : List Loc} {cells slots : Nat} {ls : Array Slot} {rest : List Value} {pc : Nat}
theorem jm_obj {σ : JH} {a t n : Nat} (h : jm G σ s H) (ha : σ.1[a]? = some (t, n)) (ht : t < 12) : 64 ≤ a ∧ n = jt_N t ∧ t_OB (jr G a) ((jg_D G).1 t) n ((jg_D G).2 t) H (fun k => jv G (jf σ a k (jt_ty t k))) := by
  by_cases h64 : 64 ≤ a
  · rcases h.2.2.2.1 a t n h64 ha with ⟨-, h1, h2⟩ | ⟨h1, -⟩ | h1
    · exact ⟨h64, h1, h2⟩
    · omega
    · omega
  · have := (h.2.2.2.2.1 a t n (by omega) ha).1
    omega
theorem jm_arr {σ : JH} {a t n : Nat} (h : jm G σ s H) (ha : σ.1[a]? = some (t, n)) (h1 : 100 ≤ t) (h2 : t ≤ 104) : 64 ≤ a ∧ H[jr G a]? = some (arrV (jg_A G t) n (fun j => jv G (jf σ a j (jt_at t)))) := by
  by_cases h64 : 64 ≤ a
  · rcases h.2.2.2.1 a t n h64 ha with ⟨h3, -⟩ | ⟨-, -, h3⟩ | h3
    · omega
    · exact ⟨h64, h3⟩
    · omega
  · have := (h.2.2.2.2.1 a t n (by omega) ha).1
    omega
theorem jr_hi {a : Nat} (h : 64 ≤ a) : jr G a = jg_sz G + (a - 64) := by unfold jr; rw [if_neg (by omega)]
theorem jr_ne {a b : Nat} (ha : 64 ≤ a) (hb : 64 ≤ b) (h : a ≠ b) : jr G a ≠ jr G b := by rw [jr_hi ha, jr_hi hb]; omega
theorem jr_ge {a : Nat} (h : 64 ≤ a) : jg_sz G ≤ jr G a := by rw [jr_hi h]; omega
theorem jc_same {σ σ' : JH} {i t n : Nat} (h : jc G σ H i t n) (hq : H'[jr G i]? = H[jr G i]?) (hf : ∀ j ty, jf σ' i j ty = jf σ i j ty) : jc G σ' H' i t n := by
  rcases h with ⟨h1, h2, h3⟩ | ⟨h1, h2, h3⟩ | h1
  · exact Or.inl ⟨h1, h2, (h3.kept hq).to (fun k _ => by rw [hf])⟩
  · refine Or.inr (Or.inl ⟨h1, h2, ?_⟩)
    rw [hq, h3]
    simp only [hf]
  · exact Or.inr (Or.inr h1)
theorem jst_same {σ σ' : JH} (h : jst G σ s) (hs : ∀ i, i < 64 → σ'.1[i]? = σ.1[i]?) (hI : ∀ b j, b < 64 → σ'.2.1 b j = σ.2.1 b j) (hJ : ∀ b j, b < 64 → σ'.2.2.1 b j = σ.2.2.1 b j) (hR : ∀ b j, b < 64 → σ'.2.2.2 b j = σ.2.2.2 b j) : jst G σ' s := by
  intro i t n hi hx
  rw [hs i hi] at hx
  have h1 := h i t n hi hx
  unfold jsc at h1 ⊢
  simp only [hI _ _ hi, hJ _ _ hi, hR _ _ hi]
  exact h1
theorem jm_put {σ σ' : JH} {a t n k : Nat} {v : Value} {cell : Cell} (h : jm G σ s H) (hs : σ'.1 = σ.1) (ha : σ.1[a]? = some (t, n)) (ht : t < 12)
    (hcell : H[jr G a]? = some cell) (h' : H'[jr G a]? = some (cell.setSlot ((jg_D G).2 t k) v)) (hz : H'.size = H.size) (ho : ∀ q : Nat, q ≠ jr G a → H'[q]? = H[q]?)
    (hap : ∀ x y, x < jt_N t → y < jt_N t → x ≠ y → (jg_D G).2 t x ≠ (jg_D G).2 t y) (hk : k < jt_N t)
    (hI : ∀ b j, ¬ (b = a ∧ j = k) → σ'.2.1 b j = σ.2.1 b j) (hJ : ∀ b j, ¬ (b = a ∧ j = k) → σ'.2.2.1 b j = σ.2.2.1 b j) (hR : ∀ b j, ¬ (b = a ∧ j = k) → σ'.2.2.2 b j = σ.2.2.2 b j)
    (hv : jv G (jf σ' a k (jt_ty t k)) = v) : jm G σ' s H' := by
  have hn : jh_n σ' = jh_n σ := by unfold jh_n; rw [hs]
  obtain ⟨h64, hN, hob⟩ := jm_obj h ha ht
  have hfe : ∀ b j ty, ¬ (b = a ∧ j = k) → jf σ' b j ty = jf σ b j ty := by
    intro b j ty hb
    unfold jf
    rw [hI b j hb, hJ b j hb, hR b j hb]
  have hcl : jh_clean σ' = jh_clean σ := by unfold jh_clean; rw [hs]
  refine ⟨by rw [hz, hn, hcl]; exact h.1, by rw [hn, hz]; exact h.2.1, fun q hq => ?_, fun i t' n' hi hx => ?_, ?_, h.2.2.2.2.2⟩
  · rw [ho q (by have := jr_ge (G := G) h64; omega)]
    exact h.2.2.1 q hq
  · rw [hs] at hx
    by_cases hia : i = a
    · subst hia
      rw [ha] at hx
      cases hx
      refine Or.inl ⟨ht, hN, ?_⟩
      obtain ⟨c0, q1, q2, q3, q4⟩ := hob
      cases hcell.symm.trans q1
      refine ⟨_, h', q2, q3, fun j hj => ?_⟩
      have h5 := t_set q4 (fun x y hx hy => hap x y (hN ▸ hx) (hN ▸ hy)) (hN ▸ hk) v j hj
      rw [h5]
      unfold updV
      show some (if j = k then v else jv G (jf σ i j (jt_ty t j))) = some (jv G (jf σ' i j (jt_ty t j)))
      by_cases hjk : j = k
      · subst hjk
        rw [if_pos rfl, hv]
      · rw [if_neg hjk, hfe _ _ _ (fun q => hjk q.2)]
    · exact jc_same (h.2.2.2.1 i t' n' hi hx) (ho _ (jr_ne hi h64 hia)) (fun j ty => hfe i j ty (fun q => hia q.1))
  · exact jst_same h.2.2.2.2.1 (fun i _ => by rw [hs]) (fun b j hb => hI b j (fun q => by omega)) (fun b j hb => hJ b j (fun q => by omega)) (fun b j hb => hR b j (fun q => by omega))
theorem jm_ast {σ σ' : JH} {a t n k : Nat} {v : Value} (h : jm G σ s H) (hs : σ'.1 = σ.1) (ha : σ.1[a]? = some (t, n)) (h1 : 100 ≤ t) (h2 : t ≤ 104)
    (h' : H'[jr G a]? = some ((arrV (jg_A G t) n (fun j => jv G (jf σ a j (jt_at t)))).setSlot k v)) (hz : H'.size = H.size) (ho : ∀ q : Nat, q ≠ jr G a → H'[q]? = H[q]?)
    (hI : ∀ b j, ¬ (b = a ∧ j = k) → σ'.2.1 b j = σ.2.1 b j) (hJ : ∀ b j, ¬ (b = a ∧ j = k) → σ'.2.2.1 b j = σ.2.2.1 b j) (hR : ∀ b j, ¬ (b = a ∧ j = k) → σ'.2.2.2 b j = σ.2.2.2 b j)
    (hv : jv G (jf σ' a k (jt_at t)) = v) : jm G σ' s H' := by
  have hn : jh_n σ' = jh_n σ := by unfold jh_n; rw [hs]
  obtain ⟨h64, hob⟩ := jm_arr h ha h1 h2
  have hfe : ∀ b j ty, ¬ (b = a ∧ j = k) → jf σ' b j ty = jf σ b j ty := by
    intro b j ty hb
    unfold jf
    rw [hI b j hb, hJ b j hb, hR b j hb]
  have hcl : jh_clean σ' = jh_clean σ := by unfold jh_clean; rw [hs]
  refine ⟨by rw [hz, hn, hcl]; exact h.1, by rw [hn, hz]; exact h.2.1, fun q hq => ?_, fun i t' n' hi hx => ?_, ?_, h.2.2.2.2.2⟩
  · rw [ho q (by have := jr_ge (G := G) h64; omega)]
    exact h.2.2.1 q hq
  · rw [hs] at hx
    by_cases hia : i = a
    · subst hia
      rw [ha] at hx
      cases hx
      refine Or.inr (Or.inl ⟨h1, h2, ?_⟩)
      rw [h', arrV_store]
      congr 2
      funext j
      unfold updV
      by_cases hjk : j = k
      · subst hjk
        rw [if_pos rfl, hv]
      · rw [if_neg hjk, hfe _ _ _ (fun q => hjk q.2)]
    · exact jc_same (h.2.2.2.1 i t' n' hi hx) (ho _ (jr_ne hi h64 hia)) (fun j ty => hfe i j ty (fun q => hia q.1))
  · exact jst_same h.2.2.2.2.1 (fun i _ => by rw [hs]) (fun b j hb => hI b j (fun q => by omega)) (fun b j hb => hJ b j (fun q => by omega)) (fun b j hb => hR b j (fun q => by omega))
theorem jf_new_old {σ : JH} {t n i j : Nat} {ty : FieldType} (h : i ≠ jh_n σ) : jf (jh_new σ t n) i j ty = jf σ i j ty := by
  have h' : ¬ i = σ.1.length := h
  unfold jf jh_new
  simp only [if_neg h']
theorem jh_clean_new {σ : JH} {t n : Nat} (h : 64 ≤ jh_n σ) (hc : jh_clean (jh_new σ t n) = true) : jh_clean σ = true := by
  unfold jh_clean jh_new at hc
  have h : 64 ≤ σ.1.length := h
  rw [List.drop_append_of_le_length h, List.all_append, Bool.and_eq_true] at hc
  exact hc.1
theorem jm_new {σ : JH} {t n : Nat} (hcl : jh_clean σ = true) (h : jm G σ s H) (hz : H'.size = H.size + 1) (ho : ∀ q : Nat, q < H.size → H'[q]? = H[q]?)
    (hc : jc G (jh_new σ t n) H' (jh_n σ) t n) : jm G (jh_new σ t n) s H' := by
  have hn : jh_n (jh_new σ t n) = jh_n σ + 1 := by unfold jh_n jh_new; simp
  have hsz := h.1 hcl
  refine ⟨fun _ => by rw [hz, hn]; omega, by rw [hn, hz]; have := h.2.1; omega, fun q hq => ?_, fun i t' n' hi hx => ?_, ?_, h.2.2.2.2.2⟩
  · rw [ho q (by have := h.2.1; omega)]
    exact h.2.2.1 q hq
  · have hx2 : (σ.1 ++ [(t, n)])[i]? = some (t', n') := hx
    by_cases hl : i < σ.1.length
    · rw [List.getElem?_append_left hl] at hx2
      exact jc_same (h.2.2.2.1 i t' n' hi hx2) (ho _ (by rw [jr_hi hi]; have : jh_n σ = σ.1.length := rfl; omega)) (fun j ty => jf_new_old (Nat.ne_of_lt hl))
    · rw [List.getElem?_append_right (by omega)] at hx2
      have h9 : i - σ.1.length < 1 := (List.getElem?_eq_some_iff.mp hx2).1
      have hi' : i = jh_n σ := by unfold jh_n; omega
      rw [show i - σ.1.length = 0 by omega] at hx2
      cases hx2
      rw [hi']
      exact hc
  · have hl : 64 ≤ σ.1.length := h.2.1.1
    refine jst_same h.2.2.2.2.1 (fun i hi => ?_) (fun b j hb => ?_) (fun b j hb => ?_) (fun b j hb => ?_)
    · show (σ.1 ++ [(t, n)])[i]? = _
      rw [List.getElem?_append_left (by omega)]
    · show (if b = σ.1.length then _ else _) = _
      rw [if_neg (by omega)]
    · show (if b = σ.1.length then _ else _) = _
      rw [if_neg (by omega)]
    · show (if b = σ.1.length then _ else _) = _
      rw [if_neg (by omega)]
theorem jr_new {σ : JH} (hcl : jh_clean σ = true) (h : jm G σ s H) : jr G (jh_n σ) = H.size := by
  rw [jr_hi h.2.1.1]
  have := h.1 hcl
  have := h.2.1
  omega
theorem jt_own_at : ∀ ci, ci < 12 → jt_own.getD ci "" = jt_C ci := by decide +kernel
theorem jx_lays (hG : JGl G s) {ci : Nat} (h : ci < 12) : ∀ w ∈ u_ws (jt_C ci) (jt_T ci) (jt_N ci), w.before args s = true := by
  intro w hw
  have hm := jt_lay_in h w hw
  obtain ⟨k, hk, rfl⟩ := List.mem_map.mp hw
  unfold u_lay at hm ⊢
  split
  · rename_i hc
    rw [if_pos hc] at hm
    exact jx_word hG hm rfl rfl
  · rename_i hc
    rw [if_neg hc] at hm
    exact jx_word hG hm rfl rfl
theorem jx_apart (hG : JGl G s) {ci : Nat} (h : ci < 12) : ∀ x y, x < jt_N ci → y < jt_N ci → x ≠ y → (jg_D G).2 ci x ≠ (jg_D G).2 ci y :=
  va_apart (args := #[]) (own := "") (jx_lays hG h) (fun _ h => h) (jt_ty ci) (jt_ty_ok ci h) (jt_nm_ok ci h) hG.2.1 (jt_cls_at h)
theorem jw_get {σ : JH} {ix ci k a n : Nat} {nest : Bool} (X : JX G p R s m meth c cc nL n0 w0 nE wE own ini) (hf : jt_fl own ix = some (ci, k, nest)) (hM : jm G σ s H) (ha : σ.1[a]? = some (ci, n)) (hd : decode cc pc = .ok (.getfield ix, 3))
    (kk : W p (jg_l G) e R s m args below meth c H locs cells slots Q (F0 m (pc + 3) ls (jv G (jf σ a k (jt_ty ci k)) :: rest))) : W p (jg_l G) e R s m args below meth c H locs cells slots Q (F0 m pc ls (.ref (jr G a) :: rest)) := by
  obtain ⟨hx, hb, hml, hown, hG, -⟩ := X
  obtain ⟨hw, hci, hk⟩ := jt_fl_at hf
  obtain ⟨-, hN, cell, q1, q2, q3, q4⟩ := jm_obj hM ha hci
  obtain ⟨hS, hfc, kC, hkC, hkind⟩ := hG.2.1.1 ci _ (jt_cls_at hci)
  obtain ⟨cf, kf, fi, f, hi, hsl⟩ := hS k hk
  have hst := (u_facts hfc hkC (u_lays (args := #[]) (jx_lays hG hci) (fun _ h => h) hk) hi).1
  have hv : cell.slots[f.slot]? = some (jv G (jf σ a k (jt_ty ci k))) := by rw [hsl]; exact q4 k (hN ▸ hk)
  cases nest with
  | false => exact W.getf hx hb hown (ref := jt_C ci) (jx_word hG (by exact hw) rfl rfl) hi hst q1 (by rw [q3]; exact fun h => by cases h) hv rfl rfl hd kk
  | true => exact va_Wgetf hx hb hown (ref := jt_C ci) (host := "CellarTurns") (jx_word hG (by exact hw) rfl rfl) hi hst q1 (by rw [q3]; exact fun h => by cases h) hv rfl rfl hd kk
theorem jw_put {σ σ' : JH} {ix ci k a n : Nat} {nest : Bool} {v : Value} (X : JX G p R s m meth c cc nL n0 w0 nE wE own ini) (hf : jt_fl own ix = some (ci, k, nest)) (hM : jm G σ s H) (ha : σ.1[a]? = some (ci, n)) (hd : decode cc pc = .ok (.putfield ix, 3))
    (hfin : (jt_f ci k).2.2.1 = false ∨ ((jt_f ci k).2.2.1 = true ∧ nest = false ∧ ci = own ∧ meth.name = "<init>")) (hn : narrow (jt_ty ci k) (jv G v) = jv G v) (hfit : fits (jt_ty ci k) (jv G v) = true) (hs : σ'.1 = σ.1)
    (hI : ∀ b j, ¬ (b = a ∧ j = k) → σ'.2.1 b j = σ.2.1 b j) (hJ : ∀ b j, ¬ (b = a ∧ j = k) → σ'.2.2.1 b j = σ.2.2.1 b j) (hR : ∀ b j, ¬ (b = a ∧ j = k) → σ'.2.2.2 b j = σ.2.2.2 b j)
    (hv : jf σ' a k (jt_ty ci k) = v) (hlocs : ∀ q ∈ locs, jg_sz G ≤ q.base)
    (kk : ∀ (H' : Heap) (locs' : List Loc), jm G σ' s H' → (∀ q ∈ locs', jg_sz G ≤ q.base) → W p (jg_l G) e R s m args below meth c H' locs' cells slots Q (F0 m (pc + 3) ls rest)) : W p (jg_l G) e R s m args below meth c H locs cells slots Q (F0 m pc ls (jv G v :: .ref (jr G a) :: rest)) := by
  obtain ⟨hx, hb, hml, hown, hG, -⟩ := X
  obtain ⟨hw, hci, hk⟩ := jt_fl_at hf
  obtain ⟨h64, hN, hob⟩ := jm_obj hM ha hci
  obtain ⟨cell, q1, q2, q3, q4⟩ := hob
  obtain ⟨hS, hfc, kC, hkC, hkind⟩ := hG.2.1.1 ci _ (jt_cls_at hci)
  obtain ⟨cf, kf, fi, f, hi, hsl⟩ := hS k hk
  have hlays := u_lays (args := #[]) (jx_lays hG hci) (fun _ h => h) hk
  have hst := (u_facts hfc hkC hlays hi).1
  have hlt : f.slot < cell.slots.size := by rw [hsl]; exact k2_hasslot (q4 k (hN ▸ hk))
  have fin : ∀ H1 : Heap, H1[jr G a]? = some (cell.setSlot f.slot (jv G v)) → H1.size = H.size → (∀ q : Nat, q ≠ jr G a → H1[q]? = H[q]?) → W p (jg_l G) e R s m args below meth c H1 (locs ++ [⟨jr G a, f.slot⟩]) cells slots Q (F0 m (pc + 3) ls rest) := by
    intro H1 e1 e2 e3
    refine kk H1 _ (jm_put hM hs ha hci q1 (by rw [← hsl]; exact e1) e2 e3 (jx_apart hG hci) hk hI hJ hR (by rw [hv])) (fun q hq => ?_)
    rcases List.mem_append.mp hq with h | h
    · exact hlocs q h
    · rw [List.mem_singleton.mp h]
      exact jr_ge h64
  rcases hfin with hfin | ⟨hft, hne, hco, hin⟩
  · have hlay : (Cond.lays (jt_C ci) (jt_T ci k).1 (jt_T ci k).2.1 (jt_T ci k).2.2.1).before #[] s = true := by
      have h1 := jx_lays (args := #[]) hG hci (u_lay (jt_C ci) (jt_T ci) k) (u_in_lay hk)
      unfold u_lay at h1
      rw [if_neg (by show ¬ (jt_f ci k).2.2.1 = true; rw [hfin]; decide)] at h1
      exact h1
    have h6 := u_store hfc hkC hkind hlay hi (jt_ty_ok ci hci k hk) hn hfit
    cases nest with
    | false => exact W.putK hx hb (f := f) ⟨hown, jx_word hG (by exact hw) rfl rfl, ⟨_, _, _, hi⟩, hst⟩ (by rw [q2]; exact h6) q1 q3 hlt rfl rfl hd fin
    | true => exact va_WputK hx hb (host := "CellarTurns") hown (jx_word hG (by exact hw) rfl rfl) hi hst (by rw [q2]; exact h6) q1 q3 hlt rfl rfl hd fin
  · subst hne
    have hlay : (Cond.laysFinal (jt_C ci) (jt_T ci k).1 (jt_T ci k).2.1 (jt_T ci k).2.2.1).before #[] s = true := by
      have h1 := jx_lays (args := #[]) hG hci (u_lay (jt_C ci) (jt_T ci) k) (u_in_lay hk)
      unfold u_lay at h1
      rw [if_pos (by exact hft)] at h1
      exact h1
    have hoc : jt_own.getD own "" = jt_C ci := by rw [← hco]; exact jt_own_at ci hci
    have hcf : m.cls = cf := by
      obtain ⟨_, _, c', _, _, _, -, -, hf', -, -, -, hown2, -⟩ := Cond.laysFinal_spec hlay
      have e1 : c' = cf := congrArg Prod.fst (Option.some.inj (hf'.symm.trans hi))
      rw [show (jt_T ci k).1 = jt_own.getD own "" from hoc.symm] at hown2
      rw [← e1]; exact Option.some.inj (hown.symm.trans hown2)
    have h6 := u_fits hfc hkC hkind hlays hi (jt_ty_ok ci hci k hk) hn hfit
    exact W.putFinK hx hb hown (jx_word hG (by exact hw) rfl rfl) hi hst hcf hin (by rw [q2]; exact h6) q1 q3 hlt rfl rfl hd fin
end JW
end
section
/-! ===== each step of the small machine is one of the real one ===== -/
section JW
variable {G : JG} {p : Program} {e : Env} {R : Room} {s : State} {m : MethodId} {args : Array Value} {below : List Frame} {meth : Method} {c : Code} {cc : ByteArray} {n0 w0 nE wE nL own : Nat} {ini : Bool} {Q : State → Prop} {pc : Nat} {L : JL} {st : List Value} {σ : JH}
theorem jw_ipush {i : Instr} {n : Int} {len : Nat} (hW : ∀ (H : Heap) (locs : List Loc) (ls : Array Slot) (cells slots : Nat) (rest : List Value), W p (jg_l G) e R s m args below meth c H locs cells slots Q (F0 m (pc + len) ls (.int (Int32.ofInt n) :: rest)) → W p (jg_l G) e R s m args below meth c H locs cells slots Q (F0 m pc ls rest))
    (k : JK G p e R s m args below meth c nL n0 w0 nE wE Q (pc + len) (L, .int (Int32.ofInt n) :: st, σ)) : JK G p e R s m args below meth c nL n0 w0 nE wE Q pc (L, st, σ) :=
  jk_st (fun H locs ls cells slots _ _ kk => hW H locs ls cells slots _ kk) k
theorem jw_lpush {n : Int} {len : Nat} (hW : ∀ (H : Heap) (locs : List Loc) (ls : Array Slot) (cells slots : Nat) (rest : List Value), W p (jg_l G) e R s m args below meth c H locs cells slots Q (F0 m (pc + len) ls (.long (Int64.ofInt n) :: rest)) → W p (jg_l G) e R s m args below meth c H locs cells slots Q (F0 m pc ls rest))
    (k : JK G p e R s m args below meth c nL n0 w0 nE wE Q (pc + len) (L, .long (Int64.ofInt n) :: st, σ)) : JK G p e R s m args below meth c nL n0 w0 nE wE Q pc (L, st, σ) :=
  jk_st (fun H locs ls cells slots _ _ kk => hW H locs ls cells slots _ kk) k
theorem jo_iload_i {i : Nat} {S S' : JS} (h : jo_iload i S = some S') : ∃ x, S.1[i]? = some (some (.int x)) ∧ S' = (S.1, .int x :: S.2.1, S.2.2) := by
  unfold jo_iload at h
  split at h
  · rename_i x hx; cases h; exact ⟨x, hx, rfl⟩
  · cases h
theorem jo_lload_i {i : Nat} {S S' : JS} (h : jo_lload i S = some S') : ∃ x, S.1[i]? = some (some (.long x)) ∧ S' = (S.1, .long x :: S.2.1, S.2.2) := by
  unfold jo_lload at h
  split at h
  · rename_i x hx; cases h; exact ⟨x, hx, rfl⟩
  · cases h
theorem jo_aload_i {i : Nat} {S S' : JS} (h : jo_aload i S = some S') : ∃ x, S.1[i]? = some (some (.ref x)) ∧ S' = (S.1, .ref x :: S.2.1, S.2.2) := by
  unfold jo_aload at h
  split at h
  · rename_i x hx; cases h; exact ⟨x, hx, rfl⟩
  · cases h
theorem jo_istore_i {i : Nat} {S S' : JS} (h : jo_istore i S = some S') : ∃ x st, S.2.1 = .int x :: st ∧ i < S.1.length ∧ S' = (jl_set S.1 i (.int x), st, S.2.2) := by
  unfold jo_istore at h
  split at h
  · rename_i x st hx
    split at h
    · rename_i hi; cases h; exact ⟨x, st, hx, hi, rfl⟩
    · cases h
  · cases h
theorem jo_astore_i {i : Nat} {S S' : JS} (h : jo_astore i S = some S') : ∃ x st, S.2.1 = .ref x :: st ∧ i < S.1.length ∧ S' = (jl_set S.1 i (.ref x), st, S.2.2) := by
  unfold jo_astore at h
  split at h
  · rename_i x st hx
    split at h
    · rename_i hi; cases h; exact ⟨x, st, hx, hi, rfl⟩
    · cases h
  · cases h
theorem jo_lstore_i {i : Nat} {S S' : JS} (h : jo_lstore i S = some S') : ∃ x st, S.2.1 = .long x :: st ∧ i + 1 < S.1.length ∧ S' = (jl_set2 S.1 i (.long x), st, S.2.2) := by
  unfold jo_lstore at h
  split at h
  · rename_i x st hx
    split at h
    · rename_i hi; cases h; exact ⟨x, st, hx, hi, rfl⟩
    · cases h
  · cases h
theorem jo_iinc_i {i : Nat} {n : Int} {S S' : JS} (h : jo_iinc i n S = some S') : ∃ x, S.1[i]? = some (some (.int x)) ∧ S' = (jl_set S.1 i (.int (x + Int32.ofInt n)), S.2.1, S.2.2) := by
  unfold jo_iinc at h
  split at h
  · rename_i x hx; cases h; exact ⟨x, hx, rfl⟩
  · cases h
theorem jo_ii_i {f : Int32 → Int32 → Int32} {S S' : JS} (h : jo_ii f S = some S') : ∃ x y st, S.2.1 = .int y :: .int x :: st ∧ S' = (S.1, .int (f x y) :: st, S.2.2) := by
  unfold jo_ii at h
  split at h
  · rename_i y x st hx; cases h; exact ⟨x, y, st, hx, rfl⟩
  · cases h
theorem jo_id_i {f : Int32 → Int32 → Int32} {S S' : JS} (h : jo_id f S = some S') : ∃ x y st, S.2.1 = .int y :: .int x :: st ∧ ¬ y = 0 ∧ S' = (S.1, .int (f x y) :: st, S.2.2) := by
  unfold jo_id at h
  split at h
  · rename_i y x st hx
    split at h
    · cases h
    · rename_i hy; cases h; exact ⟨x, y, st, hx, hy, rfl⟩
  · cases h
theorem jo_ll_i {f : Int64 → Int64 → Int64} {S S' : JS} (h : jo_ll f S = some S') : ∃ x y st, S.2.1 = .long y :: .long x :: st ∧ S' = (S.1, .long (f x y) :: st, S.2.2) := by
  unfold jo_ll at h
  split at h
  · rename_i y x st hx; cases h; exact ⟨x, y, st, hx, rfl⟩
  · cases h
theorem jo_lq_i {f : Int64 → Int64 → Int64} {S S' : JS} (h : jo_lq f S = some S') : ∃ x y st, S.2.1 = .long y :: .long x :: st ∧ ¬ y = 0 ∧ S' = (S.1, .long (f x y) :: st, S.2.2) := by
  unfold jo_lq at h
  split at h
  · rename_i y x st hx
    split at h
    · cases h
    · rename_i hy; cases h; exact ⟨x, y, st, hx, hy, rfl⟩
  · cases h
theorem jo_li_i {f : Int64 → Int32 → Int64} {S S' : JS} (h : jo_li f S = some S') : ∃ x y st, S.2.1 = .int y :: .long x :: st ∧ S' = (S.1, .long (f x y) :: st, S.2.2) := by
  unfold jo_li at h
  split at h
  · rename_i y x st hx; cases h; exact ⟨x, y, st, hx, rfl⟩
  · cases h
theorem jo_i_i {f : Int32 → Int32} {S S' : JS} (h : jo_i f S = some S') : ∃ x st, S.2.1 = .int x :: st ∧ S' = (S.1, .int (f x) :: st, S.2.2) := by
  unfold jo_i at h
  split at h
  · rename_i x st hx; cases h; exact ⟨x, st, hx, rfl⟩
  · cases h
theorem jo_i2l_i {S S' : JS} (h : jo_i2l S = some S') : ∃ x st, S.2.1 = .int x :: st ∧ S' = (S.1, .long x.toInt64 :: st, S.2.2) := by
  unfold jo_i2l at h
  split at h
  · rename_i x st hx; cases h; exact ⟨x, st, hx, rfl⟩
  · cases h
theorem jo_l2i_i {S S' : JS} (h : jo_l2i S = some S') : ∃ x st, S.2.1 = .long x :: st ∧ S' = (S.1, .int x.toInt32 :: st, S.2.2) := by
  unfold jo_l2i at h
  split at h
  · rename_i x st hx; cases h; exact ⟨x, st, hx, rfl⟩
  · cases h
theorem jo_lcmp_i {S S' : JS} (h : jo_lcmp S = some S') : ∃ x y st, S.2.1 = .long y :: .long x :: st ∧ S' = (S.1, .int (lg_cmp x y) :: st, S.2.2) := by
  unfold jo_lcmp at h
  split at h
  · rename_i y x st hx; cases h; exact ⟨x, y, st, hx, rfl⟩
  · cases h
theorem jo_dup_i {S S' : JS} (h : jo_dup S = some S') : ∃ v st, S.2.1 = v :: st ∧ v.category = 1 ∧ S' = (S.1, v :: v :: st, S.2.2) := by
  unfold jo_dup at h
  split at h
  · rename_i v st hx
    split at h
    · rename_i hc; cases h; exact ⟨v, st, hx, hc, rfl⟩
    · cases h
  · cases h
theorem jo_pop_i {S S' : JS} (h : jo_pop S = some S') : ∃ v st, S.2.1 = v :: st ∧ v.category = 1 ∧ S' = (S.1, st, S.2.2) := by
  unfold jo_pop at h
  split at h
  · rename_i v st hx
    split at h
    · rename_i hc; cases h; exact ⟨v, st, hx, hc, rfl⟩
    · cases h
  · cases h
theorem jo_dup2_i {S S' : JS} (h : jo_dup2 S = some S') : ∃ v w st, S.2.1 = v :: w :: st ∧ v.category = 1 ∧ w.category = 1 ∧ S' = (S.1, v :: w :: v :: w :: st, S.2.2) := by
  unfold jo_dup2 at h
  split at h
  · rename_i v w st hx
    split at h
    · rename_i hc; cases h; exact ⟨v, w, st, hx, hc.1, hc.2, rfl⟩
    · cases h
  · cases h
theorem jo_dupx1_i {S S' : JS} (h : jo_dupx1 S = some S') : ∃ v w st, S.2.1 = v :: w :: st ∧ v.category = 1 ∧ w.category = 1 ∧ S' = (S.1, v :: w :: v :: st, S.2.2) := by
  unfold jo_dupx1 at h
  split at h
  · rename_i v w st hx
    split at h
    · rename_i hc; cases h; exact ⟨v, w, st, hx, hc.1, hc.2, rfl⟩
    · cases h
  · cases h
theorem jo_getI_i {ci k : Nat} {S S' : JS} (h : jo_getI ci k S = some S') : ∃ a n st, S.2.1 = .ref a :: st ∧ S.2.2.1[a]? = some (ci, n) ∧ S' = (S.1, .int (S.2.2.2.1 a k) :: st, S.2.2) := by
  unfold jo_getI at h
  split at h
  · rename_i a st hx
    split at h
    · rename_i t n ht
      split at h
      · rename_i hc; cases h; subst hc; exact ⟨a, n, st, hx, ht, rfl⟩
      · cases h
    · cases h
  · cases h
theorem jo_getJ_i {ci k : Nat} {S S' : JS} (h : jo_getJ ci k S = some S') : ∃ a n st, S.2.1 = .ref a :: st ∧ S.2.2.1[a]? = some (ci, n) ∧ S' = (S.1, .long (S.2.2.2.2.1 a k) :: st, S.2.2) := by
  unfold jo_getJ at h
  split at h
  · rename_i a st hx
    split at h
    · rename_i t n ht
      split at h
      · rename_i hc; cases h; subst hc; exact ⟨a, n, st, hx, ht, rfl⟩
      · cases h
    · cases h
  · cases h
theorem jo_getR_i {ci k : Nat} {S S' : JS} (h : jo_getR ci k S = some S') : ∃ a n st, S.2.1 = .ref a :: st ∧ S.2.2.1[a]? = some (ci, n) ∧ S' = (S.1, va_rf (S.2.2.2.2.2 a k) :: st, S.2.2) := by
  unfold jo_getR at h
  split at h
  · rename_i a st hx
    split at h
    · rename_i t n ht
      split at h
      · rename_i hc; cases h; subst hc; exact ⟨a, n, st, hx, ht, rfl⟩
      · cases h
    · cases h
  · cases h
theorem jo_putI_i {ci k : Nat} {ty : FieldType} {S S' : JS} (h : jo_putI ci k ty S = some S') : ∃ x a n st, S.2.1 = .int x :: .ref a :: st ∧ S.2.2.1[a]? = some (ci, n) ∧ narrow ty (.int x) = .int x ∧ fits ty (.int x) = true ∧ S' = (S.1, st, jh_setI S.2.2 a k x) := by
  unfold jo_putI at h
  split at h
  · rename_i x a st hx
    split at h
    · rename_i t n ht
      split at h
      · rename_i hc; cases h; obtain ⟨hc, h1, h2⟩ := hc; subst hc; exact ⟨x, a, n, st, hx, ht, h1, h2, rfl⟩
      · cases h
    · cases h
  · cases h
theorem jo_putJ_i {ci k : Nat} {S S' : JS} (h : jo_putJ ci k S = some S') : ∃ x a n st, S.2.1 = .long x :: .ref a :: st ∧ S.2.2.1[a]? = some (ci, n) ∧ S' = (S.1, st, jh_setJ S.2.2 a k x) := by
  unfold jo_putJ at h
  split at h
  · rename_i x a st hx
    split at h
    · rename_i t n ht
      split at h
      · rename_i hc; cases h; subst hc; exact ⟨x, a, n, st, hx, ht, rfl⟩
      · cases h
    · cases h
  · cases h
theorem jo_putR_i {ci k : Nat} {S S' : JS} (h : jo_putR ci k S = some S') : ∃ x a n st, S.2.1 = .ref x :: .ref a :: st ∧ S.2.2.1[a]? = some (ci, n) ∧ S' = (S.1, st, jh_setR S.2.2 a k (some x)) := by
  unfold jo_putR at h
  split at h
  · rename_i x a st hx
    split at h
    · rename_i t n ht
      split at h
      · rename_i hc; cases h; subst hc; exact ⟨x, a, n, st, hx, ht, rfl⟩
      · cases h
    · cases h
  · cases h
theorem jo_ldI_i {ks : List Nat} {S S' : JS} (h : jo_ldI ks S = some S') : ∃ i a t n st, S.2.1 = .int i :: .ref a :: st ∧ S.2.2.1[a]? = some (t, n) ∧ t ∈ ks ∧ ¬ (i < 0 ∨ n ≤ i.toNatClampNeg) ∧ S' = (S.1, .int (S.2.2.2.1 a i.toNatClampNeg) :: st, S.2.2) := by
  unfold jo_ldI at h
  split at h
  · rename_i i a st hx
    split at h
    · rename_i t n ht
      split at h
      · rename_i hc; cases h; exact ⟨i, a, t, n, st, hx, ht, hc.1, hc.2, rfl⟩
      · cases h
    · cases h
  · cases h
theorem jo_ldJ_i {S S' : JS} (h : jo_ldJ S = some S') : ∃ i a n st, S.2.1 = .int i :: .ref a :: st ∧ S.2.2.1[a]? = some (101, n) ∧ ¬ (i < 0 ∨ n ≤ i.toNatClampNeg) ∧ S' = (S.1, .long (S.2.2.2.2.1 a i.toNatClampNeg) :: st, S.2.2) := by
  unfold jo_ldJ at h
  split at h
  · rename_i i a st hx
    split at h
    · rename_i t n ht
      split at h
      · rename_i hc; cases h; obtain ⟨h1, h2⟩ := hc; subst h1; exact ⟨i, a, n, st, hx, ht, h2, rfl⟩
      · cases h
    · cases h
  · cases h
theorem jo_ldR_i {S S' : JS} (h : jo_ldR S = some S') : ∃ i a t n st, S.2.1 = .int i :: .ref a :: st ∧ S.2.2.1[a]? = some (t, n) ∧ (t = 104 ∨ t = 201) ∧ ¬ (i < 0 ∨ n ≤ i.toNatClampNeg) ∧ S' = (S.1, va_rf (S.2.2.2.2.2 a i.toNatClampNeg) :: st, S.2.2) := by
  unfold jo_ldR at h
  split at h
  · rename_i i a st hx
    split at h
    · rename_i t n ht
      split at h
      · rename_i hc; cases h; exact ⟨i, a, t, n, st, hx, ht, hc.1, hc.2, rfl⟩
      · cases h
    · cases h
  · cases h
theorem jo_stI_i {S S' : JS} (h : jo_stI S = some S') : ∃ x i a n st, S.2.1 = .int x :: .int i :: .ref a :: st ∧ S.2.2.1[a]? = some (100, n) ∧ ¬ (i < 0 ∨ n ≤ i.toNatClampNeg) ∧ S' = (S.1, st, jh_setI S.2.2 a i.toNatClampNeg x) := by
  unfold jo_stI at h
  split at h
  · rename_i x i a st hx
    split at h
    · rename_i t n ht
      split at h
      · rename_i hc; cases h; obtain ⟨h1, h2⟩ := hc; subst h1; exact ⟨x, i, a, n, st, hx, ht, h2, rfl⟩
      · cases h
    · cases h
  · cases h
theorem jo_stB_i {S S' : JS} (h : jo_stB S = some S') : ∃ x i a t n st, S.2.1 = .int x :: .int i :: .ref a :: st ∧ S.2.2.1[a]? = some (t, n) ∧ (t = 102 ∨ t = 103) ∧ ¬ (i < 0 ∨ n ≤ i.toNatClampNeg) ∧ S' = (S.1, st, jh_setI S.2.2 a i.toNatClampNeg (vp_nar (jt_at t) x)) := by
  unfold jo_stB at h
  split at h
  · rename_i x i a st hx
    split at h
    · rename_i t n ht
      split at h
      · rename_i hc; cases h; exact ⟨x, i, a, t, n, st, hx, ht, hc.1, hc.2, rfl⟩
      · cases h
    · cases h
  · cases h
theorem jo_stJ_i {S S' : JS} (h : jo_stJ S = some S') : ∃ x i a n st, S.2.1 = .long x :: .int i :: .ref a :: st ∧ S.2.2.1[a]? = some (101, n) ∧ ¬ (i < 0 ∨ n ≤ i.toNatClampNeg) ∧ S' = (S.1, st, jh_setJ S.2.2 a i.toNatClampNeg x) := by
  unfold jo_stJ at h
  split at h
  · rename_i x i a st hx
    split at h
    · rename_i t n ht
      split at h
      · rename_i hc; cases h; obtain ⟨h1, h2⟩ := hc; subst h1; exact ⟨x, i, a, n, st, hx, ht, h2, rfl⟩
      · cases h
    · cases h
  · cases h
theorem jo_stR_i {S S' : JS} (h : jo_stR S = some S') : ∃ x i a n st, S.2.1 = .ref x :: .int i :: .ref a :: st ∧ S.2.2.1[a]? = some (104, n) ∧ ¬ (i < 0 ∨ n ≤ i.toNatClampNeg) ∧ S.2.2.1[x]? = some (3, 12) ∧ S' = (S.1, st, jh_setR S.2.2 a i.toNatClampNeg (some x)) := by
  unfold jo_stR at h
  split at h
  · rename_i x i a st hx
    split at h
    · rename_i t n ht
      split at h
      · rename_i hc; cases h; obtain ⟨h1, h2, h3⟩ := hc; subst h1; exact ⟨x, i, a, n, st, hx, ht, h2, h3, rfl⟩
      · cases h
    · cases h
  · cases h
theorem jo_len_i {S S' : JS} (h : jo_len S = some S') : ∃ a t n st, S.2.1 = .ref a :: st ∧ S.2.2.1[a]? = some (t, n) ∧ 100 ≤ t ∧ S' = (S.1, .int (Int32.ofNat n) :: st, S.2.2) := by
  unfold jo_len at h
  split at h
  · rename_i a st hx
    split at h
    · rename_i t n ht
      split at h
      · rename_i hc; cases h; exact ⟨a, t, n, st, hx, ht, hc, rfl⟩
      · cases h
    · cases h
  · cases h
theorem jo_newa_i {t : Nat} {S S' : JS} (h : jo_newa t S = some S') : ∃ n st, S.2.1 = .int n :: st ∧ ¬ n < 0 ∧ n.toNatClampNeg ≤ 5000 ∧ jh_clean S.2.2 = true ∧ S' = (S.1, .ref S.2.2.1.length :: st, jh_new S.2.2 t n.toNatClampNeg) := by
  unfold jo_newa at h
  split at h
  · rename_i n st hx
    split at h
    · cases h
    · rename_i hc; cases h; exact ⟨n, st, hx, fun q => hc (Or.inl q), Nat.not_lt.mp fun q => hc (Or.inr (Or.inl q)), by cases hq : jh_clean S.2.2 with | true => rfl | false => exact absurd (Or.inr (Or.inr hq)) hc, rfl⟩
  · cases h
theorem jo_new_i {ci : Nat} {S S' : JS} (h : jo_new ci S = some S') : jh_clean S.2.2 = true ∧ S' = (S.1, .ref S.2.2.1.length :: S.2.1, jh_new S.2.2 ci (jt_N ci)) := by
  unfold jo_new at h
  split at h
  · rename_i hc; cases h; exact ⟨hc, rfl⟩
  · cases h
end JW
end
section
/-! ===== an instruction of the real machine, by its step ===== -/
theorem jx_fld_get {own ix : Nat} {ini : Bool} {o : JO} (h : jx_fld own ix false ini = some o) : ∃ ci k nest, jt_fl own ix = some (ci, k, nest) ∧ ((o = (40, ci, (k : Int)) ∧ jt_k (jt_ty ci k) = 0) ∨ (o = (41, ci, (k : Int)) ∧ jt_k (jt_ty ci k) = 1) ∨ (o = (42, ci, (k : Int)) ∧ jt_k (jt_ty ci k) = 2)) := by
  unfold jx_fld at h
  cases hf : jt_fl own ix with
  | none => rw [hf] at h; cases h
  | some q =>
    obtain ⟨ci, k, nest⟩ := q
    rw [hf] at h
    refine ⟨ci, k, nest, rfl, ?_⟩
    simp only at h
    cases hty : jt_ty ci k <;> rw [hty] at h <;> simp only [Option.some.injEq, reduceCtorEq] at h <;> subst h
    all_goals first | exact Or.inl ⟨rfl, rfl⟩ | exact Or.inr (Or.inl ⟨rfl, rfl⟩) | exact Or.inr (Or.inr ⟨rfl, rfl⟩)
theorem jx_fld_put {own ix : Nat} {ini : Bool} {o : JO} (h : jx_fld own ix true ini = some o) : ∃ ci k nest, jt_fl own ix = some (ci, k, nest) ∧
    ((o = (43, ci, (k : Int)) ∧ jt_ty ci k = .int ∧ (jt_f ci k).2.2.1 = false) ∨ (o = (44, ci, (k : Int)) ∧ jt_ty ci k = .long ∧ (jt_f ci k).2.2.1 = false) ∨ (o = (45, ci, (k : Int)) ∧ (∃ C, jt_ty ci k = .object C) ∧ (jt_f ci k).2.2.1 = false) ∨
      (o = (46, ci, (k : Int)) ∧ jt_ty ci k = .boolean ∧ (jt_f ci k).2.2.1 = false) ∨ (o = (47, ci, (k : Int)) ∧ jt_ty ci k = .char ∧ (jt_f ci k).2.2.1 = false) ∨
      (o = (48, ci, (k : Int)) ∧ ((∃ C, jt_ty ci k = .object C) ∨ ∃ C, jt_ty ci k = .array C) ∧ (jt_f ci k).2.2.1 = true ∧ ini = true ∧ nest = false ∧ ci = own)) := by
  unfold jx_fld at h
  cases hf : jt_fl own ix with
  | none => rw [hf] at h; cases h
  | some q =>
    obtain ⟨ci, k, nest⟩ := q
    rw [hf] at h
    refine ⟨ci, k, nest, rfl, ?_⟩
    simp only at h
    cases hfin : (jt_f ci k).2.2.1 <;> rw [hfin] at h <;> cases hty : jt_ty ci k <;> rw [hty] at h <;> simp only [Option.some.injEq, reduceCtorEq, Option.ite_none_right_eq_some] at h
    all_goals first | (subst h; simp) | (obtain ⟨⟨h1, h2, h3⟩, h⟩ := h; subst h; simp [h1, h2, h3])
section JW
variable {G : JG} {p : Program} {e : Env} {R : Room} {s : State} {m : MethodId} {args : Array Value} {below : List Frame} {meth : Method} {c : Code} {cc : ByteArray} {n0 w0 nE wE nL own : Nat} {ini : Bool} {Q : State → Prop} {pc : Nat} {σ : JH} {H : Heap} {locs : List Loc} {cells slots : Nat} {ls : Array Slot} {rest : List Value}
theorem jf_0 {σ : JH} {a k : Nat} {t : FieldType} (h : jt_k t = 0) : jf σ a k t = .int (σ.2.1 a k) := by unfold jf; rw [h]; rfl
theorem jf_1 {σ : JH} {a k : Nat} {t : FieldType} (h : jt_k t = 1) : jf σ a k t = .long (σ.2.2.1 a k) := by unfold jf; rw [h]; rfl
theorem jf_2 {σ : JH} {a k : Nat} {t : FieldType} (h : jt_k t = 2) : jf σ a k t = va_rf (σ.2.2.2 a k) := by unfold jf; rw [h]; rfl
theorem ju_at {α : Type} (f : Nat → Nat → α) (a k : Nat) (v : α) : ju f a k v a k = v := by unfold ju; rw [if_pos ⟨rfl, rfl⟩]
theorem ju_ne {α : Type} (f : Nat → Nat → α) {a k b j : Nat} (v : α) (h : ¬ (b = a ∧ j = k)) : ju f a k v b j = f b j := by unfold ju; rw [if_neg h]
theorem jm_old {a : Nat} (hM : jm G σ s H) (h : ¬ jt_A G a) : H[a]? = (jg_H G)[a]? := hM.2.2.1 a (Nat.not_le.mp h)
/-- a row of ints, made or a constant one -/
theorem jw_rowT {a t n : Nat} (hG : JGl G s) (hM : jm G σ s H) (ha : σ.1[a]? = some (t, n)) (ht : t = 200) : ∃ cell : Cell, H[jr G a]? = some cell ∧ s.isArrayOf cell .int ∧ cell.vm ≠ .unknown ∧ n ≤ cell.slots.size ∧ cell.slots.size.toInt32 = Int32.ofNat n ∧ ∀ j : Nat, j < n → cell.slots[j]? = some (.int (σ.2.1 a j)) := by
  subst ht
  have h64 : a < 64 := by
    by_cases h : 64 ≤ a
    · rcases hM.2.2.2.1 a _ n h ha with ⟨h3, -⟩ | ⟨-, h3, -⟩ | h3 <;> omega
    · omega
  obtain ⟨cell, g1, g2, g3, g4, g5, g6, g7⟩ := (hM.2.2.2.2.1 a _ n h64 ha).2.2.1 rfl
  refine ⟨cell, ?_, g2, g3, g4, g5, g6⟩
  rw [show jr G a = jg_sa G a by unfold jr; rw [if_pos h64], jm_old hM g7]
  exact g1
theorem jw_rowW {a t n : Nat} (hG : JGl G s) (hM : jm G σ s H) (ha : σ.1[a]? = some (t, n)) (ht : t = 201) : ∃ cell : Cell, H[jr G a]? = some cell ∧ s.isArrayOf cell (.object "CellarTurns$Word") ∧ cell.vm ≠ .unknown ∧ n ≤ cell.slots.size ∧ cell.slots.size.toInt32 = Int32.ofNat n ∧ ∀ j : Nat, j < n → cell.slots[j]? = some (jv G (va_rf (σ.2.2.2 a j))) := by
  subst ht
  have h64 : a < 64 := by
    by_cases h : 64 ≤ a
    · rcases hM.2.2.2.1 a _ n h ha with ⟨h3, -⟩ | ⟨-, h3, -⟩ | h3 <;> omega
    · omega
  obtain ⟨cell, g1, g2, g3, g4, g5, g6, g7⟩ := (hM.2.2.2.2.1 a _ n h64 ha).2.2.2.1 rfl
  refine ⟨cell, ?_, g2, g3, g4, g5, g6⟩
  rw [show jr G a = jg_sa G a by unfold jr; rw [if_pos h64], jm_old hM g7]
  exact g1
theorem jw_rowB {a t n : Nat} (hG : JGl G s) (hM : jm G σ s H) (ha : σ.1[a]? = some (t, n)) (ht : t = 202) : ∃ cell : Cell, H[jr G a]? = some cell ∧ s.isArrayOf cell .byte ∧ cell.vm ≠ .unknown ∧ n ≤ cell.slots.size ∧ cell.slots.size.toInt32 = Int32.ofNat n ∧ ∀ j : Nat, j < n → cell.slots[j]? = some (.int (σ.2.1 a j)) := by
  subst ht
  have h64 : a < 64 := by
    by_cases h : 64 ≤ a
    · rcases hM.2.2.2.1 a _ n h ha with ⟨h3, -⟩ | ⟨-, h3, -⟩ | h3 <;> omega
    · omega
  obtain ⟨cell, g1, g2, g3, g4, g5, g6, g7⟩ := (hM.2.2.2.2.1 a _ n h64 ha).2.2.2.2.1 rfl
  refine ⟨cell, ?_, g2, g3, g4, g5, g6⟩
  rw [show jr G a = jg_sa G a by unfold jr; rw [if_pos h64], jm_old hM g7]
  exact g1
theorem jw_in {cA : ClassId} {n : Nat} {f : Nat → Value} {i : Int32} (h : ¬ (i < 0 ∨ n ≤ i.toNatClampNeg)) : ¬ (i < 0 ∨ (arrV cA n f).slots.size ≤ i.toNatClampNeg) := by rw [arrV_size]; exact h
theorem jw_el {cA : ClassId} {n : Nat} {f : Nat → Value} {i : Int32} (h : ¬ (i < 0 ∨ n ≤ i.toNatClampNeg)) : (arrV cA n f).slots[i.toNatClampNeg]? = some (f i.toNatClampNeg) := by
  have : i.toNatClampNeg < n := Nat.not_le.mp fun q => h (Or.inr q)
  unfold arrV
  simp [this]

theorem jw_iconst (X : JX G p R s m meth c cc nL n0 w0 nE wE own ini) {S S' : JS} {n : Int} (hd : decode cc pc = .ok ((.iconst n), jx_len (.iconst n))) (h : jx_op (0, 0, (Int32.ofInt n).toInt) S = some S') (k : JK G p e R s m args below meth c nL n0 w0 nE wE Q (pc + jx_len (.iconst n)) S') : JK G p e R s m args below meth c nL n0 w0 nE wE Q pc S := by
  obtain ⟨hx, hb, hml, hown, hG, hRc, hRs, hini⟩ := id X
  obtain ⟨L, st0, σ⟩ := S
  cases h
  exact jk_st (fun H locs ls cells slots _ _ kk => lv_iconst hx hb hd (by exact (Int32.ofInt_toInt _).symm) kk) k
theorem jw_bipush (X : JX G p R s m meth c cc nL n0 w0 nE wE own ini) {S S' : JS} {n : Int} (hd : decode cc pc = .ok ((.bipush n), jx_len (.bipush n))) (h : jx_op (0, 0, ((Int8.ofInt n).toInt32).toInt) S = some S') (k : JK G p e R s m args below meth c nL n0 w0 nE wE Q (pc + jx_len (.bipush n)) S') : JK G p e R s m args below meth c nL n0 w0 nE wE Q pc S := by
  obtain ⟨hx, hb, hml, hown, hG, hRc, hRs, hini⟩ := id X
  obtain ⟨L, st0, σ⟩ := S
  cases h
  exact jk_st (fun H locs ls cells slots _ _ kk => lv_bipush hx hb hd (by exact (Int32.ofInt_toInt _).symm) kk) k
theorem jw_sipush (X : JX G p R s m meth c cc nL n0 w0 nE wE own ini) {S S' : JS} {n : Int} (hd : decode cc pc = .ok ((.sipush n), jx_len (.sipush n))) (h : jx_op (0, 0, ((Int16.ofInt n).toInt32).toInt) S = some S') (k : JK G p e R s m args below meth c nL n0 w0 nE wE Q (pc + jx_len (.sipush n)) S') : JK G p e R s m args below meth c nL n0 w0 nE wE Q pc S := by
  obtain ⟨hx, hb, hml, hown, hG, hRc, hRs, hini⟩ := id X
  obtain ⟨L, st0, σ⟩ := S
  cases h
  exact jk_st (fun H locs ls cells slots _ _ kk => lv_sipush hx hb hd (by exact (Int32.ofInt_toInt _).symm) kk) k
theorem jw_ldcs (X : JX G p R s m meth c cc nL n0 w0 nE wE own ini) {S S' : JS} (ho : own = 9) (hd : decode cc pc = .ok (.ldc 80, 2)) (h : jx_op (64, 25, 0) S = some S') (k : JK G p e R s m args below meth c nL n0 w0 nE wE Q (pc + 2) S') : JK G p e R s m args below meth c nL n0 w0 nE wE Q pc S := by
  obtain ⟨hx, hb, hml, hown, hG, hRc, hRs, hini⟩ := id X
  obtain ⟨L, st0, σ⟩ := S
  cases h
  subst ho
  have hr : vk_R "CellarTurns$Tape" 80 "()<=+-*;" (jr G 25) s := hG.2.2.2.2.2.2.2.1 _ (List.mem_of_getElem? (i := 0) rfl)
  exact jk_st (fun H locs ls cells slots _ _ kk => va_ldcS hx hb hown hr hd kk) k
theorem jw_lconst (X : JX G p R s m meth c cc nL n0 w0 nE wE own ini) {S S' : JS} {n : Fin 2} (hd : decode cc pc = .ok ((.lconst n), jx_len (.lconst n))) (h : jx_op (1, 0, (Int64.ofNat n).toInt) S = some S') (k : JK G p e R s m args below meth c nL n0 w0 nE wE Q (pc + jx_len (.lconst n)) S') : JK G p e R s m args below meth c nL n0 w0 nE wE Q pc S := by
  obtain ⟨hx, hb, hml, hown, hG, hRc, hRs, hini⟩ := id X
  obtain ⟨L, st0, σ⟩ := S
  cases h
  exact jk_st (fun H locs ls cells slots _ _ kk => lv_lconst hx hb hd (by exact (Int64.ofInt_toInt _).symm) kk) k
theorem jw_ldc (X : JX G p R s m meth c cc nL n0 w0 nE wE own ini) {S S' : JS} {ix : Nat} {v : Int32} (hl : jt_lc own ix = some (.int v)) (hd : decode cc pc = .ok ((.ldc ix), jx_len (.ldc ix))) (h : jx_op (0, 0, v.toInt) S = some S') (k : JK G p e R s m args below meth c nL n0 w0 nE wE Q (pc + jx_len (.ldc ix)) S') : JK G p e R s m args below meth c nL n0 w0 nE wE Q pc S := by
  obtain ⟨hx, hb, hml, hown, hG, hRc, hRs, hini⟩ := id X
  obtain ⟨L, st0, σ⟩ := S
  cases h
  have hc : (Cond.constant (jt_own.getD own "") ix v).before args s = true := jx_word hG (jt_lc_at hl) rfl rfl
  refine jk_st (fun H locs ls cells slots _ _ kk => lv_ldc hx hb hown hc hd ?_) k
  have e9 : Int32.ofInt v.toInt = v := Int32.ofInt_toInt _
  rw [e9] at kk
  exact kk
theorem jw_ldc_w (X : JX G p R s m meth c cc nL n0 w0 nE wE own ini) {S S' : JS} {ix : Nat} {v : Int32} (hl : jt_lc own ix = some (.int v)) (hd : decode cc pc = .ok ((.ldc_w ix), jx_len (.ldc_w ix))) (h : jx_op (0, 0, v.toInt) S = some S') (k : JK G p e R s m args below meth c nL n0 w0 nE wE Q (pc + jx_len (.ldc_w ix)) S') : JK G p e R s m args below meth c nL n0 w0 nE wE Q pc S := by
  obtain ⟨hx, hb, hml, hown, hG, hRc, hRs, hini⟩ := id X
  obtain ⟨L, st0, σ⟩ := S
  cases h
  have hc : (Cond.constant (jt_own.getD own "") ix v).before args s = true := jx_word hG (jt_lc_at hl) rfl rfl
  refine jk_st (fun H locs ls cells slots _ _ kk => lv_ldcw hx hb hown hc hd ?_) k
  have e9 : Int32.ofInt v.toInt = v := Int32.ofInt_toInt _
  rw [e9] at kk
  exact kk
theorem jw_ldc2 (X : JX G p R s m meth c cc nL n0 w0 nE wE own ini) {S S' : JS} {ix : Nat} {v : Int64} (hl : jt_lc own ix = some (.long v)) (hd : decode cc pc = .ok ((.ldc2_w ix), jx_len (.ldc2_w ix))) (h : jx_op (1, 0, v.toInt) S = some S') (k : JK G p e R s m args below meth c nL n0 w0 nE wE Q (pc + jx_len (.ldc2_w ix)) S') : JK G p e R s m args below meth c nL n0 w0 nE wE Q pc S := by
  obtain ⟨hx, hb, hml, hown, hG, hRc, hRs, hini⟩ := id X
  obtain ⟨L, st0, σ⟩ := S
  cases h
  have hc : (Cond.constantLong (jt_own.getD own "") ix v).before args s = true := jx_word hG (jt_lc_at hl) rfl rfl
  refine jk_st (fun H locs ls cells slots _ _ kk => lv_ldc2 hx hb hown hc hd ?_) k
  have e9 : Int64.ofInt v.toInt = v := Int64.ofInt_toInt _
  rw [e9] at kk
  exact kk
theorem jw_iload (X : JX G p R s m meth c cc nL n0 w0 nE wE own ini) {S S' : JS} {i : Nat} (hd : decode cc pc = .ok ((.iload i), jx_len (.iload i))) (h : jx_op (2, i, 0) S = some S') (k : JK G p e R s m args below meth c nL n0 w0 nE wE Q (pc + jx_len (.iload i)) S') : JK G p e R s m args below meth c nL n0 w0 nE wE Q pc S := by
  obtain ⟨hx, hb, hml, hown, hG, hRc, hRs, hini⟩ := id X
  obtain ⟨L, st0, σ⟩ := S
  obtain ⟨x, h1, rfl⟩ := jo_iload_i (i := i) h
  exact jk_st (fun H locs ls cells slots hl _ kk => lv_iload hx hb hd (jl_at hl h1) kk) k
theorem jw_iload_n (X : JX G p R s m meth c cc nL n0 w0 nE wE own ini) {S S' : JS} {i : Fin 4} (hd : decode cc pc = .ok ((.iload_n i), jx_len (.iload_n i))) (h : jx_op (2, (i : Nat), 0) S = some S') (k : JK G p e R s m args below meth c nL n0 w0 nE wE Q (pc + jx_len (.iload_n i)) S') : JK G p e R s m args below meth c nL n0 w0 nE wE Q pc S := by
  obtain ⟨hx, hb, hml, hown, hG, hRc, hRs, hini⟩ := id X
  obtain ⟨L, st0, σ⟩ := S
  obtain ⟨x, h1, rfl⟩ := jo_iload_i (i := (i : Nat)) h
  exact jk_st (fun H locs ls cells slots hl _ kk => lv_iload_n hx hb hd rfl (jl_at hl h1) kk) k
theorem jw_lload (X : JX G p R s m meth c cc nL n0 w0 nE wE own ini) {S S' : JS} {i : Nat} (hd : decode cc pc = .ok ((.lload i), jx_len (.lload i))) (h : jx_op (3, i, 0) S = some S') (k : JK G p e R s m args below meth c nL n0 w0 nE wE Q (pc + jx_len (.lload i)) S') : JK G p e R s m args below meth c nL n0 w0 nE wE Q pc S := by
  obtain ⟨hx, hb, hml, hown, hG, hRc, hRs, hini⟩ := id X
  obtain ⟨L, st0, σ⟩ := S
  obtain ⟨x, h1, rfl⟩ := jo_lload_i (i := i) h
  exact jk_st (fun H locs ls cells slots hl _ kk => lv_lload hx hb hd (jl_at hl h1) kk) k
theorem jw_lload_n (X : JX G p R s m meth c cc nL n0 w0 nE wE own ini) {S S' : JS} {i : Fin 4} (hd : decode cc pc = .ok ((.lload_n i), jx_len (.lload_n i))) (h : jx_op (3, (i : Nat), 0) S = some S') (k : JK G p e R s m args below meth c nL n0 w0 nE wE Q (pc + jx_len (.lload_n i)) S') : JK G p e R s m args below meth c nL n0 w0 nE wE Q pc S := by
  obtain ⟨hx, hb, hml, hown, hG, hRc, hRs, hini⟩ := id X
  obtain ⟨L, st0, σ⟩ := S
  obtain ⟨x, h1, rfl⟩ := jo_lload_i (i := (i : Nat)) h
  exact jk_st (fun H locs ls cells slots hl _ kk => lv_lload_n hx hb hd rfl (jl_at hl h1) kk) k
theorem jw_aload (X : JX G p R s m meth c cc nL n0 w0 nE wE own ini) {S S' : JS} {i : Nat} (hd : decode cc pc = .ok ((.aload i), jx_len (.aload i))) (h : jx_op (4, i, 0) S = some S') (k : JK G p e R s m args below meth c nL n0 w0 nE wE Q (pc + jx_len (.aload i)) S') : JK G p e R s m args below meth c nL n0 w0 nE wE Q pc S := by
  obtain ⟨hx, hb, hml, hown, hG, hRc, hRs, hini⟩ := id X
  obtain ⟨L, st0, σ⟩ := S
  obtain ⟨x, h1, rfl⟩ := jo_aload_i (i := i) h
  exact jk_st (fun H locs ls cells slots hl _ kk => lv_aload hx hb hd (jl_at hl h1) kk) k
theorem jw_aload_n (X : JX G p R s m meth c cc nL n0 w0 nE wE own ini) {S S' : JS} {i : Fin 4} (hd : decode cc pc = .ok ((.aload_n i), jx_len (.aload_n i))) (h : jx_op (4, (i : Nat), 0) S = some S') (k : JK G p e R s m args below meth c nL n0 w0 nE wE Q (pc + jx_len (.aload_n i)) S') : JK G p e R s m args below meth c nL n0 w0 nE wE Q pc S := by
  obtain ⟨hx, hb, hml, hown, hG, hRc, hRs, hini⟩ := id X
  obtain ⟨L, st0, σ⟩ := S
  obtain ⟨x, h1, rfl⟩ := jo_aload_i (i := (i : Nat)) h
  exact jk_st (fun H locs ls cells slots hl _ kk => lv_aload_n hx hb hd rfl (jl_at hl h1) kk) k
theorem jw_istore (X : JX G p R s m meth c cc nL n0 w0 nE wE own ini) {S S' : JS} {i : Nat} (hd : decode cc pc = .ok ((.istore i), jx_len (.istore i))) (h : jx_op (5, i, 0) S = some S') (k : JK G p e R s m args below meth c nL n0 w0 nE wE Q (pc + jx_len (.istore i)) S') : JK G p e R s m args below meth c nL n0 w0 nE wE Q pc S := by
  obtain ⟨hx, hb, hml, hown, hG, hRc, hRs, hini⟩ := id X
  obtain ⟨L, st0, σ⟩ := S
  obtain ⟨x, st, hs, hi, rfl⟩ := jo_istore_i (i := i) h
  have hs : st0 = _ := hs
  subst hs
  exact jk_lo (fun H locs ls cells slots hl kk => lv_istore hx hb hd (jl_has hl) (hl.2.2.1 ▸ hi) rfl (fun ls' h9 => kk ls' (jl_set_ok hl.2.2.1 h9))) k
theorem jw_istore_n (X : JX G p R s m meth c cc nL n0 w0 nE wE own ini) {S S' : JS} {i : Fin 4} (hd : decode cc pc = .ok ((.istore_n i), jx_len (.istore_n i))) (h : jx_op (5, (i : Nat), 0) S = some S') (k : JK G p e R s m args below meth c nL n0 w0 nE wE Q (pc + jx_len (.istore_n i)) S') : JK G p e R s m args below meth c nL n0 w0 nE wE Q pc S := by
  obtain ⟨hx, hb, hml, hown, hG, hRc, hRs, hini⟩ := id X
  obtain ⟨L, st0, σ⟩ := S
  obtain ⟨x, st, hs, hi, rfl⟩ := jo_istore_i (i := (i : Nat)) h
  have hs : st0 = _ := hs
  subst hs
  exact jk_lo (fun H locs ls cells slots hl kk => lv_istore_n hx hb hd rfl (jl_has hl) (hl.2.2.1 ▸ hi) rfl (fun ls' h9 => kk ls' (jl_set_ok hl.2.2.1 h9))) k
theorem jw_lstore (X : JX G p R s m meth c cc nL n0 w0 nE wE own ini) {S S' : JS} {i : Nat} (hd : decode cc pc = .ok ((.lstore i), jx_len (.lstore i))) (h : jx_op (6, i, 0) S = some S') (k : JK G p e R s m args below meth c nL n0 w0 nE wE Q (pc + jx_len (.lstore i)) S') : JK G p e R s m args below meth c nL n0 w0 nE wE Q pc S := by
  obtain ⟨hx, hb, hml, hown, hG, hRc, hRs, hini⟩ := id X
  obtain ⟨L, st0, σ⟩ := S
  obtain ⟨x, st, hs, hi, rfl⟩ := jo_lstore_i (i := i) h
  have hs : st0 = _ := hs
  subst hs
  exact jk_lo (fun H locs ls cells slots hl kk => lv_lstore hx hb hd (jl_has hl) (hl.2.2.1 ▸ hi) rfl (fun ls' h9 => kk ls' (jl_set2_ok hl.2.2.1 h9))) k
theorem jw_lstore_n (X : JX G p R s m meth c cc nL n0 w0 nE wE own ini) {S S' : JS} {i : Fin 4} (hd : decode cc pc = .ok ((.lstore_n i), jx_len (.lstore_n i))) (h : jx_op (6, (i : Nat), 0) S = some S') (k : JK G p e R s m args below meth c nL n0 w0 nE wE Q (pc + jx_len (.lstore_n i)) S') : JK G p e R s m args below meth c nL n0 w0 nE wE Q pc S := by
  obtain ⟨hx, hb, hml, hown, hG, hRc, hRs, hini⟩ := id X
  obtain ⟨L, st0, σ⟩ := S
  obtain ⟨x, st, hs, hi, rfl⟩ := jo_lstore_i (i := (i : Nat)) h
  have hs : st0 = _ := hs
  subst hs
  exact jk_lo (fun H locs ls cells slots hl kk => lv_lstore_n hx hb hd rfl (jl_has hl) (hl.2.2.1 ▸ hi) rfl (fun ls' h9 => kk ls' (jl_set2_ok hl.2.2.1 h9))) k
theorem jw_astore (X : JX G p R s m meth c cc nL n0 w0 nE wE own ini) {S S' : JS} {i : Nat} (hd : decode cc pc = .ok ((.astore i), jx_len (.astore i))) (h : jx_op (7, i, 0) S = some S') (k : JK G p e R s m args below meth c nL n0 w0 nE wE Q (pc + jx_len (.astore i)) S') : JK G p e R s m args below meth c nL n0 w0 nE wE Q pc S := by
  obtain ⟨hx, hb, hml, hown, hG, hRc, hRs, hini⟩ := id X
  obtain ⟨L, st0, σ⟩ := S
  obtain ⟨x, st, hs, hi, rfl⟩ := jo_astore_i (i := i) h
  have hs : st0 = _ := hs
  subst hs
  exact jk_lo (fun H locs ls cells slots hl kk => lv_astore hx hb hd (jl_has hl) (hl.2.2.1 ▸ hi) rfl (fun ls' h9 => kk ls' (jl_set_ok hl.2.2.1 h9))) k
theorem jw_astore_n (X : JX G p R s m meth c cc nL n0 w0 nE wE own ini) {S S' : JS} {i : Fin 4} (hd : decode cc pc = .ok ((.astore_n i), jx_len (.astore_n i))) (h : jx_op (7, (i : Nat), 0) S = some S') (k : JK G p e R s m args below meth c nL n0 w0 nE wE Q (pc + jx_len (.astore_n i)) S') : JK G p e R s m args below meth c nL n0 w0 nE wE Q pc S := by
  obtain ⟨hx, hb, hml, hown, hG, hRc, hRs, hini⟩ := id X
  obtain ⟨L, st0, σ⟩ := S
  obtain ⟨x, st, hs, hi, rfl⟩ := jo_astore_i (i := (i : Nat)) h
  have hs : st0 = _ := hs
  subst hs
  exact jk_lo (fun H locs ls cells slots hl kk => lv_astore_n hx hb hd rfl (jl_has hl) (hl.2.2.1 ▸ hi) rfl (fun ls' h9 => kk ls' (jl_set_ok hl.2.2.1 h9))) k
theorem jw_iinc (X : JX G p R s m meth c cc nL n0 w0 nE wE own ini) {S S' : JS} {i : Nat} {n : Int} (hd : decode cc pc = .ok ((.iinc i n), jx_len (.iinc i n))) (h : jx_op (8, i, n) S = some S') (k : JK G p e R s m args below meth c nL n0 w0 nE wE Q (pc + jx_len (.iinc i n)) S') : JK G p e R s m args below meth c nL n0 w0 nE wE Q pc S := by
  obtain ⟨hx, hb, hml, hown, hG, hRc, hRs, hini⟩ := id X
  obtain ⟨L, st0, σ⟩ := S
  obtain ⟨x, h1, rfl⟩ := jo_iinc_i (i := i) (n := n) h
  obtain ⟨q, hq⟩ := List.getElem?_of_mem (jl_mem (G := G) (q := (i, .int x)).mpr ⟨.int x, h1, rfl⟩)
  exact jk_lo (fun H locs ls cells slots hl kk => lv_iinc hx hb hd (jl_has hl) hq rfl (hl.2.2.1 ▸ (List.getElem?_eq_some_iff.mp h1).1) rfl (fun ls' h9 => kk ls' (jl_set_ok hl.2.2.1 h9))) k
theorem jw_iadd (X : JX G p R s m meth c cc nL n0 w0 nE wE own ini) {S S' : JS}  (hd : decode cc pc = .ok (.iadd, jx_len .iadd)) (h : jx_op (10, 0, 0) S = some S') (k : JK G p e R s m args below meth c nL n0 w0 nE wE Q (pc + jx_len .iadd) S') : JK G p e R s m args below meth c nL n0 w0 nE wE Q pc S := by
  obtain ⟨hx, hb, hml, hown, hG, hRc, hRs, hini⟩ := id X
  obtain ⟨L, st0, σ⟩ := S
  obtain ⟨x, y, st, hs, rfl⟩ := jo_ii_i (f := fun x y => x + y) h
  have hs : st0 = _ := hs
  subst hs
  exact jk_st (fun H locs ls cells slots _ _ kk => lv_iadd hx hb hd kk) k
theorem jw_isub (X : JX G p R s m meth c cc nL n0 w0 nE wE own ini) {S S' : JS}  (hd : decode cc pc = .ok (.isub, jx_len .isub)) (h : jx_op (11, 0, 0) S = some S') (k : JK G p e R s m args below meth c nL n0 w0 nE wE Q (pc + jx_len .isub) S') : JK G p e R s m args below meth c nL n0 w0 nE wE Q pc S := by
  obtain ⟨hx, hb, hml, hown, hG, hRc, hRs, hini⟩ := id X
  obtain ⟨L, st0, σ⟩ := S
  obtain ⟨x, y, st, hs, rfl⟩ := jo_ii_i (f := fun x y => x - y) h
  have hs : st0 = _ := hs
  subst hs
  exact jk_st (fun H locs ls cells slots _ _ kk => lv_isub hx hb hd kk) k
theorem jw_imul (X : JX G p R s m meth c cc nL n0 w0 nE wE own ini) {S S' : JS}  (hd : decode cc pc = .ok (.imul, jx_len .imul)) (h : jx_op (12, 0, 0) S = some S') (k : JK G p e R s m args below meth c nL n0 w0 nE wE Q (pc + jx_len .imul) S') : JK G p e R s m args below meth c nL n0 w0 nE wE Q pc S := by
  obtain ⟨hx, hb, hml, hown, hG, hRc, hRs, hini⟩ := id X
  obtain ⟨L, st0, σ⟩ := S
  obtain ⟨x, y, st, hs, rfl⟩ := jo_ii_i (f := fun x y => x * y) h
  have hs : st0 = _ := hs
  subst hs
  exact jk_st (fun H locs ls cells slots _ _ kk => lv_imul hx hb hd kk) k
theorem jw_iand (X : JX G p R s m meth c cc nL n0 w0 nE wE own ini) {S S' : JS}  (hd : decode cc pc = .ok (.iand, jx_len .iand)) (h : jx_op (16, 0, 0) S = some S') (k : JK G p e R s m args below meth c nL n0 w0 nE wE Q (pc + jx_len .iand) S') : JK G p e R s m args below meth c nL n0 w0 nE wE Q pc S := by
  obtain ⟨hx, hb, hml, hown, hG, hRc, hRs, hini⟩ := id X
  obtain ⟨L, st0, σ⟩ := S
  obtain ⟨x, y, st, hs, rfl⟩ := jo_ii_i (f := fun x y => x &&& y) h
  have hs : st0 = _ := hs
  subst hs
  exact jk_st (fun H locs ls cells slots _ _ kk => lv_iand hx hb hd kk) k
theorem jw_ior (X : JX G p R s m meth c cc nL n0 w0 nE wE own ini) {S S' : JS}  (hd : decode cc pc = .ok (.ior, jx_len .ior)) (h : jx_op (17, 0, 0) S = some S') (k : JK G p e R s m args below meth c nL n0 w0 nE wE Q (pc + jx_len .ior) S') : JK G p e R s m args below meth c nL n0 w0 nE wE Q pc S := by
  obtain ⟨hx, hb, hml, hown, hG, hRc, hRs, hini⟩ := id X
  obtain ⟨L, st0, σ⟩ := S
  obtain ⟨x, y, st, hs, rfl⟩ := jo_ii_i (f := fun x y => x ||| y) h
  have hs : st0 = _ := hs
  subst hs
  exact jk_st (fun H locs ls cells slots _ _ kk => lv_ior hx hb hd kk) k
theorem jw_ixor (X : JX G p R s m meth c cc nL n0 w0 nE wE own ini) {S S' : JS}  (hd : decode cc pc = .ok (.ixor, jx_len .ixor)) (h : jx_op (18, 0, 0) S = some S') (k : JK G p e R s m args below meth c nL n0 w0 nE wE Q (pc + jx_len .ixor) S') : JK G p e R s m args below meth c nL n0 w0 nE wE Q pc S := by
  obtain ⟨hx, hb, hml, hown, hG, hRc, hRs, hini⟩ := id X
  obtain ⟨L, st0, σ⟩ := S
  obtain ⟨x, y, st, hs, rfl⟩ := jo_ii_i (f := fun x y => x ^^^ y) h
  have hs : st0 = _ := hs
  subst hs
  exact jk_st (fun H locs ls cells slots _ _ kk => lv_ixor hx hb hd kk) k
theorem jw_ishl (X : JX G p R s m meth c cc nL n0 w0 nE wE own ini) {S S' : JS}  (hd : decode cc pc = .ok (.ishl, jx_len .ishl)) (h : jx_op (19, 0, 0) S = some S') (k : JK G p e R s m args below meth c nL n0 w0 nE wE Q (pc + jx_len .ishl) S') : JK G p e R s m args below meth c nL n0 w0 nE wE Q pc S := by
  obtain ⟨hx, hb, hml, hown, hG, hRc, hRs, hini⟩ := id X
  obtain ⟨L, st0, σ⟩ := S
  obtain ⟨x, y, st, hs, rfl⟩ := jo_ii_i (f := fun x y => x <<< (y &&& 31)) h
  have hs : st0 = _ := hs
  subst hs
  exact jk_st (fun H locs ls cells slots _ _ kk => lv_ishl hx hb hd kk) k
theorem jw_ishr (X : JX G p R s m meth c cc nL n0 w0 nE wE own ini) {S S' : JS}  (hd : decode cc pc = .ok (.ishr, jx_len .ishr)) (h : jx_op (20, 0, 0) S = some S') (k : JK G p e R s m args below meth c nL n0 w0 nE wE Q (pc + jx_len .ishr) S') : JK G p e R s m args below meth c nL n0 w0 nE wE Q pc S := by
  obtain ⟨hx, hb, hml, hown, hG, hRc, hRs, hini⟩ := id X
  obtain ⟨L, st0, σ⟩ := S
  obtain ⟨x, y, st, hs, rfl⟩ := jo_ii_i (f := fun x y => x >>> (y &&& 31)) h
  have hs : st0 = _ := hs
  subst hs
  exact jk_st (fun H locs ls cells slots _ _ kk => lv_ishr hx hb hd kk) k
theorem jw_iushr (X : JX G p R s m meth c cc nL n0 w0 nE wE own ini) {S S' : JS}  (hd : decode cc pc = .ok (.iushr, jx_len .iushr)) (h : jx_op (21, 0, 0) S = some S') (k : JK G p e R s m args below meth c nL n0 w0 nE wE Q (pc + jx_len .iushr) S') : JK G p e R s m args below meth c nL n0 w0 nE wE Q pc S := by
  obtain ⟨hx, hb, hml, hown, hG, hRc, hRs, hini⟩ := id X
  obtain ⟨L, st0, σ⟩ := S
  obtain ⟨x, y, st, hs, rfl⟩ := jo_ii_i (f := fun x y => (x.toUInt32 >>> (y.toUInt32 &&& Int32.toUInt32 31)).toInt32) h
  have hs : st0 = _ := hs
  subst hs
  exact jk_st (fun H locs ls cells slots _ _ kk => lv_iushr hx hb hd rfl kk) k
theorem jw_idiv (X : JX G p R s m meth c cc nL n0 w0 nE wE own ini) {S S' : JS}  (hd : decode cc pc = .ok (.idiv, jx_len .idiv)) (h : jx_op (13, 0, 0) S = some S') (k : JK G p e R s m args below meth c nL n0 w0 nE wE Q (pc + jx_len .idiv) S') : JK G p e R s m args below meth c nL n0 w0 nE wE Q pc S := by
  obtain ⟨hx, hb, hml, hown, hG, hRc, hRs, hini⟩ := id X
  obtain ⟨L, st0, σ⟩ := S
  obtain ⟨x, y, st, hs, hy, rfl⟩ := jo_id_i (f := fun x y => x / y) h
  have hs : st0 = _ := hs
  subst hs
  exact jk_st (fun H locs ls cells slots _ _ kk => lv_idiv hx hb hd hy kk) k
theorem jw_irem (X : JX G p R s m meth c cc nL n0 w0 nE wE own ini) {S S' : JS}  (hd : decode cc pc = .ok (.irem, jx_len .irem)) (h : jx_op (14, 0, 0) S = some S') (k : JK G p e R s m args below meth c nL n0 w0 nE wE Q (pc + jx_len .irem) S') : JK G p e R s m args below meth c nL n0 w0 nE wE Q pc S := by
  obtain ⟨hx, hb, hml, hown, hG, hRc, hRs, hini⟩ := id X
  obtain ⟨L, st0, σ⟩ := S
  obtain ⟨x, y, st, hs, hy, rfl⟩ := jo_id_i (f := fun x y => x - x / y * y) h
  have hs : st0 = _ := hs
  subst hs
  exact jk_st (fun H locs ls cells slots _ _ kk => lv_irem hx hb hd hy kk) k
theorem jw_ineg (X : JX G p R s m meth c cc nL n0 w0 nE wE own ini) {S S' : JS}  (hd : decode cc pc = .ok (.ineg, jx_len .ineg)) (h : jx_op (15, 0, 0) S = some S') (k : JK G p e R s m args below meth c nL n0 w0 nE wE Q (pc + jx_len .ineg) S') : JK G p e R s m args below meth c nL n0 w0 nE wE Q pc S := by
  obtain ⟨hx, hb, hml, hown, hG, hRc, hRs, hini⟩ := id X
  obtain ⟨L, st0, σ⟩ := S
  obtain ⟨x, st, hs, rfl⟩ := jo_i_i (f := fun x => -x) h
  have hs : st0 = _ := hs
  subst hs
  exact jk_st (fun H locs ls cells slots _ _ kk => lv_ineg hx hb hd kk) k
theorem jw_ladd (X : JX G p R s m meth c cc nL n0 w0 nE wE own ini) {S S' : JS}  (hd : decode cc pc = .ok (.ladd, jx_len .ladd)) (h : jx_op (22, 0, 0) S = some S') (k : JK G p e R s m args below meth c nL n0 w0 nE wE Q (pc + jx_len .ladd) S') : JK G p e R s m args below meth c nL n0 w0 nE wE Q pc S := by
  obtain ⟨hx, hb, hml, hown, hG, hRc, hRs, hini⟩ := id X
  obtain ⟨L, st0, σ⟩ := S
  obtain ⟨x, y, st, hs, rfl⟩ := jo_ll_i (f := fun x y => x + y) h
  have hs : st0 = _ := hs
  subst hs
  exact jk_st (fun H locs ls cells slots _ _ kk => lv_ladd hx hb hd kk) k
theorem jw_lsub (X : JX G p R s m meth c cc nL n0 w0 nE wE own ini) {S S' : JS}  (hd : decode cc pc = .ok (.lsub, jx_len .lsub)) (h : jx_op (23, 0, 0) S = some S') (k : JK G p e R s m args below meth c nL n0 w0 nE wE Q (pc + jx_len .lsub) S') : JK G p e R s m args below meth c nL n0 w0 nE wE Q pc S := by
  obtain ⟨hx, hb, hml, hown, hG, hRc, hRs, hini⟩ := id X
  obtain ⟨L, st0, σ⟩ := S
  obtain ⟨x, y, st, hs, rfl⟩ := jo_ll_i (f := fun x y => x - y) h
  have hs : st0 = _ := hs
  subst hs
  exact jk_st (fun H locs ls cells slots _ _ kk => lv_lsub hx hb hd kk) k
theorem jw_lmul (X : JX G p R s m meth c cc nL n0 w0 nE wE own ini) {S S' : JS}  (hd : decode cc pc = .ok (.lmul, jx_len .lmul)) (h : jx_op (24, 0, 0) S = some S') (k : JK G p e R s m args below meth c nL n0 w0 nE wE Q (pc + jx_len .lmul) S') : JK G p e R s m args below meth c nL n0 w0 nE wE Q pc S := by
  obtain ⟨hx, hb, hml, hown, hG, hRc, hRs, hini⟩ := id X
  obtain ⟨L, st0, σ⟩ := S
  obtain ⟨x, y, st, hs, rfl⟩ := jo_ll_i (f := fun x y => x * y) h
  have hs : st0 = _ := hs
  subst hs
  exact jk_st (fun H locs ls cells slots _ _ kk => lv_lmul hx hb hd kk) k
theorem jw_land (X : JX G p R s m meth c cc nL n0 w0 nE wE own ini) {S S' : JS}  (hd : decode cc pc = .ok (.land, jx_len .land)) (h : jx_op (27, 0, 0) S = some S') (k : JK G p e R s m args below meth c nL n0 w0 nE wE Q (pc + jx_len .land) S') : JK G p e R s m args below meth c nL n0 w0 nE wE Q pc S := by
  obtain ⟨hx, hb, hml, hown, hG, hRc, hRs, hini⟩ := id X
  obtain ⟨L, st0, σ⟩ := S
  obtain ⟨x, y, st, hs, rfl⟩ := jo_ll_i (f := fun x y => x &&& y) h
  have hs : st0 = _ := hs
  subst hs
  exact jk_st (fun H locs ls cells slots _ _ kk => lv_land hx hb hd kk) k
theorem jw_lor (X : JX G p R s m meth c cc nL n0 w0 nE wE own ini) {S S' : JS}  (hd : decode cc pc = .ok (.lor, jx_len .lor)) (h : jx_op (28, 0, 0) S = some S') (k : JK G p e R s m args below meth c nL n0 w0 nE wE Q (pc + jx_len .lor) S') : JK G p e R s m args below meth c nL n0 w0 nE wE Q pc S := by
  obtain ⟨hx, hb, hml, hown, hG, hRc, hRs, hini⟩ := id X
  obtain ⟨L, st0, σ⟩ := S
  obtain ⟨x, y, st, hs, rfl⟩ := jo_ll_i (f := fun x y => x ||| y) h
  have hs : st0 = _ := hs
  subst hs
  exact jk_st (fun H locs ls cells slots _ _ kk => lv_lor hx hb hd kk) k
theorem jw_lxor (X : JX G p R s m meth c cc nL n0 w0 nE wE own ini) {S S' : JS}  (hd : decode cc pc = .ok (.lxor, jx_len .lxor)) (h : jx_op (29, 0, 0) S = some S') (k : JK G p e R s m args below meth c nL n0 w0 nE wE Q (pc + jx_len .lxor) S') : JK G p e R s m args below meth c nL n0 w0 nE wE Q pc S := by
  obtain ⟨hx, hb, hml, hown, hG, hRc, hRs, hini⟩ := id X
  obtain ⟨L, st0, σ⟩ := S
  obtain ⟨x, y, st, hs, rfl⟩ := jo_ll_i (f := fun x y => x ^^^ y) h
  have hs : st0 = _ := hs
  subst hs
  exact jk_st (fun H locs ls cells slots _ _ kk => lv_lxor hx hb hd kk) k
theorem jw_ldiv (X : JX G p R s m meth c cc nL n0 w0 nE wE own ini) {S S' : JS}  (hd : decode cc pc = .ok (.ldiv, jx_len .ldiv)) (h : jx_op (25, 0, 0) S = some S') (k : JK G p e R s m args below meth c nL n0 w0 nE wE Q (pc + jx_len .ldiv) S') : JK G p e R s m args below meth c nL n0 w0 nE wE Q pc S := by
  obtain ⟨hx, hb, hml, hown, hG, hRc, hRs, hini⟩ := id X
  obtain ⟨L, st0, σ⟩ := S
  obtain ⟨x, y, st, hs, hy, rfl⟩ := jo_lq_i (f := fun x y => x / y) h
  have hs : st0 = _ := hs
  subst hs
  exact jk_st (fun H locs ls cells slots _ _ kk => lv_ldiv hx hb hd hy kk) k
theorem jw_lrem (X : JX G p R s m meth c cc nL n0 w0 nE wE own ini) {S S' : JS}  (hd : decode cc pc = .ok (.lrem, jx_len .lrem)) (h : jx_op (26, 0, 0) S = some S') (k : JK G p e R s m args below meth c nL n0 w0 nE wE Q (pc + jx_len .lrem) S') : JK G p e R s m args below meth c nL n0 w0 nE wE Q pc S := by
  obtain ⟨hx, hb, hml, hown, hG, hRc, hRs, hini⟩ := id X
  obtain ⟨L, st0, σ⟩ := S
  obtain ⟨x, y, st, hs, hy, rfl⟩ := jo_lq_i (f := fun x y => x - x / y * y) h
  have hs : st0 = _ := hs
  subst hs
  exact jk_st (fun H locs ls cells slots _ _ kk => lv_lrem hx hb hd hy kk) k
theorem jw_lshl (X : JX G p R s m meth c cc nL n0 w0 nE wE own ini) {S S' : JS}  (hd : decode cc pc = .ok (.lshl, jx_len .lshl)) (h : jx_op (30, 0, 0) S = some S') (k : JK G p e R s m args below meth c nL n0 w0 nE wE Q (pc + jx_len .lshl) S') : JK G p e R s m args below meth c nL n0 w0 nE wE Q pc S := by
  obtain ⟨hx, hb, hml, hown, hG, hRc, hRs, hini⟩ := id X
  obtain ⟨L, st0, σ⟩ := S
  obtain ⟨x, y, st, hs, rfl⟩ := jo_li_i (f := fun x y => x <<< (y.toInt64 &&& 63)) h
  have hs : st0 = _ := hs
  subst hs
  exact jk_st (fun H locs ls cells slots _ _ kk => lv_lshl hx hb hd rfl kk) k
theorem jw_lshr (X : JX G p R s m meth c cc nL n0 w0 nE wE own ini) {S S' : JS}  (hd : decode cc pc = .ok (.lshr, jx_len .lshr)) (h : jx_op (31, 0, 0) S = some S') (k : JK G p e R s m args below meth c nL n0 w0 nE wE Q (pc + jx_len .lshr) S') : JK G p e R s m args below meth c nL n0 w0 nE wE Q pc S := by
  obtain ⟨hx, hb, hml, hown, hG, hRc, hRs, hini⟩ := id X
  obtain ⟨L, st0, σ⟩ := S
  obtain ⟨x, y, st, hs, rfl⟩ := jo_li_i (f := fun x y => x >>> (y.toInt64 &&& 63)) h
  have hs : st0 = _ := hs
  subst hs
  exact jk_st (fun H locs ls cells slots _ _ kk => lv_lshr hx hb hd rfl kk) k
theorem jw_lushr (X : JX G p R s m meth c cc nL n0 w0 nE wE own ini) {S S' : JS}  (hd : decode cc pc = .ok (.lushr, jx_len .lushr)) (h : jx_op (32, 0, 0) S = some S') (k : JK G p e R s m args below meth c nL n0 w0 nE wE Q (pc + jx_len .lushr) S') : JK G p e R s m args below meth c nL n0 w0 nE wE Q pc S := by
  obtain ⟨hx, hb, hml, hown, hG, hRc, hRs, hini⟩ := id X
  obtain ⟨L, st0, σ⟩ := S
  obtain ⟨x, y, st, hs, rfl⟩ := jo_li_i (f := fun x y => (x.toUInt64 >>> (y.toInt64.toUInt64 &&& Int64.toUInt64 63)).toInt64) h
  have hs : st0 = _ := hs
  subst hs
  exact jk_st (fun H locs ls cells slots _ _ kk => lv_lushr hx hb hd rfl kk) k
theorem jw_lcmp (X : JX G p R s m meth c cc nL n0 w0 nE wE own ini) {S S' : JS}  (hd : decode cc pc = .ok (.lcmp, jx_len .lcmp)) (h : jx_op (33, 0, 0) S = some S') (k : JK G p e R s m args below meth c nL n0 w0 nE wE Q (pc + jx_len .lcmp) S') : JK G p e R s m args below meth c nL n0 w0 nE wE Q pc S := by
  obtain ⟨hx, hb, hml, hown, hG, hRc, hRs, hini⟩ := id X
  obtain ⟨L, st0, σ⟩ := S
  obtain ⟨x, y, st, hs, rfl⟩ := jo_lcmp_i h
  have hs : st0 = _ := hs
  subst hs
  exact jk_st (fun H locs ls cells slots _ _ kk => W.lcmp hx hb hd kk) k
theorem jw_i2l (X : JX G p R s m meth c cc nL n0 w0 nE wE own ini) {S S' : JS}  (hd : decode cc pc = .ok (.i2l, jx_len .i2l)) (h : jx_op (34, 0, 0) S = some S') (k : JK G p e R s m args below meth c nL n0 w0 nE wE Q (pc + jx_len .i2l) S') : JK G p e R s m args below meth c nL n0 w0 nE wE Q pc S := by
  obtain ⟨hx, hb, hml, hown, hG, hRc, hRs, hini⟩ := id X
  obtain ⟨L, st0, σ⟩ := S
  obtain ⟨x, st, hs, rfl⟩ := jo_i2l_i h
  have hs : st0 = _ := hs
  subst hs
  exact jk_st (fun H locs ls cells slots _ _ kk => lv_i2l hx hb hd rfl kk) k
theorem jw_l2i (X : JX G p R s m meth c cc nL n0 w0 nE wE own ini) {S S' : JS}  (hd : decode cc pc = .ok (.l2i, jx_len .l2i)) (h : jx_op (35, 0, 0) S = some S') (k : JK G p e R s m args below meth c nL n0 w0 nE wE Q (pc + jx_len .l2i) S') : JK G p e R s m args below meth c nL n0 w0 nE wE Q pc S := by
  obtain ⟨hx, hb, hml, hown, hG, hRc, hRs, hini⟩ := id X
  obtain ⟨L, st0, σ⟩ := S
  obtain ⟨x, st, hs, rfl⟩ := jo_l2i_i h
  have hs : st0 = _ := hs
  subst hs
  exact jk_st (fun H locs ls cells slots _ _ kk => lv_l2i hx hb hd rfl kk) k
theorem jw_i2b (X : JX G p R s m meth c cc nL n0 w0 nE wE own ini) {S S' : JS}  (hd : decode cc pc = .ok (.i2b, jx_len .i2b)) (h : jx_op (36, 0, 0) S = some S') (k : JK G p e R s m args below meth c nL n0 w0 nE wE Q (pc + jx_len .i2b) S') : JK G p e R s m args below meth c nL n0 w0 nE wE Q pc S := by
  obtain ⟨hx, hb, hml, hown, hG, hRc, hRs, hini⟩ := id X
  obtain ⟨L, st0, σ⟩ := S
  obtain ⟨x, st, hs, rfl⟩ := jo_i_i (f := fun x => x.toInt8.toInt32) h
  have hs : st0 = _ := hs
  subst hs
  exact jk_st (fun H locs ls cells slots _ _ kk => lv_i2b hx hb hd rfl kk) k
theorem jw_i2c (X : JX G p R s m meth c cc nL n0 w0 nE wE own ini) {S S' : JS}  (hd : decode cc pc = .ok (.i2c, jx_len .i2c)) (h : jx_op (37, 0, 0) S = some S') (k : JK G p e R s m args below meth c nL n0 w0 nE wE Q (pc + jx_len .i2c) S') : JK G p e R s m args below meth c nL n0 w0 nE wE Q pc S := by
  obtain ⟨hx, hb, hml, hown, hG, hRc, hRs, hini⟩ := id X
  obtain ⟨L, st0, σ⟩ := S
  obtain ⟨x, st, hs, rfl⟩ := jo_i_i (f := fun x => (x.toUInt32 % 65536).toInt32) h
  have hs : st0 = _ := hs
  subst hs
  exact jk_st (fun H locs ls cells slots _ _ kk => lv_i2c hx hb hd rfl kk) k
theorem jw_dup (X : JX G p R s m meth c cc nL n0 w0 nE wE own ini) {S S' : JS}  (hd : decode cc pc = .ok (.dup, jx_len .dup)) (h : jx_op (70, 0, 0) S = some S') (k : JK G p e R s m args below meth c nL n0 w0 nE wE Q (pc + jx_len .dup) S') : JK G p e R s m args below meth c nL n0 w0 nE wE Q pc S := by
  obtain ⟨hx, hb, hml, hown, hG, hRc, hRs, hini⟩ := id X
  obtain ⟨L, st0, σ⟩ := S
  obtain ⟨v, st, hs, hc, rfl⟩ := jo_dup_i h
  have hs : st0 = _ := hs
  subst hs
  exact jk_st (fun H locs ls cells slots _ _ kk => lv_dup hx hb hd (by rw [jv_cat]; exact hc) kk) k
theorem jw_pop (X : JX G p R s m meth c cc nL n0 w0 nE wE own ini) {S S' : JS}  (hd : decode cc pc = .ok (.pop, jx_len .pop)) (h : jx_op (71, 0, 0) S = some S') (k : JK G p e R s m args below meth c nL n0 w0 nE wE Q (pc + jx_len .pop) S') : JK G p e R s m args below meth c nL n0 w0 nE wE Q pc S := by
  obtain ⟨hx, hb, hml, hown, hG, hRc, hRs, hini⟩ := id X
  obtain ⟨L, st0, σ⟩ := S
  obtain ⟨v, st, hs, hc, rfl⟩ := jo_pop_i h
  have hs : st0 = _ := hs
  subst hs
  exact jk_st (fun H locs ls cells slots _ _ kk => lv_pop hx hb hd (by rw [jv_cat]; exact hc) kk) k
theorem jw_dup2 (X : JX G p R s m meth c cc nL n0 w0 nE wE own ini) {S S' : JS}  (hd : decode cc pc = .ok (.dup2, jx_len .dup2)) (h : jx_op (72, 0, 0) S = some S') (k : JK G p e R s m args below meth c nL n0 w0 nE wE Q (pc + jx_len .dup2) S') : JK G p e R s m args below meth c nL n0 w0 nE wE Q pc S := by
  obtain ⟨hx, hb, hml, hown, hG, hRc, hRs, hini⟩ := id X
  obtain ⟨L, st0, σ⟩ := S
  obtain ⟨v, w, st, hs, hc, hc2, rfl⟩ := jo_dup2_i h
  have hs : st0 = _ := hs
  subst hs
  exact jk_st (fun H locs ls cells slots _ _ kk => lv_dup2_11 hx hb hd (by rw [jv_cat]; exact hc) (by rw [jv_cat]; exact hc2) kk) k
theorem jw_dup_x1 (X : JX G p R s m meth c cc nL n0 w0 nE wE own ini) {S S' : JS}  (hd : decode cc pc = .ok (.dup_x1, jx_len .dup_x1)) (h : jx_op (73, 0, 0) S = some S') (k : JK G p e R s m args below meth c nL n0 w0 nE wE Q (pc + jx_len .dup_x1) S') : JK G p e R s m args below meth c nL n0 w0 nE wE Q pc S := by
  obtain ⟨hx, hb, hml, hown, hG, hRc, hRs, hini⟩ := id X
  obtain ⟨L, st0, σ⟩ := S
  obtain ⟨v, w, st, hs, hc, hc2, rfl⟩ := jo_dupx1_i h
  have hs : st0 = _ := hs
  subst hs
  exact jk_st (fun H locs ls cells slots _ _ kk => lv_dup_x1 hx hb hd (by rw [jv_cat]; exact hc) (by rw [jv_cat]; exact hc2) kk) k
end JW
end
section
/-! ===== instructions on cells ===== -/
section JW
variable {G : JG} {p : Program} {e : Env} {R : Room} {s : State} {m : MethodId} {args : Array Value} {below : List Frame} {meth : Method} {c : Code} {cc : ByteArray} {n0 w0 nE wE nL own : Nat} {ini : Bool} {Q : State → Prop} {pc : Nat} {σ : JH} {H : Heap} {locs : List Loc} {cells slots : Nat} {ls : Array Slot} {rest : List Value}
theorem jw_getfield (X : JX G p R s m meth c cc nL n0 w0 nE wE own ini) {S S' : JS} {ix : Nat} {o : JO} (ho : jx_fld own ix false ini = some o) (hd : decode cc pc = .ok (.getfield ix, 3)) (h : jx_op o S = some S') (k : JK G p e R s m args below meth c nL n0 w0 nE wE Q (pc + 3) S') : JK G p e R s m args below meth c nL n0 w0 nE wE Q pc S := by
  obtain ⟨L, st0, σ⟩ := S
  obtain ⟨ci, kk, nest, hf, hh⟩ := jx_fld_get ho
  rcases hh with ⟨rfl, ht⟩ | ⟨rfl, ht⟩ | ⟨rfl, ht⟩
  · obtain ⟨a, n, st, hs, ha, rfl⟩ := jo_getI_i (ci := ci) (k := kk) h
    have hs : st0 = _ := hs
    subst hs
    exact jk_st (fun H locs ls cells slots _ hM k9 => jw_get X hf hM ha hd (by rw [jf_0 ht]; exact k9)) k
  · obtain ⟨a, n, st, hs, ha, rfl⟩ := jo_getJ_i (ci := ci) (k := kk) h
    have hs : st0 = _ := hs
    subst hs
    exact jk_st (fun H locs ls cells slots _ hM k9 => jw_get X hf hM ha hd (by rw [jf_1 ht]; exact k9)) k
  · obtain ⟨a, n, st, hs, ha, rfl⟩ := jo_getR_i (ci := ci) (k := kk) h
    have hs : st0 = _ := hs
    subst hs
    exact jk_st (fun H locs ls cells slots _ hM k9 => jw_get X hf hM ha hd (by rw [jf_2 ht]; exact k9)) k
theorem jw_putfield (X : JX G p R s m meth c cc nL n0 w0 nE wE own ini) {S S' : JS} {ix : Nat} {o : JO} (ho : jx_fld own ix true ini = some o) (hd : decode cc pc = .ok (.putfield ix, 3)) (h : jx_op o S = some S') (k : JK G p e R s m args below meth c nL n0 w0 nE wE Q (pc + 3) S') : JK G p e R s m args below meth c nL n0 w0 nE wE Q pc S := by
  obtain ⟨L, st0, σ⟩ := S
  obtain ⟨ci, kk, nest, hf, hh⟩ := jx_fld_put ho
  have pI : ∀ ty : FieldType, jt_ty ci kk = ty → jt_k ty = 0 → (jt_f ci kk).2.2.1 = false → jo_putI ci kk ty (L, st0, σ) = some S' → JK G p e R s m args below meth c nL n0 w0 nE wE Q pc (L, st0, σ) := by
    intro ty ht ht0 hfin h
    obtain ⟨x, a, n, st, hs, ha, hn, hft, rfl⟩ := jo_putI_i (ci := ci) (k := kk) h
    have hs : st0 = _ := hs
    subst hs
    exact jk_wr (σ' := jh_setI σ a kk x) rfl (fun H locs ls cells slots hM hlo k9 => jw_put (v := .int x) (σ' := jh_setI σ a kk x) X hf hM ha hd (Or.inl hfin) (by rw [ht]; exact hn) (by rw [ht]; exact hft) rfl (fun b j hb => ju_ne _ _ hb) (fun b j hb => rfl) (fun b j hb => rfl)
      (by rw [ht, jf_0 ht0]; exact congrArg _ (ju_at _ _ _ _)) hlo k9) k
  have pR : (jt_k (jt_ty ci kk) = 2) → (∀ v : Value, narrow (jt_ty ci kk) v = v) → (∀ r : Nat, fits (jt_ty ci kk) (.ref r) = true) → ((jt_f ci kk).2.2.1 = false ∨ ((jt_f ci kk).2.2.1 = true ∧ nest = false ∧ ci = own ∧ meth.name = "<init>")) → jo_putR ci kk (L, st0, σ) = some S' → JK G p e R s m args below meth c nL n0 w0 nE wE Q pc (L, st0, σ) := by
    intro ht hn hft hfin h
    obtain ⟨x, a, n, st, hs, ha, rfl⟩ := jo_putR_i (ci := ci) (k := kk) h
    have hs : st0 = _ := hs
    subst hs
    exact jk_wr (σ' := jh_setR σ a kk (some x)) rfl (fun H locs ls cells slots hM hlo k9 => jw_put (v := .ref x) (σ' := jh_setR σ a kk (some x)) X hf hM ha hd hfin (hn _) (hft _) rfl (fun b j hb => rfl) (fun b j hb => rfl) (fun b j hb => ju_ne _ _ hb)
      (by rw [jf_2 ht]; exact congrArg va_rf (ju_at _ _ _ _)) hlo k9) k
  rcases hh with ⟨rfl, ht, hfin⟩ | ⟨rfl, ht, hfin⟩ | ⟨rfl, ⟨C, ht⟩, hfin⟩ | ⟨rfl, ht, hfin⟩ | ⟨rfl, ht, hfin⟩ | ⟨rfl, ht, hfin, hi, hne, hco⟩
  · exact pI .int ht rfl hfin h
  · obtain ⟨x, a, n, st, hs, ha, rfl⟩ := jo_putJ_i (ci := ci) (k := kk) h
    have hs : st0 = _ := hs
    subst hs
    exact jk_wr (σ' := jh_setJ σ a kk x) rfl (fun H locs ls cells slots hM hlo k9 => jw_put (v := .long x) (σ' := jh_setJ σ a kk x) X hf hM ha hd (Or.inl hfin) (by rw [ht]; rfl) (by rw [ht]; rfl) rfl (fun b j hb => rfl) (fun b j hb => ju_ne _ _ hb) (fun b j hb => rfl)
      (by rw [ht, jf_1 rfl]; exact congrArg _ (ju_at _ _ _ _)) hlo k9) k
  · exact pR (by rw [ht]; rfl) (fun v => by rw [ht]; cases v <;> rfl) (fun r => by rw [ht]; rfl) (Or.inl hfin) h
  · exact pI .boolean ht rfl hfin h
  · exact pI .char ht rfl hfin h
  · rcases ht with ⟨C, ht⟩ | ⟨C, ht⟩
    · exact pR (by rw [ht]; rfl) (fun v => by rw [ht]; cases v <;> rfl) (fun r => by rw [ht]; rfl) (Or.inr ⟨hfin, hne, hco, X.2.2.2.2.2.2.2 hi⟩) h
    · exact pR (by rw [ht]; rfl) (fun v => by rw [ht]; cases v <;> rfl) (fun r => by rw [ht]; rfl) (Or.inr ⟨hfin, hne, hco, X.2.2.2.2.2.2.2 hi⟩) h
theorem jw_iaload (X : JX G p R s m meth c cc nL n0 w0 nE wE own ini) {S S' : JS} (hd : decode cc pc = .ok (.iaload, 1)) (h : jo_ldI [100, 200] S = some S') (k : JK G p e R s m args below meth c nL n0 w0 nE wE Q (pc + 1) S') : JK G p e R s m args below meth c nL n0 w0 nE wE Q pc S := by
  obtain ⟨hx, hb, hml, hown, hG, hRc, hRs, hini⟩ := id X
  obtain ⟨L, st0, σ⟩ := S
  obtain ⟨i, a, t, n, st, hs, ha, ht, hin, rfl⟩ := jo_ldI_i h
  have hs : st0 = _ := hs
  subst hs
  refine jk_st (fun H locs ls cells slots _ hM k9 => ?_) k
  have ht : t = 100 ∨ t = 200 := by simpa using ht
  rcases ht with ht | ht
  · subst ht
    obtain ⟨-, hc⟩ := jm_arr hM ha (by decide) (by decide)
    exact W.iald hx hb hc ((hG.2.2.1 100 (by decide) (by decide)).1 n _) (fun q => by cases q) (jw_in hin) (jw_el hin) rfl rfl hd k9
  · obtain ⟨cell, g1, g2, g3, g4, g5, g6⟩ := jw_rowT hG hM ha ht
    exact W.iald (v := .int (σ.2.1 a i.toNatClampNeg)) hx hb g1 g2 g3 (fun q => hin (q.elim Or.inl (fun q => Or.inr (Nat.le_trans g4 q)))) (g6 _ (Nat.not_le.mp fun q => hin (Or.inr q))) rfl rfl hd k9
theorem jw_baload (X : JX G p R s m meth c cc nL n0 w0 nE wE own ini) {S S' : JS} (hd : decode cc pc = .ok (.baload, 1)) (h : jo_ldI [102, 103, 202] S = some S') (k : JK G p e R s m args below meth c nL n0 w0 nE wE Q (pc + 1) S') : JK G p e R s m args below meth c nL n0 w0 nE wE Q pc S := by
  obtain ⟨hx, hb, hml, hown, hG, hRc, hRs, hini⟩ := id X
  obtain ⟨L, st0, σ⟩ := S
  obtain ⟨i, a, t, n, st, hs, ha, ht, hin, rfl⟩ := jo_ldI_i h
  have hs : st0 = _ := hs
  subst hs
  refine jk_st (fun H locs ls cells slots _ hM k9 => ?_) k
  have ht : t = 102 ∨ t = 103 ∨ t = 202 := by simpa using ht
  rcases ht with ht | ht | ht
  · subst ht
    obtain ⟨-, hc⟩ := jm_arr hM ha (by decide) (by decide)
    exact W.bald hx hb hc ((hG.2.2.1 102 (by decide) (by decide)).1 n _) (fun q => by cases q) (jw_in hin) (jw_el hin) rfl rfl hd k9
  · subst ht
    obtain ⟨-, hc⟩ := jm_arr hM ha (by decide) (by decide)
    exact W.zald hx hb hc ((hG.2.2.1 103 (by decide) (by decide)).1 n _) (fun q => by cases q) (jw_in hin) (jw_el hin) rfl rfl hd k9
  · obtain ⟨cell, g1, g2, g3, g4, g5, g6⟩ := jw_rowB hG hM ha ht
    exact W.bald (v := .int (σ.2.1 a i.toNatClampNeg)) hx hb g1 g2 g3 (fun q => hin (q.elim Or.inl (fun q => Or.inr (Nat.le_trans g4 q)))) (g6 _ (Nat.not_le.mp fun q => hin (Or.inr q))) rfl rfl hd k9
theorem jw_laload (X : JX G p R s m meth c cc nL n0 w0 nE wE own ini) {S S' : JS} (hd : decode cc pc = .ok (.laload, 1)) (h : jo_ldJ S = some S') (k : JK G p e R s m args below meth c nL n0 w0 nE wE Q (pc + 1) S') : JK G p e R s m args below meth c nL n0 w0 nE wE Q pc S := by
  obtain ⟨hx, hb, hml, hown, hG, hRc, hRs, hini⟩ := id X
  obtain ⟨L, st0, σ⟩ := S
  obtain ⟨i, a, n, st, hs, ha, hin, rfl⟩ := jo_ldJ_i h
  have hs : st0 = _ := hs
  subst hs
  refine jk_st (fun H locs ls cells slots _ hM k9 => ?_) k
  obtain ⟨-, hc⟩ := jm_arr hM ha (by decide) (by decide)
  exact W.lald hx hb hc ((hG.2.2.1 101 (by decide) (by decide)).1 n _) (fun q => by cases q) (jw_in hin) (jw_el hin) rfl rfl hd k9
theorem jw_aaload (X : JX G p R s m meth c cc nL n0 w0 nE wE own ini) {S S' : JS} (hd : decode cc pc = .ok (.aaload, 1)) (h : jo_ldR S = some S') (k : JK G p e R s m args below meth c nL n0 w0 nE wE Q (pc + 1) S') : JK G p e R s m args below meth c nL n0 w0 nE wE Q pc S := by
  obtain ⟨hx, hb, hml, hown, hG, hRc, hRs, hini⟩ := id X
  obtain ⟨L, st0, σ⟩ := S
  obtain ⟨i, a, t, n, st, hs, ha, ht, hin, rfl⟩ := jo_ldR_i h
  have hs : st0 = _ := hs
  subst hs
  refine jk_st (fun H locs ls cells slots _ hM k9 => ?_) k
  rcases ht with ht | ht
  · subst ht
    obtain ⟨-, hc⟩ := jm_arr hM ha (by decide) (by decide)
    exact W.aald hx hb hc ((hG.2.2.1 104 (by decide) (by decide)).1 n _) rfl (fun q => by cases q) (jw_in hin) (jw_el hin) rfl rfl hd k9
  · obtain ⟨cell, g1, g2, g3, g4, g5, g6⟩ := jw_rowW hG hM ha ht
    exact W.aald (v := jv G (va_rf (σ.2.2.2 a i.toNatClampNeg))) hx hb g1 g2 rfl g3 (fun q => hin (q.elim Or.inl (fun q => Or.inr (Nat.le_trans g4 q)))) (g6 _ (Nat.not_le.mp fun q => hin (Or.inr q))) rfl rfl hd k9
theorem jw_arraylength (X : JX G p R s m meth c cc nL n0 w0 nE wE own ini) {S S' : JS} (hd : decode cc pc = .ok (.arraylength, 1)) (h : jo_len S = some S') (k : JK G p e R s m args below meth c nL n0 w0 nE wE Q (pc + 1) S') : JK G p e R s m args below meth c nL n0 w0 nE wE Q pc S := by
  obtain ⟨hx, hb, hml, hown, hG, hRc, hRs, hini⟩ := id X
  obtain ⟨L, st0, σ⟩ := S
  obtain ⟨a, t, n, st, hs, ha, ht, rfl⟩ := jo_len_i h
  have hs : st0 = _ := hs
  subst hs
  refine jk_st (fun H locs ls cells slots _ hM k9 => ?_) k
  by_cases h4 : t ≤ 104
  · obtain ⟨-, hc⟩ := jm_arr hM ha ht h4
    exact W.alen (n := Int32.ofNat n) hx hb hc ((hG.2.2.1 t ht h4).1 n _) (by rw [arrV_size] <;> rfl) rfl rfl hd k9
  · have h64 : a < 64 := by
      by_cases h : 64 ≤ a
      · rcases hM.2.2.2.1 a _ n h ha with ⟨h3, -⟩ | ⟨-, h3, -⟩ | h3 <;> omega
      · exact Nat.not_le.mp h
    rcases (hM.2.2.2.2.1 a t n h64 ha).1 with h9 | h9 | h9 | h9 | h9 | h9
    · exact absurd ht (by rw [h9]; decide)
    · exact absurd ht (by rw [h9]; decide)
    · exact absurd ht (by rw [h9]; decide)
    · obtain ⟨cell, g1, g2, g3, g4, g5, g6⟩ := jw_rowT hG hM ha h9
      exact W.alen (n := Int32.ofNat n) hx hb g1 g2 g5 rfl rfl hd k9
    · obtain ⟨cell, g1, g2, g3, g4, g5, g6⟩ := jw_rowW hG hM ha h9
      exact W.alen (n := Int32.ofNat n) hx hb g1 g2 g5 rfl rfl hd k9
    · obtain ⟨cell, g1, g2, g3, g4, g5, g6⟩ := jw_rowB hG hM ha h9
      exact W.alen (n := Int32.ofNat n) hx hb g1 g2 g5 rfl rfl hd k9
theorem jw_loc {a k : Nat} (h64 : 64 ≤ a) (hlo : ∀ q ∈ locs, jg_sz G ≤ q.base) : ∀ q ∈ locs ++ [⟨jr G a, k⟩], jg_sz G ≤ q.base := fun q hq => by
  rcases List.mem_append.mp hq with h | h
  · exact hlo q h
  · rw [List.mem_singleton.mp h]
    exact jr_ge h64
theorem jw_iastore (X : JX G p R s m meth c cc nL n0 w0 nE wE own ini) {S S' : JS} (hd : decode cc pc = .ok (.iastore, 1)) (h : jo_stI S = some S') (k : JK G p e R s m args below meth c nL n0 w0 nE wE Q (pc + 1) S') : JK G p e R s m args below meth c nL n0 w0 nE wE Q pc S := by
  obtain ⟨hx, hb, hml, hown, hG, hRc, hRs, hini⟩ := id X
  obtain ⟨L, st0, σ⟩ := S
  obtain ⟨x, i, a, n, st, hs, ha, hin, rfl⟩ := jo_stI_i h
  have hs : st0 = _ := hs
  subst hs
  refine jk_wr (σ' := jh_setI σ a i.toNatClampNeg x) rfl (fun H locs ls cells slots hM hlo k9 => ?_) k
  obtain ⟨h64, hc⟩ := jm_arr hM ha (by decide) (by decide)
  exact W.iast hx hb hc ((hG.2.2.1 100 (by decide) (by decide)).1 n _) (fun q => by cases q) (jw_in hin) rfl rfl hd (fun H1 e1 e2 e3 => k9 H1 _ (jm_ast hM rfl ha (by decide) (by decide) e1 e2 e3 (fun b j hb => ju_ne _ _ hb) (fun b j hb => rfl) (fun b j hb => rfl) (by rw [jf_0 rfl]; exact congrArg Value.int (ju_at _ _ _ _))) (jw_loc h64 hlo))
theorem jw_lastore (X : JX G p R s m meth c cc nL n0 w0 nE wE own ini) {S S' : JS} (hd : decode cc pc = .ok (.lastore, 1)) (h : jo_stJ S = some S') (k : JK G p e R s m args below meth c nL n0 w0 nE wE Q (pc + 1) S') : JK G p e R s m args below meth c nL n0 w0 nE wE Q pc S := by
  obtain ⟨hx, hb, hml, hown, hG, hRc, hRs, hini⟩ := id X
  obtain ⟨L, st0, σ⟩ := S
  obtain ⟨x, i, a, n, st, hs, ha, hin, rfl⟩ := jo_stJ_i h
  have hs : st0 = _ := hs
  subst hs
  refine jk_wr (σ' := jh_setJ σ a i.toNatClampNeg x) rfl (fun H locs ls cells slots hM hlo k9 => ?_) k
  obtain ⟨h64, hc⟩ := jm_arr hM ha (by decide) (by decide)
  exact W.last hx hb hc ((hG.2.2.1 101 (by decide) (by decide)).1 n _) (fun q => by cases q) (jw_in hin) rfl rfl hd (fun H1 e1 e2 e3 => k9 H1 _ (jm_ast hM rfl ha (by decide) (by decide) e1 e2 e3 (fun b j hb => rfl) (fun b j hb => ju_ne _ _ hb) (fun b j hb => rfl) (by rw [jf_1 rfl]; exact congrArg Value.long (ju_at _ _ _ _))) (jw_loc h64 hlo))
theorem jw_nar {t : Nat} (h : t = 102 ∨ t = 103) (x : Int32) : Value.int (vp_nar (jt_at t) x) = narrow (jt_at t) (.int x) := by
  rcases h with rfl | rfl <;> rfl
theorem jw_bastore (X : JX G p R s m meth c cc nL n0 w0 nE wE own ini) {S S' : JS} (hd : decode cc pc = .ok (.bastore, 1)) (h : jo_stB S = some S') (k : JK G p e R s m args below meth c nL n0 w0 nE wE Q (pc + 1) S') : JK G p e R s m args below meth c nL n0 w0 nE wE Q pc S := by
  obtain ⟨hx, hb, hml, hown, hG, hRc, hRs, hini⟩ := id X
  obtain ⟨L, st0, σ⟩ := S
  obtain ⟨x, i, a, t, n, st, hs, ha, ht, hin, rfl⟩ := jo_stB_i h
  have hs : st0 = _ := hs
  subst hs
  refine jk_wr (σ' := jh_setI σ a i.toNatClampNeg (vp_nar (jt_at t) x)) rfl (fun H locs ls cells slots hM hlo k9 => ?_) k
  have hnar := jw_nar ht x
  rcases ht with rfl | rfl
  · obtain ⟨h64, hc⟩ := jm_arr hM ha (by decide) (by decide)
    exact W.bast hx hb hc ((hG.2.2.1 102 (by decide) (by decide)).1 n _) (fun q => by cases q) (jw_in hin) rfl rfl hd (fun H1 e1 e2 e3 => k9 H1 _ (jm_ast hM rfl ha (by decide) (by decide) e1 e2 e3 (fun b j hb => ju_ne _ _ hb) (fun b j hb => rfl) (fun b j hb => rfl) (by rw [jf_0 rfl]; exact (congrArg (fun z => jv G (Value.int z)) (ju_at _ _ _ _)).trans hnar)) (jw_loc h64 hlo))
  · obtain ⟨h64, hc⟩ := jm_arr hM ha (by decide) (by decide)
    exact W.zast hx hb hc ((hG.2.2.1 103 (by decide) (by decide)).1 n _) (fun q => by cases q) (jw_in hin) rfl rfl hd (fun H1 e1 e2 e3 => k9 H1 _ (jm_ast hM rfl ha (by decide) (by decide) e1 e2 e3 (fun b j hb => ju_ne _ _ hb) (fun b j hb => rfl) (fun b j hb => rfl) (by rw [jf_0 rfl]; exact (congrArg (fun z => jv G (Value.int z)) (ju_at _ _ _ _)).trans hnar)) (jw_loc h64 hlo))
theorem jw_aastore (X : JX G p R s m meth c cc nL n0 w0 nE wE own ini) {S S' : JS} (hd : decode cc pc = .ok (.aastore, 1)) (h : jo_stR S = some S') (k : JK G p e R s m args below meth c nL n0 w0 nE wE Q (pc + 1) S') : JK G p e R s m args below meth c nL n0 w0 nE wE Q pc S := by
  obtain ⟨hx, hb, hml, hown, hG, hRc, hRs, hini⟩ := id X
  obtain ⟨L, st0, σ⟩ := S
  obtain ⟨x, i, a, n, st, hs, ha, hin, hv, rfl⟩ := jo_stR_i h
  have hs : st0 = _ := hs
  subst hs
  refine jk_wr (σ' := jh_setR σ a i.toNatClampNeg (some x)) rfl (fun H locs ls cells slots hM hlo k9 => ?_) k
  obtain ⟨h64, hc⟩ := jm_arr hM ha (by decide) (by decide)
  obtain ⟨-, -, cv, q1, q2, q3, -⟩ := jm_obj hM hv (by decide)
  obtain ⟨hS, hfc, kC, hkC, hkind⟩ := hG.2.1.1 3 _ (jt_cls_at (by decide))
  obtain ⟨kA, comp, g1, g2, g3, g4⟩ := (hG.2.2.1 104 (by decide) (by decide)).2
  have hcc : comp = (jg_D G).1 3 := Option.some.inj (g3.symm.trans hfc)
  refine W.aast hx hb hc (fun q h => by cases h) (fun q => by cases q) g1 g2 rfl (kcomp := kC) (by rw [hcc]; exact hkC) ⟨fun q => hin (Or.inl q), by rw [arrV_size]; exact Nat.not_le.mp fun q => hin (Or.inr q)⟩ q1 (fun q h => by rw [q3] at h; cases h) (kv := kC) (by rw [q2]; exact hkC) (by rw [q2, hcc]; exact va_assign (hG.2.1.1 3 _ (jt_cls_at (by decide))).2) rfl rfl hd (fun H1 e1 e2 e3 => k9 H1 _ (jm_ast hM rfl ha (by decide) (by decide) e1 e2 e3 (fun b j hb => rfl) (fun b j hb => rfl) (fun b j hb => ju_ne _ _ hb) (by rw [jf_2 rfl]; exact congrArg (fun z => jv G (va_rf z)) (ju_at _ _ _ _))) (jw_loc h64 hlo))
/-- a field of a constant -/
theorem jw_of {o n d : String} {ix t : Nat} {v : Value} {H : Heap} {locs : List Loc} {cells slots : Nat} {ls : Array Slot} {rest : List Value} (X : JX G p R s m meth c cc nL n0 w0 nE wE own ini) (hM : jm G σ s H) (hO : va_OF o n d v t (jt_A G) s (jg_H G)) (hl : (Cond.fieldLink (jt_own.getD own "") ix o n d).before args s = true ∨ ∃ host, (Cond.fieldLinkNest (jt_own.getD own "") ix o n d host).before args s = true) (hd : decode cc pc = .ok (.getfield ix, 3))
    (kk : W p (jg_l G) e R s m args below meth c H locs cells slots Q (F0 m (pc + 3) ls (v :: rest))) : W p (jg_l G) e R s m args below meth c H locs cells slots Q (F0 m pc ls (.ref t :: rest)) := by
  obtain ⟨hx, hb, hml, hown, hG, -⟩ := X
  obtain ⟨cf, k, i, f, cell, g1, g2, g3, g4, g5, g6⟩ := hO
  rw [← jm_old hM g6] at g3
  rcases hl with hl | ⟨host, hl⟩
  · exact W.getf hx hb hown hl g1 g2 g3 g4 g5 rfl rfl hd kk
  · exact va_Wgetf hx hb hown hl g1 g2 g3 g4 g5 rfl rfl hd kk
theorem jw_wt {a t n : Nat} (hM : jm G σ s H) (ha : σ.1[a]? = some (t, n)) (ht : t = 50 ∨ t = 51) : a < 64 ∧ jr G a = jg_sa G a := by
  have h64 : a < 64 := by
    by_cases h : 64 ≤ a
    · rcases ht with ht | ht <;> subst ht <;> rcases hM.2.2.2.1 a _ n h ha with ⟨h3, -⟩ | ⟨h3, -⟩ | h3 <;> exact absurd h3 (by decide)
    · exact Nat.not_le.mp h
  exact ⟨h64, by unfold jr; rw [if_pos h64]⟩
theorem jw_getw (X : JX G p R s m meth c cc nL n0 w0 nE wE own ini) {S S' : JS} {ix : Nat} {o : JO} (ho : jt_wl own ix = some o) (hd : decode cc pc = .ok (.getfield ix, 3)) (h : jx_op o S = some S') (k : JK G p e R s m args below meth c nL n0 w0 nE wE Q (pc + 3) S') : JK G p e R s m args below meth c nL n0 w0 nE wE Q pc S := by
  obtain ⟨hx, hb, hml, hown, hG, hRc, hRs, hini⟩ := id X
  obtain ⟨L, st0, σ⟩ := S
  have hm := jt_look ho
  simp only [jt_wls, List.mem_cons, Prod.mk.injEq, List.not_mem_nil, or_false] at hm
  rcases hm with ⟨⟨rfl, rfl⟩, rfl⟩ | ⟨⟨rfl, rfl⟩, rfl⟩ | ⟨⟨rfl, rfl⟩, rfl⟩ | ⟨⟨rfl, rfl⟩, rfl⟩ | ⟨⟨rfl, rfl⟩, rfl⟩
  · obtain ⟨a, n, st, hs, ha, rfl⟩ := jo_getJ_i (ci := 50) (k := 1) h
    have hs : st0 = _ := hs
    subst hs
    refine jk_st (fun H locs ls cells slots _ hM k9 => ?_) k
    obtain ⟨h64, hr⟩ := jw_wt hM ha (Or.inl rfl)
    show W p (jg_l G) e R s m args below meth c H locs cells slots Q (F0 m pc ls (.ref (jr G a) :: _))
    rw [hr]
    exact jw_of X hM ((hM.2.2.2.2.1 a _ n h64 ha).2.1 rfl).2.2.1 (Or.inl (jx_word hG (List.mem_of_getElem? (i := 2026) (by decide +kernel)) rfl rfl)) hd k9
  · obtain ⟨a, n, st, hs, ha, rfl⟩ := jo_getI_i (ci := 50) (k := 2) h
    have hs : st0 = _ := hs
    subst hs
    refine jk_st (fun H locs ls cells slots _ hM k9 => ?_) k
    obtain ⟨h64, hr⟩ := jw_wt hM ha (Or.inl rfl)
    show W p (jg_l G) e R s m args below meth c H locs cells slots Q (F0 m pc ls (.ref (jr G a) :: _))
    rw [hr]
    exact jw_of X hM ((hM.2.2.2.2.1 a _ n h64 ha).2.1 rfl).2.2.2 (Or.inr ⟨"CellarTurns", jx_word hG (List.mem_of_getElem? (i := 2030) (by decide +kernel)) rfl rfl⟩) hd k9
  · obtain ⟨a, n, st, hs, ha, rfl⟩ := jo_getI_i (ci := 50) (k := 0) h
    have hs : st0 = _ := hs
    subst hs
    refine jk_st (fun H locs ls cells slots _ hM k9 => ?_) k
    obtain ⟨h64, hr⟩ := jw_wt hM ha (Or.inl rfl)
    show W p (jg_l G) e R s m args below meth c H locs cells slots Q (F0 m pc ls (.ref (jr G a) :: _))
    rw [hr]
    exact jw_of X hM ((hM.2.2.2.2.1 a _ n h64 ha).2.1 rfl).2.1 (Or.inl (jx_word hG (List.mem_of_getElem? (i := 2029) (by decide +kernel)) rfl rfl)) hd k9
  · obtain ⟨a, n, st, hs, ha, rfl⟩ := jo_getI_i (ci := 51) (k := 0) h
    have hs : st0 = _ := hs
    subst hs
    refine jk_st (fun H locs ls cells slots _ hM k9 => ?_) k
    obtain ⟨h64, hr⟩ := jw_wt hM ha (Or.inr rfl)
    show W p (jg_l G) e R s m args below meth c H locs cells slots Q (F0 m pc ls (.ref (jr G a) :: _))
    rw [hr]
    exact jw_of X hM ((hM.2.2.2.2.1 a _ n h64 ha).2.2.2.2.2 rfl).2.1 (Or.inl (jx_word hG (List.mem_of_getElem? (i := 2027) (by decide +kernel)) rfl rfl)) hd k9
  · obtain ⟨a, n, st, hs, ha, rfl⟩ := jo_getR_i (ci := 51) (k := 1) h
    have hs : st0 = _ := hs
    subst hs
    refine jk_st (fun H locs ls cells slots _ hM k9 => ?_) k
    obtain ⟨h64, hr⟩ := jw_wt hM ha (Or.inr rfl)
    show W p (jg_l G) e R s m args below meth c H locs cells slots Q (F0 m pc ls (.ref (jr G a) :: _))
    rw [hr]
    exact jw_of X hM ((hM.2.2.2.2.1 a _ n h64 ha).2.2.2.2.2 rfl).2.2 (Or.inl (jx_word hG (List.mem_of_getElem? (i := 2028) (by decide +kernel)) rfl rfl)) hd k9
theorem jw_zs {C nm d : String} {ix : Nat} {v : Value} {H : Heap} {locs : List Loc} {cells slots : Nat} {ls : Array Slot} {rest : List Value} (X : JX G p R s m meth c cc nL n0 w0 nE wE own ini) (hM : jm G σ s H) (hZ : va_Z C nm d v (jt_A G) s (jg_H G)) (hl : (Cond.fieldLink (jt_own.getD own "") ix C nm d).before args s = true) (hd : decode cc pc = .ok (.getstatic ix, 3))
    (kk : W p (jg_l G) e R s m args below meth c H locs cells slots Q (F0 m (pc + 3) ls (v :: rest))) : W p (jg_l G) e R s m args below meth c H locs cells slots Q (F0 m pc ls rest) := by
  obtain ⟨hx, hb, hml, hown, hG, -⟩ := X
  obtain ⟨cf, kf, fi, f, a, cell, g1, g2, g3, g4, g5, g6, g7, g8⟩ := hZ
  rw [← jm_old hM g8] at g5
  exact W.gets hx hb hown hl g1 g2 g3 g4 g5 (fun q => by rw [q] at g6; cases g6) g7 rfl hd kk
theorem jt_gs_ok : ∀ q ∈ jt_gss.zip jt_gsx, lw_tbl[q.2]? = some (.fieldLink (jt_own.getD q.1.1.1 "") q.1.1.2 (jt_sq q.1.2).1 (jt_sq q.1.2).2.1 (jt_sq q.1.2).2.2.1) ∧ jt_sts[q.1.2]? = some (jt_sq q.1.2) ∧ (jt_sq q.1.2).2.2.2 < 64 := by decide +kernel
theorem jw_getstatic (X : JX G p R s m meth c cc nL n0 w0 nE wE own ini) {S S' : JS} {ix kk : Nat} (ho : jt_gs own ix = some kk) (hd : decode cc pc = .ok (.getstatic ix, 3)) (h : jo_stat (jt_sq kk).2.2.2 S = some S') (k : JK G p e R s m args below meth c nL n0 w0 nE wE Q (pc + 3) S') : JK G p e R s m args below meth c nL n0 w0 nE wE Q pc S := by
  obtain ⟨L, st0, σ⟩ := S
  cases h
  obtain ⟨n, hn⟩ := jt_zip (x := jt_gsx) (by decide +kernel) (jt_look ho)
  obtain ⟨h1, h2, h3⟩ := jt_gs_ok _ hn
  have hG := X.2.2.2.2.1
  refine jk_st (fun H locs ls cells slots _ hM k9 => ?_) k
  have hr : jr G (jt_sq kk).2.2.2 = jg_sa G (jt_sq kk).2.2.2 := by unfold jr; rw [if_pos h3]
  have k9 : W p (jg_l G) e R s m args below meth c H locs cells slots Q (F0 m (pc + 3) ls (.ref (jr G (jt_sq kk).2.2.2) :: st0.map (jv G))) := k9
  rw [hr] at k9
  exact jw_zs X hM (hG.2.2.2.2.1 _ (List.mem_of_getElem? h2)) (jx_word hG (List.mem_of_getElem? h1) rfl rfl) hd k9
theorem jw_getcs (X : JX G p R s m meth c cc nL n0 w0 nE wE own ini) {S S' : JS} (ho : own = 18) (hd : decode cc pc = .ok (.getstatic 38, 3)) (h : jo_ipush 1 S = some S') (k : JK G p e R s m args below meth c nL n0 w0 nE wE Q (pc + 3) S') : JK G p e R s m args below meth c nL n0 w0 nE wE Q pc S := by
  obtain ⟨L, st0, σ⟩ := S
  cases h
  subst ho
  have hG := X.2.2.2.2.1
  refine jk_st (fun H locs ls cells slots _ hM k9 => ?_) k
  exact jw_zs X hM hG.2.2.2.2.2.2.1 (jx_word hG (List.mem_of_getElem? (i := 667) (by decide +kernel)) rfl rfl) hd k9
end JW
end
section
/-! ===== new cells; a step's law ===== -/
theorem jt_def : ∀ ci, ci < 12 → ∀ k, k < jt_N ci → defaultValue (jt_ty ci k) = (match jt_k (jt_ty ci k) with | 0 => Value.int 0 | 1 => Value.long 0 | _ => Value.null) := by decide +kernel
theorem jt_arrs : ∀ t ∈ [FieldType.int, FieldType.long, FieldType.byte, FieldType.boolean], Cond.arrayClass t ∈ lw_tbl := by decide +kernel
section JW
variable {G : JG} {p : Program} {e : Env} {R : Room} {s : State} {m : MethodId} {args : Array Value} {below : List Frame} {meth : Method} {c : Code} {cc : ByteArray} {n0 w0 nE wE nL own : Nat} {ini : Bool} {Q : State → Prop} {pc : Nat} {σ : JH} {H : Heap} {locs : List Loc} {cells slots : Nat} {ls : Array Slot} {rest : List Value}
theorem jh_new_n (σ : JH) (t n : Nat) : jh_n (jh_new σ t n) = jh_n σ + 1 := by unfold jh_n jh_new; simp
theorem jh_new_w (σ : JH) (t n : Nat) : jh_w (jh_new σ t n) = jh_w σ + n := by unfold jh_w jh_new; simp
theorem jf_new {σ : JH} {t n j : Nat} {ty : FieldType} : jf (jh_new σ t n) (jh_n σ) j ty = (match jt_k ty with | 0 => Value.int 0 | 1 => Value.long 0 | _ => Value.null) := by
  unfold jf jh_new jh_n
  simp only [if_pos]
  rfl
theorem jk_new {pc pc' : Nat} {L : JL} {st st' : List Value} {σ : JH} {t n : Nat} (hcl : jh_clean σ = true) (X : JX G p R s m meth c cc nL n0 w0 nE wE own ini)
    (h : ∀ (H : Heap) (locs : List Loc) (ls : Array Slot) (cells slots : Nat), jm G σ s H → cells + 1 ≤ R.cells → slots + n ≤ R.slots → (∀ (H' : Heap), jm G (jh_new σ t n) s H' → W p (jg_l G) e R s m args below meth c H' locs (cells + 1) (slots + n) Q (F0 m pc' ls (.ref H.size :: st'.map (jv G)))) → W p (jg_l G) e R s m args below meth c H locs cells slots Q (F0 m pc ls (st.map (jv G))))
    (k : JK G p e R s m args below meth c nL n0 w0 nE wE Q pc' (L, .ref σ.1.length :: st', jh_new σ t n)) : JK G p e R s m args below meth c nL n0 w0 nE wE Q pc (L, st, σ) := by
  obtain ⟨k1, k2, k3⟩ := k
  have e1 := jh_new_n σ t n
  have e2 := jh_new_w σ t n
  simp only [e1, e2] at k1 k2 k3
  refine ⟨by show jh_n σ ≤ nE; omega, by show jh_w σ ≤ wE; omega, fun H locs ls h1 h2 h3 h4 h5 => ?_⟩
  have h1' : n0 ≤ jh_n σ := h1
  have h2' : w0 ≤ jh_w σ := h2
  refine h H locs ls _ _ h3 (by rw [X.2.2.2.2.2.1]; show jh_n σ - n0 + 1 ≤ _; omega) (by rw [X.2.2.2.2.2.2.1]; show jh_w σ - w0 + n ≤ _; omega) fun H' hM => ?_
  have h9 := k3 H' locs ls (by omega) (by omega) hM h4 h5
  rw [show jh_n σ + 1 - n0 = jh_n σ - n0 + 1 by omega, show jh_w σ + n - w0 = jh_w σ - w0 + n by omega] at h9
  have h10 : jv G (.ref σ.1.length) = .ref H.size := congrArg Value.ref (jr_new hcl h3)
  rw [List.map_cons, h10] at h9
  exact h9
theorem jw_new (X : JX G p R s m meth c cc nL n0 w0 nE wE own ini) {S S' : JS} {ix ci : Nat} (hl : jt_nw own ix = some ci) (hd : decode cc pc = .ok (.new ix, 3)) (h : jo_new ci S = some S') (k : JK G p e R s m args below meth c nL n0 w0 nE wE Q (pc + 3) S') : JK G p e R s m args below meth c nL n0 w0 nE wE Q pc S := by
  obtain ⟨hx, hb, hml, hown, hG, hRc, hRs, hini⟩ := id X
  obtain ⟨L, st0, σ⟩ := S
  obtain ⟨hcl, rfl⟩ := jo_new_i h
  obtain ⟨hw, hci⟩ := jt_nw_at hl
  have hin := (jt_ix_ok ci hci)
  refine jk_new hcl X (fun H locs ls cells slots hM hc hs kk => ?_) k
  have hKn := hG.2.1.1 ci _ (jt_cls_at hci)
  refine W.newcK hx hb hown (jx_word hG hw rfl rfl) (jx_word hG (List.mem_of_getElem? hin.1) rfl rfl) (jx_word hG (List.mem_of_getElem? hin.2) rfl rfl) rfl hd hc hs hKn.2.1 rfl fun H' kC hkC e1 e2 e3 => ?_
  refine kk H' (jm_new hcl hM e2 e3 (Or.inl ⟨hci, rfl, ?_⟩))
  have h1 := u_born (args := #[]) (jt_ty ci) (jx_lays hG hci) (fun _ h => h) hKn hkC e1 (jt_ty_ok ci hci)
  rw [jr_new hcl hM]
  exact h1.to (fun k hk => by rw [jf_new, jt_def ci hci k hk]; cases jt_ty ci k <;> rfl)
theorem jw_newarray (X : JX G p R s m meth c cc nL n0 w0 nE wE own ini) {S S' : JS} {t : Nat} {aty : ArrayType} (ht : (aty = .int ∧ t = 100) ∨ (aty = .long ∧ t = 101) ∨ (aty = .byte ∧ t = 102) ∨ (aty = .boolean ∧ t = 103)) (hd : decode cc pc = .ok (.newarray aty, 2)) (h : jo_newa t S = some S') (k : JK G p e R s m args below meth c nL n0 w0 nE wE Q (pc + 2) S') : JK G p e R s m args below meth c nL n0 w0 nE wE Q pc S := by
  obtain ⟨hx, hb, hml, hown, hG, hRc, hRs, hini⟩ := id X
  obtain ⟨L, st0, σ⟩ := S
  obtain ⟨n, st, hs, hn, hle, hcl, rfl⟩ := jo_newa_i h
  have hs : st0 = _ := hs
  subst hs
  refine jk_new hcl X (fun H locs ls cells slots hM hc hs kk => ?_) k
  have hty : newarray.typeOf aty = jt_at t := by rcases ht with ⟨rfl, rfl⟩ | ⟨rfl, rfl⟩ | ⟨rfl, rfl⟩ | ⟨rfl, rfl⟩ <;> rfl
  have hmem : Cond.arrayClass (newarray.typeOf aty) ∈ lw_tbl := jt_arrs _ (by rcases ht with ⟨rfl, rfl⟩ | ⟨rfl, rfl⟩ | ⟨rfl, rfl⟩ | ⟨rfl, rfl⟩ <;> decide)
  have h100 : 100 ≤ t ∧ t ≤ 104 := by rcases ht with ⟨rfl, rfl⟩ | ⟨rfl, rfl⟩ | ⟨rfl, rfl⟩ | ⟨rfl, rfl⟩ <;> decide
  have hbytes : n.toNatClampNeg * componentBytes (newarray.typeOf aty) ≤ 536870912 := by
    refine Nat.le_trans (Nat.mul_le_mul_right _ hle) ?_
    rcases ht with ⟨rfl, rfl⟩ | ⟨rfl, rfl⟩ | ⟨rfl, rfl⟩ | ⟨rfl, rfl⟩ <;> decide
  refine va_newaK hx hb (by have h9 := hG.1 _ hmem rfl; exact h9) rfl hd rfl hn rfl hbytes hc hs rfl fun H' cA e1 e2 e3 hA hNm => ?_
  have hcA : cA = jg_A G t := by
    have h2 := (hG.2.2.1 t h100.1 h100.2).2
    rw [hty] at hNm
    refine Option.some.inj (hNm.symm.trans ?_)
    rcases ht with ⟨rfl, rfl⟩ | ⟨rfl, rfl⟩ | ⟨rfl, rfl⟩ | ⟨rfl, rfl⟩ <;> exact h2
  refine kk H' (jm_new hcl hM e2 e3 (Or.inr (Or.inl ⟨h100.1, h100.2, ?_⟩)))
  rw [jr_new hcl hM, e1, hcA]
  congr 2
  funext j
  rw [jf_new, hty]
  rcases ht with ⟨rfl, rfl⟩ | ⟨rfl, rfl⟩ | ⟨rfl, rfl⟩ | ⟨rfl, rfl⟩ <;> rfl
theorem jw_anewarray (X : JX G p R s m meth c cc nL n0 w0 nE wE own ini) {S S' : JS} {ix : Nat} (hl : jt_nw own ix = some 3) (hd : decode cc pc = .ok (.anewarray ix, 3)) (h : jo_newa 104 S = some S') (k : JK G p e R s m args below meth c nL n0 w0 nE wE Q (pc + 3) S') : JK G p e R s m args below meth c nL n0 w0 nE wE Q pc S := by
  obtain ⟨hx, hb, hml, hown, hG, hRc, hRs, hini⟩ := id X
  obtain ⟨L, st0, σ⟩ := S
  obtain ⟨n, st, hs, hn, hle, hcl, rfl⟩ := jo_newa_i h
  have hs : st0 = _ := hs
  subst hs
  obtain ⟨hw, hci⟩ := jt_nw_at hl
  refine jk_new hcl X (fun H locs ls cells slots hM hc hs kk => ?_) k
  refine W.anew hx hb hown (C := "CellarTurns$Muddle") (jx_word hG hw rfl rfl) (va_AO.use hG.2.2.2.1) rfl hd rfl hn (Nat.le_trans (Nat.mul_le_mul_right _ hle) (by decide)) hc hs fun cA kA comp g1 g2 g3 g4 => ?_
  have hcA : cA = jg_A G 104 := by
    obtain ⟨kA', comp', f1, f2, f3, f4⟩ := (hG.2.2.1 104 (by decide) (by decide)).2
    exact Option.some.inj (g1.symm.trans f4)
  refine kk _ (jm_new hcl hM (by simp) (fun q hq => by rw [Array.getElem?_push, if_neg (Nat.ne_of_lt hq)]) (Or.inr (Or.inl ⟨by decide, by decide, ?_⟩)))
  rw [jr_new hcl hM, Array.getElem?_push, if_pos rfl, hcA, arrV_new]
  congr 2
  funext j
  rw [jf_new]
  rfl
theorem jw_step (X : JX G p R s m meth c cc nL n0 w0 nE wE own ini) {i : Instr} {o : JO} (ho : jx_of own ini i = some o) (hd : decode cc pc = .ok (i, jx_len i)) {S S' : JS} (h : jx_op o S = some S') (k : JK G p e R s m args below meth c nL n0 w0 nE wE Q (pc + jx_len i) S') : JK G p e R s m args below meth c nL n0 w0 nE wE Q pc S := by
  cases i with
  | iconst n => cases ho; exact jw_iconst X hd h k
  | bipush n => cases ho; exact jw_bipush X hd h k
  | sipush n => cases ho; exact jw_sipush X hd h k
  | lconst n => cases ho; exact jw_lconst X hd h k
  | ldc ix =>
    simp only [jx_of] at ho
    split at ho
    · rename_i v hv; cases ho; exact jw_ldc X hv hd h k
    · split at ho
      · rename_i hq; cases ho; obtain ⟨h1, h2⟩ := hq; subst h2; exact jw_ldcs X h1 hd h k
      · cases ho
  | ldc_w ix =>
    simp only [jx_of] at ho
    split at ho
    · rename_i v hv; cases ho; exact jw_ldc_w X hv hd h k
    · cases ho
  | ldc2_w ix =>
    simp only [jx_of] at ho
    split at ho
    · rename_i v hv; cases ho; exact jw_ldc2 X hv hd h k
    · cases ho
  | iload i => cases ho; exact jw_iload X hd h k
  | iload_n i => cases ho; exact jw_iload_n X hd h k
  | lload i => cases ho; exact jw_lload X hd h k
  | lload_n i => cases ho; exact jw_lload_n X hd h k
  | aload i => cases ho; exact jw_aload X hd h k
  | aload_n i => cases ho; exact jw_aload_n X hd h k
  | istore i => cases ho; exact jw_istore X hd h k
  | istore_n i => cases ho; exact jw_istore_n X hd h k
  | lstore i => cases ho; exact jw_lstore X hd h k
  | lstore_n i => cases ho; exact jw_lstore_n X hd h k
  | astore i => cases ho; exact jw_astore X hd h k
  | astore_n i => cases ho; exact jw_astore_n X hd h k
  | iinc i n => cases ho; exact jw_iinc X hd h k
  | iadd => cases ho; exact jw_iadd X hd h k
  | isub => cases ho; exact jw_isub X hd h k
  | imul => cases ho; exact jw_imul X hd h k
  | idiv => cases ho; exact jw_idiv X hd h k
  | irem => cases ho; exact jw_irem X hd h k
  | ineg => cases ho; exact jw_ineg X hd h k
  | iand => cases ho; exact jw_iand X hd h k
  | ior => cases ho; exact jw_ior X hd h k
  | ixor => cases ho; exact jw_ixor X hd h k
  | ishl => cases ho; exact jw_ishl X hd h k
  | ishr => cases ho; exact jw_ishr X hd h k
  | iushr => cases ho; exact jw_iushr X hd h k
  | ladd => cases ho; exact jw_ladd X hd h k
  | lsub => cases ho; exact jw_lsub X hd h k
  | lmul => cases ho; exact jw_lmul X hd h k
  | ldiv => cases ho; exact jw_ldiv X hd h k
  | lrem => cases ho; exact jw_lrem X hd h k
  | land => cases ho; exact jw_land X hd h k
  | lor => cases ho; exact jw_lor X hd h k
  | lxor => cases ho; exact jw_lxor X hd h k
  | lshl => cases ho; exact jw_lshl X hd h k
  | lshr => cases ho; exact jw_lshr X hd h k
  | lushr => cases ho; exact jw_lushr X hd h k
  | lcmp => cases ho; exact jw_lcmp X hd h k
  | i2l => cases ho; exact jw_i2l X hd h k
  | l2i => cases ho; exact jw_l2i X hd h k
  | i2b => cases ho; exact jw_i2b X hd h k
  | i2c => cases ho; exact jw_i2c X hd h k
  | getfield ix =>
    simp only [jx_of] at ho
    split at ho
    · rename_i o' hv; cases ho; exact jw_getw X hv hd h k
    · exact jw_getfield X ho hd h k
  | getstatic ix =>
    simp only [jx_of] at ho
    split at ho
    · rename_i v hv; cases ho; exact jw_getstatic X hv hd h k
    · split at ho
      · rename_i hq; cases ho; obtain ⟨h1, h2⟩ := hq; subst h2; exact jw_getcs X h1 hd h k
      · cases ho
  | putfield ix => exact jw_putfield X ho hd h k
  | iaload => cases ho; exact jw_iaload X hd h k
  | laload => cases ho; exact jw_laload X hd h k
  | baload => cases ho; exact jw_baload X hd h k
  | aaload => cases ho; exact jw_aaload X hd h k
  | iastore => cases ho; exact jw_iastore X hd h k
  | lastore => cases ho; exact jw_lastore X hd h k
  | bastore => cases ho; exact jw_bastore X hd h k
  | aastore => cases ho; exact jw_aastore X hd h k
  | arraylength => cases ho; exact jw_arraylength X hd h k
  | new ix =>
    simp only [jx_of] at ho
    split at ho
    · rename_i v hv; cases ho; exact jw_new X hv hd h k
    · cases ho
  | newarray t =>
    cases t with
    | int => cases ho; exact jw_newarray X (Or.inl ⟨rfl, rfl⟩) hd h k
    | long => cases ho; exact jw_newarray X (Or.inr (Or.inl ⟨rfl, rfl⟩)) hd h k
    | byte => cases ho; exact jw_newarray X (Or.inr (Or.inr (Or.inl ⟨rfl, rfl⟩))) hd h k
    | boolean => cases ho; exact jw_newarray X (Or.inr (Or.inr (Or.inr ⟨rfl, rfl⟩))) hd h k
    | _ => cases ho
  | anewarray ix =>
    simp only [jx_of] at ho
    split at ho
    · rename_i hv; cases ho; exact jw_anewarray X hv hd h k
    · cases ho
  | dup => cases ho; exact jw_dup X hd h k
  | pop => cases ho; exact jw_pop X hd h k
  | dup2 => cases ho; exact jw_dup2 X hd h k
  | dup_x1 => cases ho; exact jw_dup_x1 X hd h k
  | _ => cases ho
end JW
end
section
/-! ===== methods: what a call of one does, as a function ===== -/
section JW
variable {G : JG} {p : Program} {e : Env} {R : Room} {s : State} {m : MethodId} {args : Array Value} {below : List Frame} {meth : Method} {c : Code} {cc : ByteArray} {n0 w0 nE wE nL own : Nat} {ini : Bool} {Q : State → Prop} {pc : Nat} {σ : JH} {H : Heap} {locs : List Loc} {cells slots : Nat} {ls : Array Slot} {rest : List Value}
theorem jt_warm {w : Cond} {s U : State} (hg : jt_gw w = true) (hW : s.WarmedH U.vm) (h : w.before #[] s = true) : w.before #[] U = true := by
  unfold jt_gw at hg
  rw [Bool.or_eq_true] at hg
  rcases hg with hg | hg
  · exact word_at hW (good_of_word hg) h
  · split at hg
    · exact va_Nw.warmF hW h
    · exact va_Nw.warmM hW h
    · exact va_Nw.warmD hW h
    · exact va_Nw.warmC hW h
    · cases hg
theorem JGl.warm {s U : State} (h : JGl G s) (hW : s.WarmedH U.vm) : JGl G U := by
  obtain ⟨h1, h2, h3, h4, h5, h6, h7, h8, h9, h10⟩ := h
  exact ⟨fun w hw hg => jt_warm hg hW (h1 w hw hg), va_K.moved hW.alike h2, fun t a b => ⟨arrOfT_moved hW.alike (h3 t a b).1, (h3 t a b).2.moved hW.alike⟩, va_AO.moved hW.alike h4, fun q hq => va_Z.moved hW.alike (h5 q hq), h6, va_Z.moved hW.alike h7, fun q hq => vk_R.warm hW (h8 q hq), vx_Zq.moved hW.alike h9, vx_Zq.moved hW.alike h10⟩
theorem jst.moved {u U : State} (hvm : u.vm.Alike U.vm) (h : jst G σ u) : jst G σ U := by
  intro i t n hi hx
  obtain ⟨h1, h2, h3, h4, h5, h6⟩ := h i t n hi hx
  refine ⟨h1, fun ht => ?_, fun ht => va_T.moved hvm (h3 ht), fun ht => va_T.moved hvm (h4 ht), fun ht => va_T.moved hvm (h5 ht), fun ht => ?_⟩
  · obtain ⟨g1, g2, g3, g4⟩ := h2 ht
    exact ⟨va_O.moved hvm g1, va_OF.moved hvm g2, va_OF.moved hvm g3, va_OF.moved hvm g4⟩
  · obtain ⟨g1, g2, g3⟩ := h6 ht
    exact ⟨va_O.moved hvm g1, va_OF.moved hvm g2, va_OF.moved hvm g3⟩
theorem jm.moved {u U : State} (hvm : u.vm.Alike U.vm) (h : jm G σ u H) : jm G σ U H := by
  obtain ⟨h1, h2, h3, h4, h5, h6⟩ := h
  exact ⟨h1, h2, h3, h4, jst.moved hvm h5, h6⟩
def JPc (G : JG) (av : List Value) (σ : JH) : Array Value → State → Prop := fun a U => a = (av.map (jv G)).toArray ∧ jm G σ U U.heap ∧ JGl G U
def JQc (G : JG) (v : Option Value) (σ' : JH) : Array Value → State → Outcome → State → Prop := fun _ _ o t => o = .returned (v.map (jv G)) ∧ jm G σ' t t.heap
def jrm (d k n : Nat) : Room := { frames := d, cells := k, slots := n, locals := 64 * d }
/-- a call of y does what f says, with d frames at most -/
def JSem (G : JG) (y : MethodName) (cc : ByteArray) (maxL : Nat) (ret : Option FieldType) (d : Nat) (f : JF) : Prop :=
  ∀ (av : List Value) (σ : JH) (v : Option Value) (σ' : JH), f av σ = some (v, σ') → jh_n σ ≤ jh_n σ' ∧ jh_w σ ≤ jh_w σ' ∧
    Met (jg_l G) y [Cond.code y cc maxL ret] (jrm d (jh_n σ' - jh_n σ) (jh_w σ' - jh_w σ)) (JPc G av σ) (JQc G v σ') (jh_n σ' - jh_n σ) (jh_w σ' - jh_w σ) (fun q => jg_sz G ≤ q)
def JD (R : Room) (d : Nat) : Prop := d ≤ R.frames ∧ 64 * d ≤ R.locals
theorem jpc_blind {av : List Value} : FrameBlind (JPc G av σ) := by
  intro a U g mk h
  obtain ⟨h1, h2, h3⟩ := h
  refine ⟨h1, ?_, ?_⟩
  · exact jm.moved (u := U) (U := U.calling g mk a) (Vm.Alike.refl U.vm) h2
  · obtain ⟨g1, g2, g3, g4, g5, g6, g7, g8, g9, g10⟩ := h3
    have hvm : (U.calling g mk a).vm = U.vm := rfl
    refine ⟨fun w hw hg => ?_, va_K.moved (u := U) (Vm.Alike.refl U.vm) g2, fun t a1 b1 => ⟨arrOfT_moved (u := U) (Vm.Alike.refl U.vm) (g3 t a1 b1).1, (g3 t a1 b1).2.moved (u := U) (Vm.Alike.refl U.vm)⟩, va_AO.moved (u := U) (Vm.Alike.refl U.vm) g4, fun q hq => va_Z.moved (u := U) (Vm.Alike.refl U.vm) (g5 q hq), g6, va_Z.moved (u := U) (Vm.Alike.refl U.vm) g7, fun q hq => vk_R.same (u := U) rfl (g8 q hq), vx_Zq.moved (u := U) (Vm.Alike.refl U.vm) g9, vx_Zq.moved (u := U) (Vm.Alike.refl U.vm) g10⟩
    have hb := g1 w hw hg
    by_cases ht : w.onTables = true
    · exact va_tabs ht hvm.symm hb
    · cases w <;> first | exact hb | (exact absurd rfl ht) | (cases hg)
/-- behind a call -/
theorem jk_call {y : MethodName} {cY : ByteArray} {maxL d : Nat} {ret : Option FieldType} {f : JF} {av : List Value} {L : JL} {st st0 : List Value} {v : Option Value} {σ' : JH} (X : JX G p R s m meth c cc nL n0 w0 nE wE own ini) (hS : JSem G y cY maxL ret d f) (hf : f av σ = some (v, σ'))
    (hr : ∀ (H : Heap) (locs : List Loc) (ls : Array Slot) (cells slots : Nat), ls.size = nL → jm G σ s H → Met (jg_l G) y [Cond.code y cY maxL ret] (jrm d (jh_n σ' - jh_n σ) (jh_w σ' - jh_w σ)) (JPc G av σ) (JQc G v σ') (jh_n σ' - jh_n σ) (jh_w σ' - jh_w σ) (fun q => jg_sz G ≤ q) →
      cells + (jh_n σ' - jh_n σ) ≤ R.cells ∧ slots + (jh_w σ' - jh_w σ) ≤ R.slots → (∀ U : State, U.heap = H → s.WarmedH U.vm → JPc G av σ (av.map (jv G)).toArray U) →
      va_Run p (jg_l G) e R s m args below meth c H locs cells slots (jh_n σ' - jh_n σ) (jh_w σ' - jh_w σ) (F0 m pc ls (st0.map (jv G))) (st.map (jv G)) (JQc G v σ' (av.map (jv G)).toArray) (fun q => jg_sz G ≤ q))
    (k : JK G p e R s m args below meth c nL n0 w0 nE wE Q (pc + 3) (L, v.toList ++ st, σ')) : JK G p e R s m args below meth c nL n0 w0 nE wE Q pc (L, st0, σ) := by
  obtain ⟨hn, hw, hM⟩ := hS av σ v σ' hf
  obtain ⟨k1, k2, k3⟩ := k
  have k1 : jh_n σ' ≤ nE := k1
  have k2 : jh_w σ' ≤ wE := k2
  refine ⟨Nat.le_trans hn k1, Nat.le_trans hw k2, fun H locs ls h1 h2 h3 h4 h5 => ?_⟩
  have h1 : n0 ≤ jh_n σ := h1
  have h2 : w0 ≤ jh_w σ := h2
  have hcap : (jh_n σ - n0) + (jh_n σ' - jh_n σ) ≤ R.cells ∧ (jh_w σ - w0) + (jh_w σ' - jh_w σ) ≤ R.slots := by
    rw [X.2.2.2.2.2.1, X.2.2.2.2.2.2.1]
    omega
  have hrun := hr H locs ls (jh_n σ - n0) (jh_w σ - w0) h5.1 h3 hM hcap (fun U hU hWm => ⟨rfl, by rw [hU]; exact jm.moved hWm.alike h3, X.2.2.2.2.1.warm hWm⟩)
  intro T hT X0
  obtain ⟨v', st₀, t, T', L', e0, X', hL, e1, e2, hQ, hgo⟩ := hrun T hT X0
  obtain ⟨q1, q2⟩ := hQ
  have q1 : v' = v.map (jv G) := Outcome.returned.inj q1
  subst q1
  have hMt : jm G σ' s T'.heap := by
    rw [e1]
    exact jm.moved (by rw [← e2]; exact X'.warmed.alike.symm) q2
  have h9 := k3 T'.heap (locs ++ L') ls (Nat.le_trans h1 hn) (Nat.le_trans h2 hw) hMt (fun q hq => by
    rcases List.mem_append.mp hq with h | h
    · exact h4 q h
    · exact hL q h) h5
  have ec : (jh_n σ - n0) + (jh_n σ' - jh_n σ) = jh_n σ' - n0 := by omega
  have ew : (jh_w σ - w0) + (jh_w σ' - jh_w σ) = jh_w σ' - w0 := by omega
  rw [ec, ew] at X'
  obtain ⟨t2, a1, b1⟩ := h9 T' rfl X'
  refine ⟨t2, hgo t2 ?_, b1⟩
  have es : (v.map (jv G)).toList ++ st.map (jv G) = (v.toList ++ st).map (jv G) := by cases v <;> simp
  show Steps p.tables e below (T'.setTop { method := m, pc := pc + 3, locals := ls, stack := (v.map (jv G)).toList ++ st.map (jv G), locked := none }) t2
  rw [es]
  exact a1
end JW
end
section
/-! ===== pieces of code without a branch, and calls ===== -/
/-- nothing that was made goes -/
def jmono (σ σ' : JH) : Prop := jh_n σ ≤ jh_n σ' ∧ jh_w σ ≤ jh_w σ'
theorem jmono.rf (σ : JH) : jmono σ σ := ⟨Nat.le_refl _, Nat.le_refl _⟩
theorem jmono.tr {a b c : JH} (h : jmono a b) (h' : jmono b c) : jmono a c := ⟨Nat.le_trans h.1 h'.1, Nat.le_trans h.2 h'.2⟩
/-- F is what the code does from place i to place j -/
def JSl (G : JG) (own : Nat) (ini : Bool) (cc : ByteArray) (d nL i j : Nat) (F : JN) : Prop :=
  (∀ S S', F S = some S' → jmono S.2.2 S'.2.2) ∧
  ∀ (p : Program) (e : Env) (R : Room) (s : State) (m : MethodId) (args : Array Value) (below : List Frame) (meth : Method) (c : Code) (n0 w0 nE wE : Nat) (Q : State → Prop),
    JX G p R s m meth c cc nL n0 w0 nE wE own ini → JD R d → ∀ S S', F S = some S' → JK G p e R s m args below meth c nL n0 w0 nE wE Q j S' → JK G p e R s m args below meth c nL n0 w0 nE wE Q i S
def jn (F F' : JN) : JN := fun s => (F s).bind F'
def jx_cv (n ci : Nat) (f : JF) : JN := fun s => match (s.2.1.take n).reverse with
  | .ref a :: r => match s.2.2.1[a]? with
    | some (t, _) => if t = ci ∧ ((s.2.1.drop n).map (fun v => v.category)).sum ≤ 8 ∧ r.length + 1 = n then (f (.ref a :: r) s.2.2).bind (fun q => some (s.1, q.1.toList ++ s.2.1.drop n, q.2)) else none
    | none => none
  | _ => none
def jx_ci (n : Nat) (f : JF) : JN := fun s => match (s.2.1.take n).reverse with
  | .ref a :: r => if ((s.2.1.drop n).map (fun v => v.category)).sum ≤ 8 ∧ r.length + 1 = n then (f (.ref a :: r) s.2.2).bind (fun q => some (s.1, q.1.toList ++ s.2.1.drop n, q.2)) else none
  | _ => none
def jx_cs (n : Nat) (f : JF) : JN := fun s => if ((s.2.1.drop n).map (fun v => v.category)).sum ≤ 8 ∧ (s.2.1.take n).length = n then (f (s.2.1.take n).reverse s.2.2).bind (fun q => some (s.1, q.1.toList ++ s.2.1.drop n, q.2)) else none
/-- Object's own constructor -/
def jx_oi : JN := fun s => match s.2.1 with
  | .ref _ :: st => if (st.map (fun v => v.category)).sum ≤ 8 then some (s.1, st, s.2.2) else none
  | _ => none
def jx_end (own : Nat) (ini : Bool) (cc : ByteArray) : Nat → List JO → Option Nat
  | pc, [] => some pc
  | pc, o :: r => match decode cc pc with
    | .ok (i, len) => if jx_of own ini i = some o ∧ len = jx_len i then jx_end own ini cc (pc + len) r else none
    | .error _ => none
theorem jh_set_mono {σ σ' : JH} (h : σ'.1 = σ.1) : jmono σ σ' := by
  unfold jmono jh_n jh_w
  rw [h]
  exact ⟨Nat.le_refl _, Nat.le_refl _⟩
theorem jh_new_mono (σ : JH) (t n : Nat) : jmono σ (jh_new σ t n) := ⟨by rw [jh_new_n]; omega, by rw [jh_new_w]; omega⟩
theorem jx_op_mono {o : JO} {S S' : JS} (h : jx_op o S = some S') : jmono S.2.2 S'.2.2 := by
  obtain ⟨F, hF⟩ : ∃ F, jx_op o = F := ⟨_, rfl⟩
  rw [hF] at h
  unfold jx_op at hF
  split at hF <;> subst hF
  all_goals first
    | (exact absurd (show (none : Option JS) = some S' from h) (by simp))
    | (cases h; exact jmono.rf _)
    | (obtain ⟨x, h1, rfl⟩ := jo_iload_i h; exact jmono.rf _)
    | (obtain ⟨x, h1, rfl⟩ := jo_lload_i h; exact jmono.rf _)
    | (obtain ⟨x, h1, rfl⟩ := jo_aload_i h; exact jmono.rf _)
    | (obtain ⟨x, st, h1, h2, rfl⟩ := jo_istore_i h; exact jmono.rf _)
    | (obtain ⟨x, st, h1, h2, rfl⟩ := jo_lstore_i h; exact jmono.rf _)
    | (obtain ⟨x, st, h1, h2, rfl⟩ := jo_astore_i h; exact jmono.rf _)
    | (obtain ⟨x, h1, rfl⟩ := jo_iinc_i h; exact jmono.rf _)
    | (obtain ⟨x, y, st, h1, rfl⟩ := jo_ii_i h; exact jmono.rf _)
    | (obtain ⟨x, y, st, h1, h2, rfl⟩ := jo_id_i h; exact jmono.rf _)
    | (obtain ⟨x, st, h1, rfl⟩ := jo_i_i h; exact jmono.rf _)
    | (obtain ⟨x, y, st, h1, rfl⟩ := jo_ll_i h; exact jmono.rf _)
    | (obtain ⟨x, y, st, h1, h2, rfl⟩ := jo_lq_i h; exact jmono.rf _)
    | (obtain ⟨x, y, st, h1, rfl⟩ := jo_li_i h; exact jmono.rf _)
    | (obtain ⟨x, y, st, h1, rfl⟩ := jo_lcmp_i h; exact jmono.rf _)
    | (obtain ⟨x, st, h1, rfl⟩ := jo_i2l_i h; exact jmono.rf _)
    | (obtain ⟨x, st, h1, rfl⟩ := jo_l2i_i h; exact jmono.rf _)
    | (obtain ⟨a, n, st, h1, h2, rfl⟩ := jo_getI_i h; exact jmono.rf _)
    | (obtain ⟨a, n, st, h1, h2, rfl⟩ := jo_getJ_i h; exact jmono.rf _)
    | (obtain ⟨a, n, st, h1, h2, rfl⟩ := jo_getR_i h; exact jmono.rf _)
    | (obtain ⟨x, a, n, st, h1, h2, h3, h4, rfl⟩ := jo_putI_i h; exact jh_set_mono rfl)
    | (obtain ⟨x, a, n, st, h1, h2, rfl⟩ := jo_putJ_i h; exact jh_set_mono rfl)
    | (obtain ⟨x, a, n, st, h1, h2, rfl⟩ := jo_putR_i h; exact jh_set_mono rfl)
    | (obtain ⟨i, a, t, n, st, h1, h2, h3, h4, rfl⟩ := jo_ldI_i h; exact jmono.rf _)
    | (obtain ⟨i, a, n, st, h1, h2, h3, rfl⟩ := jo_ldJ_i h; exact jmono.rf _)
    | (obtain ⟨i, a, t, n, st, h1, h2, h3, h4, rfl⟩ := jo_ldR_i h; exact jmono.rf _)
    | (obtain ⟨x, i, a, n, st, h1, h2, h3, rfl⟩ := jo_stI_i h; exact jh_set_mono rfl)
    | (obtain ⟨x, i, a, n, st, h1, h2, h3, rfl⟩ := jo_stJ_i h; exact jh_set_mono rfl)
    | (obtain ⟨x, i, a, t, n, st, h1, h2, h3, h4, rfl⟩ := jo_stB_i h; exact jh_set_mono rfl)
    | (obtain ⟨x, i, a, n, st, h1, h2, h3, h4, rfl⟩ := jo_stR_i h; exact jh_set_mono rfl)
    | (obtain ⟨a, t, n, st, h1, h2, h3, rfl⟩ := jo_len_i h; exact jmono.rf _)
    | (obtain ⟨n, st, h1, h2, h3, h4, rfl⟩ := jo_newa_i h; exact jh_new_mono _ _ _)
    | (obtain ⟨h1, rfl⟩ := jo_new_i h; exact jh_new_mono _ _ _)
    | (obtain ⟨v, st, h1, h2, rfl⟩ := jo_dup_i h; exact jmono.rf _)
    | (obtain ⟨v, st, h1, h2, rfl⟩ := jo_pop_i h; exact jmono.rf _)
    | (obtain ⟨v, w, st, h1, h2, h3, rfl⟩ := jo_dup2_i h; exact jmono.rf _)
    | (obtain ⟨v, w, st, h1, h2, h3, rfl⟩ := jo_dupx1_i h; exact jmono.rf _)
section JW
variable {G : JG} {p : Program} {e : Env} {R : Room} {s : State} {m : MethodId} {args : Array Value} {below : List Frame} {meth : Method} {c : Code} {cc : ByteArray} {n0 w0 nE wE nL own d : Nat} {ini : Bool} {Q : State → Prop} {pc i j k : Nat} {σ : JH}
theorem jsl_run {ops : List JO} : ∀ {i : Nat}, jx_end own ini cc i ops = some j → JSl G own ini cc d nL i j (jx_run ops) := by
  induction ops with
  | nil =>
    intro i h
    cases h
    exact ⟨fun S S' h => by cases h; exact jmono.rf _, fun p e R s m args below meth c n0 w0 nE wE Q X D S S' h k => by cases h; exact k⟩
  | cons o r ih =>
    intro i h
    unfold jx_end at h
    split at h
    · rename_i ins len hd
      split at h
      · rename_i hc
        obtain ⟨h1, h2⟩ := hc
        subst h2
        have ih' := ih h
        refine ⟨fun S S' h => ?_, fun p e R s m args below meth c n0 w0 nE wE Q X D S S' h k => ?_⟩
        · obtain ⟨S1, g1, g2⟩ := Option.bind_eq_some_iff.mp h
          exact (jx_op_mono g1).tr (ih'.1 _ _ g2)
        · obtain ⟨S1, g1, g2⟩ := Option.bind_eq_some_iff.mp h
          exact jw_step X h1 hd g1 (ih'.2 p e R s m args below meth c n0 w0 nE wE Q X D S1 S' g2 k)
      · cases h
    · cases h
theorem jsl_n {F F' : JN} (h : JSl G own ini cc d nL i j F) (h' : JSl G own ini cc d nL j k F') : JSl G own ini cc d nL i k (jn F F') := by
  refine ⟨fun S S' q => ?_, fun p e R s m args below meth c n0 w0 nE wE Q X D S S' q kk => ?_⟩
  · obtain ⟨S1, g1, g2⟩ := Option.bind_eq_some_iff.mp q
    exact (h.1 _ _ g1).tr (h'.1 _ _ g2)
  · obtain ⟨S1, g1, g2⟩ := Option.bind_eq_some_iff.mp q
    exact h.2 p e R s m args below meth c n0 w0 nE wE Q X D S S1 g1 (h'.2 p e R s m args below meth c n0 w0 nE wE Q X D S1 S' g2 kk)
theorem jsl_oi {ix : Nat} (hl : Cond.methodLink (jt_own.getD own "") ix objectInit ∈ lw_tbl) (hd1 : 1 ≤ d) (hd : decode cc i = .ok (.invokespecial ix, 3)) : JSl G own ini cc d nL i (i + 3) jx_oi := by
  have inv : ∀ S S', jx_oi S = some S' → ∃ a st, S.2.1 = .ref a :: st ∧ (st.map (fun v => v.category)).sum ≤ 8 ∧ S' = (S.1, st, S.2.2) := by
    intro S S' h
    unfold jx_oi at h
    split at h
    · rename_i a st hs
      split at h
      · rename_i h8; cases h; exact ⟨a, st, hs, h8, rfl⟩
      · cases h
    · cases h
  refine ⟨fun S S' q => ?_, fun p e R s m args below meth c n0 w0 nE wE Q X D S S' q kk => ?_⟩
  · obtain ⟨a, st, h1, h2, rfl⟩ := inv S S' q
    exact jmono.rf _
  · obtain ⟨L, st0, σ⟩ := S
    obtain ⟨a, st, hs, h8, rfl⟩ := inv _ _ q
    have hs : st0 = _ := hs
    subst hs
    obtain ⟨hx, hb, hml, hown, hG, hRc, hRs, hini⟩ := id X
    refine jk_st (fun H locs ls cells slots hl5 hM k9 => ?_) kk
    exact W.objInit hx hb hown (jx_word hG hl rfl rfl) (jx_word hG (List.mem_of_getElem? (i := 152) (by decide +kernel)) rfl rfl) (jx_word hG (List.mem_of_getElem? (i := 153) (by decide +kernel)) rfl rfl) rfl (by rw [hml]; exact hl5.1) rfl hd (Nat.le_trans hd1 D.1)
      (by
        have e8 : ((st.map (jv G)).map fun v => v.category).sum ≤ 8 := by
          rw [List.map_map]
          rw [show ((fun v : Value => v.category) ∘ jv G) = (fun v : Value => v.category) from funext fun v => jv_cat v]
          exact h8
        have := D.2
        have e9 : 2 * (F0 m i ls (jv G (.ref a) :: st.map (jv G))).monitorRoom + ((st.map (jv G)).map fun v => v.category).sum ≤ 8 := lv_room e8
        show 2 * (F0 m i ls (jv G (.ref a) :: st.map (jv G))).monitorRoom + ((st.map (jv G)).map fun v => v.category).sum + 12 ≤ R.locals
        omega) k9
/-- what the tables say of a method that is called: its code, its class, how many parameters it has -/
def JMt (y : MethodName) (cY : ByteArray) (maxL : Nat) (ret : Option FieldType) (n : Nat) : Prop :=
  Cond.code y cY maxL ret ∈ lw_tbl ∧ Cond.initialized y.cls ∈ lw_tbl ∧ (y.cls ≠ "java/lang/invoke/MethodHandle" ∧ y.cls ≠ "java/lang/invoke/VarHandle") ∧ (parseMethodDescriptor y.desc).map (fun d => d.parameters.length) = some n ∧ maxL ≤ 45
theorem jm_cats {st : List Value} (h : (st.map (fun v => v.category)).sum ≤ 8) : ((st.map (jv G)).map fun v => v.category).sum ≤ 8 := by
  rw [List.map_map]
  rw [show ((fun v : Value => v.category) ∘ jv G) = (fun v : Value => v.category) from funext fun v => jv_cat v]
  exact h
theorem jm_room {d' maxL k n : Nat} (hd : d' + 1 ≤ d) (hmx : maxL ≤ 45) (D : JD R d) : (jrm d' k n).frames + 1 ≤ R.frames ∧ 8 + (maxL + 11) + (jrm d' k n).locals ≤ R.locals := by
  have h1 := D.1
  have h2 := D.2
  refine ⟨?_, ?_⟩
  · show d' + 1 ≤ R.frames
    omega
  · show 8 + (maxL + 11) + 64 * d' ≤ R.locals
    omega
theorem jm_par {y : MethodName} {n : Nat} (h : (parseMethodDescriptor y.desc).map (fun d => d.parameters.length) = some n) : ∀ sig, parseMethodDescriptor y.desc = some sig → n = sig.parameters.length := fun sig hs => by
  rw [hs] at h
  exact (Option.some.inj h).symm
theorem jm_words {y : MethodName} {cY : ByteArray} {maxL : Nat} {ret : Option FieldType} (hG : JGl G s) (hc : Cond.code y cY maxL ret ∈ lw_tbl) : ∀ w ∈ [Cond.code y cY maxL ret], ∀ (a' : Array Value) (U : State), s.WarmedH U.vm → w.before a' U = true := by
  intro w hw a' U hW
  rw [List.mem_singleton.mp hw]
  exact word_at (args := #[]) hW (Or.inl rfl) (hG.1 _ hc rfl)
theorem jx_cv_i {n ci : Nat} {f : JF} {S S' : JS} (h : jx_cv n ci f S = some S') : ∃ a r t v σ', (S.2.1.take n).reverse = .ref a :: r ∧ S.2.2.1[a]? = some (ci, t) ∧ ((S.2.1.drop n).map (fun v => v.category)).sum ≤ 8 ∧ r.length + 1 = n ∧ f (.ref a :: r) S.2.2 = some (v, σ') ∧ S' = (S.1, v.toList ++ S.2.1.drop n, σ') := by
  unfold jx_cv at h
  split at h
  · rename_i a r hr
    split at h
    · rename_i t n' ht
      split at h
      · rename_i hc
        obtain ⟨q, g1, g2⟩ := Option.bind_eq_some_iff.mp h
        obtain ⟨h1, h2, h3⟩ := hc
        subst h1
        cases g2
        exact ⟨a, r, n', q.1, q.2, hr, ht, h2, h3, g1, rfl⟩
      · cases h
    · cases h
  · cases h
theorem jx_ci_i {n : Nat} {f : JF} {S S' : JS} (h : jx_ci n f S = some S') : ∃ a r v σ', (S.2.1.take n).reverse = .ref a :: r ∧ ((S.2.1.drop n).map (fun v => v.category)).sum ≤ 8 ∧ r.length + 1 = n ∧ f (.ref a :: r) S.2.2 = some (v, σ') ∧ S' = (S.1, v.toList ++ S.2.1.drop n, σ') := by
  unfold jx_ci at h
  split at h
  · rename_i a r hr
    split at h
    · rename_i hc
      obtain ⟨q, g1, g2⟩ := Option.bind_eq_some_iff.mp h
      cases g2
      exact ⟨a, r, q.1, q.2, hr, hc.1, hc.2, g1, rfl⟩
    · cases h
  · cases h
theorem jx_cs_i {n : Nat} {f : JF} {S S' : JS} (h : jx_cs n f S = some S') : ∃ v σ', ((S.2.1.drop n).map (fun v => v.category)).sum ≤ 8 ∧ (S.2.1.take n).length = n ∧ f (S.2.1.take n).reverse S.2.2 = some (v, σ') ∧ S' = (S.1, v.toList ++ S.2.1.drop n, σ') := by
  unfold jx_cs at h
  split at h
  · rename_i hc
    obtain ⟨q, g1, g2⟩ := Option.bind_eq_some_iff.mp h
    cases g2
    exact ⟨q.1, q.2, hc.1, hc.2, g1, rfl⟩
  · cases h
theorem jst_split {st : List Value} {n : Nat} {a : Nat} {r : List Value} (h : (st.take n).reverse = .ref a :: r) : st.map (jv G) = (r.map (jv G)).reverse ++ .ref (jr G a) :: (st.drop n).map (jv G) := by
  have h1 : st.take n = (Value.ref a :: r).reverse := by rw [← h, List.reverse_reverse]
  have h2 : st = (Value.ref a :: r).reverse ++ st.drop n := by rw [← h1, List.take_append_drop]
  have h3 : st.map (jv G) = ((Value.ref a :: r).reverse ++ st.drop n).map (jv G) := congrArg _ h2
  rw [h3]
  simp [jv]
theorem jsl_cv {y : MethodName} {cY : ByteArray} {maxL d' n ci ix : Nat} {ret : Option FieldType} {f : JF} (hm : JMt y cY maxL ret n) (hin : Cond.instanceMethod y ∈ lw_tbl) (hse : Cond.selects y.cls y y ∈ lw_tbl) (hcls : y.cls = jt_C ci) (hci : ci < 12) (hS : JSem G y cY maxL ret d' f) (hdd : d' + 1 ≤ d)
    (hl : Cond.methodLink (jt_own.getD own "") ix y ∈ lw_tbl) (hd : decode cc i = .ok (.invokevirtual ix, 3)) : JSl G own ini cc d nL i (i + 3) (jx_cv (n + 1) ci f) := by
  refine ⟨fun S S' q => ?_, fun p e R s m args below meth c n0 w0 nE wE Q X D S S' q kk => ?_⟩
  · obtain ⟨a, r, t, v, σ', h1, h2, h3, h4, h5, rfl⟩ := jx_cv_i q
    obtain ⟨g1, g2, -⟩ := hS _ _ _ _ h5
    exact ⟨g1, g2⟩
  · obtain ⟨L, st0, σ⟩ := S
    obtain ⟨a, r, t, v, σ', h1, h2, h3, h4, h5, rfl⟩ := jx_cv_i q
    obtain ⟨hx, hb, hml, hown, hG, hRc, hRs, hini⟩ := id X
    refine jk_call X hS h5 (fun H locs ls cells slots hls hM hMet hcap hP => ?_) kk
    have hcell : ∃ cellB : Cell, H[jr G a]? = some cellB ∧ cellB.vm.isStatics = false ∧ s.vm.findClass (jt_C ci) = some cellB.cls := by
      obtain ⟨-, -, cell, q1, q2, q3, -⟩ := jm_obj hM h2 hci
      exact ⟨cell, q1, by rw [q3]; rfl, by rw [q2]; exact (hG.2.1.1 ci _ (jt_cls_at hci)).2.1⟩
    have hrm := jm_room (k := jh_n σ' - jh_n σ) (n := jh_w σ' - jh_w σ) hdd hm.2.2.2.2 D
    exact va_runV (Ts := []) (As := r.map (jv G)) (b := jr G a) (C := jt_C ci) ⟨hx, hb, hml, hown, fun w hw => absurd hw List.not_mem_nil⟩ hMet
      ⟨⟨rfl, rfl, hrm.1, hrm.2, jm_words hG hm.1, List.mem_cons_self, jx_word hG hm.1 rfl rfl, jx_word hG hm.2.1 rfl rfl, hm.2.2.1, jm_par hm.2.2.2.1, jx_word hG hl rfl rfl⟩, jx_word hG hin rfl rfl, by have h9 := jx_word (args := args) hG hse rfl rfl; rw [hcls] at h9; exact h9⟩
      ⟨jpc_blind, hcell, fun U hU hW => hP U hU hW⟩ rfl (by rw [List.length_map]; omega) hls (jst_split h1) (lv_room (jm_cats h3)) hd hcap
theorem jsl_ci {y : MethodName} {cY : ByteArray} {maxL d' n ix : Nat} {f : JF} (hm : JMt y cY maxL none n) (hin : Cond.instanceMethod y ∈ lw_tbl) (hy : y.name = "<init>") (hS : JSem G y cY maxL none d' f) (hdd : d' + 1 ≤ d)
    (hl : Cond.methodLink (jt_own.getD own "") ix y ∈ lw_tbl) (hd : decode cc i = .ok (.invokespecial ix, 3)) : JSl G own ini cc d nL i (i + 3) (jx_ci (n + 1) f) := by
  refine ⟨fun S S' q => ?_, fun p e R s m args below meth c n0 w0 nE wE Q X D S S' q kk => ?_⟩
  · obtain ⟨a, r, v, σ', h1, h3, h4, h5, rfl⟩ := jx_ci_i q
    obtain ⟨g1, g2, -⟩ := hS _ _ _ _ h5
    exact ⟨g1, g2⟩
  · obtain ⟨L, st0, σ⟩ := S
    obtain ⟨a, r, v, σ', h1, h3, h4, h5, rfl⟩ := jx_ci_i q
    obtain ⟨hx, hb, hml, hown, hG, hRc, hRs, hini⟩ := id X
    refine jk_call X hS h5 (fun H locs ls cells slots hls hM hMet hcap hP => ?_) kk
    have hrm := jm_room (k := jh_n σ' - jh_n σ) (n := jh_w σ' - jh_w σ) hdd hm.2.2.2.2 D
    exact va_runI (Ts := []) (As := r.map (jv G)) (b := jr G a) ⟨hx, hb, hml, hown, fun w hw => absurd hw List.not_mem_nil⟩ hMet
      ⟨⟨rfl, rfl, hrm.1, hrm.2, jm_words hG hm.1, List.mem_cons_self, jx_word hG hm.1 rfl rfl, jx_word hG hm.2.1 rfl rfl, hm.2.2.1, jm_par hm.2.2.2.1, jx_word hG hl rfl rfl⟩, hy, jx_word hG hin rfl rfl⟩
      ⟨jpc_blind, fun U hU hW => hP U hU hW⟩ rfl (by rw [List.length_map]; omega) hls (jst_split h1) (lv_room (jm_cats h3)) hd hcap
theorem jsl_ciN {y : MethodName} {cY : ByteArray} {maxL d' n ix : Nat} {f : JF} (hm : JMt y cY maxL none n) (hin : Cond.instanceMethod y ∈ lw_tbl) (hy : y.name = "<init>") (hS : JSem G y cY maxL none d' f) (hdd : d' + 1 ≤ d)
    (hl : Cond.methodLinkNest (jt_own.getD own "") ix y "CellarTurns" ∈ lw_tbl) (hd : decode cc i = .ok (.invokespecial ix, 3)) : JSl G own ini cc d nL i (i + 3) (jx_ci (n + 1) f) := by
  refine ⟨fun S S' q => ?_, fun p e R s m args below meth c n0 w0 nE wE Q X D S S' q kk => ?_⟩
  · obtain ⟨a, r, v, σ', h1, h3, h4, h5, rfl⟩ := jx_ci_i q
    obtain ⟨g1, g2, -⟩ := hS _ _ _ _ h5
    exact ⟨g1, g2⟩
  · obtain ⟨L, st0, σ⟩ := S
    obtain ⟨a, r, v, σ', h1, h3, h4, h5, rfl⟩ := jx_ci_i q
    obtain ⟨hx, hb, hml, hown, hG, hRc, hRs, hini⟩ := id X
    refine jk_call X hS h5 (fun H locs ls cells slots hls hM hMet hcap hP => ?_) kk
    have hrm := jm_room (k := jh_n σ' - jh_n σ) (n := jh_w σ' - jh_w σ) hdd hm.2.2.2.2 D
    exact va_runIN (Ts := []) (As := r.map (jv G)) (b := jr G a) (host := "CellarTurns") ⟨hx, hb, hml, hown, fun w hw => absurd hw List.not_mem_nil⟩ hMet
      ⟨⟨⟨rfl, rfl, hrm.1, hrm.2, jm_words hG hm.1, List.mem_cons_self⟩, jx_word hG hm.1 rfl rfl, jx_word hG hm.2.1 rfl rfl, hm.2.2.1, jm_par hm.2.2.2.1, jx_word hG hl rfl rfl⟩, hy, jx_word hG hin rfl rfl⟩
      ⟨jpc_blind, fun U hU hW => hP U hU hW⟩ rfl (by rw [List.length_map]; omega) hls (jst_split h1) (lv_room (jm_cats h3)) hd hcap
theorem jst_splitS {st : List Value} {n : Nat} : st.map (jv G) = (((st.take n).reverse).map (jv G)).reverse ++ (st.drop n).map (jv G) := by
  rw [← List.map_reverse, List.reverse_reverse, ← List.map_append, List.take_append_drop]
theorem jsl_cs {y : MethodName} {cY : ByteArray} {maxL d' n ix : Nat} {ret : Option FieldType} {f : JF} (hm : JMt y cY maxL ret n) (hst : Cond.static y ∈ lw_tbl) (hS : JSem G y cY maxL ret d' f) (hdd : d' + 1 ≤ d)
    (hl : Cond.methodLink (jt_own.getD own "") ix y ∈ lw_tbl) (hd : decode cc i = .ok (.invokestatic ix, 3)) : JSl G own ini cc d nL i (i + 3) (jx_cs n f) := by
  refine ⟨fun S S' q => ?_, fun p e R s m args below meth c n0 w0 nE wE Q X D S S' q kk => ?_⟩
  · obtain ⟨v, σ', h3, h4, h5, rfl⟩ := jx_cs_i q
    obtain ⟨g1, g2, -⟩ := hS _ _ _ _ h5
    exact ⟨g1, g2⟩
  · obtain ⟨L, st0, σ⟩ := S
    obtain ⟨v, σ', h3, h4, h5, rfl⟩ := jx_cs_i q
    obtain ⟨hx, hb, hml, hown, hG, hRc, hRs, hini⟩ := id X
    refine jk_call X hS h5 (fun H locs ls cells slots hls hM hMet hcap hP => ?_) kk
    have hrm := jm_room (k := jh_n σ' - jh_n σ) (n := jh_w σ' - jh_w σ) hdd hm.2.2.2.2 D
    exact va_runS (Ts := []) (As := (st0.take n).reverse.map (jv G)) ⟨hx, hb, hml, hown, fun w hw => absurd hw List.not_mem_nil⟩ hMet
      ⟨⟨rfl, rfl, hrm.1, hrm.2, jm_words hG hm.1, List.mem_cons_self, jx_word hG hm.1 rfl rfl, jx_word hG hm.2.1 rfl rfl, hm.2.2.1, jm_par hm.2.2.2.1, jx_word hG hl rfl rfl⟩, jx_word hG hst rfl rfl⟩
      ⟨jpc_blind, fun U hU hW => hP U hU hW⟩ rfl (by rw [List.length_map, List.length_reverse]; exact h4) hls jst_splitS (lv_room (jm_cats h3)) hd hcap
theorem jsl_csN {y : MethodName} {cY : ByteArray} {maxL d' n ix : Nat} {ret : Option FieldType} {f : JF} (hm : JMt y cY maxL ret n) (hst : Cond.static y ∈ lw_tbl) (hS : JSem G y cY maxL ret d' f) (hdd : d' + 1 ≤ d)
    (hl : Cond.methodLinkNest (jt_own.getD own "") ix y "CellarTurns" ∈ lw_tbl) (hd : decode cc i = .ok (.invokestatic ix, 3)) : JSl G own ini cc d nL i (i + 3) (jx_cs n f) := by
  refine ⟨fun S S' q => ?_, fun p e R s m args below meth c n0 w0 nE wE Q X D S S' q kk => ?_⟩
  · obtain ⟨v, σ', h3, h4, h5, rfl⟩ := jx_cs_i q
    obtain ⟨g1, g2, -⟩ := hS _ _ _ _ h5
    exact ⟨g1, g2⟩
  · obtain ⟨L, st0, σ⟩ := S
    obtain ⟨v, σ', h3, h4, h5, rfl⟩ := jx_cs_i q
    obtain ⟨hx, hb, hml, hown, hG, hRc, hRs, hini⟩ := id X
    refine jk_call X hS h5 (fun H locs ls cells slots hls hM hMet hcap hP => ?_) kk
    have hrm := jm_room (k := jh_n σ' - jh_n σ) (n := jh_w σ' - jh_w σ) hdd hm.2.2.2.2 D
    exact va_runSN (Ts := []) (As := (st0.take n).reverse.map (jv G)) (host := "CellarTurns") ⟨hx, hb, hml, hown, fun w hw => absurd hw List.not_mem_nil⟩ hMet
      ⟨⟨⟨rfl, rfl, hrm.1, hrm.2, jm_words hG hm.1, List.mem_cons_self⟩, jx_word hG hm.1 rfl rfl, jx_word hG hm.2.1 rfl rfl, hm.2.2.1, jm_par hm.2.2.2.1, jx_word hG hl rfl rfl⟩, jx_word hG hst rfl rfl, trivial⟩
      ⟨jpc_blind, fun U hU hW => hP U hU hW⟩ rfl (by rw [List.length_map, List.length_reverse]; exact h4) hls jst_splitS (lv_room (jm_cats h3)) hd hcap
end JW
end
section
/-! ===== branches, loops and ends: pieces that come out at a place that they say; 1000000 is the method's end ===== -/
def jt_t1 (f : Int32 → Bool) (s : JS) : Option (Bool × JS) := match s.2.1 with
  | .int x :: st => some (f x, s.1, st, s.2.2)
  | _ => none
def jt_t2 (f : Int32 → Int32 → Bool) (s : JS) : Option (Bool × JS) := match s.2.1 with
  | .int y :: .int x :: st => some (f x y, s.1, st, s.2.2)
  | _ => none
def jt_ta (f : Bool → Bool) (s : JS) : Option (Bool × JS) := match s.2.1 with
  | .ref y :: .ref x :: st => if x < 22 ∧ y < 22 then some (f (decide (x = y)), s.1, st, s.2.2) else none
  | _ => none
/-- the tests by their numbers -/
def jt_tst (c : Nat) : JS → Option (Bool × JS) := match c with
  | 0 => jt_t1 (fun x => decide (x = 0))
  | 1 => jt_t1 (fun x => !decide (x = 0))
  | 2 => jt_t1 (fun x => decide (x < 0))
  | 3 => jt_t1 (fun x => decide (0 ≤ x))
  | 4 => jt_t1 (fun x => decide (0 < x))
  | 5 => jt_t1 (fun x => decide (x ≤ 0))
  | 6 => jt_t2 (fun x y => decide (x = y))
  | 7 => jt_t2 (fun x y => !decide (x = y))
  | 8 => jt_t2 (fun x y => decide (x < y))
  | 9 => jt_t2 (fun x y => decide (y ≤ x))
  | 10 => jt_t2 (fun x y => decide (y < x))
  | 11 => jt_t2 (fun x y => decide (x ≤ y))
  | 12 => jt_ta (fun b => b)
  | 13 => jt_ta (fun b => !b)
  | _ => fun _ => none
def jx_tst (i : Instr) : Option (Nat × Int) := match i with
  | .ifCond .eq o => some (0, o)
  | .ifCond .ne o => some (1, o)
  | .ifCond .lt o => some (2, o)
  | .ifCond .ge o => some (3, o)
  | .ifCond .gt o => some (4, o)
  | .ifCond .le o => some (5, o)
  | .if_icmp .eq o => some (6, o)
  | .if_icmp .ne o => some (7, o)
  | .if_icmp .lt o => some (8, o)
  | .if_icmp .ge o => some (9, o)
  | .if_icmp .gt o => some (10, o)
  | .if_icmp .le o => some (11, o)
  | .if_acmp .eq o => some (12, o)
  | .if_acmp .ne o => some (13, o)
  | _ => none
def jb_go (F : JN) (t : Nat) : JP := fun s => (F s).bind (fun s' => some (t, s'))
def jb_if (F : JN) (c t f : Nat) : JP := fun s => (F s).bind (fun s' => (jt_tst c s').bind (fun q => some (if q.1 = true then t else f, q.2)))
def jb_sw (F : JN) (lo : Int) (ts : List Nat) (df : Nat) : JP := fun s => (F s).bind (fun s' => match s'.2.1 with
  | .int x :: st => some (if x.toInt < lo ∨ lo + ts.length ≤ x.toInt then df else ts.getD (x.toInt - lo).toNat df, s'.1, st, s'.2.2)
  | _ => none)
/-- a look-up: pairs of a number and a place -/
def jb_lk (F : JN) (ps : List (Int × Nat)) (df : Nat) : JP := fun s => (F s).bind (fun s' => match s'.2.1 with
  | .int x :: st => some ((ps.lookup x.toInt).getD df, s'.1, st, s'.2.2)
  | _ => none)
/-- the kinds of an end: 0 void, 1 int, 2 long, 3 a reference, 4 boolean (0 or 1), 5 byte -/
def jb_rt (F : JN) (k : Nat) : JP := fun s => (F s).bind (fun s' => match k, s'.2.1 with
  | 0, [] => some (1000000, s')
  | 1, [.int _] => some (1000000, s')
  | 2, [.long _] => some (1000000, s')
  | 3, [.ref _] => some (1000000, s')
  | 4, [.int x] => if x = 0 ∨ x = 1 then some (1000000, s') else none
  | 5, [.int x] => if narrow .byte (.int x) = .int x then some (1000000, s') else none
  | _, _ => none)
def jb_sq (P : JP) (h : Nat) (P' : JP) : JP := fun s => (P s).bind (fun q => if q.1 = h then P' q.2 else some q)
def jb_it (h : Nat) (P : JP) : Nat → JP
  | 0 => fun _ => none
  | n + 1 => fun s => (P s).bind (fun q => if q.1 = h then jb_it h P n q.2 else some q)
theorem jb_it_more {h : Nat} {P : JP} {n : Nat} : ∀ {s : JS} {r : Nat × JS}, jb_it h P n s = some r → jb_it h P (n + 1) s = some r := by
  induction n with
  | zero => intro s r hr; cases hr
  | succ n ih =>
    intro s r hr
    unfold jb_it at hr ⊢
    obtain ⟨q, h1, h2⟩ := Option.bind_eq_some_iff.mp hr
    refine Option.bind_eq_some_iff.mpr ⟨q, h1, ?_⟩
    split at h2
    · rename_i hq
      rw [if_pos hq]
      exact ih h2
    · rename_i hq
      rw [if_neg hq]
      exact h2
theorem jb_it_le {h : Nat} {P : JP} {n k : Nat} (hk : n ≤ k) {s : JS} {r : Nat × JS} (hr : jb_it h P n s = some r) : jb_it h P k s = some r := by
  induction hk with
  | refl => exact hr
  | step _ ih => exact jb_it_more ih
theorem jb_it_one {h : Nat} {P : JP} {n k : Nat} {s : JS} {r r' : Nat × JS} (h1 : jb_it h P n s = some r) (h2 : jb_it h P k s = some r') : r = r' := by
  have a := jb_it_le (Nat.le_max_left n k) h1
  have b := jb_it_le (Nat.le_max_right n k) h2
  exact Option.some.inj (a.symm.trans b)
/-- a loop that begins anew at h -/
noncomputable def jb_lp (h : Nat) (P : JP) : JP := fun s => @dite (Option (Nat × JS)) (∃ r n, jb_it h P n s = some r) (Classical.propDecidable _) (fun hx => some (Classical.choose hx)) (fun _ => none)
theorem jb_lp_of {h : Nat} {P : JP} {n : Nat} {s : JS} {r : Nat × JS} (hr : jb_it h P n s = some r) : jb_lp h P s = some r := by
  have hx : ∃ r n, jb_it h P n s = some r := ⟨r, n, hr⟩
  unfold jb_lp
  rw [dif_pos hx]
  obtain ⟨k, hk⟩ := Classical.choose_spec hx
  rw [jb_it_one hk hr]
theorem jb_lp_ex {h : Nat} {P : JP} {s : JS} {r : Nat × JS} (hr : jb_lp h P s = some r) : ∃ n, jb_it h P n s = some r := by
  by_cases hx : ∃ r n, jb_it h P n s = some r
  · obtain ⟨r', n, h1⟩ := hx
    have h2 := jb_lp_of h1
    rw [hr] at h2
    cases h2
    exact ⟨n, h1⟩
  · unfold jb_lp at hr
    rw [dif_neg hx] at hr
    cases hr
/-- a loop, by one more turn -/
theorem jb_lp_eq (h : Nat) (P : JP) (s : JS) : jb_lp h P s = (P s).bind (fun q => if q.1 = h then jb_lp h P q.2 else some q) := by
  cases hP : P s with
  | none =>
    cases hr : jb_lp h P s with
    | none => rfl
    | some r =>
      obtain ⟨n, hn⟩ := jb_lp_ex hr
      cases n with
      | zero => cases hn
      | succ n =>
        unfold jb_it at hn
        rw [hP] at hn
        cases hn
  | some q =>
    rw [Option.bind_some]
    by_cases hq : q.1 = h
    · rw [if_pos hq]
      cases hr : jb_lp h P q.2 with
      | none =>
        cases hr2 : jb_lp h P s with
        | none => rfl
        | some r =>
          obtain ⟨n, hn⟩ := jb_lp_ex hr2
          cases n with
          | zero => cases hn
          | succ n =>
            unfold jb_it at hn
            rw [hP, Option.bind_some, if_pos hq] at hn
            have := jb_lp_of hn
            rw [hr] at this
            cases this
      | some r =>
        obtain ⟨n, hn⟩ := jb_lp_ex hr
        refine jb_lp_of (n := n + 1) ?_
        unfold jb_it
        rw [hP, Option.bind_some, if_pos hq]
        exact hn
    · rw [if_neg hq]
      refine jb_lp_of (n := 1) ?_
      unfold jb_it
      rw [hP, Option.bind_some, if_neg hq]
/-- P is what the code does from place i on, until it comes out where P says -/
def JFr (G : JG) (own : Nat) (ini : Bool) (cc : ByteArray) (d nL : Nat) (ret : Option FieldType) (i : Nat) (P : JP) : Prop :=
  (∀ S q, P S = some q → jmono S.2.2 q.2.2.2) ∧
  ∀ (p : Program) (e : Env) (R : Room) (s : State) (m : MethodId) (args : Array Value) (below : List Frame) (meth : Method) (c : Code) (n0 w0 nE wE : Nat) (Q : State → Prop),
    JX G p R s m meth c cc nL n0 w0 nE wE own ini → JD R d → meth.sig.returnType = ret → meth.locks = false → ∀ S q, P S = some q →
      (q.1 = 1000000 → nE = jh_n q.2.2.2 ∧ wE = jh_w q.2.2.2 ∧ ∀ t, MQ below (JQc G q.2.2.1.head? q.2.2.2) args s (nE - n0) (wE - w0) (fun a => jg_sz G ≤ a) t → Q t) →
      (¬ q.1 = 1000000 → JK G p e R s m args below meth c nL n0 w0 nE wE Q q.1 q.2) →
      JK G p e R s m args below meth c nL n0 w0 nE wE Q i S
section JW
variable {G : JG} {cc : ByteArray} {nL own d : Nat} {ini : Bool} {ret : Option FieldType} {i j k h : Nat}
theorem jfr_sq {P P' : JP} (h1 : JFr G own ini cc d nL ret i P) (h2 : JFr G own ini cc d nL ret h P') (hh : ¬ h = 1000000) : JFr G own ini cc d nL ret i (jb_sq P h P') := by
  refine ⟨fun S q hq => ?_, fun p e R s m args below meth c n0 w0 nE wE Q X D hr hlk S q hq a b => ?_⟩
  · obtain ⟨q1, g1, g2⟩ := Option.bind_eq_some_iff.mp hq
    split at g2
    · exact (h1.1 _ _ g1).tr (h2.1 _ _ g2)
    · cases g2; exact h1.1 _ _ g1
  · obtain ⟨q1, g1, g2⟩ := Option.bind_eq_some_iff.mp hq
    split at g2
    · rename_i hq1
      refine h1.2 p e R s m args below meth c n0 w0 nE wE Q X D hr hlk S q1 g1 (fun z => absurd (hq1 ▸ z) hh) (fun _ => ?_)
      rw [hq1]
      exact h2.2 p e R s m args below meth c n0 w0 nE wE Q X D hr hlk q1.2 q g2 a b
    · cases g2
      exact h1.2 p e R s m args below meth c n0 w0 nE wE Q X D hr hlk S _ g1 a b
theorem jfr_lp {P : JP} (h1 : JFr G own ini cc d nL ret h P) (hh : ¬ h = 1000000) : JFr G own ini cc d nL ret h (jb_lp h P) := by
  refine ⟨fun S q hq => ?_, fun p e R s m args below meth c n0 w0 nE wE Q X D hr hlk S q hq a b => ?_⟩
  · obtain ⟨n, hn⟩ := jb_lp_ex hq
    clear hq
    induction n generalizing S with
    | zero => cases hn
    | succ n ih =>
      unfold jb_it at hn
      obtain ⟨q1, g1, g2⟩ := Option.bind_eq_some_iff.mp hn
      split at g2
      · exact (h1.1 _ _ g1).tr (ih _ g2)
      · cases g2; exact h1.1 _ _ g1
  · obtain ⟨n, hn⟩ := jb_lp_ex hq
    clear hq
    induction n generalizing S with
    | zero => cases hn
    | succ n ih =>
      unfold jb_it at hn
      obtain ⟨q1, g1, g2⟩ := Option.bind_eq_some_iff.mp hn
      split at g2
      · rename_i hq1
        refine h1.2 p e R s m args below meth c n0 w0 nE wE Q X D hr hlk S q1 g1 (fun z => absurd (hq1 ▸ z) hh) (fun _ => ?_)
        rw [hq1]
        exact ih q1.2 g2
      · cases g2
        exact h1.2 p e R s m args below meth c n0 w0 nE wE Q X D hr hlk S _ g1 a b
/-- a place that is t, or a jump to it -/
def jx_go (cc : ByteArray) (j t : Nat) : Bool := (j == t) || (match decode cc j with
  | .ok (.goto o, len) => len == 3 && (j : Int) + o == (t : Int)
  | _ => false)
theorem jk_go {p : Program} {e : Env} {R : Room} {s : State} {m : MethodId} {args : Array Value} {below : List Frame} {meth : Method} {c : Code} {n0 w0 nE wE : Nat} {Q : State → Prop} {t : Nat} {S : JS} (X : JX G p R s m meth c cc nL n0 w0 nE wE own ini) (hg : jx_go cc j t = true)
    (k : JK G p e R s m args below meth c nL n0 w0 nE wE Q t S) : JK G p e R s m args below meth c nL n0 w0 nE wE Q j S := by
  unfold jx_go at hg
  rw [Bool.or_eq_true] at hg
  rcases hg with hg | hg
  · rw [eq_of_beq hg]; exact k
  · split at hg
    · rename_i o len hd
      rw [Bool.and_eq_true] at hg
      have hl := eq_of_beq hg.1
      subst hl
      have ho : (j : Int) + o = (t : Int) := eq_of_beq hg.2
      obtain ⟨L, st, σ⟩ := S
      exact jk_st (fun H locs ls cells slots _ _ kk => lv_goto X.1 X.2.1 hd ho kk) k
    · cases hg
theorem jfr_go {F : JN} {t : Nat} (h1 : JSl G own ini cc d nL i j F) (hg : jx_go cc j t = true) (ht : ¬ t = 1000000) : JFr G own ini cc d nL ret i (jb_go F t) := by
  refine ⟨fun S q hq => ?_, fun p e R s m args below meth c n0 w0 nE wE Q X D hr hlk S q hq a b => ?_⟩
  · obtain ⟨S1, g1, g2⟩ := Option.bind_eq_some_iff.mp hq
    cases g2
    exact h1.1 _ _ g1
  · obtain ⟨S1, g1, g2⟩ := Option.bind_eq_some_iff.mp hq
    cases g2
    exact h1.2 p e R s m args below meth c n0 w0 nE wE _ X D S S1 g1 (jk_go X hg (b ht))
/-- a test at place j: where it leads -/
def jx_if (cc : ByteArray) (j cn t f : Nat) : Bool := match decode cc j with
  | .ok (ins, len) => match jx_tst ins with
    | some (c', o) => c' == cn && len == 3 && (j : Int) + o == (t : Int) && j + 3 == f
    | none => false
  | .error _ => false
theorem jt_t1_i {f : Int32 → Bool} {S : JS} {q : Bool × JS} (h : jt_t1 f S = some q) : ∃ x st, S.2.1 = .int x :: st ∧ q = (f x, S.1, st, S.2.2) := by
  unfold jt_t1 at h
  split at h
  · rename_i x st hs; cases h; exact ⟨x, st, hs, rfl⟩
  · cases h
theorem jt_t2_i {f : Int32 → Int32 → Bool} {S : JS} {q : Bool × JS} (h : jt_t2 f S = some q) : ∃ x y st, S.2.1 = .int y :: .int x :: st ∧ q = (f x y, S.1, st, S.2.2) := by
  unfold jt_t2 at h
  split at h
  · rename_i y x st hs; cases h; exact ⟨x, y, st, hs, rfl⟩
  · cases h
theorem jt_ta_i {f : Bool → Bool} {S : JS} {q : Bool × JS} (h : jt_ta f S = some q) : ∃ x y st, S.2.1 = .ref y :: .ref x :: st ∧ x < 22 ∧ y < 22 ∧ q = (f (decide (x = y)), S.1, st, S.2.2) := by
  unfold jt_ta at h
  split at h
  · rename_i y x st hs
    split at h
    · rename_i hc; cases h; exact ⟨x, y, st, hs, hc.1, hc.2, rfl⟩
    · cases h
  · cases h
theorem jt_tst_mono {cn : Nat} {S : JS} {q : Bool × JS} (h : jt_tst cn S = some q) : q.2.2.2 = S.2.2 := by
  obtain ⟨F, hF⟩ : ∃ F, jt_tst cn = F := ⟨_, rfl⟩
  rw [hF] at h
  unfold jt_tst at hF
  split at hF <;> subst hF
  all_goals first
    | (exact absurd (show (none : Option (Bool × JS)) = some q from h) (by simp))
    | (obtain ⟨x, st, h1, rfl⟩ := jt_t1_i h; rfl)
    | (obtain ⟨x, y, st, h1, rfl⟩ := jt_t2_i h; rfl)
    | (obtain ⟨x, y, st, h1, h2, h3, rfl⟩ := jt_ta_i h; rfl)
end JW
-- touched 1
end
section
/-! ===== tests, switches, ends; a method out of its piece ===== -/
section JW
variable {G : JG} {cc : ByteArray} {nL own d : Nat} {ini : Bool} {ret : Option FieldType} {i j k h : Nat}
variable {p : Program} {e : Env} {R : Room} {s : State} {m : MethodId} {args : Array Value} {below : List Frame} {meth : Method} {c : Code} {n0 w0 nE wE : Nat} {Q : State → Prop}
theorem jk_br {pc t f : Nat} {b : Bool} {L : JL} {st st' : List Value} {σ : JH}
    (h : ∀ (H : Heap) (locs : List Loc) (ls : Array Slot) (cells slots : Nat), (b = true → W p (jg_l G) e R s m args below meth c H locs cells slots Q (F0 m t ls (st'.map (jv G)))) → (b = false → W p (jg_l G) e R s m args below meth c H locs cells slots Q (F0 m f ls (st'.map (jv G)))) → W p (jg_l G) e R s m args below meth c H locs cells slots Q (F0 m pc ls (st.map (jv G))))
    (k : JK G p e R s m args below meth c nL n0 w0 nE wE Q (if b = true then t else f) (L, st', σ)) : JK G p e R s m args below meth c nL n0 w0 nE wE Q pc (L, st, σ) := by
  refine ⟨k.1, k.2.1, fun H locs ls h1 h2 h3 h4 h5 => ?_⟩
  have k3 := k.2.2 H locs ls h1 h2 h3 h4 h5
  refine h H locs ls _ _ (fun hb => ?_) (fun hb => ?_)
  · rw [if_pos hb] at k3; exact k3
  · rw [if_neg (by rw [hb]; decide)] at k3; exact k3
theorem jk_if {cn t f : Nat} {S : JS} {q : Bool × JS} (X : JX G p R s m meth c cc nL n0 w0 nE wE own ini) (hj : jx_if cc j cn t f = true) (hq : jt_tst cn S = some q)
    (k : JK G p e R s m args below meth c nL n0 w0 nE wE Q (if q.1 = true then t else f) q.2) : JK G p e R s m args below meth c nL n0 w0 nE wE Q j S := by
  unfold jx_if at hj
  split at hj
  · rename_i ins len hd
    split at hj
    · rename_i c' o hi
      simp only [Bool.and_eq_true, beq_iff_eq] at hj
      obtain ⟨⟨⟨hc, hl⟩, ho⟩, hf⟩ := hj
      subst hc; subst hl; subst hf
      obtain ⟨L, st0, σ⟩ := S
      obtain ⟨hx, hb, -⟩ := id X
      unfold jx_tst at hi
      split at hi <;> cases hi
      · obtain ⟨x, st, hs, rfl⟩ := jt_t1_i (f := fun x => decide (x = 0)) hq
        have hs : st0 = _ := hs
        subst hs
        exact jk_br (fun H locs ls cells slots kt kf => lv_if_eq hx hb hd ho (fun z => kt (decide_eq_true z)) (fun z => kf (decide_eq_false z))) k
      · obtain ⟨x, st, hs, rfl⟩ := jt_t1_i (f := fun x => !decide (x = 0)) hq
        have hs : st0 = _ := hs
        subst hs
        exact jk_br (fun H locs ls cells slots kt kf => lv_if_ne hx hb hd ho (fun z => kt (by simp [z])) (fun z => kf (by simp [z]))) k
      · obtain ⟨x, st, hs, rfl⟩ := jt_t1_i (f := fun x => decide (x < 0)) hq
        have hs : st0 = _ := hs
        subst hs
        exact jk_br (fun H locs ls cells slots kt kf => lv_if_lt hx hb hd ho (fun z => kt (decide_eq_true z)) (fun z => kf (decide_eq_false z))) k
      · obtain ⟨x, st, hs, rfl⟩ := jt_t1_i (f := fun x => decide (0 ≤ x)) hq
        have hs : st0 = _ := hs
        subst hs
        exact jk_br (fun H locs ls cells slots kt kf => lv_if_ge hx hb hd ho (fun z => kt (decide_eq_true z)) (fun z => kf (decide_eq_false z))) k
      · obtain ⟨x, st, hs, rfl⟩ := jt_t1_i (f := fun x => decide (0 < x)) hq
        have hs : st0 = _ := hs
        subst hs
        exact jk_br (fun H locs ls cells slots kt kf => lv_if_gt hx hb hd ho (fun z => kt (decide_eq_true z)) (fun z => kf (decide_eq_false z))) k
      · obtain ⟨x, st, hs, rfl⟩ := jt_t1_i (f := fun x => decide (x ≤ 0)) hq
        have hs : st0 = _ := hs
        subst hs
        exact jk_br (fun H locs ls cells slots kt kf => lv_if_le hx hb hd ho (fun z => kt (decide_eq_true z)) (fun z => kf (decide_eq_false z))) k
      · obtain ⟨x, y, st, hs, rfl⟩ := jt_t2_i (f := fun x y => decide (x = y)) hq
        have hs : st0 = _ := hs
        subst hs
        exact jk_br (fun H locs ls cells slots kt kf => lv_icmp_eq hx hb hd ho (fun z => kt (decide_eq_true z)) (fun z => kf (decide_eq_false z))) k
      · obtain ⟨x, y, st, hs, rfl⟩ := jt_t2_i (f := fun x y => !decide (x = y)) hq
        have hs : st0 = _ := hs
        subst hs
        exact jk_br (fun H locs ls cells slots kt kf => lv_icmp_ne hx hb hd ho (fun z => kt (by simp [z])) (fun z => kf (by simp [z]))) k
      · obtain ⟨x, y, st, hs, rfl⟩ := jt_t2_i (f := fun x y => decide (x < y)) hq
        have hs : st0 = _ := hs
        subst hs
        exact jk_br (fun H locs ls cells slots kt kf => lv_icmp_lt hx hb hd ho (fun z => kt (decide_eq_true z)) (fun z => kf (decide_eq_false z))) k
      · obtain ⟨x, y, st, hs, rfl⟩ := jt_t2_i (f := fun x y => decide (y ≤ x)) hq
        have hs : st0 = _ := hs
        subst hs
        exact jk_br (fun H locs ls cells slots kt kf => lv_icmp_ge hx hb hd ho (fun z => kt (decide_eq_true z)) (fun z => kf (decide_eq_false z))) k
      · obtain ⟨x, y, st, hs, rfl⟩ := jt_t2_i (f := fun x y => decide (y < x)) hq
        have hs : st0 = _ := hs
        subst hs
        exact jk_br (fun H locs ls cells slots kt kf => lv_icmp_gt hx hb hd ho (fun z => kt (decide_eq_true z)) (fun z => kf (decide_eq_false z))) k
      · obtain ⟨x, y, st, hs, rfl⟩ := jt_t2_i (f := fun x y => decide (x ≤ y)) hq
        have hs : st0 = _ := hs
        subst hs
        exact jk_br (fun H locs ls cells slots kt kf => lv_icmp_le hx hb hd ho (fun z => kt (decide_eq_true z)) (fun z => kf (decide_eq_false z))) k
      · obtain ⟨x, y, st, hs, h1, h2, rfl⟩ := jt_ta_i (f := fun b => b) hq
        have hs : st0 = _ := hs
        subst hs
        have hr : ∀ r, r < 22 → jr G r = jg_sa G r := fun r hr => by unfold jr; rw [if_pos (by omega)]
        refine jk_br (fun H locs ls cells slots kt kf => lv_acmp_eq (rx := some (jr G x)) (ry := some (jr G y)) hx hb hd ho (fun z => kt (decide_eq_true ?_)) (fun z => kf (decide_eq_false fun q => z (by rw [q])))) k
        rw [hr x h1, hr y h2] at z
        exact X.2.2.2.2.1.2.2.2.2.2.1 x y h1 h2 (Option.some.inj z)
      · obtain ⟨x, y, st, hs, h1, h2, rfl⟩ := jt_ta_i (f := fun b => !b) hq
        have hs : st0 = _ := hs
        subst hs
        have hr : ∀ r, r < 22 → jr G r = jg_sa G r := fun r hr => by unfold jr; rw [if_pos (by omega)]
        refine jk_br (fun H locs ls cells slots kt kf => lv_acmp_ne (rx := some (jr G x)) (ry := some (jr G y)) hx hb hd ho (fun z => kt ?_) (fun z => kf ?_)) k
        · simp only [Bool.not_eq_true', decide_eq_false_iff_not]
          exact fun q => z (by rw [q])
        · simp only [Bool.not_eq_false', decide_eq_true_eq]
          rw [hr x h1, hr y h2] at z
          exact X.2.2.2.2.1.2.2.2.2.2.1 x y h1 h2 (Option.some.inj z)
    · cases hj
  · cases hj
theorem jfr_if {F : JN} {cn t f : Nat} (h1 : JSl G own ini cc d nL i j F) (hj : jx_if cc j cn t f = true) (ht : ¬ t = 1000000 ∧ ¬ f = 1000000) : JFr G own ini cc d nL ret i (jb_if F cn t f) := by
  refine ⟨fun S q hq => ?_, fun p e R s m args below meth c n0 w0 nE wE Q X D hr hlk S q hq a b => ?_⟩
  · obtain ⟨S1, g1, g2⟩ := Option.bind_eq_some_iff.mp hq
    obtain ⟨q1, g3, g4⟩ := Option.bind_eq_some_iff.mp g2
    cases g4
    have := h1.1 _ _ g1
    rw [← jt_tst_mono g3] at this
    exact this
  · obtain ⟨S1, g1, g2⟩ := Option.bind_eq_some_iff.mp hq
    obtain ⟨q1, g3, g4⟩ := Option.bind_eq_some_iff.mp g2
    cases g4
    exact h1.2 p e R s m args below meth c n0 w0 nE wE _ X D S S1 g1 (jk_if X hj g3 (b (by
      show ¬ (if q1.1 = true then t else f) = 1000000
      split
      · exact ht.1
      · exact ht.2)))
/-- an end at place j -/
def jx_rt (cc : ByteArray) (j k : Nat) (ret : Option FieldType) : Bool := match k, ret, decode cc j with
  | 0, none, .ok (.return_, len) => len == 1
  | 1, some .int, .ok (.ireturn, len) => len == 1
  | 2, some .long, .ok (.lreturn, len) => len == 1
  | 3, some (.object _), .ok (.areturn, len) => len == 1
  | 4, some .boolean, .ok (.ireturn, len) => len == 1
  | 5, some .byte, .ok (.ireturn, len) => len == 1
  | _, _, _ => false
theorem jk_end {pc : Nat} {L : JL} {st : List Value} {σ : JH} {v : Option Value}
    (h : ∀ (H : Heap) (locs : List Loc) (ls : Array Slot), jm G σ s H → (∀ q ∈ locs, jg_sz G ≤ q.base) → (∀ t : State, t.heap = H → s.WarmedH t.vm → JQc G v σ args s (.returned (v.map (jv G))) t) →
      W p (jg_l G) e R s m args below meth c H locs (jh_n σ - n0) (jh_w σ - w0) (MQ below (JQc G v σ) args s (jh_n σ - n0) (jh_w σ - w0) (fun a => jg_sz G ≤ a)) (F0 m pc ls (st.map (jv G)))) :
    JK G p e R s m args below meth c nL n0 w0 (jh_n σ) (jh_w σ) (MQ below (JQc G v σ) args s (jh_n σ - n0) (jh_w σ - w0) (fun a => jg_sz G ≤ a)) pc (L, st, σ) :=
  ⟨Nat.le_refl _, Nat.le_refl _, fun H locs ls _ _ h3 h4 _ => h H locs ls h3 h4 (fun t ht hW => ⟨rfl, by rw [ht]; exact jm.moved hW.alike h3⟩)⟩
theorem jk_weak {pc : Nat} {S : JS} {Q1 Q2 : State → Prop} (h : ∀ t, Q1 t → Q2 t) (k : JK G p e R s m args below meth c nL n0 w0 nE wE Q1 pc S) : JK G p e R s m args below meth c nL n0 w0 nE wE Q2 pc S :=
  ⟨k.1, k.2.1, fun H locs ls h1 h2 h3 h4 h5 T hT X => by
    obtain ⟨t, a1, b1⟩ := k.2.2 H locs ls h1 h2 h3 h4 h5 T hT X
    exact ⟨t, a1, h t b1⟩⟩
theorem jfr_rt {F : JN} {kd : Nat} (h1 : JSl G own ini cc d nL i j F) (hj : jx_rt cc j kd ret = true) : JFr G own ini cc d nL ret i (jb_rt F kd) := by
  have inv : ∀ S q, jb_rt F kd S = some q → ∃ S1, F S = some S1 ∧ q = (1000000, S1) ∧ ((kd = 0 ∧ S1.2.1 = []) ∨ (kd = 1 ∧ ∃ x, S1.2.1 = [.int x]) ∨ (kd = 2 ∧ ∃ x, S1.2.1 = [.long x]) ∨ (kd = 3 ∧ ∃ x, S1.2.1 = [.ref x]) ∨ (kd = 4 ∧ ∃ x, (x = 0 ∨ x = 1) ∧ S1.2.1 = [.int x]) ∨ (kd = 5 ∧ ∃ x, narrow .byte (.int x) = .int x ∧ S1.2.1 = [.int x])) := by
    intro S q hq
    obtain ⟨S1, g1, g2⟩ := Option.bind_eq_some_iff.mp hq
    refine ⟨S1, g1, ?_⟩
    split at g2
    · rename_i hs; cases g2; exact ⟨rfl, Or.inl ⟨rfl, hs⟩⟩
    · rename_i x hs; cases g2; exact ⟨rfl, Or.inr (Or.inl ⟨rfl, x, hs⟩)⟩
    · rename_i x hs; cases g2; exact ⟨rfl, Or.inr (Or.inr (Or.inl ⟨rfl, x, hs⟩))⟩
    · rename_i x hs; cases g2; exact ⟨rfl, Or.inr (Or.inr (Or.inr (Or.inl ⟨rfl, x, hs⟩)))⟩
    · rename_i x hs
      split at g2
      · rename_i hx; cases g2; exact ⟨rfl, Or.inr (Or.inr (Or.inr (Or.inr (Or.inl ⟨rfl, x, hx, hs⟩))))⟩
      · cases g2
    · rename_i x hs
      split at g2
      · rename_i hx; cases g2; exact ⟨rfl, Or.inr (Or.inr (Or.inr (Or.inr (Or.inr ⟨rfl, x, hx, hs⟩))))⟩
      · cases g2
    · cases g2
  refine ⟨fun S q hq => ?_, fun p e R s m args below meth c n0 w0 nE wE Q X D hr hlk S q hq a b => ?_⟩
  · obtain ⟨S1, g1, rfl, -⟩ := inv S q hq
    exact h1.1 _ _ g1
  · obtain ⟨S1, g1, rfl, g2⟩ := inv S q hq
    obtain ⟨e1, e2, hQ⟩ := a rfl
    refine h1.2 p e R s m args below meth c n0 w0 nE wE _ X D S S1 g1 ?_
    obtain ⟨L, st, σ⟩ := S1
    subst e1; subst e2
    refine jk_weak hQ ?_
    obtain ⟨hx, hb, -⟩ := id X
    unfold jx_rt at hj
    rcases g2 with ⟨rfl, hs⟩ | ⟨rfl, x, hs⟩ | ⟨rfl, x, hs⟩ | ⟨rfl, x, hs⟩ | ⟨rfl, x, h01, hs⟩ | ⟨rfl, x, h01, hs⟩
    · have hs : st = _ := hs
      subst hs
      split at hj <;> first | cases hj | skip
      all_goals first | (rename_i hz; omega) | skip
      rename_i hd
      cases eq_of_beq hj
      exact jk_end (v := none) fun H locs ls hM hlo hq => W.vret hx hb hr hq hlo hd hlk
    · have hs : st = _ := hs
      subst hs
      split at hj <;> first | cases hj | skip
      all_goals first | (rename_i hz; omega) | skip
      rename_i hd
      cases eq_of_beq hj
      exact jk_end (v := some (.int x)) fun H locs ls hM hlo hq => W.iret hx hb hr hq hlo hd hlk
    · have hs : st = _ := hs
      subst hs
      split at hj <;> first | cases hj | skip
      all_goals first | (rename_i hz; omega) | skip
      rename_i hd
      cases eq_of_beq hj
      exact jk_end (v := some (.long x)) fun H locs ls hM hlo hq => W.lret hx hb hr hq hlo hd hlk
    · have hs : st = _ := hs
      subst hs
      split at hj <;> first | cases hj | skip
      all_goals first | (rename_i hz; omega) | skip
      rename_i hd
      cases eq_of_beq hj
      exact jk_end (v := some (.ref x)) fun H locs ls hM hlo hq => W.aret hx hb hr (Or.inl ⟨_, rfl⟩) (Or.inr ⟨_, rfl⟩) hq hlo hd hlk
    · have hs : st = _ := hs
      subst hs
      split at hj <;> first | cases hj | skip
      all_goals first | (rename_i hz; omega) | skip
      rename_i hd
      cases eq_of_beq hj
      exact jk_end (v := some (.int x)) fun H locs ls hM hlo hq => W.zret hx hb hr (by rcases h01 with rfl | rfl <;> rfl) hq hlo hd hlk
    · have hs : st = _ := hs
      subst hs
      split at hj <;> first | cases hj | skip
      all_goals first | (rename_i hz; omega) | skip
      rename_i hd
      cases eq_of_beq hj
      exact jk_end (v := some (.int x)) fun H locs ls hM hlo hq => W.zret hx hb hr h01 hq hlo hd hlk
end JW
end
section
/-! ===== a method's function out of its piece ===== -/
def jl_sl (vs : List Value) : JL := vs.flatMap fun v => if v.category = 2 then [some v, none] else [some v]
def jl_en (vs : List Value) (n : Nat) : JL := jl_sl vs ++ List.replicate (n - (jl_sl vs).length) none
/-- the function of a piece: its locals are the arguments, its answer what lies on the stack at the end -/
def jf_of (P : JP) (n : Nat) : JF := fun vs σ => if (jl_sl vs).length ≤ n then (P (jl_en vs n, [], σ)).bind (fun q => if q.1 = 1000000 then some (q.2.2.1.head?, q.2.2.2) else none) else none
section JW
variable {G : JG} {cc : ByteArray} {nL own d : Nat} {ini : Bool} {ret : Option FieldType} {i j k h : Nat}
theorem jl_sl_at (vs : List Value) : ∀ (i : Nat) (v : Value), (jl_sl vs)[i]? = some (some v) → (lg_sl (vs.map (jv G)))[i]? = some (.val (jv G v)) := by
  induction vs with
  | nil => intro i v h; cases h
  | cons w r ih =>
    intro i v h
    unfold jl_sl at h
    unfold lg_sl
    rw [List.flatMap_cons] at h
    rw [List.map_cons, List.flatMap_cons, jv_cat]
    by_cases hc : w.category = 2
    · rw [if_pos hc] at h ⊢
      match i, h with
      | 0, h => cases h; rfl
      | 1, h => cases h
      | i + 2, h => exact ih i v h
    · rw [if_neg hc] at h ⊢
      match i, h with
      | 0, h => cases h; rfl
      | i + 1, h => exact ih i v h
theorem jl_sl_len (vs : List Value) : (lg_sl (vs.map (jv G))).length = (jl_sl vs).length := by
  induction vs with
  | nil => rfl
  | cons w r ih =>
    unfold jl_sl lg_sl at *
    rw [List.map_cons, List.flatMap_cons, List.flatMap_cons, jv_cat, List.length_append, List.length_append, ih]
    split <;> rfl
theorem jl_en_ok {vs : List Value} (hle : (jl_sl vs).length ≤ nL) : jl G ((lg_sl (vs.map (jv G)) ++ List.replicate (nL - (lg_sl (vs.map (jv G))).length) Slot.unset).toArray) nL (jl_en vs nL) := by
  have h1 := lv_entry (vs.map (jv G)) (n := nL) (by rw [jl_sl_len]; exact hle)
  refine ⟨h1.1, h1.2.1, by unfold jl_en; rw [List.length_append, List.length_replicate]; omega, fun i v hv => ?_⟩
  unfold jl_en at hv
  by_cases hi : i < (jl_sl vs).length
  · rw [List.getElem?_append_left hi] at hv
    have h2 := jl_sl_at (G := G) vs i v hv
    rw [List.getElem?_toArray, List.getElem?_append_left (by rw [jl_sl_len]; exact hi)]
    exact h2
  · rw [List.getElem?_append_right (by omega)] at hv
    have := (List.getElem?_eq_some_iff.mp hv)
    obtain ⟨hk, hv⟩ := this
    rw [List.getElem_replicate] at hv
    cases hv
theorem jmet_of {l : Launch} {y : MethodName} {ws ws' : List Cond} {rm : Room} {Pc : Array Value → State → Prop} {Qc : Array Value → State → Outcome → State → Prop} {mc ms : Nat} {free : Addr → Prop} {cc : ByteArray} {maxL : Nat} {ret : Option FieldType}
    (hy : plainFor y = true) (hw : ws = Cond.code y cc maxL ret :: ws')
    (body : ∀ p e s m args below meth c s₁, BodyLoose p l y (headSpec ws rm) cc maxL ret e s m args below meth c s₁ → c.maxLocals = maxL → Pc args s →
      W p l e (headSpec ws rm).room s m args below meth c s.heap [] 0 0 (MQ below Qc args s mc ms free) (entryFrame m args maxL)) : Met l y ws rm Pc Qc mc ms free := by
  refine MetFree.of_bodySF (code := cc) (maxLocals := maxL) (ret := ret) hy ?_ ?_
  · intro args s m h hn
    obtain ⟨meth, c, h1, h2, h3, h4, h5, h6, -, -⟩ := Cond.code_spec hn (atoms_spec (ws := ws) h _ (by rw [hw]; exact List.mem_cons_self))
    exact ⟨meth, c, h1, h2, h3, h4, h5, h6⟩
  · intro p e s m args below meth c s₁ B hml hP _
    have hh0 : s₁.heap = s.heap := by rw [B.state]; rfl
    obtain ⟨t, a1, o, b1, b2, b3⟩ := body p e s m args below meth c s₁ B hml hP s₁ hh0 (Stand.of_body B)
    exact ⟨t, o, a1, b1, b2, ⟨b3.1, b3.2⟩⟩
theorem jsem_of {y : MethodName} {P : JP} (hy : plainFor y = true) (hown : y.cls = jt_own.getD own "") (hini : ini = true → y.name = "<init>") (hP : JFr G own ini cc d nL ret 0 P) : JSem G y cc nL ret d (jf_of P nL) := by
  intro av σ v σ' hf
  unfold jf_of at hf
  split at hf
  · rename_i hle
    obtain ⟨q, g1, g2⟩ := Option.bind_eq_some_iff.mp hf
    split at g2
    · rename_i hq
      cases g2
      obtain ⟨hn, hw⟩ := hP.1 _ _ g1
      have hn : jh_n σ ≤ jh_n q.2.2.2 := hn
      have hw : jh_w σ ≤ jh_w q.2.2.2 := hw
      refine ⟨hn, hw, ?_⟩
      refine jmet_of (cc := cc) (maxL := nL) (ret := ret) hy rfl ?_
      intro p e s m args below meth c s₁ B hml hv
      obtain ⟨rfl, hM, hG⟩ := hv
      have hownc : s.vm.findClass (jt_own.getD own "") = some m.cls := by rw [← hown]; exact findClass_of_methodNamed B.named
      have X : JX G p (headSpec [Cond.code y cc nL ret] (jrm d (jh_n q.2.2.2 - jh_n σ) (jh_w q.2.2.2 - jh_w σ))).room s m meth c cc nL (jh_n σ) (jh_w σ) (jh_n q.2.2.2) (jh_w q.2.2.2) own ini :=
        ⟨B.exec, B.bytes, hml, hownc, hG, rfl, rfl, fun h => (name_of_methodNamed B.named B.method).1.trans (hini h)⟩
      have hK := hP.2 p e _ s m (av.map (jv G)).toArray below meth c (jh_n σ) (jh_w σ) (jh_n q.2.2.2) (jh_w q.2.2.2) _ X ⟨Nat.le_refl _, Nat.le_refl _⟩ B.returns B.notSynchronized (jl_en av nL, [], σ) q g1 (fun _ => ⟨rfl, rfl, fun t ht => ht⟩) (fun h => absurd hq h)
      have hW := hK.2.2 s.heap [] _ (Nat.le_refl _) (Nat.le_refl _) hM (fun q hq => absurd hq List.not_mem_nil) (jl_en_ok hle)
      rw [lg_entry_eq]
      have e0 : jh_n σ - jh_n σ = 0 := Nat.sub_self _
      have e1 : jh_w σ - jh_w σ = 0 := Nat.sub_self _
      show W p (jg_l G) e _ s m _ below meth c s.heap [] 0 0 _ _
      have hW2 : W p (jg_l G) e _ s m (av.map (jv G)).toArray below meth c s.heap [] (jh_n σ - jh_n σ) (jh_w σ - jh_w σ) _ _ := hW
      rw [e0, e1] at hW2
      exact hW2
    · cases g2
  · cases hf
end JW
end
section
/-! ===== switches ===== -/
section JW
variable {G : JG} {cc : ByteArray} {nL own d : Nat} {ini : Bool} {ret : Option FieldType} {i j k h : Nat}
variable {p : Program} {e : Env} {R : Room} {s : State} {m : MethodId} {args : Array Value} {below : List Frame} {meth : Method} {c : Code} {n0 w0 nE wE : Nat} {Q : State → Prop}
def jx_sw (cc : ByteArray) (j : Nat) (lo : Int) (ts : List Nat) (df : Nat) : Bool := match decode cc j with
  | .ok (.tableswitch dd l hh offs, _) => l == lo && hh + 1 == lo + (ts.length : Int) && (j : Int) + dd == (df : Int) && offs.toList.map (fun o => (j : Int) + o) == ts.map (fun t : Nat => (t : Int)) && !(ts.contains 1000000) && !(df == 1000000)
  | _ => false
theorem jfr_sw {F : JN} {lo : Int} {ts : List Nat} {df : Nat} (h1 : JSl G own ini cc d nL i j F) (hj : jx_sw cc j lo ts df = true) : JFr G own ini cc d nL ret i (jb_sw F lo ts df) := by
  have inv : ∀ S q, jb_sw F lo ts df S = some q → ∃ S1 x st, F S = some S1 ∧ S1.2.1 = .int x :: st ∧ q = (if x.toInt < lo ∨ lo + ts.length ≤ x.toInt then df else ts.getD (x.toInt - lo).toNat df, S1.1, st, S1.2.2) := by
    intro S q hq
    obtain ⟨S1, g1, g2⟩ := Option.bind_eq_some_iff.mp hq
    split at g2
    · rename_i x st hs; cases g2; exact ⟨S1, x, st, g1, hs, rfl⟩
    · cases g2
  unfold jx_sw at hj
  split at hj
  · rename_i dd l hh offs len hd
    simp only [Bool.and_eq_true, beq_iff_eq, Bool.not_eq_true'] at hj
    obtain ⟨⟨⟨⟨⟨hl, hhi⟩, hdf⟩, hof⟩, hno⟩, hnd⟩ := hj
    subst hl
    refine ⟨fun S q hq => ?_, fun p e R s m args below meth c n0 w0 nE wE Q X D hr hlk S q hq a b => ?_⟩
    · obtain ⟨S1, x, st, g1, g2, rfl⟩ := inv S q hq
      have h9 := h1.1 S S1 g1
      exact h9
    · obtain ⟨S1, x, st, g1, g2, rfl⟩ := inv S q hq
      obtain ⟨L, st0, σ⟩ := S1
      have g2 : st0 = _ := g2
      subst g2
      obtain ⟨hx, hb, -⟩ := id X
      have hne : ∀ n, ¬ ts.getD n df = 1000000 := by
        intro n hn
        by_cases hl : n < ts.length
        · have : ts.getD n df ∈ ts := by
            rw [List.getD_eq_getElem?_getD, List.getElem?_eq_getElem hl]
            exact List.getElem_mem hl
          rw [hn] at this
          have h9 : ts.contains 1000000 = true := by simpa using this
          rw [h9] at hno
          cases hno
        · rw [List.getD_eq_getElem?_getD, List.getElem?_eq_none (by omega)] at hn
          have hn : df = 1000000 := hn
          rw [hn] at hnd
          cases hnd
      by_cases hout : x.toInt < l ∨ l + ts.length ≤ x.toInt
      · simp only [if_pos hout] at b
        refine h1.2 p e R s m args below meth c n0 w0 nE wE _ X D S _ g1 (jk_st (fun H locs ls cells slots _ _ kk => lv_tableOut hx hb hd ?_ hdf kk) (b (by intro z; rw [z] at hnd; cases hnd)))
        rcases hout with h9 | h9
        · exact Or.inl h9
        · exact Or.inr (by omega)
      · simp only [if_neg hout] at b
        have hlt : (x.toInt - l).toNat < ts.length := by omega
        have hm : (offs.toList.map (fun o => (j : Int) + o))[(x.toInt - l).toNat]? = (ts.map (fun t : Nat => (t : Int)))[(x.toInt - l).toNat]? := by rw [hof]
        rw [List.getElem?_map, List.getElem?_map, List.getElem?_eq_getElem hlt, Array.getElem?_toList] at hm
        cases ho : offs[(x.toInt - l).toNat]? with
        | none => rw [ho] at hm; cases hm
        | some off =>
          rw [ho] at hm
          have hm : (j : Int) + off = (ts[(x.toInt - l).toNat] : Int) := Option.some.inj hm
          have hg : ts.getD (x.toInt - l).toNat df = ts[(x.toInt - l).toNat] := by
            rw [List.getD_eq_getElem?_getD, List.getElem?_eq_getElem hlt]; rfl
          refine h1.2 p e R s m args below meth c n0 w0 nE wE _ X D S _ g1 (jk_st (fun H locs ls cells slots _ _ kk => lv_tableIn hx hb hd (fun z => hout (Or.inl z)) (fun z => hout (Or.inr (by omega))) ho (by rw [hg]; exact hm) kk) (b (hne _)))
  · cases hj
def jx_lk (cc : ByteArray) (j : Nat) (ps : List (Int × Nat)) (df : Nat) : Bool := match decode cc j with
  | .ok (.lookupswitch dd prs, _) => (prs.toList.zip (prs.toList.drop 1)).all (fun (a, next) => a.1 < next.1) && (j : Int) + dd == (df : Int) && prs.toList.map (fun q => (q.1, (j : Int) + q.2)) == ps.map (fun q : Int × Nat => (q.1, (q.2 : Int))) && !((ps.map (fun q => q.2)).contains 1000000) && !(df == 1000000)
  | _ => false
theorem jx_lk_off {prs : List (Int × Int)} {ps : List (Int × Nat)} {dd : Int} {df : Nat} {x : Int} (hd : (j : Int) + dd = (df : Int)) (h : prs.map (fun q => (q.1, (j : Int) + q.2)) = ps.map (fun q : Int × Nat => (q.1, (q.2 : Int)))) : (j : Int) + Op.lookupswitch.offset prs dd x = ((ps.lookup x).getD df : Nat) := by
  induction prs generalizing ps with
  | nil =>
    cases ps with
    | nil => exact hd
    | cons q r => cases h
  | cons a r ih =>
    cases ps with
    | nil => cases h
    | cons q r' =>
      obtain ⟨a1, a2⟩ := a
      obtain ⟨q1, q2⟩ := q
      rw [List.map_cons, List.map_cons] at h
      injection h with h1 h2
      have h3 : a1 = q1 := congrArg Prod.fst h1
      have h4 : (j : Int) + a2 = (q2 : Int) := congrArg Prod.snd h1
      subst h3
      rw [Op.lookupswitch.offset_cons, List.lookup_cons]
      by_cases hx : a1 = x
      · subst hx
        rw [if_pos rfl]
        simp [h4]
      · rw [if_neg hx, ih h2]
        have : (x == a1) = false := by simp [Ne.symm hx]
        rw [this]
theorem jfr_lk {F : JN} {ps : List (Int × Nat)} {df : Nat} (h1 : JSl G own ini cc d nL i j F) (hj : jx_lk cc j ps df = true) : JFr G own ini cc d nL ret i (jb_lk F ps df) := by
  have inv : ∀ S q, jb_lk F ps df S = some q → ∃ S1 x st, F S = some S1 ∧ S1.2.1 = .int x :: st ∧ q = ((ps.lookup x.toInt).getD df, S1.1, st, S1.2.2) := by
    intro S q hq
    obtain ⟨S1, g1, g2⟩ := Option.bind_eq_some_iff.mp hq
    split at g2
    · rename_i x st hs; cases g2; exact ⟨S1, x, st, g1, hs, rfl⟩
    · cases g2
  unfold jx_lk at hj
  split at hj
  · rename_i dd prs len hd
    simp only [Bool.and_eq_true, beq_iff_eq, Bool.not_eq_true'] at hj
    obtain ⟨⟨⟨⟨hall, hdf⟩, hof⟩, hno⟩, hnd⟩ := hj
    refine ⟨fun S q hq => ?_, fun p e R s m args below meth c n0 w0 nE wE Q X D hr hlk S q hq a b => ?_⟩
    · obtain ⟨S1, x, st, g1, g2, rfl⟩ := inv S q hq
      have h9 := h1.1 S S1 g1
      exact h9
    · obtain ⟨S1, x, st, g1, g2, rfl⟩ := inv S q hq
      obtain ⟨L, st0, σ⟩ := S1
      have g2 : st0 = _ := g2
      subst g2
      obtain ⟨hx, hb, -⟩ := id X
      have hne : ¬ (ps.lookup x.toInt).getD df = 1000000 := by
        intro hn
        cases hl : ps.lookup x.toInt with
        | none =>
          rw [hl] at hn
          have hn : df = 1000000 := hn
          rw [hn] at hnd
          cases hnd
        | some t =>
          rw [hl] at hn
          have hn : t = 1000000 := hn
          have : t ∈ ps.map (fun q => q.2) := List.mem_map.mpr ⟨_, jt_look hl, rfl⟩
          rw [hn] at this
          have h9 : (ps.map (fun q => q.2)).contains 1000000 = true := by simpa using this
          rw [h9] at hno
          cases hno
      exact h1.2 p e R s m args below meth c n0 w0 nE wE _ X D S _ g1 (jk_st (fun H locs ls cells slots _ _ kk => lv_lookup hx hb hd hall rfl (jx_lk_off hdf hof) kk) (b hne))
  · cases hj
end JW
end
section
/-! ===== copies of rows; calls of inherited methods and on constants ===== -/
def jh_cpy (σ : JH) (a b sp dp n : Nat) : JH := (σ.1, (fun q j => if q = b ∧ dp ≤ j ∧ j < dp + n then σ.2.1 a (sp + (j - dp)) else σ.2.1 q j), σ.2.2)
def jx_ac : JN := fun s => match s.2.1 with
  | .int n :: .int dp :: .ref b :: .int sp :: .ref a :: st => match s.2.2.1[a]?, s.2.2.1[b]? with
    | some (ta, na), some (tb, nb) => if ta = 100 ∧ tb = 100 ∧ ¬ sp < 0 ∧ ¬ dp < 0 ∧ ¬ n < 0 ∧ sp.toNatClampNeg + n.toNatClampNeg ≤ na ∧ dp.toNatClampNeg + n.toNatClampNeg ≤ nb ∧ (st.map (fun v => v.category)).sum ≤ 8 then some (s.1, st, jh_cpy s.2.2 a b sp.toNatClampNeg dp.toNatClampNeg n.toNatClampNeg) else none
    | _, _ => none
  | _ => none
theorem jx_ac_i {S S' : JS} (h : jx_ac S = some S') : ∃ n dp b sp a st na nb, S.2.1 = .int n :: .int dp :: .ref b :: .int sp :: .ref a :: st ∧ S.2.2.1[a]? = some (100, na) ∧ S.2.2.1[b]? = some (100, nb) ∧ ¬ sp < 0 ∧ ¬ dp < 0 ∧ ¬ n < 0 ∧ sp.toNatClampNeg + n.toNatClampNeg ≤ na ∧ dp.toNatClampNeg + n.toNatClampNeg ≤ nb ∧ (st.map (fun v => v.category)).sum ≤ 8 ∧ S' = (S.1, st, jh_cpy S.2.2 a b sp.toNatClampNeg dp.toNatClampNeg n.toNatClampNeg) := by
  unfold jx_ac at h
  split at h
  · rename_i n dp b sp a st hs
    split at h
    · rename_i ta na tb nb h1 h2
      split at h
      · rename_i hc
        cases h
        obtain ⟨c1, c2, c3, c4, c5, c6, c7, c8⟩ := hc
        subst c1; subst c2
        exact ⟨n, dp, b, sp, a, st, na, nb, hs, h1, h2, c3, c4, c5, c6, c7, c8, rfl⟩
      · cases h
    · cases h
  · cases h
section JW
variable {G : JG} {p : Program} {e : Env} {R : Room} {s : State} {m : MethodId} {args : Array Value} {below : List Frame} {meth : Method} {c : Code} {cc : ByteArray} {n0 w0 nE wE nL own d : Nat} {ini : Bool} {Q : State → Prop} {pc i j k : Nat} {σ : JH} {H H' : Heap}
theorem jm_cpy {a b na nb sp dp n : Nat} (h : jm G σ s H) (hb : σ.1[b]? = some (100, nb)) (h' : H'[jr G b]? = some (arrV (jg_A G 100) nb (fun j => .int (va_cpy (σ.2.1 a) (σ.2.1 b) sp dp n j)))) (hz : H'.size = H.size) (ho : ∀ q : Nat, q ≠ jr G b → H'[q]? = H[q]?) : jm G (jh_cpy σ a b sp dp n) s H' := by
  obtain ⟨h64, -⟩ := jm_arr h hb (by decide) (by decide)
  have hfe : ∀ q j ty, q ≠ b → jf (jh_cpy σ a b sp dp n) q j ty = jf σ q j ty := by
    intro q j ty hq
    unfold jf jh_cpy
    simp only
    rw [if_neg (fun z => hq z.1)]
  refine ⟨by rw [hz]; exact h.1, by rw [hz]; exact h.2.1, fun q hq => ?_, fun i t' n' hi hx => ?_, ?_, h.2.2.2.2.2⟩
  · rw [ho q (by have := jr_ge (G := G) h64; omega)]
    exact h.2.2.1 q hq
  · have hx9 : σ.1[i]? = some (t', n') := hx
    clear hx
    by_cases hib : i = b
    · subst hib
      rw [hb] at hx9
      cases hx9
      refine Or.inr (Or.inl ⟨by decide, by decide, ?_⟩)
      rw [h']
      congr 2
      funext j
      rw [jf_0 rfl]
      show Value.int _ = Value.int _
      unfold va_cpy jh_cpy
      simp only [true_and]
    · exact jc_same (h.2.2.2.1 i t' n' hi hx9) (ho _ (jr_ne hi h64 hib)) (fun j ty => hfe i j ty hib)
  · refine jst_same h.2.2.2.2.1 (fun i _ => rfl) (fun q j hq => ?_) (fun q j hq => rfl) (fun q j hq => rfl)
    show (if q = b ∧ _ then _ else _) = _
    rw [if_neg (fun z => by omega)]
theorem jsl_ac {ix : Nat} (hl : Cond.methodLink (jt_own.getD own "") ix arraycopyName ∈ lw_tbl) (hd1 : 1 ≤ d) (hd : decode cc i = .ok (.invokestatic ix, 3)) : JSl G own ini cc d nL i (i + 3) jx_ac := by
  refine ⟨fun S S' q => ?_, fun p e R s m args below meth c n0 w0 nE wE Q X D S S' q kk => ?_⟩
  · obtain ⟨n, dp, b, sp, a, st, na, nb, hs, ha, hb, h1, h2, h3, h4, h5, h8, rfl⟩ := jx_ac_i q
    exact jh_set_mono rfl
  · obtain ⟨L, st0, σ⟩ := S
    obtain ⟨n, dp, b, sp, a, st, na, nb, hs, ha, hb2, h1, h2, h3, h4, h5, h8, rfl⟩ := jx_ac_i q
    have hs : st0 = _ := hs
    subst hs
    obtain ⟨hx, hb, hml, hown, hG, hRc, hRs, hini⟩ := id X
    have kk : JK G p e R s m args below meth c nL n0 w0 nE wE Q (i + 3) (L, st, jh_cpy σ a b sp.toNatClampNeg dp.toNatClampNeg n.toNatClampNeg) := kk
    obtain ⟨k1, k2, k3⟩ := kk
    refine ⟨k1, k2, fun H locs ls g1 g2 hM hlo hl5 => ?_⟩
    obtain ⟨a64, hc0⟩ := jm_arr hM ha (by decide) (by decide)
    obtain ⟨b64, hc1⟩ := jm_arr hM hb2 (by decide) (by decide)
    have nn : ∀ z : Int32, ¬ z < 0 → z.toInt = ((z.toNatClampNeg : Nat) : Int) := by
      intro z hz
      have hz0 : (0 : Int) ≤ z.toInt := by
        have := Int32.not_lt.mp hz
        simpa using Int32.le_iff_toInt_le.mp this
      show z.toInt = ((z.toInt.toNat : Nat) : Int)
      omega
    intro T hT X0
    obtain ⟨-, kA, hkA, cmA, hkkA⟩ := (hG.2.2.1 100 (by decide) (by decide)).1 na (fun j => jv G (jf σ a j (jt_at 100)))
    obtain ⟨-, kB, hkB, cmB, hkkB⟩ := (hG.2.2.1 100 (by decide) (by decide)).1 nb (fun j => jv G (jf σ b j (jt_at 100)))
    have hnat : (Cond.native arraycopyName).before args s = true := jx_word hG (List.mem_of_getElem? (i := 936) (by decide +kernel)) rfl rfl
    have hstat : (Cond.static arraycopyName).before args s = true := jx_word hG (List.mem_of_getElem? (i := 935) (by decide +kernel)) rfl rfl
    have hini : (Cond.initialized "java/lang/System").before args s = true := jx_word hG (List.mem_of_getElem? (i := 140) (by decide +kernel)) rfl rfl
    obtain ⟨vm', X', step⟩ := X0.arraycopy hx hown (jx_word hG hl rfl rfl) hnat hstat hini (src := jr G a) (dst := jr G b) (cs := arrV (jg_A G 100) na (fun j => jv G (jf σ a j (jt_at 100)))) (cd := arrV (jg_A G 100) nb (fun j => jv G (jf σ b j (jt_at 100)))) (srcPos := sp) (destPos := dp) (n := n) (by rw [hT]; exact hc0) (by rw [hT]; exact hc1)
      (fun _ h => by cases h) (fun _ h => by cases h) (fun h => by cases h) (fun h => by cases h) hkA hkB hkkA hkkB (by rfl) h1 h2 h3
      (by rw [nn sp h1, nn n h3, arrV_size]; omega)
      (by rw [nn dp h2, nn n h3, arrV_size]; omega)
      (fun vm₁ _ z hz => by
        have e9 : (arrV (jg_A G 100) na (fun j => jv G (jf σ a j (jt_at 100)))).slots.getD (sp.toNatClampNeg + z) .null = .int (σ.2.1 a (sp.toNatClampNeg + z)) := by
          rw [Array.getD_eq_getD_getElem?, arrV_read _ _ (by omega)]
          rfl
        refine ⟨?_, ?_⟩
        · rw [e9]; rfl
        · rw [e9]; exact trivial)
      (g := F0 m i ls (.int n :: .int dp :: .ref (jr G b) :: .int sp :: .ref (jr G a) :: st.map (jv G))) rfl (by rw [hml]; exact hl5.1) (rest := st.map (jv G)) rfl (by rw [hb]; exact hd) (Nat.le_trans hd1 D.1)
      (by
        have e8 := jm_cats (G := G) h8
        have := D.2
        show 2 * 0 + _ + (nativeFrameWords "java/lang/System" "arraycopy" 5 + 11) ≤ _
        have e7 : nativeFrameWords "java/lang/System" "arraycopy" 5 + 11 ≤ 50 := by decide +kernel
        omega)
    have e1 : copied (arrV (jg_A G 100) na (fun j => jv G (jf σ a j (jt_at 100)))) (arrV (jg_A G 100) nb (fun j => jv G (jf σ b j (jt_at 100)))) sp dp n = arrV (jg_A G 100) nb (fun j => .int (va_cpy (σ.2.1 a) (σ.2.1 b) sp.toNatClampNeg dp.toNatClampNeg n.toNatClampNeg j)) := va_copied (fun z => .int z) _ _ (σ.2.1 a) (σ.2.1 b) h4
    rw [e1] at X' step
    have hlt : jr G b < H.size := (Array.getElem?_eq_some_iff.mp hc1).1
    have hheap : ((T.setVm vm').setCell (jr G b) (arrV (jg_A G 100) nb (fun j => .int (va_cpy (σ.2.1 a) (σ.2.1 b) sp.toNatClampNeg dp.toNatClampNeg n.toNatClampNeg j)))).heap = H.setIfInBounds (jr G b) (arrV (jg_A G 100) nb (fun j => .int (va_cpy (σ.2.1 a) (σ.2.1 b) sp.toNatClampNeg dp.toNatClampNeg n.toNatClampNeg j))) := by rw [← hT]; rfl
    have hM' : jm G (jh_cpy σ a b sp.toNatClampNeg dp.toNatClampNeg n.toNatClampNeg) s (H.setIfInBounds (jr G b) (arrV (jg_A G 100) nb (fun j => .int (va_cpy (σ.2.1 a) (σ.2.1 b) sp.toNatClampNeg dp.toNatClampNeg n.toNatClampNeg j)))) :=
      jm_cpy (na := na) hM hb2 (by simp [Array.getElem?_setIfInBounds, hlt]) (by simp) (fun q hq => by simp [Array.getElem?_setIfInBounds, Ne.symm hq])
    obtain ⟨t, a1, b1⟩ := k3 _ _ ls g1 g2 hM' (fun q hq => by
      rcases List.mem_append.mp hq with h | h
      · exact hlo q h
      · obtain ⟨z, -, hz⟩ := List.mem_map.mp h
        rw [← hz]
        exact jr_ge b64) hl5 _ hheap X'
    exact ⟨t, step t a1, b1⟩
/-- nothing is known of what it does: it isn't called -/
def jf_no : JF := fun _ _ => none
theorem jsem_no (y : MethodName) (cY : ByteArray) (maxL : Nat) (ret : Option FieldType) (d : Nat) : JSem G y cY maxL ret d jf_no := fun _ _ _ _ h => by cases h
theorem jw_ct {a t n : Nat} {C : String} (hM : jm G σ s H) (ha : σ.1[a]? = some (t, n)) (ht : (t = 50 ∧ C = "CellarTurns$Word") ∨ (t = 51 ∧ C = "java/lang/String")) : ∃ cellB : Cell, H[jr G a]? = some cellB ∧ cellB.vm.isStatics = false ∧ s.vm.findClass C = some cellB.cls := by
  have ht2 : t = 50 ∨ t = 51 := ht.elim (fun h => Or.inl h.1) (fun h => Or.inr h.1)
  obtain ⟨h64, hr⟩ := jw_wt hM ha ht2
  have hO : va_O C (jg_sa G a) (jt_A G) s (jg_H G) := by
    rcases ht with ⟨h1, h2⟩ | ⟨h1, h2⟩
    · rw [h2]; exact ((hM.2.2.2.2.1 a t n h64 ha).2.1 h1).1
    · rw [h2]; exact ((hM.2.2.2.2.1 a t n h64 ha).2.2.2.2.2 h1).1
  obtain ⟨cell, g1, g2, g3, g4⟩ := hO
  exact ⟨cell, by rw [hr, jm_old hM g4]; exact g1, g2, g3⟩
theorem jsl_cvs {y : MethodName} {cY : ByteArray} {maxL d' n ix : Nat} {ret : Option FieldType} {f : JF} (hm : JMt y cY maxL ret n) (hin : Cond.instanceMethod y ∈ lw_tbl) (hse : Cond.selects y.cls y y ∈ lw_tbl) (hcls : y.cls = "java/lang/String") (hS : JSem G y cY maxL ret d' f) (hdd : d' + 1 ≤ d)
    (hl : Cond.methodLink (jt_own.getD own "") ix y ∈ lw_tbl) (hd : decode cc i = .ok (.invokevirtual ix, 3)) : JSl G own ini cc d nL i (i + 3) (jx_cv (n + 1) 51 f) := by
  refine ⟨fun S S' q => ?_, fun p e R s m args below meth c n0 w0 nE wE Q X D S S' q kk => ?_⟩
  · obtain ⟨a, r, t, v, σ', h1, h2, h3, h4, h5, rfl⟩ := jx_cv_i q
    obtain ⟨g1, g2, -⟩ := hS _ _ _ _ h5
    exact ⟨g1, g2⟩
  · obtain ⟨L, st0, σ⟩ := S
    obtain ⟨a, r, t, v, σ', h1, h2, h3, h4, h5, rfl⟩ := jx_cv_i q
    obtain ⟨hx, hb, hml, hown, hG, hRc, hRs, hini⟩ := id X
    refine jk_call X hS h5 (fun H locs ls cells slots hls hM hMet hcap hP => ?_) kk
    have hcell := jw_ct (C := "java/lang/String") hM h2 (Or.inr ⟨rfl, rfl⟩)
    have hrm := jm_room (k := jh_n σ' - jh_n σ) (n := jh_w σ' - jh_w σ) hdd hm.2.2.2.2 D
    exact va_runV (Ts := []) (As := r.map (jv G)) (b := jr G a) (C := "java/lang/String") ⟨hx, hb, hml, hown, fun w hw => absurd hw List.not_mem_nil⟩ hMet
      ⟨⟨rfl, rfl, hrm.1, hrm.2, jm_words hG hm.1, List.mem_cons_self, jx_word hG hm.1 rfl rfl, jx_word hG hm.2.1 rfl rfl, hm.2.2.1, jm_par hm.2.2.2.1, jx_word hG hl rfl rfl⟩, jx_word hG hin rfl rfl, by have h9 := jx_word (args := args) hG hse rfl rfl; rw [hcls] at h9; exact h9⟩
      ⟨jpc_blind, hcell, fun U hU hW => hP U hU hW⟩ rfl (by rw [List.length_map]; omega) hls (jst_split h1) (lv_room (jm_cats h3)) hd hcap
/-- a Word's ordinal: a method of Enum -/
def jt_ordx : MethodName := ⟨"CellarTurns$Word", "ordinal", "()I"⟩
theorem jsl_cu {y : MethodName} {cY : ByteArray} {maxL d' ix : Nat} {ret : Option FieldType} {f : JF} (hyx : y = ⟨"java/lang/Enum", "ordinal", "()I"⟩) (hm : JMt y cY maxL ret 0) (hin : Cond.instanceMethod y ∈ lw_tbl) (hse : Cond.selects "CellarTurns$Word" jt_ordx y ∈ lw_tbl) (hsa : Cond.sameMethod "CellarTurns$Word" "java/lang/Enum" "ordinal" "()I" ∈ lw_tbl) (hS : JSem G y cY maxL ret d' f) (hdd : d' + 1 ≤ d)
    (hl : Cond.methodLink (jt_own.getD own "") ix jt_ordx ∈ lw_tbl) (hd : decode cc i = .ok (.invokevirtual ix, 3)) : JSl G own ini cc d nL i (i + 3) (jx_cv 1 50 f) := by
  refine ⟨fun S S' q => ?_, fun p e R s m args below meth c n0 w0 nE wE Q X D S S' q kk => ?_⟩
  · obtain ⟨a, r, t, v, σ', h1, h2, h3, h4, h5, rfl⟩ := jx_cv_i q
    obtain ⟨g1, g2, -⟩ := hS _ _ _ _ h5
    exact ⟨g1, g2⟩
  · obtain ⟨L, st0, σ⟩ := S
    obtain ⟨a, r, t, v, σ', h1, h2, h3, h4, h5, rfl⟩ := jx_cv_i q
    obtain ⟨hx, hb, hml, hown, hG, hRc, hRs, hini⟩ := id X
    refine jk_call X hS h5 (fun H locs ls cells slots hls hM hMet hcap hP => ?_) kk
    have hcell := jw_ct (C := "CellarTurns$Word") hM h2 (Or.inl ⟨rfl, rfl⟩)
    have hrm := jm_room (k := jh_n σ' - jh_n σ) (n := jh_w σ' - jh_w σ) hdd hm.2.2.2.2 D
    exact va_runU (Ts := []) (As := r.map (jv G)) (b := jr G a) (C := "CellarTurns$Word") (owner := "java/lang/Enum") (x := jt_ordx) ⟨hx, hb, hml, hown, fun w hw => absurd hw List.not_mem_nil⟩ hMet
      ⟨⟨rfl, rfl, hrm.1, hrm.2, jm_words hG hm.1, List.mem_cons_self⟩, jx_word hG hm.1 rfl rfl, jx_word hG hm.2.1 rfl rfl, ⟨by decide, by decide⟩, jm_par (y := jt_ordx) (n := 0) (by decide +kernel), jx_word hG hl rfl rfl, jx_word hG hsa rfl rfl, by
        have h9 : va_Decl s y := va_Decl.of (args := args) (jx_word hG hin rfl rfl) (jx_word hG hm.1 rfl rfl)
        rw [hyx] at h9
        exact h9, jx_word hG hse rfl rfl, jx_word hG hin rfl rfl⟩
      ⟨jpc_blind, hcell, fun U hU hW => hP U hU hW⟩ rfl (by rw [List.length_map]; omega) hls (jst_split h1) (lv_room (jm_cats h3)) hd hcap
end JW
end
section
theorem i_vc : Claimed_1_1 ∧ Claimed_1_2 := sorry
end
