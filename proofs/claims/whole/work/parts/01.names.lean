-- ===== PART A: goes FIRST, ahead of the names: the tables' words, and 'selects' of the private methods out of them =====
/-- a private method of a class that the tables say can be made, by its rows of tables_1 -/
def lw_okq (q : MethodName × Nat) : Prop := (q.1.cls ≠ "java/lang/invoke/MethodHandle" ∧ q.1.cls ≠ "java/lang/invoke/VarHandle") ∧ Cond.instantiable q.1.cls q.2 ∈ tables_1 ∧ Cond.privateMethod q.1 ∈ tables_1 ∧ Cond.instanceMethod q.1 ∈ tables_1
theorem lw_p0 : lw_okq (⟨"java/lang/Throwable", "fillInStackTrace", "(I)Ljava/lang/Throwable;"⟩, 6) := ⟨⟨by decide +kernel, by decide +kernel⟩, List.mem_of_getElem? (i := 226) (by decide +kernel), List.mem_of_getElem? (i := 224) (by decide +kernel), List.mem_of_getElem? (i := 225) (by decide +kernel)⟩
theorem lw_p1 : lw_okq (⟨"RegularSolver", "requireRoom", "()V"⟩, 6) := ⟨⟨by decide +kernel, by decide +kernel⟩, List.mem_of_getElem? (i := 24) (by decide +kernel), List.mem_of_getElem? (i := 256) (by decide +kernel), List.mem_of_getElem? (i := 257) (by decide +kernel)⟩
theorem lw_p2 : lw_okq (⟨"RegularSolver$Maker", "follow", "(LRegularSolver$Way;)Z"⟩, 11) := ⟨⟨by decide +kernel, by decide +kernel⟩, List.mem_of_getElem? (i := 34) (by decide +kernel), List.mem_of_getElem? (i := 316) (by decide +kernel), List.mem_of_getElem? (i := 317) (by decide +kernel)⟩
theorem lw_p3 : lw_okq (⟨"RegularSolver$Chain", "backBegunAt", "(I)J"⟩, 4) := ⟨⟨by decide +kernel, by decide +kernel⟩, List.mem_of_getElem? (i := 334) (by decide +kernel), List.mem_of_getElem? (i := 332) (by decide +kernel), List.mem_of_getElem? (i := 333) (by decide +kernel)⟩
theorem lw_p4 : lw_okq (⟨"RegularSolver$Maker", "numberOf", "(IJ)I"⟩, 11) := ⟨⟨by decide +kernel, by decide +kernel⟩, List.mem_of_getElem? (i := 34) (by decide +kernel), List.mem_of_getElem? (i := 347) (by decide +kernel), List.mem_of_getElem? (i := 348) (by decide +kernel)⟩
theorem lw_p5 : lw_okq (⟨"RegularSolver$Maker", "addAt", "(IIJ)I"⟩, 11) := ⟨⟨by decide +kernel, by decide +kernel⟩, List.mem_of_getElem? (i := 34) (by decide +kernel), List.mem_of_getElem? (i := 352) (by decide +kernel), List.mem_of_getElem? (i := 353) (by decide +kernel)⟩
theorem lw_p6 : lw_okq (⟨"RegularSolver$Maker", "splitByEnd", "(LRegularSolver$Way;)V"⟩, 11) := ⟨⟨by decide +kernel, by decide +kernel⟩, List.mem_of_getElem? (i := 34) (by decide +kernel), List.mem_of_getElem? (i := 390) (by decide +kernel), List.mem_of_getElem? (i := 391) (by decide +kernel)⟩
theorem lw_p7 : lw_okq (⟨"RegularSolver$Maker", "splitToTheEnd", "()Z"⟩, 11) := ⟨⟨by decide +kernel, by decide +kernel⟩, List.mem_of_getElem? (i := 34) (by decide +kernel), List.mem_of_getElem? (i := 409) (by decide +kernel), List.mem_of_getElem? (i := 410) (by decide +kernel)⟩
theorem lw_p8 : lw_okq (⟨"RegularSolver$Maker", "splitByMarks", "()Z"⟩, 11) := ⟨⟨by decide +kernel, by decide +kernel⟩, List.mem_of_getElem? (i := 34) (by decide +kernel), List.mem_of_getElem? (i := 413) (by decide +kernel), List.mem_of_getElem? (i := 414) (by decide +kernel)⟩
theorem lw_p9 : lw_okq (⟨"RegularSolver$Maker", "markAt", "(I)I"⟩, 11) := ⟨⟨by decide +kernel, by decide +kernel⟩, List.mem_of_getElem? (i := 34) (by decide +kernel), List.mem_of_getElem? (i := 417) (by decide +kernel), List.mem_of_getElem? (i := 418) (by decide +kernel)⟩
theorem lw_p10 : lw_okq (⟨"RegularSolver$Maker", "classOfMark", "(II)I"⟩, 11) := ⟨⟨by decide +kernel, by decide +kernel⟩, List.mem_of_getElem? (i := 34) (by decide +kernel), List.mem_of_getElem? (i := 421) (by decide +kernel), List.mem_of_getElem? (i := 422) (by decide +kernel)⟩
theorem lw_p11 : lw_okq (⟨"RegularSolver$Maker", "addClassAt", "(III)I"⟩, 11) := ⟨⟨by decide +kernel, by decide +kernel⟩, List.mem_of_getElem? (i := 34) (by decide +kernel), List.mem_of_getElem? (i := 426) (by decide +kernel), List.mem_of_getElem? (i := 427) (by decide +kernel)⟩
theorem lw_p12 : lw_okq (⟨"RegularSolver$Maker", "joined", "(LRegularSolver$Way;)LRegularSolver$Automaton;"⟩, 11) := ⟨⟨by decide +kernel, by decide +kernel⟩, List.mem_of_getElem? (i := 34) (by decide +kernel), List.mem_of_getElem? (i := 430) (by decide +kernel), List.mem_of_getElem? (i := 431) (by decide +kernel)⟩
theorem lw_p13 : lw_okq (⟨"RegularSolver", "keep", "(LRegularSolver$Automaton;)I"⟩, 6) := ⟨⟨by decide +kernel, by decide +kernel⟩, List.mem_of_getElem? (i := 24) (by decide +kernel), List.mem_of_getElem? (i := 463) (by decide +kernel), List.mem_of_getElem? (i := 464) (by decide +kernel)⟩
theorem lw_p14 : lw_okq (⟨"RegularSolver", "requireLanguage", "(I)V"⟩, 6) := ⟨⟨by decide +kernel, by decide +kernel⟩, List.mem_of_getElem? (i := 24) (by decide +kernel), List.mem_of_getElem? (i := 498) (by decide +kernel), List.mem_of_getElem? (i := 499) (by decide +kernel)⟩
theorem lw_p15 : lw_okq (⟨"RegularSolver$Counter", "addLetter", "(I[I)V"⟩, 2) := ⟨⟨by decide +kernel, by decide +kernel⟩, List.mem_of_getElem? (i := 76) (by decide +kernel), List.mem_of_getElem? (i := 630) (by decide +kernel), List.mem_of_getElem? (i := 631) (by decide +kernel)⟩
def lw_privs_1 : List (MethodName × Nat) := [(⟨"java/lang/Throwable", "fillInStackTrace", "(I)Ljava/lang/Throwable;"⟩, 6), (⟨"RegularSolver", "requireRoom", "()V"⟩, 6), (⟨"RegularSolver$Maker", "follow", "(LRegularSolver$Way;)Z"⟩, 11), (⟨"RegularSolver$Chain", "backBegunAt", "(I)J"⟩, 4), (⟨"RegularSolver$Maker", "numberOf", "(IJ)I"⟩, 11), (⟨"RegularSolver$Maker", "addAt", "(IIJ)I"⟩, 11), (⟨"RegularSolver$Maker", "splitByEnd", "(LRegularSolver$Way;)V"⟩, 11), (⟨"RegularSolver$Maker", "splitToTheEnd", "()Z"⟩, 11), (⟨"RegularSolver$Maker", "splitByMarks", "()Z"⟩, 11), (⟨"RegularSolver$Maker", "markAt", "(I)I"⟩, 11), (⟨"RegularSolver$Maker", "classOfMark", "(II)I"⟩, 11), (⟨"RegularSolver$Maker", "addClassAt", "(III)I"⟩, 11), (⟨"RegularSolver$Maker", "joined", "(LRegularSolver$Way;)LRegularSolver$Automaton;"⟩, 11), (⟨"RegularSolver", "keep", "(LRegularSolver$Automaton;)I"⟩, 6), (⟨"RegularSolver", "requireLanguage", "(I)V"⟩, 6), (⟨"RegularSolver$Counter", "addLetter", "(I[I)V"⟩, 2)]
theorem lw_r1 : ∀ q ∈ lw_privs_1, lw_okq q := List.forall_mem_cons.mpr ⟨lw_p0, List.forall_mem_cons.mpr ⟨lw_p1, List.forall_mem_cons.mpr ⟨lw_p2, List.forall_mem_cons.mpr ⟨lw_p3, List.forall_mem_cons.mpr ⟨lw_p4, List.forall_mem_cons.mpr ⟨lw_p5, List.forall_mem_cons.mpr ⟨lw_p6, List.forall_mem_cons.mpr ⟨lw_p7, List.forall_mem_cons.mpr ⟨lw_p8, List.forall_mem_cons.mpr ⟨lw_p9, List.forall_mem_cons.mpr ⟨lw_p10, List.forall_mem_cons.mpr ⟨lw_p11, List.forall_mem_cons.mpr ⟨lw_p12, List.forall_mem_cons.mpr ⟨lw_p13, List.forall_mem_cons.mpr ⟨lw_p14, List.forall_mem_cons.mpr ⟨lw_p15, fun _ h => absurd h List.not_mem_nil⟩⟩⟩⟩⟩⟩⟩⟩⟩⟩⟩⟩⟩⟩⟩⟩
theorem lw_p16 : lw_okq (⟨"RegularSolver$Automaton", "leastLetter", "(IJ)I"⟩, 4) := ⟨⟨by decide +kernel, by decide +kernel⟩, List.mem_of_getElem? (i := 434) (by decide +kernel), List.mem_of_getElem? (i := 650) (by decide +kernel), List.mem_of_getElem? (i := 651) (by decide +kernel)⟩
theorem lw_p17 : lw_okq (⟨"RegularSolver$Inclusion", "goOn", "(LRegularSolver$Automaton;LRegularSolver$Automaton;)Z"⟩, 2) := ⟨⟨by decide +kernel, by decide +kernel⟩, List.mem_of_getElem? (i := 89) (by decide +kernel), List.mem_of_getElem? (i := 680) (by decide +kernel), List.mem_of_getElem? (i := 681) (by decide +kernel)⟩
theorem lw_p18 : lw_okq (⟨"RegularSolver$Inclusion", "comeTo", "(IJ)V"⟩, 2) := ⟨⟨by decide +kernel, by decide +kernel⟩, List.mem_of_getElem? (i := 89) (by decide +kernel), List.mem_of_getElem? (i := 686) (by decide +kernel), List.mem_of_getElem? (i := 687) (by decide +kernel)⟩
theorem lw_p19 : lw_okq (⟨"RegularSolver$Search", "allowLengths", "(I)Z"⟩, 12) := ⟨⟨by decide +kernel, by decide +kernel⟩, List.mem_of_getElem? (i := 102) (by decide +kernel), List.mem_of_getElem? (i := 733) (by decide +kernel), List.mem_of_getElem? (i := 734) (by decide +kernel)⟩
theorem lw_p20 : lw_okq (⟨"RegularSolver$Search", "isWeighed", "(I)Z"⟩, 12) := ⟨⟨by decide +kernel, by decide +kernel⟩, List.mem_of_getElem? (i := 102) (by decide +kernel), List.mem_of_getElem? (i := 741) (by decide +kernel), List.mem_of_getElem? (i := 742) (by decide +kernel)⟩
theorem lw_p21 : lw_okq (⟨"RegularSolver$Search", "findLengths", "()Z"⟩, 12) := ⟨⟨by decide +kernel, by decide +kernel⟩, List.mem_of_getElem? (i := 102) (by decide +kernel), List.mem_of_getElem? (i := 745) (by decide +kernel), List.mem_of_getElem? (i := 746) (by decide +kernel)⟩
theorem lw_p22 : lw_okq (⟨"RegularSolver$Search", "sumRests", "(I)V"⟩, 12) := ⟨⟨by decide +kernel, by decide +kernel⟩, List.mem_of_getElem? (i := 102) (by decide +kernel), List.mem_of_getElem? (i := 749) (by decide +kernel), List.mem_of_getElem? (i := 750) (by decide +kernel)⟩
theorem lw_p23 : lw_okq (⟨"RegularSolver$Search", "shortestAllowed", "(I)I"⟩, 12) := ⟨⟨by decide +kernel, by decide +kernel⟩, List.mem_of_getElem? (i := 102) (by decide +kernel), List.mem_of_getElem? (i := 753) (by decide +kernel), List.mem_of_getElem? (i := 754) (by decide +kernel)⟩
theorem lw_p24 : lw_okq (⟨"RegularSolver$Search", "longestAllowed", "(I)I"⟩, 12) := ⟨⟨by decide +kernel, by decide +kernel⟩, List.mem_of_getElem? (i := 102) (by decide +kernel), List.mem_of_getElem? (i := 757) (by decide +kernel), List.mem_of_getElem? (i := 758) (by decide +kernel)⟩
theorem lw_p25 : lw_okq (⟨"RegularSolver$Search", "place", "(I)Z"⟩, 12) := ⟨⟨by decide +kernel, by decide +kernel⟩, List.mem_of_getElem? (i := 102) (by decide +kernel), List.mem_of_getElem? (i := 767) (by decide +kernel), List.mem_of_getElem? (i := 768) (by decide +kernel)⟩
theorem lw_p26 : lw_okq (⟨"RegularSolver$Search", "openLengths", "(I)J"⟩, 12) := ⟨⟨by decide +kernel, by decide +kernel⟩, List.mem_of_getElem? (i := 102) (by decide +kernel), List.mem_of_getElem? (i := 771) (by decide +kernel), List.mem_of_getElem? (i := 772) (by decide +kernel)⟩
theorem lw_p27 : lw_okq (⟨"RegularSolver$Search", "sumBefore", "(II)I"⟩, 12) := ⟨⟨by decide +kernel, by decide +kernel⟩, List.mem_of_getElem? (i := 102) (by decide +kernel), List.mem_of_getElem? (i := 776) (by decide +kernel), List.mem_of_getElem? (i := 777) (by decide +kernel)⟩
theorem lw_p28 : lw_okq (⟨"RegularSolver$Search", "keepWords", "()V"⟩, 12) := ⟨⟨by decide +kernel, by decide +kernel⟩, List.mem_of_getElem? (i := 102) (by decide +kernel), List.mem_of_getElem? (i := 795) (by decide +kernel), List.mem_of_getElem? (i := 796) (by decide +kernel)⟩
theorem lw_p29 : lw_okq (⟨"RegularSolver", "requireSolution", "()V"⟩, 6) := ⟨⟨by decide +kernel, by decide +kernel⟩, List.mem_of_getElem? (i := 24) (by decide +kernel), List.mem_of_getElem? (i := 808) (by decide +kernel), List.mem_of_getElem? (i := 809) (by decide +kernel)⟩
theorem lw_p30 : lw_okq (⟨"RegularSolverModel", "fails", "(ZI)Z"⟩, 29) := ⟨⟨by decide +kernel, by decide +kernel⟩, List.mem_of_getElem? (i := 835) (by decide +kernel), List.mem_of_getElem? (i := 942) (by decide +kernel), List.mem_of_getElem? (i := 943) (by decide +kernel)⟩
theorem lw_p31 : lw_okq (⟨"RegularSolverModel", "full", "(I)Z"⟩, 29) := ⟨⟨by decide +kernel, by decide +kernel⟩, List.mem_of_getElem? (i := 835) (by decide +kernel), List.mem_of_getElem? (i := 946) (by decide +kernel), List.mem_of_getElem? (i := 947) (by decide +kernel)⟩
def lw_privs_2 : List (MethodName × Nat) := [(⟨"RegularSolver$Automaton", "leastLetter", "(IJ)I"⟩, 4), (⟨"RegularSolver$Inclusion", "goOn", "(LRegularSolver$Automaton;LRegularSolver$Automaton;)Z"⟩, 2), (⟨"RegularSolver$Inclusion", "comeTo", "(IJ)V"⟩, 2), (⟨"RegularSolver$Search", "allowLengths", "(I)Z"⟩, 12), (⟨"RegularSolver$Search", "isWeighed", "(I)Z"⟩, 12), (⟨"RegularSolver$Search", "findLengths", "()Z"⟩, 12), (⟨"RegularSolver$Search", "sumRests", "(I)V"⟩, 12), (⟨"RegularSolver$Search", "shortestAllowed", "(I)I"⟩, 12), (⟨"RegularSolver$Search", "longestAllowed", "(I)I"⟩, 12), (⟨"RegularSolver$Search", "place", "(I)Z"⟩, 12), (⟨"RegularSolver$Search", "openLengths", "(I)J"⟩, 12), (⟨"RegularSolver$Search", "sumBefore", "(II)I"⟩, 12), (⟨"RegularSolver$Search", "keepWords", "()V"⟩, 12), (⟨"RegularSolver", "requireSolution", "()V"⟩, 6), (⟨"RegularSolverModel", "fails", "(ZI)Z"⟩, 29), (⟨"RegularSolverModel", "full", "(I)Z"⟩, 29)]
theorem lw_r2 : ∀ q ∈ lw_privs_2, lw_okq q := List.forall_mem_cons.mpr ⟨lw_p16, List.forall_mem_cons.mpr ⟨lw_p17, List.forall_mem_cons.mpr ⟨lw_p18, List.forall_mem_cons.mpr ⟨lw_p19, List.forall_mem_cons.mpr ⟨lw_p20, List.forall_mem_cons.mpr ⟨lw_p21, List.forall_mem_cons.mpr ⟨lw_p22, List.forall_mem_cons.mpr ⟨lw_p23, List.forall_mem_cons.mpr ⟨lw_p24, List.forall_mem_cons.mpr ⟨lw_p25, List.forall_mem_cons.mpr ⟨lw_p26, List.forall_mem_cons.mpr ⟨lw_p27, List.forall_mem_cons.mpr ⟨lw_p28, List.forall_mem_cons.mpr ⟨lw_p29, List.forall_mem_cons.mpr ⟨lw_p30, List.forall_mem_cons.mpr ⟨lw_p31, fun _ h => absurd h List.not_mem_nil⟩⟩⟩⟩⟩⟩⟩⟩⟩⟩⟩⟩⟩⟩⟩⟩
theorem lw_p32 : lw_okq (⟨"RegularSolverModel", "lessened", "()Z"⟩, 29) := ⟨⟨by decide +kernel, by decide +kernel⟩, List.mem_of_getElem? (i := 835) (by decide +kernel), List.mem_of_getElem? (i := 950) (by decide +kernel), List.mem_of_getElem? (i := 951) (by decide +kernel)⟩
theorem lw_p33 : lw_okq (⟨"RegularSolverModel", "alike", "(II)Z"⟩, 29) := ⟨⟨by decide +kernel, by decide +kernel⟩, List.mem_of_getElem? (i := 835) (by decide +kernel), List.mem_of_getElem? (i := 954) (by decide +kernel), List.mem_of_getElem? (i := 955) (by decide +kernel)⟩
theorem lw_p34 : lw_okq (⟨"RegularSolverModel", "made", "(III)I"⟩, 29) := ⟨⟨by decide +kernel, by decide +kernel⟩, List.mem_of_getElem? (i := 835) (by decide +kernel), List.mem_of_getElem? (i := 966) (by decide +kernel), List.mem_of_getElem? (i := 967) (by decide +kernel)⟩
theorem lw_p35 : lw_okq (⟨"RegularSolverModel", "isLanguage", "(I)Z"⟩, 29) := ⟨⟨by decide +kernel, by decide +kernel⟩, List.mem_of_getElem? (i := 835) (by decide +kernel), List.mem_of_getElem? (i := 970) (by decide +kernel), List.mem_of_getElem? (i := 971) (by decide +kernel)⟩
theorem lw_p36 : lw_okq (⟨"RegularSolverModel", "explored", "(III)Z"⟩, 29) := ⟨⟨by decide +kernel, by decide +kernel⟩, List.mem_of_getElem? (i := 835) (by decide +kernel), List.mem_of_getElem? (i := 974) (by decide +kernel), List.mem_of_getElem? (i := 975) (by decide +kernel)⟩
theorem lw_p37 : lw_okq (⟨"RegularSolverModel", "isLast", "(II)Z"⟩, 29) := ⟨⟨by decide +kernel, by decide +kernel⟩, List.mem_of_getElem? (i := 835) (by decide +kernel), List.mem_of_getElem? (i := 978) (by decide +kernel), List.mem_of_getElem? (i := 979) (by decide +kernel)⟩
theorem lw_p38 : lw_okq (⟨"RegularSolverModel", "ends", "(IIIIJ)Z"⟩, 29) := ⟨⟨by decide +kernel, by decide +kernel⟩, List.mem_of_getElem? (i := 835) (by decide +kernel), List.mem_of_getElem? (i := 982) (by decide +kernel), List.mem_of_getElem? (i := 983) (by decide +kernel)⟩
theorem lw_p39 : lw_okq (⟨"RegularSolverModel", "hasLast", "(IJ)Z"⟩, 29) := ⟨⟨by decide +kernel, by decide +kernel⟩, List.mem_of_getElem? (i := 835) (by decide +kernel), List.mem_of_getElem? (i := 986) (by decide +kernel), List.mem_of_getElem? (i := 987) (by decide +kernel)⟩
theorem lw_p40 : lw_okq (⟨"RegularSolverModel", "come", "(IJZ)I"⟩, 29) := ⟨⟨by decide +kernel, by decide +kernel⟩, List.mem_of_getElem? (i := 835) (by decide +kernel), List.mem_of_getElem? (i := 990) (by decide +kernel), List.mem_of_getElem? (i := 991) (by decide +kernel)⟩
theorem lw_p41 : lw_okq (⟨"RegularSolverModel", "go", "(III)I"⟩, 29) := ⟨⟨by decide +kernel, by decide +kernel⟩, List.mem_of_getElem? (i := 835) (by decide +kernel), List.mem_of_getElem? (i := 994) (by decide +kernel), List.mem_of_getElem? (i := 995) (by decide +kernel)⟩
theorem lw_p42 : lw_okq (⟨"RegularSolverModel", "step", "(IJI)J"⟩, 29) := ⟨⟨by decide +kernel, by decide +kernel⟩, List.mem_of_getElem? (i := 835) (by decide +kernel), List.mem_of_getElem? (i := 998) (by decide +kernel), List.mem_of_getElem? (i := 999) (by decide +kernel)⟩
theorem lw_p43 : lw_okq (⟨"RegularSolverModel", "lead", "(II)V"⟩, 29) := ⟨⟨by decide +kernel, by decide +kernel⟩, List.mem_of_getElem? (i := 835) (by decide +kernel), List.mem_of_getElem? (i := 1037) (by decide +kernel), List.mem_of_getElem? (i := 1038) (by decide +kernel)⟩
theorem lw_p44 : lw_okq (⟨"RegularSolverModel", "firstWord", "(II)J"⟩, 29) := ⟨⟨by decide +kernel, by decide +kernel⟩, List.mem_of_getElem? (i := 835) (by decide +kernel), List.mem_of_getElem? (i := 1041) (by decide +kernel), List.mem_of_getElem? (i := 1042) (by decide +kernel)⟩
theorem lw_p45 : lw_okq (⟨"RegularSolverModel", "found", "(I)Z"⟩, 29) := ⟨⟨by decide +kernel, by decide +kernel⟩, List.mem_of_getElem? (i := 835) (by decide +kernel), List.mem_of_getElem? (i := 1071) (by decide +kernel), List.mem_of_getElem? (i := 1072) (by decide +kernel)⟩
theorem lw_p46 : lw_okq (⟨"RegularSolverModel", "holds", "()Z"⟩, 29) := ⟨⟨by decide +kernel, by decide +kernel⟩, List.mem_of_getElem? (i := 835) (by decide +kernel), List.mem_of_getElem? (i := 1075) (by decide +kernel), List.mem_of_getElem? (i := 1076) (by decide +kernel)⟩
def lw_privs_3 : List (MethodName × Nat) := [(⟨"RegularSolverModel", "lessened", "()Z"⟩, 29), (⟨"RegularSolverModel", "alike", "(II)Z"⟩, 29), (⟨"RegularSolverModel", "made", "(III)I"⟩, 29), (⟨"RegularSolverModel", "isLanguage", "(I)Z"⟩, 29), (⟨"RegularSolverModel", "explored", "(III)Z"⟩, 29), (⟨"RegularSolverModel", "isLast", "(II)Z"⟩, 29), (⟨"RegularSolverModel", "ends", "(IIIIJ)Z"⟩, 29), (⟨"RegularSolverModel", "hasLast", "(IJ)Z"⟩, 29), (⟨"RegularSolverModel", "come", "(IJZ)I"⟩, 29), (⟨"RegularSolverModel", "go", "(III)I"⟩, 29), (⟨"RegularSolverModel", "step", "(IJI)J"⟩, 29), (⟨"RegularSolverModel", "lead", "(II)V"⟩, 29), (⟨"RegularSolverModel", "firstWord", "(II)J"⟩, 29), (⟨"RegularSolverModel", "found", "(I)Z"⟩, 29), (⟨"RegularSolverModel", "holds", "()Z"⟩, 29)]
theorem lw_r3 : ∀ q ∈ lw_privs_3, lw_okq q := List.forall_mem_cons.mpr ⟨lw_p32, List.forall_mem_cons.mpr ⟨lw_p33, List.forall_mem_cons.mpr ⟨lw_p34, List.forall_mem_cons.mpr ⟨lw_p35, List.forall_mem_cons.mpr ⟨lw_p36, List.forall_mem_cons.mpr ⟨lw_p37, List.forall_mem_cons.mpr ⟨lw_p38, List.forall_mem_cons.mpr ⟨lw_p39, List.forall_mem_cons.mpr ⟨lw_p40, List.forall_mem_cons.mpr ⟨lw_p41, List.forall_mem_cons.mpr ⟨lw_p42, List.forall_mem_cons.mpr ⟨lw_p43, List.forall_mem_cons.mpr ⟨lw_p44, List.forall_mem_cons.mpr ⟨lw_p45, List.forall_mem_cons.mpr ⟨lw_p46, fun _ h => absurd h List.not_mem_nil⟩⟩⟩⟩⟩⟩⟩⟩⟩⟩⟩⟩⟩⟩⟩
def lw_privs : List (MethodName × Nat) := lw_privs_1 ++ (lw_privs_2 ++ (lw_privs_3))
def lw_tbl : List Cond := k2_sels lw_privs ++ tables_1
theorem lw_privs_ok : ∀ q ∈ lw_privs, lw_okq q := by
  show ∀ q ∈ lw_privs_1 ++ (lw_privs_2 ++ (lw_privs_3)), lw_okq q
  exact List.forall_mem_append.mpr ⟨lw_r1, List.forall_mem_append.mpr ⟨lw_r2, lw_r3⟩⟩
/-- all words of the tables that any state of the run keeps -/
def gW : List Cond := lw_tbl.filter goodWord
theorem gm {w : Cond} (i : Nat) (h : tables_1[i]? = some w) (g : goodWord w = true) : w ∈ gW := List.mem_filter.mpr ⟨List.mem_append_right _ (List.mem_of_getElem? h), g⟩
theorem gs {w : Cond} (h : w ∈ k2_sels lw_privs) (g : goodWord w = true) : w ∈ gW := List.mem_filter.mpr ⟨List.mem_append_left _ h, g⟩
theorem gW_tbl : ∀ w ∈ gW, w ∈ lw_tbl := fun w h => (List.mem_filter.mp h).1
theorem gW_in (w : Cond) : GoodIn (w :: gW) gW := fun v h => ⟨List.mem_cons_of_mem _ h, good_of_word (List.mem_filter.mp h).2⟩
theorem gW_g {c : Cond} (hc : c ∈ gW) : GoodIn gW (c :: gW) := fun v h => (List.mem_cons.mp h).elim (fun e => e ▸ ⟨hc, good_of_word (List.mem_filter.mp hc).2⟩) (fun h => ⟨h, good_of_word (List.mem_filter.mp h).2⟩)
abbrev R_Mo : String := "RegularSolverModel"
def T_Mo : u_T := fun k => match k with
  | 0 => ("RegularSolverModel", "err", "I", false)
  | 1 => ("RegularSolverModel", "languages", "I", false)
  | 2 => ("RegularSolverModel", "bounds", "I", false)
  | 3 => ("RegularSolverModel", "size", "[I", true)
  | 4 => ("RegularSolverModel", "goes", "[I", true)
  | 5 => ("RegularSolverModel", "last", "[Z", true)
  | 6 => ("RegularSolverModel", "left", "[I", true)
  | 7 => ("RegularSolverModel", "next", "[I", true)
  | 8 => ("RegularSolverModel", "group", "[I", true)
  | 9 => ("RegularSolverModel", "fresh", "[I", true)
  | 10 => ("RegularSolverModel", "leader", "[I", true)
  | 11 => ("RegularSolverModel", "number", "[I", true)
  | 12 => ("RegularSolverModel", "right", "[J", true)
  | 13 => ("RegularSolverModel", "ends", "[Z", true)
  | 14 => ("RegularSolverModel", "way", "I", false)
  | 15 => ("RegularSolverModel", "variable", "[I", true)
  | 16 => ("RegularSolverModel", "factor", "[I", true)
  | 17 => ("RegularSolverModel", "least", "[I", true)
  | 18 => ("RegularSolverModel", "most", "[I", true)
  | 19 => ("RegularSolverModel", "length", "[I", true)
  | 20 => ("RegularSolverModel", "word", "[J", true)
  | 21 => ("RegularSolverModel", "kept", "Z", false)
  | 22 => ("RegularSolverModel", "many", "[J", true)
  | 23 => ("RegularSolverModel", "more", "[J", true)
  | 24 => ("RegularSolverModel", "leads", "[J", true)
  | 25 => ("RegularSolverModel", "met", "[Z", true)
  | 26 => ("RegularSolverModel", "todo", "[I", true)
  | 27 => ("RegularSolverModel", "may", "[Z", true)
  | _ => ("RegularSolverModel", "tries", "[I", true)
def t_Mo : Nat → FieldType := fun k => match k with
  | 0 => .int
  | 1 => .int
  | 2 => .int
  | 3 => (.array .int)
  | 4 => (.array .int)
  | 5 => (.array .boolean)
  | 6 => (.array .int)
  | 7 => (.array .int)
  | 8 => (.array .int)
  | 9 => (.array .int)
  | 10 => (.array .int)
  | 11 => (.array .int)
  | 12 => (.array .long)
  | 13 => (.array .boolean)
  | 14 => .int
  | 15 => (.array .int)
  | 16 => (.array .int)
  | 17 => (.array .int)
  | 18 => (.array .int)
  | 19 => (.array .int)
  | 20 => (.array .long)
  | 21 => .boolean
  | 22 => (.array .long)
  | 23 => (.array .long)
  | 24 => (.array .long)
  | 25 => (.array .boolean)
  | 26 => (.array .int)
  | 27 => (.array .boolean)
  | _ => (.array .int)
theorem t_Mo_ok : ∀ k, k < 29 → parseFieldDescriptor (T_Mo k).2.2.1 = some (t_Mo k) := by decide +kernel
theorem n_Mo : ∀ a, a < 29 → ∀ b, b < 29 → a ≠ b → (T_Mo a).2.1 ≠ (T_Mo b).2.1 := by decide +kernel
theorem in_Mo : ∀ w ∈ u_ws R_Mo T_Mo 29, w ∈ gW := List.forall_mem_cons.mpr ⟨gm 869 (by decide +kernel) (by decide +kernel), List.forall_mem_cons.mpr ⟨gm 871 (by decide +kernel) (by decide +kernel), List.forall_mem_cons.mpr ⟨gm 873 (by decide +kernel) (by decide +kernel), List.forall_mem_cons.mpr ⟨gm 875 (by decide +kernel) (by decide +kernel), List.forall_mem_cons.mpr ⟨gm 877 (by decide +kernel) (by decide +kernel), List.forall_mem_cons.mpr ⟨gm 879 (by decide +kernel) (by decide +kernel), List.forall_mem_cons.mpr ⟨gm 881 (by decide +kernel) (by decide +kernel), List.forall_mem_cons.mpr ⟨gm 883 (by decide +kernel) (by decide +kernel), List.forall_mem_cons.mpr ⟨gm 885 (by decide +kernel) (by decide +kernel), List.forall_mem_cons.mpr ⟨gm 887 (by decide +kernel) (by decide +kernel), List.forall_mem_cons.mpr ⟨gm 889 (by decide +kernel) (by decide +kernel), List.forall_mem_cons.mpr ⟨gm 891 (by decide +kernel) (by decide +kernel), List.forall_mem_cons.mpr ⟨gm 893 (by decide +kernel) (by decide +kernel), List.forall_mem_cons.mpr ⟨gm 895 (by decide +kernel) (by decide +kernel), List.forall_mem_cons.mpr ⟨gm 897 (by decide +kernel) (by decide +kernel), List.forall_mem_cons.mpr ⟨gm 899 (by decide +kernel) (by decide +kernel), List.forall_mem_cons.mpr ⟨gm 901 (by decide +kernel) (by decide +kernel), List.forall_mem_cons.mpr ⟨gm 903 (by decide +kernel) (by decide +kernel), List.forall_mem_cons.mpr ⟨gm 905 (by decide +kernel) (by decide +kernel), List.forall_mem_cons.mpr ⟨gm 907 (by decide +kernel) (by decide +kernel), List.forall_mem_cons.mpr ⟨gm 909 (by decide +kernel) (by decide +kernel), List.forall_mem_cons.mpr ⟨gm 911 (by decide +kernel) (by decide +kernel), List.forall_mem_cons.mpr ⟨gm 913 (by decide +kernel) (by decide +kernel), List.forall_mem_cons.mpr ⟨gm 915 (by decide +kernel) (by decide +kernel), List.forall_mem_cons.mpr ⟨gm 917 (by decide +kernel) (by decide +kernel), List.forall_mem_cons.mpr ⟨gm 919 (by decide +kernel) (by decide +kernel), List.forall_mem_cons.mpr ⟨gm 921 (by decide +kernel) (by decide +kernel), List.forall_mem_cons.mpr ⟨gm 923 (by decide +kernel) (by decide +kernel), List.forall_mem_cons.mpr ⟨gm 925 (by decide +kernel) (by decide +kernel), fun _ h => absurd h List.not_mem_nil⟩⟩⟩⟩⟩⟩⟩⟩⟩⟩⟩⟩⟩⟩⟩⟩⟩⟩⟩⟩⟩⟩⟩⟩⟩⟩⟩⟩⟩
abbrev R_Au : String := "RegularSolver$Automaton"
def T_Au : u_T := fun k => match k with
  | 0 => ("RegularSolver$Automaton", "states", "I", true)
  | 1 => ("RegularSolver$Automaton", "next", "[I", true)
  | 2 => ("RegularSolver$Automaton", "last", "J", true)
  | _ => ("RegularSolver$Automaton", "ahead", "[J", true)
def t_Au : Nat → FieldType := fun k => match k with
  | 0 => .int
  | 1 => (.array .int)
  | 2 => .long
  | _ => (.array .long)
theorem t_Au_ok : ∀ k, k < 4 → parseFieldDescriptor (T_Au k).2.2.1 = some (t_Au k) := by decide +kernel
theorem n_Au : ∀ a, a < 4 → ∀ b, b < 4 → a ≠ b → (T_Au a).2.1 ≠ (T_Au b).2.1 := by decide +kernel
theorem in_Au : ∀ w ∈ u_ws R_Au T_Au 4, w ∈ gW := List.forall_mem_cons.mpr ⟨gm 453 (by decide +kernel) (by decide +kernel), List.forall_mem_cons.mpr ⟨gm 455 (by decide +kernel) (by decide +kernel), List.forall_mem_cons.mpr ⟨gm 457 (by decide +kernel) (by decide +kernel), List.forall_mem_cons.mpr ⟨gm 459 (by decide +kernel) (by decide +kernel), fun _ h => absurd h List.not_mem_nil⟩⟩⟩⟩
abbrev R_Br : String := "RegularSolver$Brief"
def T_Br : u_T := fun k => match k with
  | 0 => ("RegularSolver$Way", "head", "I", false)
  | 1 => ("RegularSolver$Way", "tail", "J", false)
  | 2 => ("RegularSolver$Brief", "set", "I", true)
  | _ => ("RegularSolver$Brief", "end", "I", true)
def t_Br : Nat → FieldType := fun k => match k with
  | 0 => .int
  | 1 => .long
  | 2 => .int
  | _ => .int
theorem t_Br_ok : ∀ k, k < 4 → parseFieldDescriptor (T_Br k).2.2.1 = some (t_Br k) := by decide +kernel
theorem n_Br : ∀ a, a < 4 → ∀ b, b < 4 → a ≠ b → (T_Br a).2.1 ≠ (T_Br b).2.1 := by decide +kernel
theorem in_Br : ∀ w ∈ u_ws R_Br T_Br 4, w ∈ gW := List.forall_mem_cons.mpr ⟨gm 306 (by decide +kernel) (by decide +kernel), List.forall_mem_cons.mpr ⟨gm 308 (by decide +kernel) (by decide +kernel), List.forall_mem_cons.mpr ⟨gm 302 (by decide +kernel) (by decide +kernel), List.forall_mem_cons.mpr ⟨gm 304 (by decide +kernel) (by decide +kernel), fun _ h => absurd h List.not_mem_nil⟩⟩⟩⟩
abbrev R_Ch : String := "RegularSolver$Chain"
def T_Ch : u_T := fun k => match k with
  | 0 => ("RegularSolver$Way", "head", "I", false)
  | 1 => ("RegularSolver$Way", "tail", "J", false)
  | 2 => ("RegularSolver$Chain", "front", "LRegularSolver$Automaton;", true)
  | _ => ("RegularSolver$Chain", "back", "LRegularSolver$Automaton;", true)
def t_Ch : Nat → FieldType := fun k => match k with
  | 0 => .int
  | 1 => .long
  | 2 => (.object "RegularSolver$Automaton")
  | _ => (.object "RegularSolver$Automaton")
theorem t_Ch_ok : ∀ k, k < 4 → parseFieldDescriptor (T_Ch k).2.2.1 = some (t_Ch k) := by decide +kernel
theorem n_Ch : ∀ a, a < 4 → ∀ b, b < 4 → a ≠ b → (T_Ch a).2.1 ≠ (T_Ch b).2.1 := by decide +kernel
theorem in_Ch : ∀ w ∈ u_ws R_Ch T_Ch 4, w ∈ gW := List.forall_mem_cons.mpr ⟨gm 513 (by decide +kernel) (by decide +kernel), List.forall_mem_cons.mpr ⟨gm 514 (by decide +kernel) (by decide +kernel), List.forall_mem_cons.mpr ⟨gm 509 (by decide +kernel) (by decide +kernel), List.forall_mem_cons.mpr ⟨gm 511 (by decide +kernel) (by decide +kernel), fun _ h => absurd h List.not_mem_nil⟩⟩⟩⟩
abbrev R_Pa : String := "RegularSolver$Pairs"
def T_Pa : u_T := fun k => match k with
  | 0 => ("RegularSolver$Way", "head", "I", false)
  | 1 => ("RegularSolver$Way", "tail", "J", false)
  | 2 => ("RegularSolver$Pairs", "one", "LRegularSolver$Automaton;", true)
  | 3 => ("RegularSolver$Pairs", "other", "LRegularSolver$Automaton;", true)
  | _ => ("RegularSolver$Pairs", "both", "Z", true)
def t_Pa : Nat → FieldType := fun k => match k with
  | 0 => .int
  | 1 => .long
  | 2 => (.object "RegularSolver$Automaton")
  | 3 => (.object "RegularSolver$Automaton")
  | _ => .boolean
theorem t_Pa_ok : ∀ k, k < 5 → parseFieldDescriptor (T_Pa k).2.2.1 = some (t_Pa k) := by decide +kernel
theorem n_Pa : ∀ a, a < 5 → ∀ b, b < 5 → a ≠ b → (T_Pa a).2.1 ≠ (T_Pa b).2.1 := by decide +kernel
theorem in_Pa : ∀ w ∈ u_ws R_Pa T_Pa 5, w ∈ gW := List.forall_mem_cons.mpr ⟨gm 538 (by decide +kernel) (by decide +kernel), List.forall_mem_cons.mpr ⟨gm 539 (by decide +kernel) (by decide +kernel), List.forall_mem_cons.mpr ⟨gm 532 (by decide +kernel) (by decide +kernel), List.forall_mem_cons.mpr ⟨gm 534 (by decide +kernel) (by decide +kernel), List.forall_mem_cons.mpr ⟨gm 536 (by decide +kernel) (by decide +kernel), fun _ h => absurd h List.not_mem_nil⟩⟩⟩⟩⟩
abbrev R_Re : String := "RegularSolver$Repeat"
def T_Re : u_T := fun k => match k with
  | 0 => ("RegularSolver$Way", "head", "I", false)
  | 1 => ("RegularSolver$Way", "tail", "J", false)
  | _ => ("RegularSolver$Repeat", "part", "LRegularSolver$Automaton;", true)
def t_Re : Nat → FieldType := fun k => match k with
  | 0 => .int
  | 1 => .long
  | _ => (.object "RegularSolver$Automaton")
theorem t_Re_ok : ∀ k, k < 3 → parseFieldDescriptor (T_Re k).2.2.1 = some (t_Re k) := by decide +kernel
theorem n_Re : ∀ a, a < 3 → ∀ b, b < 3 → a ≠ b → (T_Re a).2.1 ≠ (T_Re b).2.1 := by decide +kernel
theorem in_Re : ∀ w ∈ u_ws R_Re T_Re 3, w ∈ gW := List.forall_mem_cons.mpr ⟨gm 578 (by decide +kernel) (by decide +kernel), List.forall_mem_cons.mpr ⟨gm 579 (by decide +kernel) (by decide +kernel), List.forall_mem_cons.mpr ⟨gm 576 (by decide +kernel) (by decide +kernel), fun _ h => absurd h List.not_mem_nil⟩⟩⟩
abbrev R_Mk : String := "RegularSolver$Maker"
def T_Mk : u_T := fun k => match k with
  | 0 => ("RegularSolver$Maker", "heads", "[I", true)
  | 1 => ("RegularSolver$Maker", "tails", "[J", true)
  | 2 => ("RegularSolver$Maker", "next", "[I", true)
  | 3 => ("RegularSolver$Maker", "slots", "[I", true)
  | 4 => ("RegularSolver$Maker", "reached", "I", false)
  | 5 => ("RegularSolver$Maker", "classOf", "[I", false)
  | 6 => ("RegularSolver$Maker", "finerOf", "[I", false)
  | 7 => ("RegularSolver$Maker", "markOf", "[I", true)
  | 8 => ("RegularSolver$Maker", "firstOf", "[I", true)
  | 9 => ("RegularSolver$Maker", "markSlots", "[I", true)
  | _ => ("RegularSolver$Maker", "classes", "I", false)
def t_Mk : Nat → FieldType := fun k => match k with
  | 0 => (.array .int)
  | 1 => (.array .long)
  | 2 => (.array .int)
  | 3 => (.array .int)
  | 4 => .int
  | 5 => (.array .int)
  | 6 => (.array .int)
  | 7 => (.array .int)
  | 8 => (.array .int)
  | 9 => (.array .int)
  | _ => .int
theorem t_Mk_ok : ∀ k, k < 11 → parseFieldDescriptor (T_Mk k).2.2.1 = some (t_Mk k) := by decide +kernel
theorem n_Mk : ∀ a, a < 11 → ∀ b, b < 11 → a ≠ b → (T_Mk a).2.1 ≠ (T_Mk b).2.1 := by decide +kernel
theorem in_Mk : ∀ w ∈ u_ws R_Mk T_Mk 11, w ∈ gW := List.forall_mem_cons.mpr ⟨gm 50 (by decide +kernel) (by decide +kernel), List.forall_mem_cons.mpr ⟨gm 52 (by decide +kernel) (by decide +kernel), List.forall_mem_cons.mpr ⟨gm 54 (by decide +kernel) (by decide +kernel), List.forall_mem_cons.mpr ⟨gm 56 (by decide +kernel) (by decide +kernel), List.forall_mem_cons.mpr ⟨gm 58 (by decide +kernel) (by decide +kernel), List.forall_mem_cons.mpr ⟨gm 60 (by decide +kernel) (by decide +kernel), List.forall_mem_cons.mpr ⟨gm 62 (by decide +kernel) (by decide +kernel), List.forall_mem_cons.mpr ⟨gm 64 (by decide +kernel) (by decide +kernel), List.forall_mem_cons.mpr ⟨gm 66 (by decide +kernel) (by decide +kernel), List.forall_mem_cons.mpr ⟨gm 68 (by decide +kernel) (by decide +kernel), List.forall_mem_cons.mpr ⟨gm 70 (by decide +kernel) (by decide +kernel), fun _ h => absurd h List.not_mem_nil⟩⟩⟩⟩⟩⟩⟩⟩⟩⟩⟩
abbrev R_Co : String := "RegularSolver$Counter"
def T_Co : u_T := fun k => match k with
  | 0 => ("RegularSolver$Counter", "counts", "[J", false)
  | _ => ("RegularSolver$Counter", "longerCounts", "[J", false)
def t_Co : Nat → FieldType := fun k => match k with
  | 0 => (.array .long)
  | _ => (.array .long)
theorem t_Co_ok : ∀ k, k < 2 → parseFieldDescriptor (T_Co k).2.2.1 = some (t_Co k) := by decide +kernel
theorem n_Co : ∀ a, a < 2 → ∀ b, b < 2 → a ≠ b → (T_Co a).2.1 ≠ (T_Co b).2.1 := by decide +kernel
theorem in_Co : ∀ w ∈ u_ws R_Co T_Co 2, w ∈ gW := List.forall_mem_cons.mpr ⟨gm 83 (by decide +kernel) (by decide +kernel), List.forall_mem_cons.mpr ⟨gm 85 (by decide +kernel) (by decide +kernel), fun _ h => absurd h List.not_mem_nil⟩⟩
abbrev R_In : String := "RegularSolver$Inclusion"
def T_In : u_T := fun k => match k with
  | 0 => ("RegularSolver$Inclusion", "seen", "[J", true)
  | _ => ("RegularSolver$Inclusion", "waiting", "[J", true)
def t_In : Nat → FieldType := fun k => match k with
  | 0 => (.array .long)
  | _ => (.array .long)
theorem t_In_ok : ∀ k, k < 2 → parseFieldDescriptor (T_In k).2.2.1 = some (t_In k) := by decide +kernel
theorem n_In : ∀ a, a < 2 → ∀ b, b < 2 → a ≠ b → (T_In a).2.1 ≠ (T_In b).2.1 := by decide +kernel
theorem in_In : ∀ w ∈ u_ws R_In T_In 2, w ∈ gW := List.forall_mem_cons.mpr ⟨gm 96 (by decide +kernel) (by decide +kernel), List.forall_mem_cons.mpr ⟨gm 98 (by decide +kernel) (by decide +kernel), fun _ h => absurd h List.not_mem_nil⟩⟩
abbrev R_Se : String := "RegularSolver$Search"
def T_Se : u_T := fun k => match k with
  | 0 => ("RegularSolver$Search", "assigned", "[LRegularSolver$Automaton;", true)
  | 1 => ("RegularSolver$Search", "factors", "[[I", true)
  | 2 => ("RegularSolver$Search", "least", "[I", true)
  | 3 => ("RegularSolver$Search", "most", "[I", true)
  | 4 => ("RegularSolver$Search", "boundCount", "I", false)
  | 5 => ("RegularSolver$Search", "allowed", "[J", true)
  | 6 => ("RegularSolver$Search", "restLeast", "[[I", true)
  | 7 => ("RegularSolver$Search", "restMost", "[[I", true)
  | 8 => ("RegularSolver$Search", "lengths", "[I", true)
  | 9 => ("RegularSolver$Search", "isKept", "Z", false)
  | 10 => ("RegularSolver$Search", "keptLengths", "[I", true)
  | _ => ("RegularSolver$Search", "keptWords", "[J", true)
def t_Se : Nat → FieldType := fun k => match k with
  | 0 => (.array (.object "RegularSolver$Automaton"))
  | 1 => (.array (.array .int))
  | 2 => (.array .int)
  | 3 => (.array .int)
  | 4 => .int
  | 5 => (.array .long)
  | 6 => (.array (.array .int))
  | 7 => (.array (.array .int))
  | 8 => (.array .int)
  | 9 => .boolean
  | 10 => (.array .int)
  | _ => (.array .long)
theorem t_Se_ok : ∀ k, k < 12 → parseFieldDescriptor (T_Se k).2.2.1 = some (t_Se k) := by decide +kernel
theorem n_Se : ∀ a, a < 12 → ∀ b, b < 12 → a ≠ b → (T_Se a).2.1 ≠ (T_Se b).2.1 := by decide +kernel
theorem in_Se : ∀ w ∈ u_ws R_Se T_Se 12, w ∈ gW := List.forall_mem_cons.mpr ⟨gm 125 (by decide +kernel) (by decide +kernel), List.forall_mem_cons.mpr ⟨gm 127 (by decide +kernel) (by decide +kernel), List.forall_mem_cons.mpr ⟨gm 129 (by decide +kernel) (by decide +kernel), List.forall_mem_cons.mpr ⟨gm 131 (by decide +kernel) (by decide +kernel), List.forall_mem_cons.mpr ⟨gm 133 (by decide +kernel) (by decide +kernel), List.forall_mem_cons.mpr ⟨gm 135 (by decide +kernel) (by decide +kernel), List.forall_mem_cons.mpr ⟨gm 137 (by decide +kernel) (by decide +kernel), List.forall_mem_cons.mpr ⟨gm 139 (by decide +kernel) (by decide +kernel), List.forall_mem_cons.mpr ⟨gm 141 (by decide +kernel) (by decide +kernel), List.forall_mem_cons.mpr ⟨gm 143 (by decide +kernel) (by decide +kernel), List.forall_mem_cons.mpr ⟨gm 145 (by decide +kernel) (by decide +kernel), List.forall_mem_cons.mpr ⟨gm 147 (by decide +kernel) (by decide +kernel), fun _ h => absurd h List.not_mem_nil⟩⟩⟩⟩⟩⟩⟩⟩⟩⟩⟩⟩
abbrev R_RS : String := "RegularSolver"
def T_RS : u_T := fun k => match k with
  | 0 => ("RegularSolver", "languages", "[LRegularSolver$Automaton;", true)
  | 1 => ("RegularSolver", "languageCount", "I", false)
  | 2 => ("RegularSolver", "maker", "LRegularSolver$Maker;", true)
  | 3 => ("RegularSolver", "counter", "LRegularSolver$Counter;", true)
  | 4 => ("RegularSolver", "inclusion", "LRegularSolver$Inclusion;", true)
  | _ => ("RegularSolver", "search", "LRegularSolver$Search;", true)
def t_RS : Nat → FieldType := fun k => match k with
  | 0 => (.array (.object "RegularSolver$Automaton"))
  | 1 => .int
  | 2 => (.object "RegularSolver$Maker")
  | 3 => (.object "RegularSolver$Counter")
  | 4 => (.object "RegularSolver$Inclusion")
  | _ => (.object "RegularSolver$Search")
theorem t_RS_ok : ∀ k, k < 6 → parseFieldDescriptor (T_RS k).2.2.1 = some (t_RS k) := by decide +kernel
theorem n_RS : ∀ a, a < 6 → ∀ b, b < 6 → a ≠ b → (T_RS a).2.1 ≠ (T_RS b).2.1 := by decide +kernel
theorem in_RS : ∀ w ∈ u_ws R_RS T_RS 6, w ∈ gW := List.forall_mem_cons.mpr ⟨gm 156 (by decide +kernel) (by decide +kernel), List.forall_mem_cons.mpr ⟨gm 158 (by decide +kernel) (by decide +kernel), List.forall_mem_cons.mpr ⟨gm 160 (by decide +kernel) (by decide +kernel), List.forall_mem_cons.mpr ⟨gm 162 (by decide +kernel) (by decide +kernel), List.forall_mem_cons.mpr ⟨gm 164 (by decide +kernel) (by decide +kernel), List.forall_mem_cons.mpr ⟨gm 166 (by decide +kernel) (by decide +kernel), fun _ h => absurd h List.not_mem_nil⟩⟩⟩⟩⟩⟩
abbrev vwCl : List vw_C := [(R_Mo, T_Mo, 29), (R_Au, T_Au, 4), (R_Br, T_Br, 4), (R_Ch, T_Ch, 4), (R_Pa, T_Pa, 5), (R_Re, T_Re, 3), (R_Mk, T_Mk, 11), (R_Co, T_Co, 2), (R_In, T_In, 2), (R_Se, T_Se, 12), (R_RS, T_RS, 6)]
