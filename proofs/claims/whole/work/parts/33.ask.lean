theorem za_UnsupportedOperationException : ∀ w ∈ (vx_atS "RegularSolver" 140 "java/lang/UnsupportedOperationException" gZn).filter goodWord, w ∈ gW := by decide +kernel
theorem zb_UnsupportedOperationException : ∀ w ∈ (vx_atS "RegularSolver" 140 "java/lang/UnsupportedOperationException" gZn).filter (fun w => !goodWord w), w ∈ gZw := by decide +kernel
theorem zc_UnsupportedOperationException : ∀ w ∈ Cond.classLink "RegularSolver" 136 "java/lang/UnsupportedOperationException" :: Cond.initialized "java/lang/UnsupportedOperationException" :: vx_atS "RegularSolver" 140 "java/lang/UnsupportedOperationException" gZn, vx_ot w = true := by decide +kernel
abbrev b_RS_automaton : ByteArray := prog_1_method_9_code
def y_RS_automaton : MethodName := ⟨"RegularSolver", "automaton", "(III)I"⟩
abbrev w0_RS_automaton : List Cond := Cond.code y_RS_automaton b_RS_automaton 5 (some .int) :: gW
theorem cd_RS_automaton : Cond.code y_RS_automaton b_RS_automaton 5 (some .int) ∈ gW := gm 587 (by decide +kernel) (by decide +kernel)
theorem d_RS_automaton_0 : decode b_RS_automaton 0 = .ok (.aload_n 0, 1) := by decide +kernel
theorem d_RS_automaton_1 : decode b_RS_automaton 1 = .ok (.iload_n 1, 1) := by decide +kernel
theorem d_RS_automaton_2 : decode b_RS_automaton 2 = .ok (.invokevirtual 70, 3) := by decide +kernel
theorem d_RS_automaton_5 : decode b_RS_automaton 5 = .ok (.aload_n 0, 1) := by decide +kernel
theorem d_RS_automaton_6 : decode b_RS_automaton 6 = .ok (.getfield 11, 3) := by decide +kernel
theorem d_RS_automaton_9 : decode b_RS_automaton 9 = .ok (.iload_n 1, 1) := by decide +kernel
theorem d_RS_automaton_10 : decode b_RS_automaton 10 = .ok (.aaload, 1) := by decide +kernel
theorem d_RS_automaton_11 : decode b_RS_automaton 11 = .ok (.astore 4, 2) := by decide +kernel
theorem d_RS_automaton_13 : decode b_RS_automaton 13 = .ok (.iload_n 2, 1) := by decide +kernel
theorem d_RS_automaton_14 : decode b_RS_automaton 14 = .ok (.tableswitch 88 0 3 #[30, 36, 45, 64], 30) := by decide +kernel
theorem d_RS_automaton_44 : decode b_RS_automaton 44 = .ok (.aload 4, 2) := by decide +kernel
theorem d_RS_automaton_46 : decode b_RS_automaton 46 = .ok (.getfield 93, 3) := by decide +kernel
theorem d_RS_automaton_49 : decode b_RS_automaton 49 = .ok (.ireturn, 1) := by decide +kernel
theorem d_RS_automaton_50 : decode b_RS_automaton 50 = .ok (.aload 4, 2) := by decide +kernel
theorem d_RS_automaton_52 : decode b_RS_automaton 52 = .ok (.getfield 96, 3) := by decide +kernel
theorem d_RS_automaton_55 : decode b_RS_automaton 55 = .ok (.invokestatic 100, 3) := by decide +kernel
theorem d_RS_automaton_58 : decode b_RS_automaton 58 = .ok (.ireturn, 1) := by decide +kernel
theorem d_RS_automaton_59 : decode b_RS_automaton 59 = .ok (.iload_n 3, 1) := by decide +kernel
theorem d_RS_automaton_60 : decode b_RS_automaton 60 = .ok (.iconst 4, 1) := by decide +kernel
theorem d_RS_automaton_61 : decode b_RS_automaton 61 = .ok (.aload 4, 2) := by decide +kernel
theorem d_RS_automaton_63 : decode b_RS_automaton 63 = .ok (.getfield 93, 3) := by decide +kernel
theorem d_RS_automaton_66 : decode b_RS_automaton 66 = .ok (.imul, 1) := by decide +kernel
theorem d_RS_automaton_67 : decode b_RS_automaton 67 = .ok (.invokestatic 106, 3) := by decide +kernel
theorem d_RS_automaton_70 : decode b_RS_automaton 70 = .ok (.aload 4, 2) := by decide +kernel
theorem d_RS_automaton_72 : decode b_RS_automaton 72 = .ok (.getfield 109, 3) := by decide +kernel
theorem d_RS_automaton_75 : decode b_RS_automaton 75 = .ok (.iload_n 3, 1) := by decide +kernel
theorem d_RS_automaton_76 : decode b_RS_automaton 76 = .ok (.iaload, 1) := by decide +kernel
theorem d_RS_automaton_77 : decode b_RS_automaton 77 = .ok (.ireturn, 1) := by decide +kernel
theorem d_RS_automaton_78 : decode b_RS_automaton 78 = .ok (.iload_n 3, 1) := by decide +kernel
theorem d_RS_automaton_79 : decode b_RS_automaton 79 = .ok (.aload 4, 2) := by decide +kernel
theorem d_RS_automaton_81 : decode b_RS_automaton 81 = .ok (.getfield 93, 3) := by decide +kernel
theorem d_RS_automaton_84 : decode b_RS_automaton 84 = .ok (.invokestatic 106, 3) := by decide +kernel
theorem d_RS_automaton_87 : decode b_RS_automaton 87 = .ok (.aload 4, 2) := by decide +kernel
theorem d_RS_automaton_89 : decode b_RS_automaton 89 = .ok (.iload_n 3, 1) := by decide +kernel
theorem d_RS_automaton_90 : decode b_RS_automaton 90 = .ok (.invokevirtual 113, 3) := by decide +kernel
theorem d_RS_automaton_93 : decode b_RS_automaton 93 = .ok (.ifCond .eq 7, 3) := by decide +kernel
theorem d_RS_automaton_96 : decode b_RS_automaton 96 = .ok (.iconst 1, 1) := by decide +kernel
theorem d_RS_automaton_97 : decode b_RS_automaton 97 = .ok (.goto 4, 3) := by decide +kernel
theorem d_RS_automaton_100 : decode b_RS_automaton 100 = .ok (.iconst 0, 1) := by decide +kernel
theorem d_RS_automaton_101 : decode b_RS_automaton 101 = .ok (.ireturn, 1) := by decide +kernel
theorem d_RS_automaton_102 : decode b_RS_automaton 102 = .ok (.new 47, 3) := by decide +kernel
theorem d_RS_automaton_105 : decode b_RS_automaton 105 = .ok (.dup, 1) := by decide +kernel
theorem d_RS_automaton_106 : decode b_RS_automaton 106 = .ok (.ldc 117, 2) := by decide +kernel
theorem d_RS_automaton_108 : decode b_RS_automaton 108 = .ok (.invokespecial 51, 3) := by decide +kernel
theorem d_RS_automaton_111 : decode b_RS_automaton 111 = .ok (.athrow, 1) := by decide +kernel
abbrev b_RS_has : ByteArray := prog_1_method_10_code
def y_RS_has : MethodName := ⟨"RegularSolver", "has", "(IIJ)Z"⟩
abbrev w0_RS_has : List Cond := Cond.code y_RS_has b_RS_has 5 (some .boolean) :: gW
theorem cd_RS_has : Cond.code y_RS_has b_RS_has 5 (some .boolean) ∈ gW := gm 606 (by decide +kernel) (by decide +kernel)
theorem d_RS_has_0 : decode b_RS_has 0 = .ok (.aload_n 0, 1) := by decide +kernel
theorem d_RS_has_1 : decode b_RS_has 1 = .ok (.iload_n 1, 1) := by decide +kernel
theorem d_RS_has_2 : decode b_RS_has 2 = .ok (.invokevirtual 70, 3) := by decide +kernel
theorem d_RS_has_5 : decode b_RS_has 5 = .ok (.iload_n 2, 1) := by decide +kernel
theorem d_RS_has_6 : decode b_RS_has 6 = .ok (.iconst 0, 1) := by decide +kernel
theorem d_RS_has_7 : decode b_RS_has 7 = .ok (.bipush 31, 2) := by decide +kernel
theorem d_RS_has_9 : decode b_RS_has 9 = .ok (.invokestatic 119, 3) := by decide +kernel
theorem d_RS_has_12 : decode b_RS_has 12 = .ok (.lload_n 3, 1) := by decide +kernel
theorem d_RS_has_13 : decode b_RS_has 13 = .ok (.lconst 0, 1) := by decide +kernel
theorem d_RS_has_14 : decode b_RS_has 14 = .ok (.lcmp, 1) := by decide +kernel
theorem d_RS_has_15 : decode b_RS_has 15 = .ok (.ifCond .lt 13, 3) := by decide +kernel
theorem d_RS_has_18 : decode b_RS_has 18 = .ok (.lload_n 3, 1) := by decide +kernel
theorem d_RS_has_19 : decode b_RS_has 19 = .ok (.iconst 2, 1) := by decide +kernel
theorem d_RS_has_20 : decode b_RS_has 20 = .ok (.iload_n 2, 1) := by decide +kernel
theorem d_RS_has_21 : decode b_RS_has 21 = .ok (.imul, 1) := by decide +kernel
theorem d_RS_has_22 : decode b_RS_has 22 = .ok (.lshr, 1) := by decide +kernel
theorem d_RS_has_23 : decode b_RS_has 23 = .ok (.lconst 0, 1) := by decide +kernel
theorem d_RS_has_24 : decode b_RS_has 24 = .ok (.lcmp, 1) := by decide +kernel
theorem d_RS_has_25 : decode b_RS_has 25 = .ok (.ifCond .eq 13, 3) := by decide +kernel
theorem d_RS_has_28 : decode b_RS_has 28 = .ok (.new 47, 3) := by decide +kernel
theorem d_RS_has_31 : decode b_RS_has 31 = .ok (.dup, 1) := by decide +kernel
theorem d_RS_has_32 : decode b_RS_has 32 = .ok (.ldc 123, 2) := by decide +kernel
theorem d_RS_has_34 : decode b_RS_has 34 = .ok (.invokespecial 51, 3) := by decide +kernel
theorem d_RS_has_37 : decode b_RS_has 37 = .ok (.athrow, 1) := by decide +kernel
theorem d_RS_has_38 : decode b_RS_has 38 = .ok (.aload_n 0, 1) := by decide +kernel
theorem d_RS_has_39 : decode b_RS_has 39 = .ok (.getfield 11, 3) := by decide +kernel
theorem d_RS_has_42 : decode b_RS_has 42 = .ok (.iload_n 1, 1) := by decide +kernel
theorem d_RS_has_43 : decode b_RS_has 43 = .ok (.aaload, 1) := by decide +kernel
theorem d_RS_has_44 : decode b_RS_has 44 = .ok (.iload_n 2, 1) := by decide +kernel
theorem d_RS_has_45 : decode b_RS_has 45 = .ok (.lload_n 3, 1) := by decide +kernel
theorem d_RS_has_46 : decode b_RS_has 46 = .ok (.invokevirtual 125, 3) := by decide +kernel
theorem d_RS_has_49 : decode b_RS_has 49 = .ok (.ireturn, 1) := by decide +kernel
abbrev b_RS_words : ByteArray := prog_1_method_11_code
def y_RS_words : MethodName := ⟨"RegularSolver", "words", "(II)J"⟩
abbrev w0_RS_words : List Cond := Cond.code y_RS_words b_RS_words 3 (some .long) :: gW
theorem cd_RS_words : Cond.code y_RS_words b_RS_words 3 (some .long) ∈ gW := gm 623 (by decide +kernel) (by decide +kernel)
theorem d_RS_words_0 : decode b_RS_words 0 = .ok (.aload_n 0, 1) := by decide +kernel
theorem d_RS_words_1 : decode b_RS_words 1 = .ok (.iload_n 1, 1) := by decide +kernel
theorem d_RS_words_2 : decode b_RS_words 2 = .ok (.invokevirtual 70, 3) := by decide +kernel
theorem d_RS_words_5 : decode b_RS_words 5 = .ok (.iload_n 2, 1) := by decide +kernel
theorem d_RS_words_6 : decode b_RS_words 6 = .ok (.iconst 0, 1) := by decide +kernel
theorem d_RS_words_7 : decode b_RS_words 7 = .ok (.sipush 1000, 3) := by decide +kernel
theorem d_RS_words_10 : decode b_RS_words 10 = .ok (.invokestatic 119, 3) := by decide +kernel
theorem d_RS_words_13 : decode b_RS_words 13 = .ok (.aload_n 0, 1) := by decide +kernel
theorem d_RS_words_14 : decode b_RS_words 14 = .ok (.getfield 29, 3) := by decide +kernel
theorem d_RS_words_17 : decode b_RS_words 17 = .ok (.aload_n 0, 1) := by decide +kernel
theorem d_RS_words_18 : decode b_RS_words 18 = .ok (.getfield 11, 3) := by decide +kernel
theorem d_RS_words_21 : decode b_RS_words 21 = .ok (.iload_n 1, 1) := by decide +kernel
theorem d_RS_words_22 : decode b_RS_words 22 = .ok (.aaload, 1) := by decide +kernel
theorem d_RS_words_23 : decode b_RS_words 23 = .ok (.iload_n 2, 1) := by decide +kernel
theorem d_RS_words_24 : decode b_RS_words 24 = .ok (.invokevirtual 129, 3) := by decide +kernel
theorem d_RS_words_27 : decode b_RS_words 27 = .ok (.lreturn, 1) := by decide +kernel
abbrev b_RS_first : ByteArray := prog_1_method_12_code
def y_RS_first : MethodName := ⟨"RegularSolver", "first", "(II)J"⟩
abbrev w0_RS_first : List Cond := Cond.code y_RS_first b_RS_first 3 (some .long) :: gW
theorem cd_RS_first : Cond.code y_RS_first b_RS_first 3 (some .long) ∈ gW := gm 639 (by decide +kernel) (by decide +kernel)
theorem d_RS_first_0 : decode b_RS_first 0 = .ok (.aload_n 0, 1) := by decide +kernel
theorem d_RS_first_1 : decode b_RS_first 1 = .ok (.iload_n 1, 1) := by decide +kernel
theorem d_RS_first_2 : decode b_RS_first 2 = .ok (.invokevirtual 70, 3) := by decide +kernel
theorem d_RS_first_5 : decode b_RS_first 5 = .ok (.iload_n 2, 1) := by decide +kernel
theorem d_RS_first_6 : decode b_RS_first 6 = .ok (.iconst 0, 1) := by decide +kernel
theorem d_RS_first_7 : decode b_RS_first 7 = .ok (.bipush 31, 2) := by decide +kernel
theorem d_RS_first_9 : decode b_RS_first 9 = .ok (.invokestatic 119, 3) := by decide +kernel
theorem d_RS_first_12 : decode b_RS_first 12 = .ok (.aload_n 0, 1) := by decide +kernel
theorem d_RS_first_13 : decode b_RS_first 13 = .ok (.getfield 11, 3) := by decide +kernel
theorem d_RS_first_16 : decode b_RS_first 16 = .ok (.iload_n 1, 1) := by decide +kernel
theorem d_RS_first_17 : decode b_RS_first 17 = .ok (.aaload, 1) := by decide +kernel
theorem d_RS_first_18 : decode b_RS_first 18 = .ok (.iload_n 2, 1) := by decide +kernel
theorem d_RS_first_19 : decode b_RS_first 19 = .ok (.invokevirtual 133, 3) := by decide +kernel
theorem d_RS_first_22 : decode b_RS_first 22 = .ok (.ifCond .ne 13, 3) := by decide +kernel
theorem d_RS_first_25 : decode b_RS_first 25 = .ok (.new 136, 3) := by decide +kernel
theorem d_RS_first_28 : decode b_RS_first 28 = .ok (.dup, 1) := by decide +kernel
theorem d_RS_first_29 : decode b_RS_first 29 = .ok (.ldc 138, 2) := by decide +kernel
theorem d_RS_first_31 : decode b_RS_first 31 = .ok (.invokespecial 140, 3) := by decide +kernel
theorem d_RS_first_34 : decode b_RS_first 34 = .ok (.athrow, 1) := by decide +kernel
theorem d_RS_first_35 : decode b_RS_first 35 = .ok (.aload_n 0, 1) := by decide +kernel
theorem d_RS_first_36 : decode b_RS_first 36 = .ok (.getfield 11, 3) := by decide +kernel
theorem d_RS_first_39 : decode b_RS_first 39 = .ok (.iload_n 1, 1) := by decide +kernel
theorem d_RS_first_40 : decode b_RS_first 40 = .ok (.aaload, 1) := by decide +kernel
theorem d_RS_first_41 : decode b_RS_first 41 = .ok (.iload_n 2, 1) := by decide +kernel
theorem d_RS_first_42 : decode b_RS_first 42 = .ok (.invokevirtual 141, 3) := by decide +kernel
theorem d_RS_first_45 : decode b_RS_first 45 = .ok (.lreturn, 1) := by decide +kernel
abbrev b_RS_shortest : ByteArray := prog_1_method_13_code
def y_RS_shortest : MethodName := ⟨"RegularSolver", "shortest", "(I)I"⟩
abbrev w0_RS_shortest : List Cond := Cond.code y_RS_shortest b_RS_shortest 2 (some .int) :: gW
theorem cd_RS_shortest : Cond.code y_RS_shortest b_RS_shortest 2 (some .int) ∈ gW := gm 659 (by decide +kernel) (by decide +kernel)
theorem d_RS_shortest_0 : decode b_RS_shortest 0 = .ok (.aload_n 0, 1) := by decide +kernel
theorem d_RS_shortest_1 : decode b_RS_shortest 1 = .ok (.iload_n 1, 1) := by decide +kernel
theorem d_RS_shortest_2 : decode b_RS_shortest 2 = .ok (.invokevirtual 70, 3) := by decide +kernel
theorem d_RS_shortest_5 : decode b_RS_shortest 5 = .ok (.aload_n 0, 1) := by decide +kernel
theorem d_RS_shortest_6 : decode b_RS_shortest 6 = .ok (.getfield 11, 3) := by decide +kernel
theorem d_RS_shortest_9 : decode b_RS_shortest 9 = .ok (.iload_n 1, 1) := by decide +kernel
theorem d_RS_shortest_10 : decode b_RS_shortest 10 = .ok (.aaload, 1) := by decide +kernel
theorem d_RS_shortest_11 : decode b_RS_shortest 11 = .ok (.invokevirtual 145, 3) := by decide +kernel
theorem d_RS_shortest_14 : decode b_RS_shortest 14 = .ok (.ireturn, 1) := by decide +kernel
abbrev b_RS_within : ByteArray := prog_1_method_14_code
def y_RS_within : MethodName := ⟨"RegularSolver", "within", "(II)Z"⟩
abbrev w0_RS_within : List Cond := Cond.code y_RS_within b_RS_within 3 (some .boolean) :: gW
theorem cd_RS_within : Cond.code y_RS_within b_RS_within 3 (some .boolean) ∈ gW := gm 671 (by decide +kernel) (by decide +kernel)
theorem d_RS_within_0 : decode b_RS_within 0 = .ok (.aload_n 0, 1) := by decide +kernel
theorem d_RS_within_1 : decode b_RS_within 1 = .ok (.iload_n 1, 1) := by decide +kernel
theorem d_RS_within_2 : decode b_RS_within 2 = .ok (.invokevirtual 70, 3) := by decide +kernel
theorem d_RS_within_5 : decode b_RS_within 5 = .ok (.aload_n 0, 1) := by decide +kernel
theorem d_RS_within_6 : decode b_RS_within 6 = .ok (.iload_n 2, 1) := by decide +kernel
theorem d_RS_within_7 : decode b_RS_within 7 = .ok (.invokevirtual 70, 3) := by decide +kernel
theorem d_RS_within_10 : decode b_RS_within 10 = .ok (.aload_n 0, 1) := by decide +kernel
theorem d_RS_within_11 : decode b_RS_within 11 = .ok (.getfield 36, 3) := by decide +kernel
theorem d_RS_within_14 : decode b_RS_within 14 = .ok (.aload_n 0, 1) := by decide +kernel
theorem d_RS_within_15 : decode b_RS_within 15 = .ok (.getfield 11, 3) := by decide +kernel
theorem d_RS_within_18 : decode b_RS_within 18 = .ok (.iload_n 1, 1) := by decide +kernel
theorem d_RS_within_19 : decode b_RS_within 19 = .ok (.aaload, 1) := by decide +kernel
theorem d_RS_within_20 : decode b_RS_within 20 = .ok (.aload_n 0, 1) := by decide +kernel
theorem d_RS_within_21 : decode b_RS_within 21 = .ok (.getfield 11, 3) := by decide +kernel
theorem d_RS_within_24 : decode b_RS_within 24 = .ok (.iload_n 2, 1) := by decide +kernel
theorem d_RS_within_25 : decode b_RS_within 25 = .ok (.aaload, 1) := by decide +kernel
theorem d_RS_within_26 : decode b_RS_within 26 = .ok (.invokevirtual 149, 3) := by decide +kernel
theorem d_RS_within_29 : decode b_RS_within 29 = .ok (.ireturn, 1) := by decide +kernel
theorem pd_RS_automaton : y_RS_automaton.cls ≠ "java/lang/invoke/MethodHandle" ∧ y_RS_automaton.cls ≠ "java/lang/invoke/VarHandle" ∧ (parseMethodDescriptor y_RS_automaton.desc).map (fun d => d.parameters.length) = some 3 := by decide +kernel
theorem pd_RS_has : y_RS_has.cls ≠ "java/lang/invoke/MethodHandle" ∧ y_RS_has.cls ≠ "java/lang/invoke/VarHandle" ∧ (parseMethodDescriptor y_RS_has.desc).map (fun d => d.parameters.length) = some 3 := by decide +kernel
theorem pd_RS_words : y_RS_words.cls ≠ "java/lang/invoke/MethodHandle" ∧ y_RS_words.cls ≠ "java/lang/invoke/VarHandle" ∧ (parseMethodDescriptor y_RS_words.desc).map (fun d => d.parameters.length) = some 2 := by decide +kernel
theorem pd_RS_first : y_RS_first.cls ≠ "java/lang/invoke/MethodHandle" ∧ y_RS_first.cls ≠ "java/lang/invoke/VarHandle" ∧ (parseMethodDescriptor y_RS_first.desc).map (fun d => d.parameters.length) = some 2 := by decide +kernel
theorem pd_RS_shortest : y_RS_shortest.cls ≠ "java/lang/invoke/MethodHandle" ∧ y_RS_shortest.cls ≠ "java/lang/invoke/VarHandle" ∧ (parseMethodDescriptor y_RS_shortest.desc).map (fun d => d.parameters.length) = some 1 := by decide +kernel
theorem pd_RS_within : y_RS_within.cls ≠ "java/lang/invoke/MethodHandle" ∧ y_RS_within.cls ≠ "java/lang/invoke/VarHandle" ∧ (parseMethodDescriptor y_RS_within.desc).map (fun d => d.parameters.length) = some 2 := by decide +kernel
theorem ml_RS_70 : (Cond.methodLink "RegularSolver" 70 ({ cls := "RegularSolver", name := "requireLanguage", desc := "(I)V" } : MethodName)) ∈ gW := gm 497 (by decide +kernel) (by decide +kernel)
theorem im_RS_requireLanguage : (Cond.instanceMethod ({ cls := "RegularSolver", name := "requireLanguage", desc := "(I)V" } : MethodName)) ∈ gW := gm 499 (by decide +kernel) (by decide +kernel)
theorem se_RS_requireLanguage : (Cond.selects "RegularSolver" ({ cls := "RegularSolver", name := "requireLanguage", desc := "(I)V" } : MethodName) ({ cls := "RegularSolver", name := "requireLanguage", desc := "(I)V" } : MethodName)) ∈ gW := gs (by decide +kernel) (by decide +kernel)
theorem fl_RS_93 : (Cond.fieldLink "RegularSolver" 93 "RegularSolver$Automaton" "states" "I") ∈ gW := gm 445 (by decide +kernel) (by decide +kernel)
theorem fl_RS_96 : (Cond.fieldLink "RegularSolver" 96 "RegularSolver$Automaton" "last" "J") ∈ gW := gm 451 (by decide +kernel) (by decide +kernel)
theorem ml_RS_100 : (Cond.methodLink "RegularSolver" 100 ({ cls := "java/lang/Long", name := "bitCount", desc := "(J)I" } : MethodName)) ∈ gW := gm 588 (by decide +kernel) (by decide +kernel)
theorem ini_Ln : (Cond.initialized "java/lang/Long") ∈ gW := gm 20 (by decide +kernel) (by decide +kernel)
theorem st_Ln_bitCount : (Cond.static ({ cls := "java/lang/Long", name := "bitCount", desc := "(J)I" } : MethodName)) ∈ gW := gm 589 (by decide +kernel) (by decide +kernel)
theorem ml_RS_106 : (Cond.methodLink "RegularSolver" 106 ({ cls := "RegularSolver", name := "requireIndex", desc := "(II)V" } : MethodName)) ∈ gW := gm 594 (by decide +kernel) (by decide +kernel)
theorem st_RS_requireIndex : (Cond.static ({ cls := "RegularSolver", name := "requireIndex", desc := "(II)V" } : MethodName)) ∈ gW := gm 595 (by decide +kernel) (by decide +kernel)
theorem fl_RS_109 : (Cond.fieldLink "RegularSolver" 109 "RegularSolver$Automaton" "next" "[I") ∈ gW := gm 448 (by decide +kernel) (by decide +kernel)
theorem ml_RS_113 : (Cond.methodLink "RegularSolver" 113 ({ cls := "RegularSolver$Automaton", name := "isLast", desc := "(I)Z" } : MethodName)) ∈ gW := gm 598 (by decide +kernel) (by decide +kernel)
theorem ml_RS_125 : (Cond.methodLink "RegularSolver" 125 ({ cls := "RegularSolver$Automaton", name := "accepts", desc := "(IJ)Z" } : MethodName)) ∈ gW := gm 612 (by decide +kernel) (by decide +kernel)
theorem im_Au_accepts : (Cond.instanceMethod ({ cls := "RegularSolver$Automaton", name := "accepts", desc := "(IJ)Z" } : MethodName)) ∈ gW := gm 613 (by decide +kernel) (by decide +kernel)
theorem se_Au_accepts : (Cond.selects "RegularSolver$Automaton" ({ cls := "RegularSolver$Automaton", name := "accepts", desc := "(IJ)Z" } : MethodName) ({ cls := "RegularSolver$Automaton", name := "accepts", desc := "(IJ)Z" } : MethodName)) ∈ gW := gm 614 (by decide +kernel) (by decide +kernel)
theorem ml_RS_129 : (Cond.methodLink "RegularSolver" 129 ({ cls := "RegularSolver$Counter", name := "count", desc := "(LRegularSolver$Automaton;I)J" } : MethodName)) ∈ gW := gm 624 (by decide +kernel) (by decide +kernel)
theorem im_Co_count : (Cond.instanceMethod ({ cls := "RegularSolver$Counter", name := "count", desc := "(LRegularSolver$Automaton;I)J" } : MethodName)) ∈ gW := gm 625 (by decide +kernel) (by decide +kernel)
theorem se_Co_count : (Cond.selects "RegularSolver$Counter" ({ cls := "RegularSolver$Counter", name := "count", desc := "(LRegularSolver$Automaton;I)J" } : MethodName) ({ cls := "RegularSolver$Counter", name := "count", desc := "(LRegularSolver$Automaton;I)J" } : MethodName)) ∈ gW := gm 626 (by decide +kernel) (by decide +kernel)
theorem ml_RS_133 : (Cond.methodLink "RegularSolver" 133 ({ cls := "RegularSolver$Automaton", name := "hasLength", desc := "(I)Z" } : MethodName)) ∈ gW := gm 640 (by decide +kernel) (by decide +kernel)
theorem ml_RS_141 : (Cond.methodLink "RegularSolver" 141 ({ cls := "RegularSolver$Automaton", name := "leastWord", desc := "(I)J" } : MethodName)) ∈ gW := gm 645 (by decide +kernel) (by decide +kernel)
theorem cl_RS_136 : (Cond.classLink "RegularSolver" 136 "java/lang/UnsupportedOperationException") ∈ gW := gm 466 (by decide +kernel) (by decide +kernel)
theorem ini_UnsupportedOperationException : (Cond.initialized "java/lang/UnsupportedOperationException") ∈ gW := gm 16 (by decide +kernel) (by decide +kernel)
theorem ml_RS_145 : (Cond.methodLink "RegularSolver" 145 ({ cls := "RegularSolver$Automaton", name := "leastLength", desc := "()I" } : MethodName)) ∈ gW := gm 660 (by decide +kernel) (by decide +kernel)
theorem im_Au_leastLength : (Cond.instanceMethod ({ cls := "RegularSolver$Automaton", name := "leastLength", desc := "()I" } : MethodName)) ∈ gW := gm 661 (by decide +kernel) (by decide +kernel)
theorem se_Au_leastLength : (Cond.selects "RegularSolver$Automaton" ({ cls := "RegularSolver$Automaton", name := "leastLength", desc := "()I" } : MethodName) ({ cls := "RegularSolver$Automaton", name := "leastLength", desc := "()I" } : MethodName)) ∈ gW := gm 662 (by decide +kernel) (by decide +kernel)
theorem ml_RS_149 : (Cond.methodLink "RegularSolver" 149 ({ cls := "RegularSolver$Inclusion", name := "holds", desc := "(LRegularSolver$Automaton;LRegularSolver$Automaton;)Z" } : MethodName)) ∈ gW := gm 672 (by decide +kernel) (by decide +kernel)
theorem im_In_holds : (Cond.instanceMethod ({ cls := "RegularSolver$Inclusion", name := "holds", desc := "(LRegularSolver$Automaton;LRegularSolver$Automaton;)Z" } : MethodName)) ∈ gW := gm 673 (by decide +kernel) (by decide +kernel)
theorem se_In_holds : (Cond.selects "RegularSolver$Inclusion" ({ cls := "RegularSolver$Inclusion", name := "holds", desc := "(LRegularSolver$Automaton;LRegularSolver$Automaton;)Z" } : MethodName) ({ cls := "RegularSolver$Inclusion", name := "holds", desc := "(LRegularSolver$Automaton;LRegularSolver$Automaton;)Z" } : MethodName)) ∈ gW := gm 674 (by decide +kernel) (by decide +kernel)
def f_RS_automaton (n : Nat) (p0 : Int32) (p1 : Int32) (p2 : Int32) (xLang : Nat → Option Nat) (xCount : Int32) (T : auTab) : Option ((String × (Unit)) ⊕ (Int32)) :=
  (f_RS_requireLanguage n p0 xCount).bind fun u1 => u1.elim (fun x => some (.inl (x.1, ()))) fun y1 =>
  ogd (gin p0 60) <|
  oq (xLang p0.toNatClampNeg) none fun q4 =>
  if p1 = 0 then
    some (.inr ((T q4).2.2.1))
  else
    if p1 = 1 then
      (f_Ln_bitCount n ((T q4).2.2.2.2.2.1)).bind fun u9 =>
      some (.inr u9)
    else
      if p1 = 2 then
        (f_RS_requireIndex n p2 (4 * ((T q4).2.2.1))).bind fun u10 => u10.elim (fun x => some (.inl (x.1, ()))) fun y10 =>
        ogd (gin p2 (T q4).2.2.2.1) <|
        some (.inr ((T q4).2.2.2.2.1 p2.toNatClampNeg))
      else
        if p1 = 3 then
          (f_RS_requireIndex n p2 ((T q4).2.2.1)).bind fun u13 => u13.elim (fun x => some (.inl (x.1, ()))) fun y13 =>
          (f_Au_isLast n p2 ((T q4).2.2.2.2.2.1)).bind fun u15 =>
          if u15 = true then
            some (.inr 1)
          else
            some (.inr 0)
        else
          some (.inl ("java/lang/IllegalArgumentException", ()))
set_option maxHeartbeats 400000 in
set_option maxRecDepth 100000 in
theorem c_RS_automaton (l : Launch) (hl0 : l.stackTraces = false) {D : va_G} {K : Nat → ClassId} {T : auTab} {n : Nat} {xq : Nat} {xl : Nat} {mq : Nat} {cq : Nat} {iq : Nat} {sq : Nat} {xLang : Nat → Option Nat} {xCount : Int32} {p0 : Int32} {p1 : Int32} {p2 : Int32}  {r : (String × (Unit)) ⊕ (Int32)} (sz : Nat) (hf : f_RS_automaton n p0 p1 p2 xLang xCount T = some r) : vx_Met l y_RS_automaton w0_RS_automaton ({ frames := 7, cells := 2, slots := 12, locals := 103 }) (xPre D K T [.ref xq, .int p0, .int p1, .int p2] (rsW K xq xl mq cq iq sq xLang xCount) 60 xLang sz) (xPost D K r (fun v (g : Unit) => some (.int v)) (fun v g => (rsW K xq xl mq cq iq sq xLang xCount)) (va_A (rsW K xq xl mq cq iq sq xLang xCount) sz)) (xExc D K r (fun u (g : Unit) => (rsW K xq xl mq cq iq sq xLang xCount)) (va_A (rsW K xq xl mq cq iq sq xLang xCount) sz)) 2 12 (va_A (rsW K xq xl mq cq iq sq xLang xCount) sz) := by
  unfold f_RS_automaton at hf
  refine vx_ofW (cc := b_RS_automaton) (maxL := 5) (ret := (some .int)) (by decide) rfl ?_
  intro p e s m args below meth c s₁ B hml htab hv
  obtain ⟨⟨rfl, hsz, hP, hK, hD0⟩, hX, hZ, hT0⟩ := hv
  subst hsz
  have hx := B.exec
  have hb := B.bytes
  have hts : ∀ w ∈ gW, w.before _ s = true := fun w hw => atoms_spec (ws := w0_RS_automaton) B.pre w (List.mem_cons_of_mem _ hw)
  have hown : s.vm.findClass "RegularSolver" = some m.cls := findClass_of_methodNamed B.named
  have hD := hD0.self (sz := s.heap.size)
  generalize hAe : va_A (rsW K xq xl mq cq iq sq xLang xCount) s.heap.size = A at hD hZ hT0 ⊢
  have hA : ∀ q : Nat, s.heap.size ≤ q → A q := fun q h => by rw [← hAe]; exact Or.inr h
  have hS : va_S A s.heap s.heap [] := va_S.rf
  have hT : ∀ (q i : Nat), i < 60 → xLang i = some q → ∀ (H : Heap) (locs : List Loc), va_S A s.heap H locs → va_P D vwCl (auT K T q) H := fun q i hi hq _ _ hS => ro_of (hT0 q i hi hq).1 (hT0 q i hi hq).2 hS
  have hTw : ∀ (q i : Nat), i < 60 → xLang i = some q → gAw A (auT K T q) := fun q i hi hq => (hT0 q i hi hq).2
  have hl := lv_entry [.ref xq, .int p0, .int p1, .int p2] (n := 5) (Nat.le_of_ble_eq_true rfl)
  rw [lg_entry_eq]
  generalize (lg_sl [.ref xq, .int p0, .int p1, .int p2] ++ List.replicate (5 - (lg_sl [.ref xq, .int p0, .int p1, .int p2]).length) Slot.unset).toArray = ls at hl ⊢
  refine x_gen (P := fun H => W p l e _ s m _ below meth c H [] 0 0 _ _) ?_
  intro H hHe
  rw [← hHe] at hP
  have hS : va_S A s.heap H [] := by rw [hHe]; exact hS
  refine lv_aload_n hx hb d_RS_automaton_0 rfl (lv_at hl 0 rfl) ?_
  refine lv_iload_n hx hb d_RS_automaton_1 rfl (lv_at hl 1 rfl) ?_
  obtain ⟨u1, eu1, hf⟩ := obd hf
  refine x_call (vx_runV (As := [.int p0]) (rest := []) ⟨hx, hb, hml, hown, hts⟩ (c_RS_requireLanguage l hl0 H.size eu1) (gV 1 hts cd_RS_requireLanguage ml_RS_70 im_RS_requireLanguage se_RS_requireLanguage ini_RS rfl rfl pd_RS_requireLanguage ⟨Nat.le_of_ble_eq_true rfl, Nat.le_of_ble_eq_true rfl⟩) ⟨xPre_blind, va_recv hK hP (ci := 10) (q0 := 0) rfl rfl, xPre_of (T := fun _ => (0, 0, 0, 0, fun _ => 0, 0, fun _ => 0)) (asg := fun _ => none) hP hK hD hS hA hX hZ xT0⟩ rfl rfl hl.1 rfl (lv_room (Nat.le_of_ble_eq_true rfl)) d_RS_automaton_2 ⟨(by decide : 0 + 1 ≤ 2), (by decide : 0 + 6 ≤ 12)⟩) hD hS hA (fun E x ex g2 ce q9 H1 locs hP1 hD1 hk1 hS1 hq1 hq2 hq3 => ?_) (fun y1 ev g2 H1 locs hP1 hD1 hk1 hS1 => ?_)
  · subst ex
    have hr := (Option.some.inj hf).symm
    obtain ⟨hP, hD⟩ : _ ∧ _ := ⟨hP1, hD1.weaken (fun _ q _ h => va_sub hD hS hA q.1 h)⟩
    have hS := hS1
    generalize H1 = H at hP hS hq1 ⊢
    exact x_out htab B.notSynchronized hq1 hq2 hq3 () hr hP hK hD hS (by decide : 0 + 1 ≤ 2) (by decide : 0 + 6 ≤ 12)
  subst ev
  replace hf := oel hf
  obtain ⟨hP, hD⟩ : _ ∧ _ := ⟨hP1, hD1.weaken (fun _ q _ h => va_sub hD hS hA q.1 h)⟩
  have hS := hS1
  generalize H1 = H at hP hS ⊢
  have hP : va_P D vwCl (rsW K xq xl mq cq iq sq xLang xCount) H := hP
  have hD : va_D A (rsW K xq xl mq cq iq sq xLang xCount) := hD
  refine lv_aload_n hx hb d_RS_automaton_5 rfl (lv_at hl 0 rfl) ?_
  refine va_get (D := D) (ci := 10) (v := .ref xl) (C := R_RS) (T := T_RS) (N := 6) hx hb hts in_RS hown hK hP 0 rfl rfl 0 (by decide) (hts _ fl_RS_11) (fun _ h9 => h9) rfl d_RS_automaton_6 ?_
  refine lv_iload_n hx hb d_RS_automaton_9 rfl (lv_at hl 1 rfl) ?_
  obtain ⟨g3, hf⟩ := ogi hf
  refine va_aldq hx hb hK hP 1 3 rfl rfl (gin_in g3) d_RS_automaton_10 ?_
  obtain ⟨q4, hq4, hf⟩ := oqi hf
  rw [hq4]
  have hTq4 := hT q4 _ (gin_lt g3) hq4
  have hTwq4 := hTw q4 _ (gin_lt g3) hq4
  refine W.eq (g2 := F0 m 11 ls [.ref q4]) rfl ?_
  refine lv_astore (lv' := [(4, .ref q4), (0, .ref xq), (1, .int p0), (2, .int p1), (3, .int p2)]) hx hb d_RS_automaton_11 hl (by decide) rfl (fun ls hl => ?_)
  refine lv_iload_n hx hb d_RS_automaton_13 rfl (lv_at hl 3 rfl) ?_
  by_cases c5 : p1 = 0
  · rw [if_pos c5] at hf
    refine lv_tableIn (tgt := 44) (off := 30) hx hb d_RS_automaton_14 (by rw [c5]; decide) (by rw [c5]; decide) (by rw [c5]; rfl) (by decide) ?_
    refine lv_aload hx hb d_RS_automaton_44 (lv_at hl 0 rfl) ?_
    refine va_get (D := D) (ci := 1) (v := .int ((T q4).2.2.1)) (C := R_Au) (T := T_Au) (N := 4) hx hb hts in_Au hown hK (hTq4 _ _ hS) 0 rfl rfl 0 (by decide) (hts _ fl_RS_93) (fun _ h9 => h9) rfl d_RS_automaton_46 ?_
    have hr := (Option.some.inj hf).symm
    refine W.widen (k := 2) (n := 12) (by decide) (by decide) ?_
    exact vx_ret (W.iret hx hb B.returns (fun t ht hW => ⟨_, hr, ⟨(), rfl, by rw [ht]; exact hP, va_K.moved hW.alike hK, hD⟩, hS.F ht⟩) hS.2.2 d_RS_automaton_49 (hlocks := B.notSynchronized))
  · rw [if_neg c5] at hf
    by_cases c6 : p1 = 1
    · rw [if_pos c6] at hf
      refine lv_tableIn (tgt := 50) (off := 36) hx hb d_RS_automaton_14 (by rw [c6]; decide) (by rw [c6]; decide) (by rw [c6]; rfl) (by decide) ?_
      refine lv_aload hx hb d_RS_automaton_50 (lv_at hl 0 rfl) ?_
      refine va_get (D := D) (ci := 1) (v := .long ((T q4).2.2.2.2.2.1)) (C := R_Au) (T := T_Au) (N := 4) hx hb hts in_Au hown hK (hTq4 _ _ hS) 0 rfl rfl 2 (by decide) (hts _ fl_RS_96) (fun _ h9 => h9) rfl d_RS_automaton_52 ?_
      obtain ⟨u9, eu9, hf⟩ := obd hf
      refine p_call (W.runS (As := [.long ((T q4).2.2.2.2.2.1)]) (rest := []) ⟨hx, hb, hml, hown, hts⟩ (c_Ln_bitCount l eu9) (gS 1 hts cd_Ln_bitCount ml_RS_100 st_Ln_bitCount ini_Ln rfl rfl pd_Ln_bitCount ⟨Nat.le_of_ble_eq_true rfl, Nat.le_of_ble_eq_true rfl⟩) ⟨pPre_blind, pPre_of va_P0 hK⟩ rfl rfl hl.1 rfl (lv_room (Nat.le_of_ble_eq_true rfl)) d_RS_automaton_55 ⟨(by decide : 1 + 0 ≤ 2), (by decide : 6 + 0 ≤ 12)⟩) ?_
      have hr := (Option.some.inj hf).symm
      refine W.widen (k := 2) (n := 12) (by decide) (by decide) ?_
      exact vx_ret (W.iret hx hb B.returns (fun t ht hW => ⟨_, hr, ⟨(), rfl, by rw [ht]; exact hP, va_K.moved hW.alike hK, hD⟩, hS.F ht⟩) hS.2.2 d_RS_automaton_58 (hlocks := B.notSynchronized))
    · rw [if_neg c6] at hf
      by_cases c7 : p1 = 2
      · rw [if_pos c7] at hf
        refine lv_tableIn (tgt := 59) (off := 45) hx hb d_RS_automaton_14 (by rw [c7]; decide) (by rw [c7]; decide) (by rw [c7]; rfl) (by decide) ?_
        refine lv_iload_n hx hb d_RS_automaton_59 rfl (lv_at hl 4 rfl) ?_
        refine lv_iconst (v := 4) hx hb d_RS_automaton_60 (by decide) ?_
        refine lv_aload hx hb d_RS_automaton_61 (lv_at hl 0 rfl) ?_
        refine va_get (D := D) (ci := 1) (v := .int ((T q4).2.2.1)) (C := R_Au) (T := T_Au) (N := 4) hx hb hts in_Au hown hK (hTq4 _ _ hS) 0 rfl rfl 0 (by decide) (hts _ fl_RS_93) (fun _ h9 => h9) rfl d_RS_automaton_63 ?_
        refine lv_imul hx hb d_RS_automaton_66 ?_
        obtain ⟨u10, eu10, hf⟩ := obd hf
        refine x_call (vx_runS (As := [.int p2, .int (4 * ((T q4).2.2.1))]) (rest := []) ⟨hx, hb, hml, hown, hts⟩ (c_RS_requireIndex l hl0 H.size eu10) (gS 2 hts cd_RS_requireIndex ml_RS_106 st_RS_requireIndex ini_RS rfl rfl pd_RS_requireIndex ⟨Nat.le_of_ble_eq_true rfl, Nat.le_of_ble_eq_true rfl⟩) ⟨xPre_blind, xPre_of (T := fun _ => (0, 0, 0, 0, fun _ => 0, 0, fun _ => 0)) (asg := fun _ => none) va_P0 hK va_nil hS hA hX hZ xT0⟩ rfl rfl hl.1 rfl (lv_room (Nat.le_of_ble_eq_true rfl)) d_RS_automaton_67 ⟨(by decide : 1 + 1 ≤ 2), (by decide : 6 + 6 ≤ 12)⟩) va_nil hS hA (fun E x ex g11 ce q9 H1 locs hP1 hD1 hk1 hS1 hq1 hq2 hq3 => ?_) (fun y10 ev g11 H1 locs hP1 hD1 hk1 hS1 => ?_)
        · subst ex
          have hr := (Option.some.inj hf).symm
          obtain ⟨hP, hD⟩ : _ ∧ _ := ⟨x_keep0 hP hk1, hD⟩
          have hS := hS1
          generalize H1 = H at hP hS hq1 ⊢
          exact x_out htab B.notSynchronized hq1 hq2 hq3 () hr hP hK hD hS (by decide : 1 + 1 ≤ 2) (by decide : 6 + 6 ≤ 12)
        subst ev
        replace hf := oel hf
        obtain ⟨hP, hD⟩ : _ ∧ _ := ⟨x_keep0 hP hk1, hD⟩
        have hS := hS1
        generalize H1 = H at hP hS ⊢
        have hP : va_P D vwCl (rsW K xq xl mq cq iq sq xLang xCount) H := hP
        have hD : va_D A (rsW K xq xl mq cq iq sq xLang xCount) := hD
        refine lv_aload hx hb d_RS_automaton_70 (lv_at hl 0 rfl) ?_
        refine va_get (D := D) (ci := 1) (v := .ref ((T q4).1)) (C := R_Au) (T := T_Au) (N := 4) hx hb hts in_Au hown hK (hTq4 _ _ hS) 0 rfl rfl 1 (by decide) (hts _ fl_RS_109) (fun _ h9 => h9) rfl d_RS_automaton_72 ?_
        refine lv_iload_n hx hb d_RS_automaton_75 rfl (lv_at hl 4 rfl) ?_
        obtain ⟨g12, hf⟩ := ogi hf
        refine va_iald hx hb hK (hTq4 _ _ hS) 1 0 rfl rfl (gin_in g12) d_RS_automaton_76 ?_
        have hr := (Option.some.inj hf).symm
        refine W.widen (k := 2) (n := 12) (by decide) (by decide) ?_
        exact vx_ret (W.iret hx hb B.returns (fun t ht hW => ⟨_, hr, ⟨(), rfl, by rw [ht]; exact hP, va_K.moved hW.alike hK, hD⟩, hS.F ht⟩) hS.2.2 d_RS_automaton_77 (hlocks := B.notSynchronized))
      · rw [if_neg c7] at hf
        by_cases c8 : p1 = 3
        · rw [if_pos c8] at hf
          refine lv_tableIn (tgt := 78) (off := 64) hx hb d_RS_automaton_14 (by rw [c8]; decide) (by rw [c8]; decide) (by rw [c8]; rfl) (by decide) ?_
          refine lv_iload_n hx hb d_RS_automaton_78 rfl (lv_at hl 4 rfl) ?_
          refine lv_aload hx hb d_RS_automaton_79 (lv_at hl 0 rfl) ?_
          refine va_get (D := D) (ci := 1) (v := .int ((T q4).2.2.1)) (C := R_Au) (T := T_Au) (N := 4) hx hb hts in_Au hown hK (hTq4 _ _ hS) 0 rfl rfl 0 (by decide) (hts _ fl_RS_93) (fun _ h9 => h9) rfl d_RS_automaton_81 ?_
          obtain ⟨u13, eu13, hf⟩ := obd hf
          refine x_call (vx_runS (As := [.int p2, .int ((T q4).2.2.1)]) (rest := []) ⟨hx, hb, hml, hown, hts⟩ (c_RS_requireIndex l hl0 H.size eu13) (gS 2 hts cd_RS_requireIndex ml_RS_106 st_RS_requireIndex ini_RS rfl rfl pd_RS_requireIndex ⟨Nat.le_of_ble_eq_true rfl, Nat.le_of_ble_eq_true rfl⟩) ⟨xPre_blind, xPre_of (T := fun _ => (0, 0, 0, 0, fun _ => 0, 0, fun _ => 0)) (asg := fun _ => none) va_P0 hK va_nil hS hA hX hZ xT0⟩ rfl rfl hl.1 rfl (lv_room (Nat.le_of_ble_eq_true rfl)) d_RS_automaton_84 ⟨(by decide : 1 + 1 ≤ 2), (by decide : 6 + 6 ≤ 12)⟩) va_nil hS hA (fun E x ex g14 ce q9 H1 locs hP1 hD1 hk1 hS1 hq1 hq2 hq3 => ?_) (fun y13 ev g14 H1 locs hP1 hD1 hk1 hS1 => ?_)
          · subst ex
            have hr := (Option.some.inj hf).symm
            obtain ⟨hP, hD⟩ : _ ∧ _ := ⟨x_keep0 hP hk1, hD⟩
            have hS := hS1
            generalize H1 = H at hP hS hq1 ⊢
            exact x_out htab B.notSynchronized hq1 hq2 hq3 () hr hP hK hD hS (by decide : 1 + 1 ≤ 2) (by decide : 6 + 6 ≤ 12)
          subst ev
          replace hf := oel hf
          obtain ⟨hP, hD⟩ : _ ∧ _ := ⟨x_keep0 hP hk1, hD⟩
          have hS := hS1
          generalize H1 = H at hP hS ⊢
          have hP : va_P D vwCl (rsW K xq xl mq cq iq sq xLang xCount) H := hP
          have hD : va_D A (rsW K xq xl mq cq iq sq xLang xCount) := hD
          refine lv_aload hx hb d_RS_automaton_87 (lv_at hl 0 rfl) ?_
          refine lv_iload_n hx hb d_RS_automaton_89 rfl (lv_at hl 4 rfl) ?_
          obtain ⟨u15, eu15, hf⟩ := obd hf
          refine p_call (W.runV (As := [.int p2]) (rest := []) ⟨hx, hb, hml, hown, hts⟩ (c_Au_isLast l eu15) (gV 1 hts cd_Au_isLast ml_RS_113 im_Au_isLast se_Au_isLast ini_Au rfl rfl pd_Au_isLast ⟨Nat.le_of_ble_eq_true rfl, Nat.le_of_ble_eq_true rfl⟩) ⟨pPre_blind, va_recv hK (hTq4 _ _ hS) (ci := 1) (q0 := 0) rfl rfl, pPre_of (hTq4 _ _ hS) hK⟩ rfl rfl hl.1 rfl (lv_room (Nat.le_of_ble_eq_true rfl)) d_RS_automaton_90 ⟨(by decide : 2 + 0 ≤ 2), (by decide : 12 + 0 ≤ 12)⟩) ?_
          refine bz_eq (tgt := 100) hx hb d_RS_automaton_93 (by decide) (fun c16 => ?_) (fun c16 => ?_)
          · rw [if_neg c16] at hf
            refine lv_iconst (v := 0) hx hb d_RS_automaton_100 (by decide) ?_
            have hr := (Option.some.inj hf).symm
            refine W.widen (k := 2) (n := 12) (by decide) (by decide) ?_
            exact vx_ret (W.iret hx hb B.returns (fun t ht hW => ⟨_, hr, ⟨(), rfl, by rw [ht]; exact hP, va_K.moved hW.alike hK, hD⟩, hS.F ht⟩) hS.2.2 d_RS_automaton_101 (hlocks := B.notSynchronized))
          · rw [if_pos c16] at hf
            refine lv_iconst (v := 1) hx hb d_RS_automaton_96 (by decide) ?_
            refine lv_goto (tgt := 101) hx hb d_RS_automaton_97 (by decide) ?_
            have hr := (Option.some.inj hf).symm
            refine W.widen (k := 2) (n := 12) (by decide) (by decide) ?_
            exact vx_ret (W.iret hx hb B.returns (fun t ht hW => ⟨_, hr, ⟨(), rfl, by rw [ht]; exact hP, va_K.moved hW.alike hK, hD⟩, hS.F ht⟩) hS.2.2 d_RS_automaton_101 (hlocks := B.notSynchronized))
        · rw [if_neg c8] at hf
          refine lv_tableOut (tgt := 102) hx hb d_RS_automaton_14 (sw_out 4 (by decide) (by decide) (fun j hj => by match j, hj with | 0, _ => exact c5 | 1, _ => exact c6 | 2, _ => exact c7 | 3, _ => exact c8 | q + 4, h9 => exact absurd h9 (by omega))) (by decide) ?_
          have hr := (Option.some.inj hf).symm
          exact g_throw (text := "what is not 0..3") hx hb hl0 hown hts hZ (by decide) cl_RS_47 ini_IllegalArgumentException (by decide) za_IllegalArgumentException zb_IllegalArgumentException zc_IllegalArgumentException htab B.notSynchronized (by rw [hml]; exact hl.1) () hr hP hK hD hS d_RS_automaton_102 d_RS_automaton_105 d_RS_automaton_106 d_RS_automaton_108 d_RS_automaton_111 (Nat.le_of_ble_eq_true rfl) (Nat.le_of_ble_eq_true rfl) (by decide : 1 + 1 ≤ 2) (by decide : 6 + 6 ≤ 12) (by decide : 1 + 1 ≤ 2) (by decide : 6 + 6 ≤ 12)
def f_RS_has (n : Nat) (p0 : Int32) (p1 : Int32) (p2 : Int64) (xLang : Nat → Option Nat) (xCount : Int32) (T : auTab) : Option ((String × (Unit)) ⊕ (Bool)) :=
  (f_RS_requireLanguage n p0 xCount).bind fun u1 => u1.elim (fun x => some (.inl (x.1, ()))) fun y1 =>
  (f_RS_requireBetween n p1 0 31).bind fun u3 => u3.elim (fun x => some (.inl (x.1, ()))) fun y3 =>
  if p2 < 0 then
    some (.inl ("java/lang/IllegalArgumentException", ()))
  else
    if (lshr p2 (2 * p1)) = 0 then
      ogd (gin p0 60) <|
      oq (xLang p0.toNatClampNeg) none fun q8 =>
      (f_Au_accepts n p1 p2 ((T q8).2.2.2.1) ((T q8).2.2.2.2.1) ((T q8).2.2.2.2.2.1)).bind fun u9 =>
      some (.inr u9)
    else
      some (.inl ("java/lang/IllegalArgumentException", ()))
set_option maxHeartbeats 400000 in
set_option maxRecDepth 100000 in
theorem c_RS_has (l : Launch) (hl0 : l.stackTraces = false) {D : va_G} {K : Nat → ClassId} {T : auTab} {n : Nat} {xq : Nat} {xl : Nat} {mq : Nat} {cq : Nat} {iq : Nat} {sq : Nat} {xLang : Nat → Option Nat} {xCount : Int32} {p0 : Int32} {p1 : Int32} {p2 : Int64}  {r : (String × (Unit)) ⊕ (Bool)} (sz : Nat) (hf : f_RS_has n p0 p1 p2 xLang xCount T = some r) : vx_Met l y_RS_has w0_RS_has ({ frames := 7, cells := 3, slots := 18, locals := 104 }) (xPre D K T [.ref xq, .int p0, .int p1, .long p2] (rsW K xq xl mq cq iq sq xLang xCount) 60 xLang sz) (xPost D K r (fun v (g : Unit) => some (.int (bI v))) (fun v g => (rsW K xq xl mq cq iq sq xLang xCount)) (va_A (rsW K xq xl mq cq iq sq xLang xCount) sz)) (xExc D K r (fun u (g : Unit) => (rsW K xq xl mq cq iq sq xLang xCount)) (va_A (rsW K xq xl mq cq iq sq xLang xCount) sz)) 3 18 (va_A (rsW K xq xl mq cq iq sq xLang xCount) sz) := by
  unfold f_RS_has at hf
  refine vx_ofW (cc := b_RS_has) (maxL := 5) (ret := (some .boolean)) (by decide) rfl ?_
  intro p e s m args below meth c s₁ B hml htab hv
  obtain ⟨⟨rfl, hsz, hP, hK, hD0⟩, hX, hZ, hT0⟩ := hv
  subst hsz
  have hx := B.exec
  have hb := B.bytes
  have hts : ∀ w ∈ gW, w.before _ s = true := fun w hw => atoms_spec (ws := w0_RS_has) B.pre w (List.mem_cons_of_mem _ hw)
  have hown : s.vm.findClass "RegularSolver" = some m.cls := findClass_of_methodNamed B.named
  have hD := hD0.self (sz := s.heap.size)
  generalize hAe : va_A (rsW K xq xl mq cq iq sq xLang xCount) s.heap.size = A at hD hZ hT0 ⊢
  have hA : ∀ q : Nat, s.heap.size ≤ q → A q := fun q h => by rw [← hAe]; exact Or.inr h
  have hS : va_S A s.heap s.heap [] := va_S.rf
  have hT : ∀ (q i : Nat), i < 60 → xLang i = some q → ∀ (H : Heap) (locs : List Loc), va_S A s.heap H locs → va_P D vwCl (auT K T q) H := fun q i hi hq _ _ hS => ro_of (hT0 q i hi hq).1 (hT0 q i hi hq).2 hS
  have hTw : ∀ (q i : Nat), i < 60 → xLang i = some q → gAw A (auT K T q) := fun q i hi hq => (hT0 q i hi hq).2
  have hl := lv_entry [.ref xq, .int p0, .int p1, .long p2] (n := 5) (Nat.le_of_ble_eq_true rfl)
  rw [lg_entry_eq]
  generalize (lg_sl [.ref xq, .int p0, .int p1, .long p2] ++ List.replicate (5 - (lg_sl [.ref xq, .int p0, .int p1, .long p2]).length) Slot.unset).toArray = ls at hl ⊢
  refine x_gen (P := fun H => W p l e _ s m _ below meth c H [] 0 0 _ _) ?_
  intro H hHe
  rw [← hHe] at hP
  have hS : va_S A s.heap H [] := by rw [hHe]; exact hS
  refine lv_aload_n hx hb d_RS_has_0 rfl (lv_at hl 0 rfl) ?_
  refine lv_iload_n hx hb d_RS_has_1 rfl (lv_at hl 1 rfl) ?_
  obtain ⟨u1, eu1, hf⟩ := obd hf
  refine x_call (vx_runV (As := [.int p0]) (rest := []) ⟨hx, hb, hml, hown, hts⟩ (c_RS_requireLanguage l hl0 H.size eu1) (gV 1 hts cd_RS_requireLanguage ml_RS_70 im_RS_requireLanguage se_RS_requireLanguage ini_RS rfl rfl pd_RS_requireLanguage ⟨Nat.le_of_ble_eq_true rfl, Nat.le_of_ble_eq_true rfl⟩) ⟨xPre_blind, va_recv hK hP (ci := 10) (q0 := 0) rfl rfl, xPre_of (T := fun _ => (0, 0, 0, 0, fun _ => 0, 0, fun _ => 0)) (asg := fun _ => none) hP hK hD hS hA hX hZ xT0⟩ rfl rfl hl.1 rfl (lv_room (Nat.le_of_ble_eq_true rfl)) d_RS_has_2 ⟨(by decide : 0 + 1 ≤ 3), (by decide : 0 + 6 ≤ 18)⟩) hD hS hA (fun E x ex g2 ce q9 H1 locs hP1 hD1 hk1 hS1 hq1 hq2 hq3 => ?_) (fun y1 ev g2 H1 locs hP1 hD1 hk1 hS1 => ?_)
  · subst ex
    have hr := (Option.some.inj hf).symm
    obtain ⟨hP, hD⟩ : _ ∧ _ := ⟨hP1, hD1.weaken (fun _ q _ h => va_sub hD hS hA q.1 h)⟩
    have hS := hS1
    generalize H1 = H at hP hS hq1 ⊢
    exact x_out htab B.notSynchronized hq1 hq2 hq3 () hr hP hK hD hS (by decide : 0 + 1 ≤ 3) (by decide : 0 + 6 ≤ 18)
  subst ev
  replace hf := oel hf
  obtain ⟨hP, hD⟩ : _ ∧ _ := ⟨hP1, hD1.weaken (fun _ q _ h => va_sub hD hS hA q.1 h)⟩
  have hS := hS1
  generalize H1 = H at hP hS ⊢
  have hP : va_P D vwCl (rsW K xq xl mq cq iq sq xLang xCount) H := hP
  have hD : va_D A (rsW K xq xl mq cq iq sq xLang xCount) := hD
  refine lv_iload_n hx hb d_RS_has_5 rfl (lv_at hl 2 rfl) ?_
  refine lv_iconst (v := 0) hx hb d_RS_has_6 (by decide) ?_
  refine lv_bipush (v := 31) hx hb d_RS_has_7 (by decide) ?_
  obtain ⟨u3, eu3, hf⟩ := obd hf
  refine x_call (vx_runS (As := [.int p1, .int 0, .int 31]) (rest := []) ⟨hx, hb, hml, hown, hts⟩ (c_RS_requireBetween l hl0 H.size eu3) (gS 3 hts cd_RS_requireBetween ml_RS_119 st_RS_requireBetween ini_RS rfl rfl pd_RS_requireBetween ⟨Nat.le_of_ble_eq_true rfl, Nat.le_of_ble_eq_true rfl⟩) ⟨xPre_blind, xPre_of (T := fun _ => (0, 0, 0, 0, fun _ => 0, 0, fun _ => 0)) (asg := fun _ => none) va_P0 hK va_nil hS hA hX hZ xT0⟩ rfl rfl hl.1 rfl (lv_room (Nat.le_of_ble_eq_true rfl)) d_RS_has_9 ⟨(by decide : 1 + 1 ≤ 3), (by decide : 6 + 6 ≤ 18)⟩) va_nil hS hA (fun E x ex g4 ce q9 H1 locs hP1 hD1 hk1 hS1 hq1 hq2 hq3 => ?_) (fun y3 ev g4 H1 locs hP1 hD1 hk1 hS1 => ?_)
  · subst ex
    have hr := (Option.some.inj hf).symm
    obtain ⟨hP, hD⟩ : _ ∧ _ := ⟨x_keep0 hP hk1, hD⟩
    have hS := hS1
    generalize H1 = H at hP hS hq1 ⊢
    exact x_out htab B.notSynchronized hq1 hq2 hq3 () hr hP hK hD hS (by decide : 1 + 1 ≤ 3) (by decide : 6 + 6 ≤ 18)
  subst ev
  replace hf := oel hf
  obtain ⟨hP, hD⟩ : _ ∧ _ := ⟨x_keep0 hP hk1, hD⟩
  have hS := hS1
  generalize H1 = H at hP hS ⊢
  have hP : va_P D vwCl (rsW K xq xl mq cq iq sq xLang xCount) H := hP
  have hD : va_D A (rsW K xq xl mq cq iq sq xLang xCount) := hD
  refine lv_lload_n hx hb d_RS_has_12 rfl (lv_at hl 3 rfl) ?_
  refine lv_lconst (v := 0) hx hb d_RS_has_13 (by decide) ?_
  refine W.lcmp hx hb d_RS_has_14 ?_
  refine lc_lt (tgt := 28) hx hb d_RS_has_15 (by decide) (fun c5 => ?_) (fun c5 => ?_)
  · rw [if_pos c5] at hf
    have hr := (Option.some.inj hf).symm
    exact g_throw (text := "word is not one of n letters") hx hb hl0 hown hts hZ (by decide) cl_RS_47 ini_IllegalArgumentException (by decide) za_IllegalArgumentException zb_IllegalArgumentException zc_IllegalArgumentException htab B.notSynchronized (by rw [hml]; exact hl.1) () hr hP hK hD hS d_RS_has_28 d_RS_has_31 d_RS_has_32 d_RS_has_34 d_RS_has_37 (Nat.le_of_ble_eq_true rfl) (Nat.le_of_ble_eq_true rfl) (by decide : 2 + 1 ≤ 3) (by decide : 12 + 6 ≤ 18) (by decide : 2 + 1 ≤ 3) (by decide : 12 + 6 ≤ 18)
  · rw [if_neg c5] at hf
    refine lv_lload_n hx hb d_RS_has_18 rfl (lv_at hl 3 rfl) ?_
    refine lv_iconst (v := 2) hx hb d_RS_has_19 (by decide) ?_
    refine lv_iload_n hx hb d_RS_has_20 rfl (lv_at hl 2 rfl) ?_
    refine lv_imul hx hb d_RS_has_21 ?_
    refine lv_lshr (v := lshr p2 (2 * p1)) hx hb d_RS_has_22 rfl ?_
    refine lv_lconst (v := 0) hx hb d_RS_has_23 (by decide) ?_
    refine W.lcmp hx hb d_RS_has_24 ?_
    refine lc_eq (tgt := 38) hx hb d_RS_has_25 (by decide) (fun c6 => ?_) (fun c6 => ?_)
    · rw [if_pos c6] at hf
      refine lv_aload_n hx hb d_RS_has_38 rfl (lv_at hl 0 rfl) ?_
      refine va_get (D := D) (ci := 10) (v := .ref xl) (C := R_RS) (T := T_RS) (N := 6) hx hb hts in_RS hown hK hP 0 rfl rfl 0 (by decide) (hts _ fl_RS_11) (fun _ h9 => h9) rfl d_RS_has_39 ?_
      refine lv_iload_n hx hb d_RS_has_42 rfl (lv_at hl 1 rfl) ?_
      obtain ⟨g7, hf⟩ := ogi hf
      refine va_aldq hx hb hK hP 1 3 rfl rfl (gin_in g7) d_RS_has_43 ?_
      obtain ⟨q8, hq8, hf⟩ := oqi hf
      rw [hq8]
      have hTq8 := hT q8 _ (gin_lt g7) hq8
      have hTwq8 := hTw q8 _ (gin_lt g7) hq8
      refine W.eq (g2 := F0 m 44 ls [.ref q8]) rfl ?_
      refine lv_iload_n hx hb d_RS_has_44 rfl (lv_at hl 2 rfl) ?_
      refine lv_lload_n hx hb d_RS_has_45 rfl (lv_at hl 3 rfl) ?_
      obtain ⟨u9, eu9, hf⟩ := obd hf
      refine p_call (W.runV (As := [.int p1, .long p2]) (rest := []) ⟨hx, hb, hml, hown, hts⟩ (c_Au_accepts l eu9) (gV 2 hts cd_Au_accepts ml_RS_125 im_Au_accepts se_Au_accepts ini_Au rfl rfl pd_Au_accepts ⟨Nat.le_of_ble_eq_true rfl, Nat.le_of_ble_eq_true rfl⟩) ⟨pPre_blind, va_recv hK (hTq8 _ _ hS) (ci := 1) (q0 := 0) rfl rfl, pPre_of (hTq8 _ _ hS) hK⟩ rfl rfl hl.1 rfl (lv_room (Nat.le_of_ble_eq_true rfl)) d_RS_has_46 ⟨(by decide : 2 + 0 ≤ 3), (by decide : 12 + 0 ≤ 18)⟩) ?_
      have hr := (Option.some.inj hf).symm
      refine W.widen (k := 3) (n := 18) (by decide) (by decide) ?_
      exact vx_ret (W.zret hx hb B.returns (bI_nar _) (fun t ht hW => ⟨_, hr, ⟨(), rfl, by rw [ht]; exact hP, va_K.moved hW.alike hK, hD⟩, hS.F ht⟩) hS.2.2 d_RS_has_49 (hlocks := B.notSynchronized))
    · rw [if_neg c6] at hf
      have hr := (Option.some.inj hf).symm
      exact g_throw (text := "word is not one of n letters") hx hb hl0 hown hts hZ (by decide) cl_RS_47 ini_IllegalArgumentException (by decide) za_IllegalArgumentException zb_IllegalArgumentException zc_IllegalArgumentException htab B.notSynchronized (by rw [hml]; exact hl.1) () hr hP hK hD hS d_RS_has_28 d_RS_has_31 d_RS_has_32 d_RS_has_34 d_RS_has_37 (Nat.le_of_ble_eq_true rfl) (Nat.le_of_ble_eq_true rfl) (by decide : 2 + 1 ≤ 3) (by decide : 12 + 6 ≤ 18) (by decide : 2 + 1 ≤ 3) (by decide : 12 + 6 ≤ 18)
def f_RS_words (n : Nat) (p0 : Int32) (p1 : Int32) (xLang : Nat → Option Nat) (xCount : Int32) (cCounts : Nat → Int64) (cLonger : Nat → Int64) (T : auTab) : Option ((String × ((Nat → Int64) × (Nat → Int64))) ⊕ (Int64 × (Nat → Int64) × (Nat → Int64))) :=
  (f_RS_requireLanguage n p0 xCount).bind fun u1 => u1.elim (fun x => some (.inl (x.1, (cCounts, cLonger)))) fun y1 =>
  (f_RS_requireBetween n p1 0 1000).bind fun u3 => u3.elim (fun x => some (.inl (x.1, (cCounts, cLonger)))) fun y3 =>
  ogd (gin p0 60) <|
  oq (xLang p0.toNatClampNeg) none fun q6 =>
  (f_Co_count n p1 cCounts cLonger ((T q6).2.2.1) ((T q6).2.2.2.1) ((T q6).2.2.2.2.1) ((T q6).2.2.2.2.2.1)).bind fun u7 =>
  some (.inr (u7.1, u7.2.1, u7.2.2))
set_option maxHeartbeats 400000 in
set_option maxRecDepth 100000 in
theorem c_RS_words (l : Launch) (hl0 : l.stackTraces = false) {D : va_G} {K : Nat → ClassId} {T : auTab} {n : Nat} {xq : Nat} {xl : Nat} {mq : Nat} {cq : Nat} {iq : Nat} {sq : Nat} {c1 : Nat} {c2 : Nat} {xLang : Nat → Option Nat} {xCount : Int32} {cCounts : Nat → Int64} {cLonger : Nat → Int64} {p0 : Int32} {p1 : Int32}  {r : (String × ((Nat → Int64) × (Nat → Int64))) ⊕ (Int64 × (Nat → Int64) × (Nat → Int64))} (sz : Nat) (hf : f_RS_words n p0 p1 xLang xCount cCounts cLonger T = some r) : vx_Met l y_RS_words w0_RS_words ({ frames := 7, cells := 2, slots := 12, locals := 104 }) (xPre D K T [.ref xq, .int p0, .int p1] ((rsW K xq xl mq cq iq sq xLang xCount) ++ (coW K cq c1 c2 cCounts cLonger)) 60 xLang sz) (xPost D K r (fun v (g : Nat × Nat) => some (.long v.1)) (fun v g => ((rsW K xq xl mq cq iq sq xLang xCount) ++ (coW K cq g.1 g.2 v.2.1 v.2.2))) (va_A ((rsW K xq xl mq cq iq sq xLang xCount) ++ (coW K cq c1 c2 cCounts cLonger)) sz)) (xExc D K r (fun u (g : Nat × Nat) => ((rsW K xq xl mq cq iq sq xLang xCount) ++ (coW K cq g.1 g.2 u.1 u.2))) (va_A ((rsW K xq xl mq cq iq sq xLang xCount) ++ (coW K cq c1 c2 cCounts cLonger)) sz)) 2 12 (va_A ((rsW K xq xl mq cq iq sq xLang xCount) ++ (coW K cq c1 c2 cCounts cLonger)) sz) := by
  unfold f_RS_words at hf
  refine vx_ofW (cc := b_RS_words) (maxL := 3) (ret := (some .long)) (by decide) rfl ?_
  intro p e s m args below meth c s₁ B hml htab hv
  obtain ⟨⟨rfl, hsz, hP, hK, hD0⟩, hX, hZ, hT0⟩ := hv
  subst hsz
  have hx := B.exec
  have hb := B.bytes
  have hts : ∀ w ∈ gW, w.before _ s = true := fun w hw => atoms_spec (ws := w0_RS_words) B.pre w (List.mem_cons_of_mem _ hw)
  have hown : s.vm.findClass "RegularSolver" = some m.cls := findClass_of_methodNamed B.named
  have hD := hD0.self (sz := s.heap.size)
  generalize hAe : va_A ((rsW K xq xl mq cq iq sq xLang xCount) ++ (coW K cq c1 c2 cCounts cLonger)) s.heap.size = A at hD hZ hT0 ⊢
  have hA : ∀ q : Nat, s.heap.size ≤ q → A q := fun q h => by rw [← hAe]; exact Or.inr h
  have hS : va_S A s.heap s.heap [] := va_S.rf
  have hT : ∀ (q i : Nat), i < 60 → xLang i = some q → ∀ (H : Heap) (locs : List Loc), va_S A s.heap H locs → va_P D vwCl (auT K T q) H := fun q i hi hq _ _ hS => ro_of (hT0 q i hi hq).1 (hT0 q i hi hq).2 hS
  have hTw : ∀ (q i : Nat), i < 60 → xLang i = some q → gAw A (auT K T q) := fun q i hi hq => (hT0 q i hi hq).2
  have hl := lv_entry [.ref xq, .int p0, .int p1] (n := 3) (Nat.le_of_ble_eq_true rfl)
  rw [lg_entry_eq]
  generalize (lg_sl [.ref xq, .int p0, .int p1] ++ List.replicate (3 - (lg_sl [.ref xq, .int p0, .int p1]).length) Slot.unset).toArray = ls at hl ⊢
  refine x_gen (P := fun H => W p l e _ s m _ below meth c H [] 0 0 _ _) ?_
  intro H hHe
  rw [← hHe] at hP
  have hS : va_S A s.heap H [] := by rw [hHe]; exact hS
  refine lv_aload_n hx hb d_RS_words_0 rfl (lv_at hl 0 rfl) ?_
  refine lv_iload_n hx hb d_RS_words_1 rfl (lv_at hl 1 rfl) ?_
  obtain ⟨u1, eu1, hf⟩ := obd hf
  refine x_call (vx_runV (As := [.int p0]) (rest := []) ⟨hx, hb, hml, hown, hts⟩ (c_RS_requireLanguage l hl0 H.size eu1) (gV 1 hts cd_RS_requireLanguage ml_RS_70 im_RS_requireLanguage se_RS_requireLanguage ini_RS rfl rfl pd_RS_requireLanguage ⟨Nat.le_of_ble_eq_true rfl, Nat.le_of_ble_eq_true rfl⟩) ⟨xPre_blind, va_recv hK (vaL hP) (ci := 10) (q0 := 0) rfl rfl, xPre_of (T := fun _ => (0, 0, 0, 0, fun _ => 0, 0, fun _ => 0)) (asg := fun _ => none) (vaL hP) hK (vdL hD) hS hA hX hZ xT0⟩ rfl rfl hl.1 rfl (lv_room (Nat.le_of_ble_eq_true rfl)) d_RS_words_2 ⟨(by decide : 0 + 1 ≤ 2), (by decide : 0 + 6 ≤ 12)⟩) (vdL hD) hS hA (fun E x ex g2 ce q9 H1 locs hP1 hD1 hk1 hS1 hq1 hq2 hq3 => ?_) (fun y1 ev g2 H1 locs hP1 hD1 hk1 hS1 => ?_)
  · subst ex
    have hr := (Option.some.inj hf).symm
    obtain ⟨hP, hD⟩ := va_keepR hP hD (va_sub (vdL hD) hS hA) hk1 hP1 hD1
    have hS := hS1
    generalize H1 = H at hP hS hq1 ⊢
    exact x_out htab B.notSynchronized hq1 hq2 hq3 (c1, c2) hr hP hK hD hS (by decide : 0 + 1 ≤ 2) (by decide : 0 + 6 ≤ 12)
  subst ev
  replace hf := oel hf
  obtain ⟨hP, hD⟩ := va_keepR hP hD (va_sub (vdL hD) hS hA) hk1 hP1 hD1
  have hS := hS1
  generalize H1 = H at hP hS ⊢
  have hP : va_P D vwCl ((rsW K xq xl mq cq iq sq xLang xCount) ++ (coW K cq c1 c2 cCounts cLonger)) H := hP
  have hD : va_D A ((rsW K xq xl mq cq iq sq xLang xCount) ++ (coW K cq c1 c2 cCounts cLonger)) := hD
  refine lv_iload_n hx hb d_RS_words_5 rfl (lv_at hl 2 rfl) ?_
  refine lv_iconst (v := 0) hx hb d_RS_words_6 (by decide) ?_
  refine lv_sipush (v := 1000) hx hb d_RS_words_7 (by decide) ?_
  obtain ⟨u3, eu3, hf⟩ := obd hf
  refine x_call (vx_runS (As := [.int p1, .int 0, .int 1000]) (rest := []) ⟨hx, hb, hml, hown, hts⟩ (c_RS_requireBetween l hl0 H.size eu3) (gS 3 hts cd_RS_requireBetween ml_RS_119 st_RS_requireBetween ini_RS rfl rfl pd_RS_requireBetween ⟨Nat.le_of_ble_eq_true rfl, Nat.le_of_ble_eq_true rfl⟩) ⟨xPre_blind, xPre_of (T := fun _ => (0, 0, 0, 0, fun _ => 0, 0, fun _ => 0)) (asg := fun _ => none) va_P0 hK va_nil hS hA hX hZ xT0⟩ rfl rfl hl.1 rfl (lv_room (Nat.le_of_ble_eq_true rfl)) d_RS_words_10 ⟨(by decide : 1 + 1 ≤ 2), (by decide : 6 + 6 ≤ 12)⟩) va_nil hS hA (fun E x ex g4 ce q9 H1 locs hP1 hD1 hk1 hS1 hq1 hq2 hq3 => ?_) (fun y3 ev g4 H1 locs hP1 hD1 hk1 hS1 => ?_)
  · subst ex
    have hr := (Option.some.inj hf).symm
    obtain ⟨hP, hD⟩ : _ ∧ _ := ⟨x_keep0 hP hk1, hD⟩
    have hS := hS1
    generalize H1 = H at hP hS hq1 ⊢
    exact x_out htab B.notSynchronized hq1 hq2 hq3 (c1, c2) hr hP hK hD hS (by decide : 1 + 1 ≤ 2) (by decide : 6 + 6 ≤ 12)
  subst ev
  replace hf := oel hf
  obtain ⟨hP, hD⟩ : _ ∧ _ := ⟨x_keep0 hP hk1, hD⟩
  have hS := hS1
  generalize H1 = H at hP hS ⊢
  have hP : va_P D vwCl ((rsW K xq xl mq cq iq sq xLang xCount) ++ (coW K cq c1 c2 cCounts cLonger)) H := hP
  have hD : va_D A ((rsW K xq xl mq cq iq sq xLang xCount) ++ (coW K cq c1 c2 cCounts cLonger)) := hD
  refine lv_aload_n hx hb d_RS_words_13 rfl (lv_at hl 0 rfl) ?_
  refine va_get (D := D) (ci := 10) (v := .ref cq) (C := R_RS) (T := T_RS) (N := 6) hx hb hts in_RS hown hK hP 0 rfl rfl 3 (by decide) (hts _ fl_RS_29) (fun _ h9 => h9) rfl d_RS_words_14 ?_
  refine lv_aload_n hx hb d_RS_words_17 rfl (lv_at hl 0 rfl) ?_
  refine va_get (D := D) (ci := 10) (v := .ref xl) (C := R_RS) (T := T_RS) (N := 6) hx hb hts in_RS hown hK hP 0 rfl rfl 0 (by decide) (hts _ fl_RS_11) (fun _ h9 => h9) rfl d_RS_words_18 ?_
  refine lv_iload_n hx hb d_RS_words_21 rfl (lv_at hl 1 rfl) ?_
  obtain ⟨g5, hf⟩ := ogi hf
  refine va_aldq hx hb hK hP 1 3 rfl rfl (gin_in g5) d_RS_words_22 ?_
  obtain ⟨q6, hq6, hf⟩ := oqi hf
  rw [hq6]
  have hTq6 := hT q6 _ (gin_lt g5) hq6
  have hTwq6 := hTw q6 _ (gin_lt g5) hq6
  refine W.eq (g2 := F0 m 23 ls [.ref q6, .ref cq]) rfl ?_
  refine lv_iload_n hx hb d_RS_words_23 rfl (lv_at hl 2 rfl) ?_
  obtain ⟨u7, eu7, hf⟩ := obd hf
  refine w_callA (va_runV (As := [.ref q6, .int p1]) (rest := []) ⟨hx, hb, hml, hown, hts⟩ (c_Co_count l H.size eu7) (gV 2 hts cd_Co_count ml_RS_129 im_Co_count se_Co_count ini_Co rfl rfl pd_Co_count ⟨Nat.le_of_ble_eq_true rfl, Nat.le_of_ble_eq_true rfl⟩) ⟨wPreR_blind, va_recv hK (vaR hP) (ci := 7) (q0 := 0) rfl rfl, wPreR_of (vaR hP) hK (vdR hD) hS hA (hTq6 _ _ hS) hTwq6⟩ rfl rfl hl.1 rfl (lv_room (Nat.le_of_ble_eq_true rfl)) d_RS_words_24 ⟨(by decide : 2 + 0 ≤ 2), (by decide : 12 + 0 ≤ 12)⟩) (vdR hD) hS hA (fun g8 H1 locs hP1 hD1 hk1 hS1 => ?_)
  obtain ⟨hP, hD⟩ := va_keepL hP hD (va_sub (vdR hD) hS hA) hk1 hP1 hD1
  have hS := hS1
  generalize H1 = H at hP hS ⊢
  have hP : va_P D vwCl ((rsW K xq xl mq cq iq sq xLang xCount) ++ (coW K cq g8.1 g8.2 u7.2.1 u7.2.2)) H := hP
  have hD : va_D A ((rsW K xq xl mq cq iq sq xLang xCount) ++ (coW K cq g8.1 g8.2 u7.2.1 u7.2.2)) := hD
  have hr := (Option.some.inj hf).symm
  refine W.widen (k := 2) (n := 12) (by decide) (by decide) ?_
  exact vx_ret (W.lret hx hb B.returns (fun t ht hW => ⟨_, hr, ⟨(g8.1, g8.2), rfl, by rw [ht]; exact hP, va_K.moved hW.alike hK, hD⟩, hS.F ht⟩) hS.2.2 d_RS_words_27 (hlocks := B.notSynchronized))
def f_RS_first (n : Nat) (p0 : Int32) (p1 : Int32) (xLang : Nat → Option Nat) (xCount : Int32) (T : auTab) : Option ((String × (Unit)) ⊕ (Int64)) :=
  (f_RS_requireLanguage n p0 xCount).bind fun u1 => u1.elim (fun x => some (.inl (x.1, ()))) fun y1 =>
  (f_RS_requireBetween n p1 0 31).bind fun u3 => u3.elim (fun x => some (.inl (x.1, ()))) fun y3 =>
  ogd (gin p0 60) <|
  oq (xLang p0.toNatClampNeg) none fun q6 =>
  (f_Au_hasLength n p1 ((T q6).2.2.2.2.2.2)).bind fun u7 =>
  if u7 = true then
    ogd (gin p0 60) <|
    oq (xLang p0.toNatClampNeg) none fun q10 =>
    (f_Au_leastWord n p1 ((T q10).2.2.2.1) ((T q10).2.2.2.2.1) ((T q10).2.2.2.2.2.2)).bind fun u11 =>
    some (.inr u11)
  else
    some (.inl ("java/lang/UnsupportedOperationException", ()))
set_option maxHeartbeats 400000 in
set_option maxRecDepth 100000 in
theorem c_RS_first (l : Launch) (hl0 : l.stackTraces = false) {D : va_G} {K : Nat → ClassId} {T : auTab} {n : Nat} {xq : Nat} {xl : Nat} {mq : Nat} {cq : Nat} {iq : Nat} {sq : Nat} {xLang : Nat → Option Nat} {xCount : Int32} {p0 : Int32} {p1 : Int32}  {r : (String × (Unit)) ⊕ (Int64)} (sz : Nat) (hf : f_RS_first n p0 p1 xLang xCount T = some r) : vx_Met l y_RS_first w0_RS_first ({ frames := 7, cells := 3, slots := 18, locals := 104 }) (xPre D K T [.ref xq, .int p0, .int p1] (rsW K xq xl mq cq iq sq xLang xCount) 60 xLang sz) (xPost D K r (fun v (g : Unit) => some (.long v)) (fun v g => (rsW K xq xl mq cq iq sq xLang xCount)) (va_A (rsW K xq xl mq cq iq sq xLang xCount) sz)) (xExc D K r (fun u (g : Unit) => (rsW K xq xl mq cq iq sq xLang xCount)) (va_A (rsW K xq xl mq cq iq sq xLang xCount) sz)) 3 18 (va_A (rsW K xq xl mq cq iq sq xLang xCount) sz) := by
  unfold f_RS_first at hf
  refine vx_ofW (cc := b_RS_first) (maxL := 3) (ret := (some .long)) (by decide) rfl ?_
  intro p e s m args below meth c s₁ B hml htab hv
  obtain ⟨⟨rfl, hsz, hP, hK, hD0⟩, hX, hZ, hT0⟩ := hv
  subst hsz
  have hx := B.exec
  have hb := B.bytes
  have hts : ∀ w ∈ gW, w.before _ s = true := fun w hw => atoms_spec (ws := w0_RS_first) B.pre w (List.mem_cons_of_mem _ hw)
  have hown : s.vm.findClass "RegularSolver" = some m.cls := findClass_of_methodNamed B.named
  have hD := hD0.self (sz := s.heap.size)
  generalize hAe : va_A (rsW K xq xl mq cq iq sq xLang xCount) s.heap.size = A at hD hZ hT0 ⊢
  have hA : ∀ q : Nat, s.heap.size ≤ q → A q := fun q h => by rw [← hAe]; exact Or.inr h
  have hS : va_S A s.heap s.heap [] := va_S.rf
  have hT : ∀ (q i : Nat), i < 60 → xLang i = some q → ∀ (H : Heap) (locs : List Loc), va_S A s.heap H locs → va_P D vwCl (auT K T q) H := fun q i hi hq _ _ hS => ro_of (hT0 q i hi hq).1 (hT0 q i hi hq).2 hS
  have hTw : ∀ (q i : Nat), i < 60 → xLang i = some q → gAw A (auT K T q) := fun q i hi hq => (hT0 q i hi hq).2
  have hl := lv_entry [.ref xq, .int p0, .int p1] (n := 3) (Nat.le_of_ble_eq_true rfl)
  rw [lg_entry_eq]
  generalize (lg_sl [.ref xq, .int p0, .int p1] ++ List.replicate (3 - (lg_sl [.ref xq, .int p0, .int p1]).length) Slot.unset).toArray = ls at hl ⊢
  refine x_gen (P := fun H => W p l e _ s m _ below meth c H [] 0 0 _ _) ?_
  intro H hHe
  rw [← hHe] at hP
  have hS : va_S A s.heap H [] := by rw [hHe]; exact hS
  refine lv_aload_n hx hb d_RS_first_0 rfl (lv_at hl 0 rfl) ?_
  refine lv_iload_n hx hb d_RS_first_1 rfl (lv_at hl 1 rfl) ?_
  obtain ⟨u1, eu1, hf⟩ := obd hf
  refine x_call (vx_runV (As := [.int p0]) (rest := []) ⟨hx, hb, hml, hown, hts⟩ (c_RS_requireLanguage l hl0 H.size eu1) (gV 1 hts cd_RS_requireLanguage ml_RS_70 im_RS_requireLanguage se_RS_requireLanguage ini_RS rfl rfl pd_RS_requireLanguage ⟨Nat.le_of_ble_eq_true rfl, Nat.le_of_ble_eq_true rfl⟩) ⟨xPre_blind, va_recv hK hP (ci := 10) (q0 := 0) rfl rfl, xPre_of (T := fun _ => (0, 0, 0, 0, fun _ => 0, 0, fun _ => 0)) (asg := fun _ => none) hP hK hD hS hA hX hZ xT0⟩ rfl rfl hl.1 rfl (lv_room (Nat.le_of_ble_eq_true rfl)) d_RS_first_2 ⟨(by decide : 0 + 1 ≤ 3), (by decide : 0 + 6 ≤ 18)⟩) hD hS hA (fun E x ex g2 ce q9 H1 locs hP1 hD1 hk1 hS1 hq1 hq2 hq3 => ?_) (fun y1 ev g2 H1 locs hP1 hD1 hk1 hS1 => ?_)
  · subst ex
    have hr := (Option.some.inj hf).symm
    obtain ⟨hP, hD⟩ : _ ∧ _ := ⟨hP1, hD1.weaken (fun _ q _ h => va_sub hD hS hA q.1 h)⟩
    have hS := hS1
    generalize H1 = H at hP hS hq1 ⊢
    exact x_out htab B.notSynchronized hq1 hq2 hq3 () hr hP hK hD hS (by decide : 0 + 1 ≤ 3) (by decide : 0 + 6 ≤ 18)
  subst ev
  replace hf := oel hf
  obtain ⟨hP, hD⟩ : _ ∧ _ := ⟨hP1, hD1.weaken (fun _ q _ h => va_sub hD hS hA q.1 h)⟩
  have hS := hS1
  generalize H1 = H at hP hS ⊢
  have hP : va_P D vwCl (rsW K xq xl mq cq iq sq xLang xCount) H := hP
  have hD : va_D A (rsW K xq xl mq cq iq sq xLang xCount) := hD
  refine lv_iload_n hx hb d_RS_first_5 rfl (lv_at hl 2 rfl) ?_
  refine lv_iconst (v := 0) hx hb d_RS_first_6 (by decide) ?_
  refine lv_bipush (v := 31) hx hb d_RS_first_7 (by decide) ?_
  obtain ⟨u3, eu3, hf⟩ := obd hf
  refine x_call (vx_runS (As := [.int p1, .int 0, .int 31]) (rest := []) ⟨hx, hb, hml, hown, hts⟩ (c_RS_requireBetween l hl0 H.size eu3) (gS 3 hts cd_RS_requireBetween ml_RS_119 st_RS_requireBetween ini_RS rfl rfl pd_RS_requireBetween ⟨Nat.le_of_ble_eq_true rfl, Nat.le_of_ble_eq_true rfl⟩) ⟨xPre_blind, xPre_of (T := fun _ => (0, 0, 0, 0, fun _ => 0, 0, fun _ => 0)) (asg := fun _ => none) va_P0 hK va_nil hS hA hX hZ xT0⟩ rfl rfl hl.1 rfl (lv_room (Nat.le_of_ble_eq_true rfl)) d_RS_first_9 ⟨(by decide : 1 + 1 ≤ 3), (by decide : 6 + 6 ≤ 18)⟩) va_nil hS hA (fun E x ex g4 ce q9 H1 locs hP1 hD1 hk1 hS1 hq1 hq2 hq3 => ?_) (fun y3 ev g4 H1 locs hP1 hD1 hk1 hS1 => ?_)
  · subst ex
    have hr := (Option.some.inj hf).symm
    obtain ⟨hP, hD⟩ : _ ∧ _ := ⟨x_keep0 hP hk1, hD⟩
    have hS := hS1
    generalize H1 = H at hP hS hq1 ⊢
    exact x_out htab B.notSynchronized hq1 hq2 hq3 () hr hP hK hD hS (by decide : 1 + 1 ≤ 3) (by decide : 6 + 6 ≤ 18)
  subst ev
  replace hf := oel hf
  obtain ⟨hP, hD⟩ : _ ∧ _ := ⟨x_keep0 hP hk1, hD⟩
  have hS := hS1
  generalize H1 = H at hP hS ⊢
  have hP : va_P D vwCl (rsW K xq xl mq cq iq sq xLang xCount) H := hP
  have hD : va_D A (rsW K xq xl mq cq iq sq xLang xCount) := hD
  refine lv_aload_n hx hb d_RS_first_12 rfl (lv_at hl 0 rfl) ?_
  refine va_get (D := D) (ci := 10) (v := .ref xl) (C := R_RS) (T := T_RS) (N := 6) hx hb hts in_RS hown hK hP 0 rfl rfl 0 (by decide) (hts _ fl_RS_11) (fun _ h9 => h9) rfl d_RS_first_13 ?_
  refine lv_iload_n hx hb d_RS_first_16 rfl (lv_at hl 1 rfl) ?_
  obtain ⟨g5, hf⟩ := ogi hf
  refine va_aldq hx hb hK hP 1 3 rfl rfl (gin_in g5) d_RS_first_17 ?_
  obtain ⟨q6, hq6, hf⟩ := oqi hf
  rw [hq6]
  have hTq6 := hT q6 _ (gin_lt g5) hq6
  have hTwq6 := hTw q6 _ (gin_lt g5) hq6
  refine W.eq (g2 := F0 m 18 ls [.ref q6]) rfl ?_
  refine lv_iload_n hx hb d_RS_first_18 rfl (lv_at hl 2 rfl) ?_
  obtain ⟨u7, eu7, hf⟩ := obd hf
  refine p_call (W.runV (As := [.int p1]) (rest := []) ⟨hx, hb, hml, hown, hts⟩ (c_Au_hasLength l eu7) (gV 1 hts cd_Au_hasLength ml_RS_133 im_Au_hasLength se_Au_hasLength ini_Au rfl rfl pd_Au_hasLength ⟨Nat.le_of_ble_eq_true rfl, Nat.le_of_ble_eq_true rfl⟩) ⟨pPre_blind, va_recv hK (hTq6 _ _ hS) (ci := 1) (q0 := 0) rfl rfl, pPre_of (hTq6 _ _ hS) hK⟩ rfl rfl hl.1 rfl (lv_room (Nat.le_of_ble_eq_true rfl)) d_RS_first_19 ⟨(by decide : 2 + 0 ≤ 3), (by decide : 12 + 0 ≤ 18)⟩) ?_
  refine bz_ne (tgt := 35) hx hb d_RS_first_22 (by decide) (fun c8 => ?_) (fun c8 => ?_)
  · rw [if_pos c8] at hf
    refine lv_aload_n hx hb d_RS_first_35 rfl (lv_at hl 0 rfl) ?_
    refine va_get (D := D) (ci := 10) (v := .ref xl) (C := R_RS) (T := T_RS) (N := 6) hx hb hts in_RS hown hK hP 0 rfl rfl 0 (by decide) (hts _ fl_RS_11) (fun _ h9 => h9) rfl d_RS_first_36 ?_
    refine lv_iload_n hx hb d_RS_first_39 rfl (lv_at hl 1 rfl) ?_
    obtain ⟨g9, hf⟩ := ogi hf
    refine va_aldq hx hb hK hP 1 3 rfl rfl (gin_in g9) d_RS_first_40 ?_
    obtain ⟨q10, hq10, hf⟩ := oqi hf
    rw [hq10]
    have hTq10 := hT q10 _ (gin_lt g9) hq10
    have hTwq10 := hTw q10 _ (gin_lt g9) hq10
    refine W.eq (g2 := F0 m 41 ls [.ref q10]) rfl ?_
    refine lv_iload_n hx hb d_RS_first_41 rfl (lv_at hl 2 rfl) ?_
    obtain ⟨u11, eu11, hf⟩ := obd hf
    refine p_call (W.runV (As := [.int p1]) (rest := []) ⟨hx, hb, hml, hown, hts⟩ (c_Au_leastWord l eu11) (gV 1 hts cd_Au_leastWord ml_RS_141 im_Au_leastWord se_Au_leastWord ini_Au rfl rfl pd_Au_leastWord ⟨Nat.le_of_ble_eq_true rfl, Nat.le_of_ble_eq_true rfl⟩) ⟨pPre_blind, va_recv hK (hTq10 _ _ hS) (ci := 1) (q0 := 0) rfl rfl, pPre_of (hTq10 _ _ hS) hK⟩ rfl rfl hl.1 rfl (lv_room (Nat.le_of_ble_eq_true rfl)) d_RS_first_42 ⟨(by decide : 2 + 0 ≤ 3), (by decide : 12 + 0 ≤ 18)⟩) ?_
    have hr := (Option.some.inj hf).symm
    refine W.widen (k := 3) (n := 18) (by decide) (by decide) ?_
    exact vx_ret (W.lret hx hb B.returns (fun t ht hW => ⟨_, hr, ⟨(), rfl, by rw [ht]; exact hP, va_K.moved hW.alike hK, hD⟩, hS.F ht⟩) hS.2.2 d_RS_first_45 (hlocks := B.notSynchronized))
  · rw [if_neg c8] at hf
    have hr := (Option.some.inj hf).symm
    exact g_throw (text := "no word of n letters") hx hb hl0 hown hts hZ (by decide) cl_RS_136 ini_UnsupportedOperationException (by decide) za_UnsupportedOperationException zb_UnsupportedOperationException zc_UnsupportedOperationException htab B.notSynchronized (by rw [hml]; exact hl.1) () hr hP hK hD hS d_RS_first_25 d_RS_first_28 d_RS_first_29 d_RS_first_31 d_RS_first_34 (Nat.le_of_ble_eq_true rfl) (Nat.le_of_ble_eq_true rfl) (by decide : 2 + 1 ≤ 3) (by decide : 12 + 6 ≤ 18) (by decide : 2 + 1 ≤ 3) (by decide : 12 + 6 ≤ 18)
def f_RS_shortest (n : Nat) (p0 : Int32) (xLang : Nat → Option Nat) (xCount : Int32) (T : auTab) : Option ((String × (Unit)) ⊕ (Int32)) :=
  (f_RS_requireLanguage n p0 xCount).bind fun u1 => u1.elim (fun x => some (.inl (x.1, ()))) fun y1 =>
  ogd (gin p0 60) <|
  oq (xLang p0.toNatClampNeg) none fun q4 =>
  (f_Au_leastLength n ((T q4).2.2.2.2.2.2)).bind fun u5 =>
  some (.inr u5)
set_option maxHeartbeats 400000 in
set_option maxRecDepth 100000 in
theorem c_RS_shortest (l : Launch) (hl0 : l.stackTraces = false) {D : va_G} {K : Nat → ClassId} {T : auTab} {n : Nat} {xq : Nat} {xl : Nat} {mq : Nat} {cq : Nat} {iq : Nat} {sq : Nat} {xLang : Nat → Option Nat} {xCount : Int32} {p0 : Int32}  {r : (String × (Unit)) ⊕ (Int32)} (sz : Nat) (hf : f_RS_shortest n p0 xLang xCount T = some r) : vx_Met l y_RS_shortest w0_RS_shortest ({ frames := 7, cells := 1, slots := 6, locals := 103 }) (xPre D K T [.ref xq, .int p0] (rsW K xq xl mq cq iq sq xLang xCount) 60 xLang sz) (xPost D K r (fun v (g : Unit) => some (.int v)) (fun v g => (rsW K xq xl mq cq iq sq xLang xCount)) (va_A (rsW K xq xl mq cq iq sq xLang xCount) sz)) (xExc D K r (fun u (g : Unit) => (rsW K xq xl mq cq iq sq xLang xCount)) (va_A (rsW K xq xl mq cq iq sq xLang xCount) sz)) 1 6 (va_A (rsW K xq xl mq cq iq sq xLang xCount) sz) := by
  unfold f_RS_shortest at hf
  refine vx_ofW (cc := b_RS_shortest) (maxL := 2) (ret := (some .int)) (by decide) rfl ?_
  intro p e s m args below meth c s₁ B hml htab hv
  obtain ⟨⟨rfl, hsz, hP, hK, hD0⟩, hX, hZ, hT0⟩ := hv
  subst hsz
  have hx := B.exec
  have hb := B.bytes
  have hts : ∀ w ∈ gW, w.before _ s = true := fun w hw => atoms_spec (ws := w0_RS_shortest) B.pre w (List.mem_cons_of_mem _ hw)
  have hown : s.vm.findClass "RegularSolver" = some m.cls := findClass_of_methodNamed B.named
  have hD := hD0.self (sz := s.heap.size)
  generalize hAe : va_A (rsW K xq xl mq cq iq sq xLang xCount) s.heap.size = A at hD hZ hT0 ⊢
  have hA : ∀ q : Nat, s.heap.size ≤ q → A q := fun q h => by rw [← hAe]; exact Or.inr h
  have hS : va_S A s.heap s.heap [] := va_S.rf
  have hT : ∀ (q i : Nat), i < 60 → xLang i = some q → ∀ (H : Heap) (locs : List Loc), va_S A s.heap H locs → va_P D vwCl (auT K T q) H := fun q i hi hq _ _ hS => ro_of (hT0 q i hi hq).1 (hT0 q i hi hq).2 hS
  have hTw : ∀ (q i : Nat), i < 60 → xLang i = some q → gAw A (auT K T q) := fun q i hi hq => (hT0 q i hi hq).2
  have hl := lv_entry [.ref xq, .int p0] (n := 2) (Nat.le_of_ble_eq_true rfl)
  rw [lg_entry_eq]
  generalize (lg_sl [.ref xq, .int p0] ++ List.replicate (2 - (lg_sl [.ref xq, .int p0]).length) Slot.unset).toArray = ls at hl ⊢
  refine x_gen (P := fun H => W p l e _ s m _ below meth c H [] 0 0 _ _) ?_
  intro H hHe
  rw [← hHe] at hP
  have hS : va_S A s.heap H [] := by rw [hHe]; exact hS
  refine lv_aload_n hx hb d_RS_shortest_0 rfl (lv_at hl 0 rfl) ?_
  refine lv_iload_n hx hb d_RS_shortest_1 rfl (lv_at hl 1 rfl) ?_
  obtain ⟨u1, eu1, hf⟩ := obd hf
  refine x_call (vx_runV (As := [.int p0]) (rest := []) ⟨hx, hb, hml, hown, hts⟩ (c_RS_requireLanguage l hl0 H.size eu1) (gV 1 hts cd_RS_requireLanguage ml_RS_70 im_RS_requireLanguage se_RS_requireLanguage ini_RS rfl rfl pd_RS_requireLanguage ⟨Nat.le_of_ble_eq_true rfl, Nat.le_of_ble_eq_true rfl⟩) ⟨xPre_blind, va_recv hK hP (ci := 10) (q0 := 0) rfl rfl, xPre_of (T := fun _ => (0, 0, 0, 0, fun _ => 0, 0, fun _ => 0)) (asg := fun _ => none) hP hK hD hS hA hX hZ xT0⟩ rfl rfl hl.1 rfl (lv_room (Nat.le_of_ble_eq_true rfl)) d_RS_shortest_2 ⟨(by decide : 0 + 1 ≤ 1), (by decide : 0 + 6 ≤ 6)⟩) hD hS hA (fun E x ex g2 ce q9 H1 locs hP1 hD1 hk1 hS1 hq1 hq2 hq3 => ?_) (fun y1 ev g2 H1 locs hP1 hD1 hk1 hS1 => ?_)
  · subst ex
    have hr := (Option.some.inj hf).symm
    obtain ⟨hP, hD⟩ : _ ∧ _ := ⟨hP1, hD1.weaken (fun _ q _ h => va_sub hD hS hA q.1 h)⟩
    have hS := hS1
    generalize H1 = H at hP hS hq1 ⊢
    exact x_out htab B.notSynchronized hq1 hq2 hq3 () hr hP hK hD hS (by decide : 0 + 1 ≤ 1) (by decide : 0 + 6 ≤ 6)
  subst ev
  replace hf := oel hf
  obtain ⟨hP, hD⟩ : _ ∧ _ := ⟨hP1, hD1.weaken (fun _ q _ h => va_sub hD hS hA q.1 h)⟩
  have hS := hS1
  generalize H1 = H at hP hS ⊢
  have hP : va_P D vwCl (rsW K xq xl mq cq iq sq xLang xCount) H := hP
  have hD : va_D A (rsW K xq xl mq cq iq sq xLang xCount) := hD
  refine lv_aload_n hx hb d_RS_shortest_5 rfl (lv_at hl 0 rfl) ?_
  refine va_get (D := D) (ci := 10) (v := .ref xl) (C := R_RS) (T := T_RS) (N := 6) hx hb hts in_RS hown hK hP 0 rfl rfl 0 (by decide) (hts _ fl_RS_11) (fun _ h9 => h9) rfl d_RS_shortest_6 ?_
  refine lv_iload_n hx hb d_RS_shortest_9 rfl (lv_at hl 1 rfl) ?_
  obtain ⟨g3, hf⟩ := ogi hf
  refine va_aldq hx hb hK hP 1 3 rfl rfl (gin_in g3) d_RS_shortest_10 ?_
  obtain ⟨q4, hq4, hf⟩ := oqi hf
  rw [hq4]
  have hTq4 := hT q4 _ (gin_lt g3) hq4
  have hTwq4 := hTw q4 _ (gin_lt g3) hq4
  refine W.eq (g2 := F0 m 11 ls [.ref q4]) rfl ?_
  obtain ⟨u5, eu5, hf⟩ := obd hf
  refine p_call (W.runV (As := []) (rest := []) ⟨hx, hb, hml, hown, hts⟩ (c_Au_leastLength l eu5) (gV 0 hts cd_Au_leastLength ml_RS_145 im_Au_leastLength se_Au_leastLength ini_Au rfl rfl pd_Au_leastLength ⟨Nat.le_of_ble_eq_true rfl, Nat.le_of_ble_eq_true rfl⟩) ⟨pPre_blind, va_recv hK (hTq4 _ _ hS) (ci := 1) (q0 := 0) rfl rfl, pPre_of (hTq4 _ _ hS) hK⟩ rfl rfl hl.1 rfl (lv_room (Nat.le_of_ble_eq_true rfl)) d_RS_shortest_11 ⟨(by decide : 1 + 0 ≤ 1), (by decide : 6 + 0 ≤ 6)⟩) ?_
  have hr := (Option.some.inj hf).symm
  refine W.widen (k := 1) (n := 6) (by decide) (by decide) ?_
  exact vx_ret (W.iret hx hb B.returns (fun t ht hW => ⟨_, hr, ⟨(), rfl, by rw [ht]; exact hP, va_K.moved hW.alike hK, hD⟩, hS.F ht⟩) hS.2.2 d_RS_shortest_14 (hlocks := B.notSynchronized))
def f_RS_within (n : Nat) (p0 : Int32) (p1 : Int32) (xLang : Nat → Option Nat) (xCount : Int32) (iSeen : Nat → Int64) (iWaiting : Nat → Int64) (T : auTab) : Option ((String × ((Nat → Int64) × (Nat → Int64))) ⊕ (Bool × (Nat → Int64) × (Nat → Int64))) :=
  (f_RS_requireLanguage n p0 xCount).bind fun u1 => u1.elim (fun x => some (.inl (x.1, (iSeen, iWaiting)))) fun y1 =>
  (f_RS_requireLanguage n p1 xCount).bind fun u3 => u3.elim (fun x => some (.inl (x.1, (iSeen, iWaiting)))) fun y3 =>
  ogd (gin p0 60) <|
  oq (xLang p0.toNatClampNeg) none fun q6 =>
  ogd (gin p1 60) <|
  oq (xLang p1.toNatClampNeg) none fun q8 =>
  (f_In_holds n iSeen iWaiting ((T q6).2.2.1) ((T q6).2.2.2.1) ((T q6).2.2.2.2.1) ((T q6).2.2.2.2.2.1) ((T q8).2.2.1) ((T q8).2.2.2.1) ((T q8).2.2.2.2.1) ((T q8).2.2.2.2.2.1)).bind fun u9 =>
  some (.inr (u9.1, u9.2.1, u9.2.2))
set_option maxHeartbeats 400000 in
set_option maxRecDepth 100000 in
theorem c_RS_within (l : Launch) (hl0 : l.stackTraces = false) {D : va_G} {K : Nat → ClassId} {T : auTab} {n : Nat} {xq : Nat} {xl : Nat} {mq : Nat} {cq : Nat} {iq : Nat} {sq : Nat} {i1 : Nat} {i2 : Nat} {xLang : Nat → Option Nat} {xCount : Int32} {iSeen : Nat → Int64} {iWaiting : Nat → Int64} {p0 : Int32} {p1 : Int32}  {r : (String × ((Nat → Int64) × (Nat → Int64))) ⊕ (Bool × (Nat → Int64) × (Nat → Int64))} (sz : Nat) (hf : f_RS_within n p0 p1 xLang xCount iSeen iWaiting T = some r) : vx_Met l y_RS_within w0_RS_within ({ frames := 7, cells := 2, slots := 12, locals := 103 }) (xPre D K T [.ref xq, .int p0, .int p1] ((rsW K xq xl mq cq iq sq xLang xCount) ++ (inW K iq i1 i2 iSeen iWaiting)) 60 xLang sz) (xPost D K r (fun v (g : Unit) => some (.int (bI v.1))) (fun v g => ((rsW K xq xl mq cq iq sq xLang xCount) ++ (inW K iq i1 i2 v.2.1 v.2.2))) (va_A ((rsW K xq xl mq cq iq sq xLang xCount) ++ (inW K iq i1 i2 iSeen iWaiting)) sz)) (xExc D K r (fun u (g : Unit) => ((rsW K xq xl mq cq iq sq xLang xCount) ++ (inW K iq i1 i2 u.1 u.2))) (va_A ((rsW K xq xl mq cq iq sq xLang xCount) ++ (inW K iq i1 i2 iSeen iWaiting)) sz)) 2 12 (va_A ((rsW K xq xl mq cq iq sq xLang xCount) ++ (inW K iq i1 i2 iSeen iWaiting)) sz) := by
  unfold f_RS_within at hf
  refine vx_ofW (cc := b_RS_within) (maxL := 3) (ret := (some .boolean)) (by decide) rfl ?_
  intro p e s m args below meth c s₁ B hml htab hv
  obtain ⟨⟨rfl, hsz, hP, hK, hD0⟩, hX, hZ, hT0⟩ := hv
  subst hsz
  have hx := B.exec
  have hb := B.bytes
  have hts : ∀ w ∈ gW, w.before _ s = true := fun w hw => atoms_spec (ws := w0_RS_within) B.pre w (List.mem_cons_of_mem _ hw)
  have hown : s.vm.findClass "RegularSolver" = some m.cls := findClass_of_methodNamed B.named
  have hD := hD0.self (sz := s.heap.size)
  generalize hAe : va_A ((rsW K xq xl mq cq iq sq xLang xCount) ++ (inW K iq i1 i2 iSeen iWaiting)) s.heap.size = A at hD hZ hT0 ⊢
  have hA : ∀ q : Nat, s.heap.size ≤ q → A q := fun q h => by rw [← hAe]; exact Or.inr h
  have hS : va_S A s.heap s.heap [] := va_S.rf
  have hT : ∀ (q i : Nat), i < 60 → xLang i = some q → ∀ (H : Heap) (locs : List Loc), va_S A s.heap H locs → va_P D vwCl (auT K T q) H := fun q i hi hq _ _ hS => ro_of (hT0 q i hi hq).1 (hT0 q i hi hq).2 hS
  have hTw : ∀ (q i : Nat), i < 60 → xLang i = some q → gAw A (auT K T q) := fun q i hi hq => (hT0 q i hi hq).2
  have hl := lv_entry [.ref xq, .int p0, .int p1] (n := 3) (Nat.le_of_ble_eq_true rfl)
  rw [lg_entry_eq]
  generalize (lg_sl [.ref xq, .int p0, .int p1] ++ List.replicate (3 - (lg_sl [.ref xq, .int p0, .int p1]).length) Slot.unset).toArray = ls at hl ⊢
  refine x_gen (P := fun H => W p l e _ s m _ below meth c H [] 0 0 _ _) ?_
  intro H hHe
  rw [← hHe] at hP
  have hS : va_S A s.heap H [] := by rw [hHe]; exact hS
  refine lv_aload_n hx hb d_RS_within_0 rfl (lv_at hl 0 rfl) ?_
  refine lv_iload_n hx hb d_RS_within_1 rfl (lv_at hl 1 rfl) ?_
  obtain ⟨u1, eu1, hf⟩ := obd hf
  refine x_call (vx_runV (As := [.int p0]) (rest := []) ⟨hx, hb, hml, hown, hts⟩ (c_RS_requireLanguage l hl0 H.size eu1) (gV 1 hts cd_RS_requireLanguage ml_RS_70 im_RS_requireLanguage se_RS_requireLanguage ini_RS rfl rfl pd_RS_requireLanguage ⟨Nat.le_of_ble_eq_true rfl, Nat.le_of_ble_eq_true rfl⟩) ⟨xPre_blind, va_recv hK (vaL hP) (ci := 10) (q0 := 0) rfl rfl, xPre_of (T := fun _ => (0, 0, 0, 0, fun _ => 0, 0, fun _ => 0)) (asg := fun _ => none) (vaL hP) hK (vdL hD) hS hA hX hZ xT0⟩ rfl rfl hl.1 rfl (lv_room (Nat.le_of_ble_eq_true rfl)) d_RS_within_2 ⟨(by decide : 0 + 1 ≤ 2), (by decide : 0 + 6 ≤ 12)⟩) (vdL hD) hS hA (fun E x ex g2 ce q9 H1 locs hP1 hD1 hk1 hS1 hq1 hq2 hq3 => ?_) (fun y1 ev g2 H1 locs hP1 hD1 hk1 hS1 => ?_)
  · subst ex
    have hr := (Option.some.inj hf).symm
    obtain ⟨hP, hD⟩ := va_keepR hP hD (va_sub (vdL hD) hS hA) hk1 hP1 hD1
    have hS := hS1
    generalize H1 = H at hP hS hq1 ⊢
    exact x_out htab B.notSynchronized hq1 hq2 hq3 () hr hP hK hD hS (by decide : 0 + 1 ≤ 2) (by decide : 0 + 6 ≤ 12)
  subst ev
  replace hf := oel hf
  obtain ⟨hP, hD⟩ := va_keepR hP hD (va_sub (vdL hD) hS hA) hk1 hP1 hD1
  have hS := hS1
  generalize H1 = H at hP hS ⊢
  have hP : va_P D vwCl ((rsW K xq xl mq cq iq sq xLang xCount) ++ (inW K iq i1 i2 iSeen iWaiting)) H := hP
  have hD : va_D A ((rsW K xq xl mq cq iq sq xLang xCount) ++ (inW K iq i1 i2 iSeen iWaiting)) := hD
  refine lv_aload_n hx hb d_RS_within_5 rfl (lv_at hl 0 rfl) ?_
  refine lv_iload_n hx hb d_RS_within_6 rfl (lv_at hl 2 rfl) ?_
  obtain ⟨u3, eu3, hf⟩ := obd hf
  refine x_call (vx_runV (As := [.int p1]) (rest := []) ⟨hx, hb, hml, hown, hts⟩ (c_RS_requireLanguage l hl0 H.size eu3) (gV 1 hts cd_RS_requireLanguage ml_RS_70 im_RS_requireLanguage se_RS_requireLanguage ini_RS rfl rfl pd_RS_requireLanguage ⟨Nat.le_of_ble_eq_true rfl, Nat.le_of_ble_eq_true rfl⟩) ⟨xPre_blind, va_recv hK (vaL hP) (ci := 10) (q0 := 0) rfl rfl, xPre_of (T := fun _ => (0, 0, 0, 0, fun _ => 0, 0, fun _ => 0)) (asg := fun _ => none) (vaL hP) hK (vdL hD) hS hA hX hZ xT0⟩ rfl rfl hl.1 rfl (lv_room (Nat.le_of_ble_eq_true rfl)) d_RS_within_7 ⟨(by decide : 1 + 1 ≤ 2), (by decide : 6 + 6 ≤ 12)⟩) (vdL hD) hS hA (fun E x ex g4 ce q9 H1 locs hP1 hD1 hk1 hS1 hq1 hq2 hq3 => ?_) (fun y3 ev g4 H1 locs hP1 hD1 hk1 hS1 => ?_)
  · subst ex
    have hr := (Option.some.inj hf).symm
    obtain ⟨hP, hD⟩ := va_keepR hP hD (va_sub (vdL hD) hS hA) hk1 hP1 hD1
    have hS := hS1
    generalize H1 = H at hP hS hq1 ⊢
    exact x_out htab B.notSynchronized hq1 hq2 hq3 () hr hP hK hD hS (by decide : 1 + 1 ≤ 2) (by decide : 6 + 6 ≤ 12)
  subst ev
  replace hf := oel hf
  obtain ⟨hP, hD⟩ := va_keepR hP hD (va_sub (vdL hD) hS hA) hk1 hP1 hD1
  have hS := hS1
  generalize H1 = H at hP hS ⊢
  have hP : va_P D vwCl ((rsW K xq xl mq cq iq sq xLang xCount) ++ (inW K iq i1 i2 iSeen iWaiting)) H := hP
  have hD : va_D A ((rsW K xq xl mq cq iq sq xLang xCount) ++ (inW K iq i1 i2 iSeen iWaiting)) := hD
  refine lv_aload_n hx hb d_RS_within_10 rfl (lv_at hl 0 rfl) ?_
  refine va_get (D := D) (ci := 10) (v := .ref iq) (C := R_RS) (T := T_RS) (N := 6) hx hb hts in_RS hown hK hP 0 rfl rfl 4 (by decide) (hts _ fl_RS_36) (fun _ h9 => h9) rfl d_RS_within_11 ?_
  refine lv_aload_n hx hb d_RS_within_14 rfl (lv_at hl 0 rfl) ?_
  refine va_get (D := D) (ci := 10) (v := .ref xl) (C := R_RS) (T := T_RS) (N := 6) hx hb hts in_RS hown hK hP 0 rfl rfl 0 (by decide) (hts _ fl_RS_11) (fun _ h9 => h9) rfl d_RS_within_15 ?_
  refine lv_iload_n hx hb d_RS_within_18 rfl (lv_at hl 1 rfl) ?_
  obtain ⟨g5, hf⟩ := ogi hf
  refine va_aldq hx hb hK hP 1 3 rfl rfl (gin_in g5) d_RS_within_19 ?_
  obtain ⟨q6, hq6, hf⟩ := oqi hf
  rw [hq6]
  have hTq6 := hT q6 _ (gin_lt g5) hq6
  have hTwq6 := hTw q6 _ (gin_lt g5) hq6
  refine W.eq (g2 := F0 m 20 ls [.ref q6, .ref iq]) rfl ?_
  refine lv_aload_n hx hb d_RS_within_20 rfl (lv_at hl 0 rfl) ?_
  refine va_get (D := D) (ci := 10) (v := .ref xl) (C := R_RS) (T := T_RS) (N := 6) hx hb hts in_RS hown hK hP 0 rfl rfl 0 (by decide) (hts _ fl_RS_11) (fun _ h9 => h9) rfl d_RS_within_21 ?_
  refine lv_iload_n hx hb d_RS_within_24 rfl (lv_at hl 2 rfl) ?_
  obtain ⟨g7, hf⟩ := ogi hf
  refine va_aldq hx hb hK hP 1 3 rfl rfl (gin_in g7) d_RS_within_25 ?_
  obtain ⟨q8, hq8, hf⟩ := oqi hf
  rw [hq8]
  have hTq8 := hT q8 _ (gin_lt g7) hq8
  have hTwq8 := hTw q8 _ (gin_lt g7) hq8
  refine W.eq (g2 := F0 m 26 ls [.ref q8, .ref q6, .ref iq]) rfl ?_
  obtain ⟨u9, eu9, hf⟩ := obd hf
  refine w_callA (va_runV (As := [.ref q6, .ref q8]) (rest := []) ⟨hx, hb, hml, hown, hts⟩ (Met_G (c_In_holds l H.size eu9)) (gV 2 hts cd_In_holds ml_RS_149 im_In_holds se_In_holds ini_In rfl rfl pd_In_holds ⟨Nat.le_of_ble_eq_true rfl, Nat.le_of_ble_eq_true rfl⟩) ⟨wPreR_blind, va_recv hK (vaR hP) (ci := 8) (q0 := 0) rfl rfl, wPreR_of (vaR hP) hK (vdR hD) hS hA (va_P.app (hTq6 _ _ hS) (hTq8 _ _ hS)) (gAw.app hTwq6 hTwq8)⟩ rfl rfl hl.1 rfl (lv_room (Nat.le_of_ble_eq_true rfl)) d_RS_within_26 ⟨(by decide : 2 + 0 ≤ 2), (by decide : 12 + 0 ≤ 12)⟩) (vdR hD) hS hA (fun g10 H1 locs hP1 hD1 hk1 hS1 => ?_)
  obtain ⟨hP, hD⟩ := va_keepL hP hD (va_sub (vdR hD) hS hA) hk1 hP1 hD1
  have hS := hS1
  generalize H1 = H at hP hS ⊢
  have hP : va_P D vwCl ((rsW K xq xl mq cq iq sq xLang xCount) ++ (inW K iq i1 i2 u9.2.1 u9.2.2)) H := hP
  have hD : va_D A ((rsW K xq xl mq cq iq sq xLang xCount) ++ (inW K iq i1 i2 u9.2.1 u9.2.2)) := hD
  have hr := (Option.some.inj hf).symm
  refine W.widen (k := 2) (n := 12) (by decide) (by decide) ?_
  exact vx_ret (W.zret hx hb B.returns (bI_nar _) (fun t ht hW => ⟨_, hr, ⟨(), rfl, by rw [ht]; exact hP, va_K.moved hW.alike hK, hD⟩, hS.F ht⟩) hS.2.2 d_RS_within_29 (hlocks := B.notSynchronized))
