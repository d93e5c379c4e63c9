abbrev b_Mo_automaton : ByteArray := prog_13_method_24_code
def y_Mo_automaton : MethodName := ⟨"RegularSolverModel", "automaton", "(III)I"⟩
abbrev w0_Mo_automaton : List Cond := Cond.code y_Mo_automaton b_Mo_automaton 6 (some .int) :: gW
theorem cd_Mo_automaton : Cond.code y_Mo_automaton b_Mo_automaton 6 (some .int) ∈ gW := gm 1020 (by decide +kernel) (by decide +kernel)
theorem d_Mo_automaton_0 : decode b_Mo_automaton 0 = .ok (.aload_n 0, 1) := by decide +kernel
theorem d_Mo_automaton_1 : decode b_Mo_automaton 1 = .ok (.iconst 0, 1) := by decide +kernel
theorem d_Mo_automaton_2 : decode b_Mo_automaton 2 = .ok (.putfield 84, 3) := by decide +kernel
theorem d_Mo_automaton_5 : decode b_Mo_automaton 5 = .ok (.aload_n 0, 1) := by decide +kernel
theorem d_Mo_automaton_6 : decode b_Mo_automaton 6 = .ok (.aload_n 0, 1) := by decide +kernel
theorem d_Mo_automaton_7 : decode b_Mo_automaton 7 = .ok (.iload_n 1, 1) := by decide +kernel
theorem d_Mo_automaton_8 : decode b_Mo_automaton 8 = .ok (.invokevirtual 138, 3) := by decide +kernel
theorem d_Mo_automaton_11 : decode b_Mo_automaton 11 = .ok (.ifCond .eq 15, 3) := by decide +kernel
theorem d_Mo_automaton_14 : decode b_Mo_automaton 14 = .ok (.iload_n 2, 1) := by decide +kernel
theorem d_Mo_automaton_15 : decode b_Mo_automaton 15 = .ok (.i2l, 1) := by decide +kernel
theorem d_Mo_automaton_16 : decode b_Mo_automaton 16 = .ok (.lconst 0, 1) := by decide +kernel
theorem d_Mo_automaton_17 : decode b_Mo_automaton 17 = .ok (.ldc2_w 148, 3) := by decide +kernel
theorem d_Mo_automaton_20 : decode b_Mo_automaton 20 = .ok (.invokestatic 91, 3) := by decide +kernel
theorem d_Mo_automaton_23 : decode b_Mo_automaton 23 = .ok (.ifCond .ne 7, 3) := by decide +kernel
theorem d_Mo_automaton_26 : decode b_Mo_automaton 26 = .ok (.iconst 1, 1) := by decide +kernel
theorem d_Mo_automaton_27 : decode b_Mo_automaton 27 = .ok (.goto 4, 3) := by decide +kernel
theorem d_Mo_automaton_30 : decode b_Mo_automaton 30 = .ok (.iconst 0, 1) := by decide +kernel
theorem d_Mo_automaton_31 : decode b_Mo_automaton 31 = .ok (.iconst 1, 1) := by decide +kernel
theorem d_Mo_automaton_32 : decode b_Mo_automaton 32 = .ok (.invokevirtual 124, 3) := by decide +kernel
theorem d_Mo_automaton_35 : decode b_Mo_automaton 35 = .ok (.ifCond .eq 5, 3) := by decide +kernel
theorem d_Mo_automaton_38 : decode b_Mo_automaton 38 = .ok (.iconst 0, 1) := by decide +kernel
theorem d_Mo_automaton_39 : decode b_Mo_automaton 39 = .ok (.ireturn, 1) := by decide +kernel
theorem d_Mo_automaton_40 : decode b_Mo_automaton 40 = .ok (.iload_n 2, 1) := by decide +kernel
theorem d_Mo_automaton_41 : decode b_Mo_automaton 41 = .ok (.iconst 1, 1) := by decide +kernel
theorem d_Mo_automaton_42 : decode b_Mo_automaton 42 = .ok (.if_icmp .le 43, 3) := by decide +kernel
theorem d_Mo_automaton_45 : decode b_Mo_automaton 45 = .ok (.aload_n 0, 1) := by decide +kernel
theorem d_Mo_automaton_46 : decode b_Mo_automaton 46 = .ok (.iload_n 3, 1) := by decide +kernel
theorem d_Mo_automaton_47 : decode b_Mo_automaton 47 = .ok (.ifCond .lt 24, 3) := by decide +kernel
theorem d_Mo_automaton_50 : decode b_Mo_automaton 50 = .ok (.iload_n 2, 1) := by decide +kernel
theorem d_Mo_automaton_51 : decode b_Mo_automaton 51 = .ok (.iconst 2, 1) := by decide +kernel
theorem d_Mo_automaton_52 : decode b_Mo_automaton 52 = .ok (.if_icmp .ne 9, 3) := by decide +kernel
theorem d_Mo_automaton_55 : decode b_Mo_automaton 55 = .ok (.iload_n 3, 1) := by decide +kernel
theorem d_Mo_automaton_56 : decode b_Mo_automaton 56 = .ok (.iconst 4, 1) := by decide +kernel
theorem d_Mo_automaton_57 : decode b_Mo_automaton 57 = .ok (.idiv, 1) := by decide +kernel
theorem d_Mo_automaton_58 : decode b_Mo_automaton 58 = .ok (.goto 4, 3) := by decide +kernel
theorem d_Mo_automaton_61 : decode b_Mo_automaton 61 = .ok (.iload_n 3, 1) := by decide +kernel
theorem d_Mo_automaton_62 : decode b_Mo_automaton 62 = .ok (.aload_n 0, 1) := by decide +kernel
theorem d_Mo_automaton_63 : decode b_Mo_automaton 63 = .ok (.getfield 9, 3) := by decide +kernel
theorem d_Mo_automaton_66 : decode b_Mo_automaton 66 = .ok (.iload_n 1, 1) := by decide +kernel
theorem d_Mo_automaton_67 : decode b_Mo_automaton 67 = .ok (.iaload, 1) := by decide +kernel
theorem d_Mo_automaton_68 : decode b_Mo_automaton 68 = .ok (.if_icmp .lt 7, 3) := by decide +kernel
theorem d_Mo_automaton_71 : decode b_Mo_automaton 71 = .ok (.iconst 1, 1) := by decide +kernel
theorem d_Mo_automaton_72 : decode b_Mo_automaton 72 = .ok (.goto 4, 3) := by decide +kernel
theorem d_Mo_automaton_75 : decode b_Mo_automaton 75 = .ok (.iconst 0, 1) := by decide +kernel
theorem d_Mo_automaton_76 : decode b_Mo_automaton 76 = .ok (.iconst 2, 1) := by decide +kernel
theorem d_Mo_automaton_77 : decode b_Mo_automaton 77 = .ok (.invokevirtual 124, 3) := by decide +kernel
theorem d_Mo_automaton_80 : decode b_Mo_automaton 80 = .ok (.ifCond .eq 5, 3) := by decide +kernel
theorem d_Mo_automaton_83 : decode b_Mo_automaton 83 = .ok (.iconst 0, 1) := by decide +kernel
theorem d_Mo_automaton_84 : decode b_Mo_automaton 84 = .ok (.ireturn, 1) := by decide +kernel
theorem d_Mo_automaton_85 : decode b_Mo_automaton 85 = .ok (.iconst 0, 1) := by decide +kernel
theorem d_Mo_automaton_86 : decode b_Mo_automaton 86 = .ok (.istore 4, 2) := by decide +kernel
theorem d_Mo_automaton_88 : decode b_Mo_automaton 88 = .ok (.iconst 0, 1) := by decide +kernel
theorem d_Mo_automaton_89 : decode b_Mo_automaton 89 = .ok (.istore 5, 2) := by decide +kernel
theorem d_Mo_automaton_91 : decode b_Mo_automaton 91 = .ok (.iload 5, 2) := by decide +kernel
theorem d_Mo_automaton_93 : decode b_Mo_automaton 93 = .ok (.aload_n 0, 1) := by decide +kernel
theorem d_Mo_automaton_94 : decode b_Mo_automaton 94 = .ok (.getfield 9, 3) := by decide +kernel
theorem d_Mo_automaton_97 : decode b_Mo_automaton 97 = .ok (.iload_n 1, 1) := by decide +kernel
theorem d_Mo_automaton_98 : decode b_Mo_automaton 98 = .ok (.iaload, 1) := by decide +kernel
theorem d_Mo_automaton_99 : decode b_Mo_automaton 99 = .ok (.if_icmp .ge 22, 3) := by decide +kernel
theorem d_Mo_automaton_102 : decode b_Mo_automaton 102 = .ok (.aload_n 0, 1) := by decide +kernel
theorem d_Mo_automaton_103 : decode b_Mo_automaton 103 = .ok (.iload_n 1, 1) := by decide +kernel
theorem d_Mo_automaton_104 : decode b_Mo_automaton 104 = .ok (.iload 5, 2) := by decide +kernel
theorem d_Mo_automaton_106 : decode b_Mo_automaton 106 = .ok (.invokevirtual 102, 3) := by decide +kernel
theorem d_Mo_automaton_109 : decode b_Mo_automaton 109 = .ok (.ifCond .eq 6, 3) := by decide +kernel
theorem d_Mo_automaton_112 : decode b_Mo_automaton 112 = .ok (.iinc 4 1, 3) := by decide +kernel
theorem d_Mo_automaton_115 : decode b_Mo_automaton 115 = .ok (.iinc 5 1, 3) := by decide +kernel
theorem d_Mo_automaton_118 : decode b_Mo_automaton 118 = .ok (.goto (-27), 3) := by decide +kernel
theorem d_Mo_automaton_121 : decode b_Mo_automaton 121 = .ok (.iload_n 2, 1) := by decide +kernel
theorem d_Mo_automaton_122 : decode b_Mo_automaton 122 = .ok (.ifCond .ne 12, 3) := by decide +kernel
theorem d_Mo_automaton_125 : decode b_Mo_automaton 125 = .ok (.aload_n 0, 1) := by decide +kernel
theorem d_Mo_automaton_126 : decode b_Mo_automaton 126 = .ok (.getfield 9, 3) := by decide +kernel
theorem d_Mo_automaton_129 : decode b_Mo_automaton 129 = .ok (.iload_n 1, 1) := by decide +kernel
theorem d_Mo_automaton_130 : decode b_Mo_automaton 130 = .ok (.iaload, 1) := by decide +kernel
theorem d_Mo_automaton_131 : decode b_Mo_automaton 131 = .ok (.goto 46, 3) := by decide +kernel
theorem d_Mo_automaton_134 : decode b_Mo_automaton 134 = .ok (.iload_n 2, 1) := by decide +kernel
theorem d_Mo_automaton_135 : decode b_Mo_automaton 135 = .ok (.iconst 1, 1) := by decide +kernel
theorem d_Mo_automaton_136 : decode b_Mo_automaton 136 = .ok (.if_icmp .ne 8, 3) := by decide +kernel
theorem d_Mo_automaton_139 : decode b_Mo_automaton 139 = .ok (.iload 4, 2) := by decide +kernel
theorem d_Mo_automaton_141 : decode b_Mo_automaton 141 = .ok (.goto 36, 3) := by decide +kernel
theorem d_Mo_automaton_144 : decode b_Mo_automaton 144 = .ok (.iload_n 2, 1) := by decide +kernel
theorem d_Mo_automaton_145 : decode b_Mo_automaton 145 = .ok (.iconst 2, 1) := by decide +kernel
theorem d_Mo_automaton_146 : decode b_Mo_automaton 146 = .ok (.if_icmp .ne 17, 3) := by decide +kernel
theorem d_Mo_automaton_149 : decode b_Mo_automaton 149 = .ok (.aload_n 0, 1) := by decide +kernel
theorem d_Mo_automaton_150 : decode b_Mo_automaton 150 = .ok (.iload_n 1, 1) := by decide +kernel
theorem d_Mo_automaton_151 : decode b_Mo_automaton 151 = .ok (.iload_n 3, 1) := by decide +kernel
theorem d_Mo_automaton_152 : decode b_Mo_automaton 152 = .ok (.iconst 4, 1) := by decide +kernel
theorem d_Mo_automaton_153 : decode b_Mo_automaton 153 = .ok (.idiv, 1) := by decide +kernel
theorem d_Mo_automaton_154 : decode b_Mo_automaton 154 = .ok (.iload_n 3, 1) := by decide +kernel
theorem d_Mo_automaton_155 : decode b_Mo_automaton 155 = .ok (.iconst 4, 1) := by decide +kernel
theorem d_Mo_automaton_156 : decode b_Mo_automaton 156 = .ok (.irem, 1) := by decide +kernel
theorem d_Mo_automaton_157 : decode b_Mo_automaton 157 = .ok (.invokevirtual 98, 3) := by decide +kernel
theorem d_Mo_automaton_160 : decode b_Mo_automaton 160 = .ok (.goto 17, 3) := by decide +kernel
theorem d_Mo_automaton_163 : decode b_Mo_automaton 163 = .ok (.aload_n 0, 1) := by decide +kernel
theorem d_Mo_automaton_164 : decode b_Mo_automaton 164 = .ok (.iload_n 1, 1) := by decide +kernel
theorem d_Mo_automaton_165 : decode b_Mo_automaton 165 = .ok (.iload_n 3, 1) := by decide +kernel
theorem d_Mo_automaton_166 : decode b_Mo_automaton 166 = .ok (.invokevirtual 102, 3) := by decide +kernel
theorem d_Mo_automaton_169 : decode b_Mo_automaton 169 = .ok (.ifCond .eq 7, 3) := by decide +kernel
theorem d_Mo_automaton_172 : decode b_Mo_automaton 172 = .ok (.iconst 1, 1) := by decide +kernel
theorem d_Mo_automaton_173 : decode b_Mo_automaton 173 = .ok (.goto 4, 3) := by decide +kernel
theorem d_Mo_automaton_176 : decode b_Mo_automaton 176 = .ok (.iconst 0, 1) := by decide +kernel
theorem d_Mo_automaton_177 : decode b_Mo_automaton 177 = .ok (.ireturn, 1) := by decide +kernel
abbrev b_Mo_has : ByteArray := prog_13_method_25_code
def y_Mo_has : MethodName := ⟨"RegularSolverModel", "has", "(IIJ)Z"⟩
abbrev w0_Mo_has : List Cond := Cond.code y_Mo_has b_Mo_has 7 (some .boolean) :: gW
theorem cd_Mo_has : Cond.code y_Mo_has b_Mo_has 7 (some .boolean) ∈ gW := gm 1025 (by decide +kernel) (by decide +kernel)
theorem d_Mo_has_0 : decode b_Mo_has 0 = .ok (.aload_n 0, 1) := by decide +kernel
theorem d_Mo_has_1 : decode b_Mo_has 1 = .ok (.iconst 0, 1) := by decide +kernel
theorem d_Mo_has_2 : decode b_Mo_has 2 = .ok (.putfield 84, 3) := by decide +kernel
theorem d_Mo_has_5 : decode b_Mo_has 5 = .ok (.aload_n 0, 1) := by decide +kernel
theorem d_Mo_has_6 : decode b_Mo_has 6 = .ok (.aload_n 0, 1) := by decide +kernel
theorem d_Mo_has_7 : decode b_Mo_has 7 = .ok (.iload_n 1, 1) := by decide +kernel
theorem d_Mo_has_8 : decode b_Mo_has 8 = .ok (.invokevirtual 138, 3) := by decide +kernel
theorem d_Mo_has_11 : decode b_Mo_has 11 = .ok (.ifCond .eq 30, 3) := by decide +kernel
theorem d_Mo_has_14 : decode b_Mo_has 14 = .ok (.iload_n 2, 1) := by decide +kernel
theorem d_Mo_has_15 : decode b_Mo_has 15 = .ok (.i2l, 1) := by decide +kernel
theorem d_Mo_has_16 : decode b_Mo_has 16 = .ok (.lconst 0, 1) := by decide +kernel
theorem d_Mo_has_17 : decode b_Mo_has 17 = .ok (.ldc2_w 150, 3) := by decide +kernel
theorem d_Mo_has_20 : decode b_Mo_has 20 = .ok (.invokestatic 91, 3) := by decide +kernel
theorem d_Mo_has_23 : decode b_Mo_has 23 = .ok (.ifCond .eq 18, 3) := by decide +kernel
theorem d_Mo_has_26 : decode b_Mo_has 26 = .ok (.lload_n 3, 1) := by decide +kernel
theorem d_Mo_has_27 : decode b_Mo_has 27 = .ok (.lconst 0, 1) := by decide +kernel
theorem d_Mo_has_28 : decode b_Mo_has 28 = .ok (.lconst 1, 1) := by decide +kernel
theorem d_Mo_has_29 : decode b_Mo_has 29 = .ok (.iconst 2, 1) := by decide +kernel
theorem d_Mo_has_30 : decode b_Mo_has 30 = .ok (.iload_n 2, 1) := by decide +kernel
theorem d_Mo_has_31 : decode b_Mo_has 31 = .ok (.imul, 1) := by decide +kernel
theorem d_Mo_has_32 : decode b_Mo_has 32 = .ok (.lshl, 1) := by decide +kernel
theorem d_Mo_has_33 : decode b_Mo_has 33 = .ok (.lconst 1, 1) := by decide +kernel
theorem d_Mo_has_34 : decode b_Mo_has 34 = .ok (.lsub, 1) := by decide +kernel
theorem d_Mo_has_35 : decode b_Mo_has 35 = .ok (.invokestatic 91, 3) := by decide +kernel
theorem d_Mo_has_38 : decode b_Mo_has 38 = .ok (.ifCond .ne 7, 3) := by decide +kernel
theorem d_Mo_has_41 : decode b_Mo_has 41 = .ok (.iconst 1, 1) := by decide +kernel
theorem d_Mo_has_42 : decode b_Mo_has 42 = .ok (.goto 4, 3) := by decide +kernel
theorem d_Mo_has_45 : decode b_Mo_has 45 = .ok (.iconst 0, 1) := by decide +kernel
theorem d_Mo_has_46 : decode b_Mo_has 46 = .ok (.iconst 1, 1) := by decide +kernel
theorem d_Mo_has_47 : decode b_Mo_has 47 = .ok (.invokevirtual 124, 3) := by decide +kernel
theorem d_Mo_has_50 : decode b_Mo_has 50 = .ok (.ifCond .eq 5, 3) := by decide +kernel
theorem d_Mo_has_53 : decode b_Mo_has 53 = .ok (.iconst 0, 1) := by decide +kernel
theorem d_Mo_has_54 : decode b_Mo_has 54 = .ok (.ireturn, 1) := by decide +kernel
theorem d_Mo_has_55 : decode b_Mo_has 55 = .ok (.iconst 0, 1) := by decide +kernel
theorem d_Mo_has_56 : decode b_Mo_has 56 = .ok (.istore 5, 2) := by decide +kernel
theorem d_Mo_has_58 : decode b_Mo_has 58 = .ok (.iload_n 2, 1) := by decide +kernel
theorem d_Mo_has_59 : decode b_Mo_has 59 = .ok (.iconst 1, 1) := by decide +kernel
theorem d_Mo_has_60 : decode b_Mo_has 60 = .ok (.isub, 1) := by decide +kernel
theorem d_Mo_has_61 : decode b_Mo_has 61 = .ok (.istore 6, 2) := by decide +kernel
theorem d_Mo_has_63 : decode b_Mo_has 63 = .ok (.iload 6, 2) := by decide +kernel
theorem d_Mo_has_65 : decode b_Mo_has 65 = .ok (.ifCond .lt 27, 3) := by decide +kernel
theorem d_Mo_has_68 : decode b_Mo_has 68 = .ok (.aload_n 0, 1) := by decide +kernel
theorem d_Mo_has_69 : decode b_Mo_has 69 = .ok (.iload_n 1, 1) := by decide +kernel
theorem d_Mo_has_70 : decode b_Mo_has 70 = .ok (.iload 5, 2) := by decide +kernel
theorem d_Mo_has_72 : decode b_Mo_has 72 = .ok (.lload_n 3, 1) := by decide +kernel
theorem d_Mo_has_73 : decode b_Mo_has 73 = .ok (.iconst 2, 1) := by decide +kernel
theorem d_Mo_has_74 : decode b_Mo_has 74 = .ok (.iload 6, 2) := by decide +kernel
theorem d_Mo_has_76 : decode b_Mo_has 76 = .ok (.imul, 1) := by decide +kernel
theorem d_Mo_has_77 : decode b_Mo_has 77 = .ok (.lshr, 1) := by decide +kernel
theorem d_Mo_has_78 : decode b_Mo_has 78 = .ok (.l2i, 1) := by decide +kernel
theorem d_Mo_has_79 : decode b_Mo_has 79 = .ok (.iconst 3, 1) := by decide +kernel
theorem d_Mo_has_80 : decode b_Mo_has 80 = .ok (.iand, 1) := by decide +kernel
theorem d_Mo_has_81 : decode b_Mo_has 81 = .ok (.invokevirtual 98, 3) := by decide +kernel
theorem d_Mo_has_84 : decode b_Mo_has 84 = .ok (.istore 5, 2) := by decide +kernel
theorem d_Mo_has_86 : decode b_Mo_has 86 = .ok (.iinc 6 (-1), 3) := by decide +kernel
theorem d_Mo_has_89 : decode b_Mo_has 89 = .ok (.goto (-26), 3) := by decide +kernel
theorem d_Mo_has_92 : decode b_Mo_has 92 = .ok (.aload_n 0, 1) := by decide +kernel
theorem d_Mo_has_93 : decode b_Mo_has 93 = .ok (.iload_n 1, 1) := by decide +kernel
theorem d_Mo_has_94 : decode b_Mo_has 94 = .ok (.iload 5, 2) := by decide +kernel
theorem d_Mo_has_96 : decode b_Mo_has 96 = .ok (.invokevirtual 102, 3) := by decide +kernel
theorem d_Mo_has_99 : decode b_Mo_has 99 = .ok (.ireturn, 1) := by decide +kernel
abbrev b_Mo_words : ByteArray := prog_13_method_26_code
def y_Mo_words : MethodName := ⟨"RegularSolverModel", "words", "(II)J"⟩
abbrev w0_Mo_words : List Cond := Cond.code y_Mo_words b_Mo_words 6 (some .long) :: gW
theorem cd_Mo_words : Cond.code y_Mo_words b_Mo_words 6 (some .long) ∈ gW := gm 1030 (by decide +kernel) (by decide +kernel)
theorem d_Mo_words_0 : decode b_Mo_words 0 = .ok (.aload_n 0, 1) := by decide +kernel
theorem d_Mo_words_1 : decode b_Mo_words 1 = .ok (.iconst 0, 1) := by decide +kernel
theorem d_Mo_words_2 : decode b_Mo_words 2 = .ok (.putfield 84, 3) := by decide +kernel
theorem d_Mo_words_5 : decode b_Mo_words 5 = .ok (.aload_n 0, 1) := by decide +kernel
theorem d_Mo_words_6 : decode b_Mo_words 6 = .ok (.aload_n 0, 1) := by decide +kernel
theorem d_Mo_words_7 : decode b_Mo_words 7 = .ok (.iload_n 1, 1) := by decide +kernel
theorem d_Mo_words_8 : decode b_Mo_words 8 = .ok (.invokevirtual 138, 3) := by decide +kernel
theorem d_Mo_words_11 : decode b_Mo_words 11 = .ok (.ifCond .eq 15, 3) := by decide +kernel
theorem d_Mo_words_14 : decode b_Mo_words 14 = .ok (.iload_n 2, 1) := by decide +kernel
theorem d_Mo_words_15 : decode b_Mo_words 15 = .ok (.i2l, 1) := by decide +kernel
theorem d_Mo_words_16 : decode b_Mo_words 16 = .ok (.lconst 0, 1) := by decide +kernel
theorem d_Mo_words_17 : decode b_Mo_words 17 = .ok (.ldc2_w 152, 3) := by decide +kernel
theorem d_Mo_words_20 : decode b_Mo_words 20 = .ok (.invokestatic 91, 3) := by decide +kernel
theorem d_Mo_words_23 : decode b_Mo_words 23 = .ok (.ifCond .ne 7, 3) := by decide +kernel
theorem d_Mo_words_26 : decode b_Mo_words 26 = .ok (.iconst 1, 1) := by decide +kernel
theorem d_Mo_words_27 : decode b_Mo_words 27 = .ok (.goto 4, 3) := by decide +kernel
theorem d_Mo_words_30 : decode b_Mo_words 30 = .ok (.iconst 0, 1) := by decide +kernel
theorem d_Mo_words_31 : decode b_Mo_words 31 = .ok (.iconst 1, 1) := by decide +kernel
theorem d_Mo_words_32 : decode b_Mo_words 32 = .ok (.invokevirtual 124, 3) := by decide +kernel
theorem d_Mo_words_35 : decode b_Mo_words 35 = .ok (.ifCond .eq 5, 3) := by decide +kernel
theorem d_Mo_words_38 : decode b_Mo_words 38 = .ok (.lconst 0, 1) := by decide +kernel
theorem d_Mo_words_39 : decode b_Mo_words 39 = .ok (.lreturn, 1) := by decide +kernel
theorem d_Mo_words_40 : decode b_Mo_words 40 = .ok (.iconst 0, 1) := by decide +kernel
theorem d_Mo_words_41 : decode b_Mo_words 41 = .ok (.istore_n 3, 1) := by decide +kernel
theorem d_Mo_words_42 : decode b_Mo_words 42 = .ok (.iload_n 3, 1) := by decide +kernel
theorem d_Mo_words_43 : decode b_Mo_words 43 = .ok (.aload_n 0, 1) := by decide +kernel
theorem d_Mo_words_44 : decode b_Mo_words 44 = .ok (.getfield 9, 3) := by decide +kernel
theorem d_Mo_words_47 : decode b_Mo_words 47 = .ok (.iload_n 1, 1) := by decide +kernel
theorem d_Mo_words_48 : decode b_Mo_words 48 = .ok (.iaload, 1) := by decide +kernel
theorem d_Mo_words_49 : decode b_Mo_words 49 = .ok (.if_icmp .ge 29, 3) := by decide +kernel
theorem d_Mo_words_52 : decode b_Mo_words 52 = .ok (.aload_n 0, 1) := by decide +kernel
theorem d_Mo_words_53 : decode b_Mo_words 53 = .ok (.getfield 63, 3) := by decide +kernel
theorem d_Mo_words_56 : decode b_Mo_words 56 = .ok (.iload_n 3, 1) := by decide +kernel
theorem d_Mo_words_57 : decode b_Mo_words 57 = .ok (.aload_n 0, 1) := by decide +kernel
theorem d_Mo_words_58 : decode b_Mo_words 58 = .ok (.iload_n 1, 1) := by decide +kernel
theorem d_Mo_words_59 : decode b_Mo_words 59 = .ok (.iload_n 3, 1) := by decide +kernel
theorem d_Mo_words_60 : decode b_Mo_words 60 = .ok (.invokevirtual 102, 3) := by decide +kernel
theorem d_Mo_words_63 : decode b_Mo_words 63 = .ok (.ifCond .eq 7, 3) := by decide +kernel
theorem d_Mo_words_66 : decode b_Mo_words 66 = .ok (.lconst 1, 1) := by decide +kernel
theorem d_Mo_words_67 : decode b_Mo_words 67 = .ok (.goto 4, 3) := by decide +kernel
theorem d_Mo_words_70 : decode b_Mo_words 70 = .ok (.lconst 0, 1) := by decide +kernel
theorem d_Mo_words_71 : decode b_Mo_words 71 = .ok (.lastore, 1) := by decide +kernel
theorem d_Mo_words_72 : decode b_Mo_words 72 = .ok (.iinc 3 1, 3) := by decide +kernel
theorem d_Mo_words_75 : decode b_Mo_words 75 = .ok (.goto (-33), 3) := by decide +kernel
theorem d_Mo_words_78 : decode b_Mo_words 78 = .ok (.iconst 0, 1) := by decide +kernel
theorem d_Mo_words_79 : decode b_Mo_words 79 = .ok (.istore_n 3, 1) := by decide +kernel
theorem d_Mo_words_80 : decode b_Mo_words 80 = .ok (.iload_n 3, 1) := by decide +kernel
theorem d_Mo_words_81 : decode b_Mo_words 81 = .ok (.iload_n 2, 1) := by decide +kernel
theorem d_Mo_words_82 : decode b_Mo_words 82 = .ok (.if_icmp .ge 110, 3) := by decide +kernel
theorem d_Mo_words_85 : decode b_Mo_words 85 = .ok (.iconst 0, 1) := by decide +kernel
theorem d_Mo_words_86 : decode b_Mo_words 86 = .ok (.istore 4, 2) := by decide +kernel
theorem d_Mo_words_88 : decode b_Mo_words 88 = .ok (.iload 4, 2) := by decide +kernel
theorem d_Mo_words_90 : decode b_Mo_words 90 = .ok (.aload_n 0, 1) := by decide +kernel
theorem d_Mo_words_91 : decode b_Mo_words 91 = .ok (.getfield 9, 3) := by decide +kernel
theorem d_Mo_words_94 : decode b_Mo_words 94 = .ok (.iload_n 1, 1) := by decide +kernel
theorem d_Mo_words_95 : decode b_Mo_words 95 = .ok (.iaload, 1) := by decide +kernel
theorem d_Mo_words_96 : decode b_Mo_words 96 = .ok (.if_icmp .ge 56, 3) := by decide +kernel
theorem d_Mo_words_99 : decode b_Mo_words 99 = .ok (.aload_n 0, 1) := by decide +kernel
theorem d_Mo_words_100 : decode b_Mo_words 100 = .ok (.getfield 66, 3) := by decide +kernel
theorem d_Mo_words_103 : decode b_Mo_words 103 = .ok (.iload 4, 2) := by decide +kernel
theorem d_Mo_words_105 : decode b_Mo_words 105 = .ok (.lconst 0, 1) := by decide +kernel
theorem d_Mo_words_106 : decode b_Mo_words 106 = .ok (.lastore, 1) := by decide +kernel
theorem d_Mo_words_107 : decode b_Mo_words 107 = .ok (.iconst 0, 1) := by decide +kernel
theorem d_Mo_words_108 : decode b_Mo_words 108 = .ok (.istore 5, 2) := by decide +kernel
theorem d_Mo_words_110 : decode b_Mo_words 110 = .ok (.iload 5, 2) := by decide +kernel
theorem d_Mo_words_112 : decode b_Mo_words 112 = .ok (.iconst 4, 1) := by decide +kernel
theorem d_Mo_words_113 : decode b_Mo_words 113 = .ok (.if_icmp .ge 33, 3) := by decide +kernel
theorem d_Mo_words_116 : decode b_Mo_words 116 = .ok (.aload_n 0, 1) := by decide +kernel
theorem d_Mo_words_117 : decode b_Mo_words 117 = .ok (.getfield 66, 3) := by decide +kernel
theorem d_Mo_words_120 : decode b_Mo_words 120 = .ok (.iload 4, 2) := by decide +kernel
theorem d_Mo_words_122 : decode b_Mo_words 122 = .ok (.dup2, 1) := by decide +kernel
theorem d_Mo_words_123 : decode b_Mo_words 123 = .ok (.laload, 1) := by decide +kernel
theorem d_Mo_words_124 : decode b_Mo_words 124 = .ok (.aload_n 0, 1) := by decide +kernel
theorem d_Mo_words_125 : decode b_Mo_words 125 = .ok (.getfield 63, 3) := by decide +kernel
theorem d_Mo_words_128 : decode b_Mo_words 128 = .ok (.aload_n 0, 1) := by decide +kernel
theorem d_Mo_words_129 : decode b_Mo_words 129 = .ok (.iload_n 1, 1) := by decide +kernel
theorem d_Mo_words_130 : decode b_Mo_words 130 = .ok (.iload 4, 2) := by decide +kernel
theorem d_Mo_words_132 : decode b_Mo_words 132 = .ok (.iload 5, 2) := by decide +kernel
theorem d_Mo_words_134 : decode b_Mo_words 134 = .ok (.invokevirtual 98, 3) := by decide +kernel
theorem d_Mo_words_137 : decode b_Mo_words 137 = .ok (.laload, 1) := by decide +kernel
theorem d_Mo_words_138 : decode b_Mo_words 138 = .ok (.ladd, 1) := by decide +kernel
theorem d_Mo_words_139 : decode b_Mo_words 139 = .ok (.lastore, 1) := by decide +kernel
theorem d_Mo_words_140 : decode b_Mo_words 140 = .ok (.iinc 5 1, 3) := by decide +kernel
theorem d_Mo_words_143 : decode b_Mo_words 143 = .ok (.goto (-33), 3) := by decide +kernel
theorem d_Mo_words_146 : decode b_Mo_words 146 = .ok (.iinc 4 1, 3) := by decide +kernel
theorem d_Mo_words_149 : decode b_Mo_words 149 = .ok (.goto (-61), 3) := by decide +kernel
theorem d_Mo_words_152 : decode b_Mo_words 152 = .ok (.iconst 0, 1) := by decide +kernel
theorem d_Mo_words_153 : decode b_Mo_words 153 = .ok (.istore 4, 2) := by decide +kernel
theorem d_Mo_words_155 : decode b_Mo_words 155 = .ok (.iload 4, 2) := by decide +kernel
theorem d_Mo_words_157 : decode b_Mo_words 157 = .ok (.aload_n 0, 1) := by decide +kernel
theorem d_Mo_words_158 : decode b_Mo_words 158 = .ok (.getfield 9, 3) := by decide +kernel
theorem d_Mo_words_161 : decode b_Mo_words 161 = .ok (.iload_n 1, 1) := by decide +kernel
theorem d_Mo_words_162 : decode b_Mo_words 162 = .ok (.iaload, 1) := by decide +kernel
theorem d_Mo_words_163 : decode b_Mo_words 163 = .ok (.if_icmp .ge 23, 3) := by decide +kernel
theorem d_Mo_words_166 : decode b_Mo_words 166 = .ok (.aload_n 0, 1) := by decide +kernel
theorem d_Mo_words_167 : decode b_Mo_words 167 = .ok (.getfield 63, 3) := by decide +kernel
theorem d_Mo_words_170 : decode b_Mo_words 170 = .ok (.iload 4, 2) := by decide +kernel
theorem d_Mo_words_172 : decode b_Mo_words 172 = .ok (.aload_n 0, 1) := by decide +kernel
theorem d_Mo_words_173 : decode b_Mo_words 173 = .ok (.getfield 66, 3) := by decide +kernel
theorem d_Mo_words_176 : decode b_Mo_words 176 = .ok (.iload 4, 2) := by decide +kernel
theorem d_Mo_words_178 : decode b_Mo_words 178 = .ok (.laload, 1) := by decide +kernel
theorem d_Mo_words_179 : decode b_Mo_words 179 = .ok (.lastore, 1) := by decide +kernel
theorem d_Mo_words_180 : decode b_Mo_words 180 = .ok (.iinc 4 1, 3) := by decide +kernel
theorem d_Mo_words_183 : decode b_Mo_words 183 = .ok (.goto (-28), 3) := by decide +kernel
theorem d_Mo_words_186 : decode b_Mo_words 186 = .ok (.iinc 3 1, 3) := by decide +kernel
theorem d_Mo_words_189 : decode b_Mo_words 189 = .ok (.goto (-109), 3) := by decide +kernel
theorem d_Mo_words_192 : decode b_Mo_words 192 = .ok (.aload_n 0, 1) := by decide +kernel
theorem d_Mo_words_193 : decode b_Mo_words 193 = .ok (.getfield 63, 3) := by decide +kernel
theorem d_Mo_words_196 : decode b_Mo_words 196 = .ok (.iconst 0, 1) := by decide +kernel
theorem d_Mo_words_197 : decode b_Mo_words 197 = .ok (.laload, 1) := by decide +kernel
theorem d_Mo_words_198 : decode b_Mo_words 198 = .ok (.lreturn, 1) := by decide +kernel
abbrev b_Mo_first : ByteArray := prog_13_method_29_code
def y_Mo_first : MethodName := ⟨"RegularSolverModel", "first", "(II)J"⟩
abbrev w0_Mo_first : List Cond := Cond.code y_Mo_first b_Mo_first 3 (some .long) :: gW
theorem cd_Mo_first : Cond.code y_Mo_first b_Mo_first 3 (some .long) ∈ gW := gm 1035 (by decide +kernel) (by decide +kernel)
theorem d_Mo_first_0 : decode b_Mo_first 0 = .ok (.aload_n 0, 1) := by decide +kernel
theorem d_Mo_first_1 : decode b_Mo_first 1 = .ok (.iconst 0, 1) := by decide +kernel
theorem d_Mo_first_2 : decode b_Mo_first 2 = .ok (.putfield 84, 3) := by decide +kernel
theorem d_Mo_first_5 : decode b_Mo_first 5 = .ok (.aload_n 0, 1) := by decide +kernel
theorem d_Mo_first_6 : decode b_Mo_first 6 = .ok (.aload_n 0, 1) := by decide +kernel
theorem d_Mo_first_7 : decode b_Mo_first 7 = .ok (.iload_n 1, 1) := by decide +kernel
theorem d_Mo_first_8 : decode b_Mo_first 8 = .ok (.invokevirtual 138, 3) := by decide +kernel
theorem d_Mo_first_11 : decode b_Mo_first 11 = .ok (.ifCond .eq 15, 3) := by decide +kernel
theorem d_Mo_first_14 : decode b_Mo_first 14 = .ok (.iload_n 2, 1) := by decide +kernel
theorem d_Mo_first_15 : decode b_Mo_first 15 = .ok (.i2l, 1) := by decide +kernel
theorem d_Mo_first_16 : decode b_Mo_first 16 = .ok (.lconst 0, 1) := by decide +kernel
theorem d_Mo_first_17 : decode b_Mo_first 17 = .ok (.ldc2_w 150, 3) := by decide +kernel
theorem d_Mo_first_20 : decode b_Mo_first 20 = .ok (.invokestatic 91, 3) := by decide +kernel
theorem d_Mo_first_23 : decode b_Mo_first 23 = .ok (.ifCond .ne 7, 3) := by decide +kernel
theorem d_Mo_first_26 : decode b_Mo_first 26 = .ok (.iconst 1, 1) := by decide +kernel
theorem d_Mo_first_27 : decode b_Mo_first 27 = .ok (.goto 4, 3) := by decide +kernel
theorem d_Mo_first_30 : decode b_Mo_first 30 = .ok (.iconst 0, 1) := by decide +kernel
theorem d_Mo_first_31 : decode b_Mo_first 31 = .ok (.iconst 1, 1) := by decide +kernel
theorem d_Mo_first_32 : decode b_Mo_first 32 = .ok (.invokevirtual 124, 3) := by decide +kernel
theorem d_Mo_first_35 : decode b_Mo_first 35 = .ok (.ifCond .eq 5, 3) := by decide +kernel
theorem d_Mo_first_38 : decode b_Mo_first 38 = .ok (.lconst 0, 1) := by decide +kernel
theorem d_Mo_first_39 : decode b_Mo_first 39 = .ok (.lreturn, 1) := by decide +kernel
theorem d_Mo_first_40 : decode b_Mo_first 40 = .ok (.aload_n 0, 1) := by decide +kernel
theorem d_Mo_first_41 : decode b_Mo_first 41 = .ok (.iload_n 1, 1) := by decide +kernel
theorem d_Mo_first_42 : decode b_Mo_first 42 = .ok (.iload_n 2, 1) := by decide +kernel
theorem d_Mo_first_43 : decode b_Mo_first 43 = .ok (.invokevirtual 154, 3) := by decide +kernel
theorem d_Mo_first_46 : decode b_Mo_first 46 = .ok (.aload_n 0, 1) := by decide +kernel
theorem d_Mo_first_47 : decode b_Mo_first 47 = .ok (.aload_n 0, 1) := by decide +kernel
theorem d_Mo_first_48 : decode b_Mo_first 48 = .ok (.getfield 69, 3) := by decide +kernel
theorem d_Mo_first_51 : decode b_Mo_first 51 = .ok (.iload_n 2, 1) := by decide +kernel
theorem d_Mo_first_52 : decode b_Mo_first 52 = .ok (.laload, 1) := by decide +kernel
theorem d_Mo_first_53 : decode b_Mo_first 53 = .ok (.lconst 1, 1) := by decide +kernel
theorem d_Mo_first_54 : decode b_Mo_first 54 = .ok (.land, 1) := by decide +kernel
theorem d_Mo_first_55 : decode b_Mo_first 55 = .ok (.lconst 0, 1) := by decide +kernel
theorem d_Mo_first_56 : decode b_Mo_first 56 = .ok (.lcmp, 1) := by decide +kernel
theorem d_Mo_first_57 : decode b_Mo_first 57 = .ok (.ifCond .ne 7, 3) := by decide +kernel
theorem d_Mo_first_60 : decode b_Mo_first 60 = .ok (.iconst 1, 1) := by decide +kernel
theorem d_Mo_first_61 : decode b_Mo_first 61 = .ok (.goto 4, 3) := by decide +kernel
theorem d_Mo_first_64 : decode b_Mo_first 64 = .ok (.iconst 0, 1) := by decide +kernel
theorem d_Mo_first_65 : decode b_Mo_first 65 = .ok (.iconst 2, 1) := by decide +kernel
theorem d_Mo_first_66 : decode b_Mo_first 66 = .ok (.invokevirtual 124, 3) := by decide +kernel
theorem d_Mo_first_69 : decode b_Mo_first 69 = .ok (.ifCond .eq 7, 3) := by decide +kernel
theorem d_Mo_first_72 : decode b_Mo_first 72 = .ok (.lconst 0, 1) := by decide +kernel
theorem d_Mo_first_73 : decode b_Mo_first 73 = .ok (.goto 9, 3) := by decide +kernel
theorem d_Mo_first_76 : decode b_Mo_first 76 = .ok (.aload_n 0, 1) := by decide +kernel
theorem d_Mo_first_77 : decode b_Mo_first 77 = .ok (.iload_n 1, 1) := by decide +kernel
theorem d_Mo_first_78 : decode b_Mo_first 78 = .ok (.iload_n 2, 1) := by decide +kernel
theorem d_Mo_first_79 : decode b_Mo_first 79 = .ok (.invokevirtual 158, 3) := by decide +kernel
theorem d_Mo_first_82 : decode b_Mo_first 82 = .ok (.lreturn, 1) := by decide +kernel
abbrev b_Mo_shortest : ByteArray := prog_13_method_30_code
def y_Mo_shortest : MethodName := ⟨"RegularSolverModel", "shortest", "(I)I"⟩
abbrev w0_Mo_shortest : List Cond := Cond.code y_Mo_shortest b_Mo_shortest 8 (some .int) :: gW
theorem cd_Mo_shortest : Cond.code y_Mo_shortest b_Mo_shortest 8 (some .int) ∈ gW := gm 1047 (by decide +kernel) (by decide +kernel)
theorem d_Mo_shortest_0 : decode b_Mo_shortest 0 = .ok (.aload_n 0, 1) := by decide +kernel
theorem d_Mo_shortest_1 : decode b_Mo_shortest 1 = .ok (.iconst 0, 1) := by decide +kernel
theorem d_Mo_shortest_2 : decode b_Mo_shortest 2 = .ok (.putfield 84, 3) := by decide +kernel
theorem d_Mo_shortest_5 : decode b_Mo_shortest 5 = .ok (.aload_n 0, 1) := by decide +kernel
theorem d_Mo_shortest_6 : decode b_Mo_shortest 6 = .ok (.aload_n 0, 1) := by decide +kernel
theorem d_Mo_shortest_7 : decode b_Mo_shortest 7 = .ok (.iload_n 1, 1) := by decide +kernel
theorem d_Mo_shortest_8 : decode b_Mo_shortest 8 = .ok (.invokevirtual 138, 3) := by decide +kernel
theorem d_Mo_shortest_11 : decode b_Mo_shortest 11 = .ok (.ifCond .ne 7, 3) := by decide +kernel
theorem d_Mo_shortest_14 : decode b_Mo_shortest 14 = .ok (.iconst 1, 1) := by decide +kernel
theorem d_Mo_shortest_15 : decode b_Mo_shortest 15 = .ok (.goto 4, 3) := by decide +kernel
theorem d_Mo_shortest_18 : decode b_Mo_shortest 18 = .ok (.iconst 0, 1) := by decide +kernel
theorem d_Mo_shortest_19 : decode b_Mo_shortest 19 = .ok (.iconst 1, 1) := by decide +kernel
theorem d_Mo_shortest_20 : decode b_Mo_shortest 20 = .ok (.invokevirtual 124, 3) := by decide +kernel
theorem d_Mo_shortest_23 : decode b_Mo_shortest 23 = .ok (.ifCond .eq 5, 3) := by decide +kernel
theorem d_Mo_shortest_26 : decode b_Mo_shortest 26 = .ok (.iconst 0, 1) := by decide +kernel
theorem d_Mo_shortest_27 : decode b_Mo_shortest 27 = .ok (.ireturn, 1) := by decide +kernel
theorem d_Mo_shortest_28 : decode b_Mo_shortest 28 = .ok (.lconst 1, 1) := by decide +kernel
theorem d_Mo_shortest_29 : decode b_Mo_shortest 29 = .ok (.lstore_n 2, 1) := by decide +kernel
theorem d_Mo_shortest_30 : decode b_Mo_shortest 30 = .ok (.iconst 0, 1) := by decide +kernel
theorem d_Mo_shortest_31 : decode b_Mo_shortest 31 = .ok (.istore 4, 2) := by decide +kernel
theorem d_Mo_shortest_33 : decode b_Mo_shortest 33 = .ok (.iload 4, 2) := by decide +kernel
theorem d_Mo_shortest_35 : decode b_Mo_shortest 35 = .ok (.aload_n 0, 1) := by decide +kernel
theorem d_Mo_shortest_36 : decode b_Mo_shortest 36 = .ok (.getfield 9, 3) := by decide +kernel
theorem d_Mo_shortest_39 : decode b_Mo_shortest 39 = .ok (.iload_n 1, 1) := by decide +kernel
theorem d_Mo_shortest_40 : decode b_Mo_shortest 40 = .ok (.iaload, 1) := by decide +kernel
theorem d_Mo_shortest_41 : decode b_Mo_shortest 41 = .ok (.if_icmp .ge 55, 3) := by decide +kernel
theorem d_Mo_shortest_44 : decode b_Mo_shortest 44 = .ok (.aload_n 0, 1) := by decide +kernel
theorem d_Mo_shortest_45 : decode b_Mo_shortest 45 = .ok (.iload_n 1, 1) := by decide +kernel
theorem d_Mo_shortest_46 : decode b_Mo_shortest 46 = .ok (.lload_n 2, 1) := by decide +kernel
theorem d_Mo_shortest_47 : decode b_Mo_shortest 47 = .ok (.invokevirtual 106, 3) := by decide +kernel
theorem d_Mo_shortest_50 : decode b_Mo_shortest 50 = .ok (.ifCond .eq 6, 3) := by decide +kernel
theorem d_Mo_shortest_53 : decode b_Mo_shortest 53 = .ok (.iload 4, 2) := by decide +kernel
theorem d_Mo_shortest_55 : decode b_Mo_shortest 55 = .ok (.ireturn, 1) := by decide +kernel
theorem d_Mo_shortest_56 : decode b_Mo_shortest 56 = .ok (.lconst 0, 1) := by decide +kernel
theorem d_Mo_shortest_57 : decode b_Mo_shortest 57 = .ok (.lstore 5, 2) := by decide +kernel
theorem d_Mo_shortest_59 : decode b_Mo_shortest 59 = .ok (.iconst 0, 1) := by decide +kernel
theorem d_Mo_shortest_60 : decode b_Mo_shortest 60 = .ok (.istore 7, 2) := by decide +kernel
theorem d_Mo_shortest_62 : decode b_Mo_shortest 62 = .ok (.iload 7, 2) := by decide +kernel
theorem d_Mo_shortest_64 : decode b_Mo_shortest 64 = .ok (.iconst 4, 1) := by decide +kernel
theorem d_Mo_shortest_65 : decode b_Mo_shortest 65 = .ok (.if_icmp .ge 22, 3) := by decide +kernel
theorem d_Mo_shortest_68 : decode b_Mo_shortest 68 = .ok (.lload 5, 2) := by decide +kernel
theorem d_Mo_shortest_70 : decode b_Mo_shortest 70 = .ok (.aload_n 0, 1) := by decide +kernel
theorem d_Mo_shortest_71 : decode b_Mo_shortest 71 = .ok (.iload_n 1, 1) := by decide +kernel
theorem d_Mo_shortest_72 : decode b_Mo_shortest 72 = .ok (.lload_n 2, 1) := by decide +kernel
theorem d_Mo_shortest_73 : decode b_Mo_shortest 73 = .ok (.iload 7, 2) := by decide +kernel
theorem d_Mo_shortest_75 : decode b_Mo_shortest 75 = .ok (.invokevirtual 117, 3) := by decide +kernel
theorem d_Mo_shortest_78 : decode b_Mo_shortest 78 = .ok (.lor, 1) := by decide +kernel
theorem d_Mo_shortest_79 : decode b_Mo_shortest 79 = .ok (.lstore 5, 2) := by decide +kernel
theorem d_Mo_shortest_81 : decode b_Mo_shortest 81 = .ok (.iinc 7 1, 3) := by decide +kernel
theorem d_Mo_shortest_84 : decode b_Mo_shortest 84 = .ok (.goto (-22), 3) := by decide +kernel
theorem d_Mo_shortest_87 : decode b_Mo_shortest 87 = .ok (.lload 5, 2) := by decide +kernel
theorem d_Mo_shortest_89 : decode b_Mo_shortest 89 = .ok (.lstore_n 2, 1) := by decide +kernel
theorem d_Mo_shortest_90 : decode b_Mo_shortest 90 = .ok (.iinc 4 1, 3) := by decide +kernel
theorem d_Mo_shortest_93 : decode b_Mo_shortest 93 = .ok (.goto (-60), 3) := by decide +kernel
theorem d_Mo_shortest_96 : decode b_Mo_shortest 96 = .ok (.iconst (-1), 1) := by decide +kernel
theorem d_Mo_shortest_97 : decode b_Mo_shortest 97 = .ok (.ireturn, 1) := by decide +kernel
abbrev b_Mo_within : ByteArray := prog_13_method_31_code
def y_Mo_within : MethodName := ⟨"RegularSolverModel", "within", "(II)Z"⟩
abbrev w0_Mo_within : List Cond := Cond.code y_Mo_within b_Mo_within 9 (some .boolean) :: gW
theorem cd_Mo_within : Cond.code y_Mo_within b_Mo_within 9 (some .boolean) ∈ gW := gm 1051 (by decide +kernel) (by decide +kernel)
theorem d_Mo_within_0 : decode b_Mo_within 0 = .ok (.aload_n 0, 1) := by decide +kernel
theorem d_Mo_within_1 : decode b_Mo_within 1 = .ok (.iconst 0, 1) := by decide +kernel
theorem d_Mo_within_2 : decode b_Mo_within 2 = .ok (.putfield 84, 3) := by decide +kernel
theorem d_Mo_within_5 : decode b_Mo_within 5 = .ok (.aload_n 0, 1) := by decide +kernel
theorem d_Mo_within_6 : decode b_Mo_within 6 = .ok (.aload_n 0, 1) := by decide +kernel
theorem d_Mo_within_7 : decode b_Mo_within 7 = .ok (.iload_n 1, 1) := by decide +kernel
theorem d_Mo_within_8 : decode b_Mo_within 8 = .ok (.invokevirtual 138, 3) := by decide +kernel
theorem d_Mo_within_11 : decode b_Mo_within 11 = .ok (.ifCond .eq 11, 3) := by decide +kernel
theorem d_Mo_within_14 : decode b_Mo_within 14 = .ok (.aload_n 0, 1) := by decide +kernel
theorem d_Mo_within_15 : decode b_Mo_within 15 = .ok (.iload_n 2, 1) := by decide +kernel
theorem d_Mo_within_16 : decode b_Mo_within 16 = .ok (.invokevirtual 138, 3) := by decide +kernel
theorem d_Mo_within_19 : decode b_Mo_within 19 = .ok (.ifCond .ne 7, 3) := by decide +kernel
theorem d_Mo_within_22 : decode b_Mo_within 22 = .ok (.iconst 1, 1) := by decide +kernel
theorem d_Mo_within_23 : decode b_Mo_within 23 = .ok (.goto 4, 3) := by decide +kernel
theorem d_Mo_within_26 : decode b_Mo_within 26 = .ok (.iconst 0, 1) := by decide +kernel
theorem d_Mo_within_27 : decode b_Mo_within 27 = .ok (.iconst 1, 1) := by decide +kernel
theorem d_Mo_within_28 : decode b_Mo_within 28 = .ok (.invokevirtual 124, 3) := by decide +kernel
theorem d_Mo_within_31 : decode b_Mo_within 31 = .ok (.ifCond .eq 5, 3) := by decide +kernel
theorem d_Mo_within_34 : decode b_Mo_within 34 = .ok (.iconst 0, 1) := by decide +kernel
theorem d_Mo_within_35 : decode b_Mo_within 35 = .ok (.ireturn, 1) := by decide +kernel
theorem d_Mo_within_36 : decode b_Mo_within 36 = .ok (.iconst 0, 1) := by decide +kernel
theorem d_Mo_within_37 : decode b_Mo_within 37 = .ok (.istore_n 3, 1) := by decide +kernel
theorem d_Mo_within_38 : decode b_Mo_within 38 = .ok (.iload_n 3, 1) := by decide +kernel
theorem d_Mo_within_39 : decode b_Mo_within 39 = .ok (.sipush 4096, 3) := by decide +kernel
theorem d_Mo_within_42 : decode b_Mo_within 42 = .ok (.if_icmp .ge 16, 3) := by decide +kernel
theorem d_Mo_within_45 : decode b_Mo_within 45 = .ok (.aload_n 0, 1) := by decide +kernel
theorem d_Mo_within_46 : decode b_Mo_within 46 = .ok (.getfield 72, 3) := by decide +kernel
theorem d_Mo_within_49 : decode b_Mo_within 49 = .ok (.iload_n 3, 1) := by decide +kernel
theorem d_Mo_within_50 : decode b_Mo_within 50 = .ok (.iconst 0, 1) := by decide +kernel
theorem d_Mo_within_51 : decode b_Mo_within 51 = .ok (.bastore, 1) := by decide +kernel
theorem d_Mo_within_52 : decode b_Mo_within 52 = .ok (.iinc 3 1, 3) := by decide +kernel
theorem d_Mo_within_55 : decode b_Mo_within 55 = .ok (.goto (-17), 3) := by decide +kernel
theorem d_Mo_within_58 : decode b_Mo_within 58 = .ok (.iconst 0, 1) := by decide +kernel
theorem d_Mo_within_59 : decode b_Mo_within 59 = .ok (.istore_n 3, 1) := by decide +kernel
theorem d_Mo_within_60 : decode b_Mo_within 60 = .ok (.aload_n 0, 1) := by decide +kernel
theorem d_Mo_within_61 : decode b_Mo_within 61 = .ok (.getfield 72, 3) := by decide +kernel
theorem d_Mo_within_64 : decode b_Mo_within 64 = .ok (.iconst 0, 1) := by decide +kernel
theorem d_Mo_within_65 : decode b_Mo_within 65 = .ok (.iconst 1, 1) := by decide +kernel
theorem d_Mo_within_66 : decode b_Mo_within 66 = .ok (.bastore, 1) := by decide +kernel
theorem d_Mo_within_67 : decode b_Mo_within 67 = .ok (.aload_n 0, 1) := by decide +kernel
theorem d_Mo_within_68 : decode b_Mo_within 68 = .ok (.getfield 75, 3) := by decide +kernel
theorem d_Mo_within_71 : decode b_Mo_within 71 = .ok (.iload_n 3, 1) := by decide +kernel
theorem d_Mo_within_72 : decode b_Mo_within 72 = .ok (.iinc 3 1, 3) := by decide +kernel
theorem d_Mo_within_75 : decode b_Mo_within 75 = .ok (.iconst 0, 1) := by decide +kernel
theorem d_Mo_within_76 : decode b_Mo_within 76 = .ok (.iastore, 1) := by decide +kernel
theorem d_Mo_within_77 : decode b_Mo_within 77 = .ok (.iload_n 3, 1) := by decide +kernel
theorem d_Mo_within_78 : decode b_Mo_within 78 = .ok (.ifCond .le 124, 3) := by decide +kernel
theorem d_Mo_within_81 : decode b_Mo_within 81 = .ok (.aload_n 0, 1) := by decide +kernel
theorem d_Mo_within_82 : decode b_Mo_within 82 = .ok (.getfield 75, 3) := by decide +kernel
theorem d_Mo_within_85 : decode b_Mo_within 85 = .ok (.iinc 3 (-1), 3) := by decide +kernel
theorem d_Mo_within_88 : decode b_Mo_within 88 = .ok (.iload_n 3, 1) := by decide +kernel
theorem d_Mo_within_89 : decode b_Mo_within 89 = .ok (.iaload, 1) := by decide +kernel
theorem d_Mo_within_90 : decode b_Mo_within 90 = .ok (.istore 4, 2) := by decide +kernel
theorem d_Mo_within_92 : decode b_Mo_within 92 = .ok (.iload 4, 2) := by decide +kernel
theorem d_Mo_within_94 : decode b_Mo_within 94 = .ok (.bipush 64, 2) := by decide +kernel
theorem d_Mo_within_96 : decode b_Mo_within 96 = .ok (.idiv, 1) := by decide +kernel
theorem d_Mo_within_97 : decode b_Mo_within 97 = .ok (.istore 5, 2) := by decide +kernel
theorem d_Mo_within_99 : decode b_Mo_within 99 = .ok (.iload 4, 2) := by decide +kernel
theorem d_Mo_within_101 : decode b_Mo_within 101 = .ok (.bipush 64, 2) := by decide +kernel
theorem d_Mo_within_103 : decode b_Mo_within 103 = .ok (.irem, 1) := by decide +kernel
theorem d_Mo_within_104 : decode b_Mo_within 104 = .ok (.istore 6, 2) := by decide +kernel
theorem d_Mo_within_106 : decode b_Mo_within 106 = .ok (.aload_n 0, 1) := by decide +kernel
theorem d_Mo_within_107 : decode b_Mo_within 107 = .ok (.iload_n 1, 1) := by decide +kernel
theorem d_Mo_within_108 : decode b_Mo_within 108 = .ok (.iload 5, 2) := by decide +kernel
theorem d_Mo_within_110 : decode b_Mo_within 110 = .ok (.invokevirtual 102, 3) := by decide +kernel
theorem d_Mo_within_113 : decode b_Mo_within 113 = .ok (.ifCond .eq 15, 3) := by decide +kernel
theorem d_Mo_within_116 : decode b_Mo_within 116 = .ok (.aload_n 0, 1) := by decide +kernel
theorem d_Mo_within_117 : decode b_Mo_within 117 = .ok (.iload_n 2, 1) := by decide +kernel
theorem d_Mo_within_118 : decode b_Mo_within 118 = .ok (.iload 6, 2) := by decide +kernel
theorem d_Mo_within_120 : decode b_Mo_within 120 = .ok (.invokevirtual 102, 3) := by decide +kernel
theorem d_Mo_within_123 : decode b_Mo_within 123 = .ok (.ifCond .ne 5, 3) := by decide +kernel
theorem d_Mo_within_126 : decode b_Mo_within 126 = .ok (.iconst 0, 1) := by decide +kernel
theorem d_Mo_within_127 : decode b_Mo_within 127 = .ok (.ireturn, 1) := by decide +kernel
theorem d_Mo_within_128 : decode b_Mo_within 128 = .ok (.iconst 0, 1) := by decide +kernel
theorem d_Mo_within_129 : decode b_Mo_within 129 = .ok (.istore 7, 2) := by decide +kernel
theorem d_Mo_within_131 : decode b_Mo_within 131 = .ok (.iload 7, 2) := by decide +kernel
theorem d_Mo_within_133 : decode b_Mo_within 133 = .ok (.iconst 4, 1) := by decide +kernel
theorem d_Mo_within_134 : decode b_Mo_within 134 = .ok (.if_icmp .ge 65, 3) := by decide +kernel
theorem d_Mo_within_137 : decode b_Mo_within 137 = .ok (.bipush 64, 2) := by decide +kernel
theorem d_Mo_within_139 : decode b_Mo_within 139 = .ok (.aload_n 0, 1) := by decide +kernel
theorem d_Mo_within_140 : decode b_Mo_within 140 = .ok (.iload_n 1, 1) := by decide +kernel
theorem d_Mo_within_141 : decode b_Mo_within 141 = .ok (.iload 5, 2) := by decide +kernel
theorem d_Mo_within_143 : decode b_Mo_within 143 = .ok (.iload 7, 2) := by decide +kernel
theorem d_Mo_within_145 : decode b_Mo_within 145 = .ok (.invokevirtual 98, 3) := by decide +kernel
theorem d_Mo_within_148 : decode b_Mo_within 148 = .ok (.imul, 1) := by decide +kernel
theorem d_Mo_within_149 : decode b_Mo_within 149 = .ok (.aload_n 0, 1) := by decide +kernel
theorem d_Mo_within_150 : decode b_Mo_within 150 = .ok (.iload_n 2, 1) := by decide +kernel
theorem d_Mo_within_151 : decode b_Mo_within 151 = .ok (.iload 6, 2) := by decide +kernel
theorem d_Mo_within_153 : decode b_Mo_within 153 = .ok (.iload 7, 2) := by decide +kernel
theorem d_Mo_within_155 : decode b_Mo_within 155 = .ok (.invokevirtual 98, 3) := by decide +kernel
theorem d_Mo_within_158 : decode b_Mo_within 158 = .ok (.iadd, 1) := by decide +kernel
theorem d_Mo_within_159 : decode b_Mo_within 159 = .ok (.istore 8, 2) := by decide +kernel
theorem d_Mo_within_161 : decode b_Mo_within 161 = .ok (.aload_n 0, 1) := by decide +kernel
theorem d_Mo_within_162 : decode b_Mo_within 162 = .ok (.getfield 72, 3) := by decide +kernel
theorem d_Mo_within_165 : decode b_Mo_within 165 = .ok (.iload 8, 2) := by decide +kernel
theorem d_Mo_within_167 : decode b_Mo_within 167 = .ok (.baload, 1) := by decide +kernel
theorem d_Mo_within_168 : decode b_Mo_within 168 = .ok (.ifCond .eq 6, 3) := by decide +kernel
theorem d_Mo_within_171 : decode b_Mo_within 171 = .ok (.goto 22, 3) := by decide +kernel
theorem d_Mo_within_174 : decode b_Mo_within 174 = .ok (.aload_n 0, 1) := by decide +kernel
theorem d_Mo_within_175 : decode b_Mo_within 175 = .ok (.getfield 72, 3) := by decide +kernel
theorem d_Mo_within_178 : decode b_Mo_within 178 = .ok (.iload 8, 2) := by decide +kernel
theorem d_Mo_within_180 : decode b_Mo_within 180 = .ok (.iconst 1, 1) := by decide +kernel
theorem d_Mo_within_181 : decode b_Mo_within 181 = .ok (.bastore, 1) := by decide +kernel
theorem d_Mo_within_182 : decode b_Mo_within 182 = .ok (.aload_n 0, 1) := by decide +kernel
theorem d_Mo_within_183 : decode b_Mo_within 183 = .ok (.getfield 75, 3) := by decide +kernel
theorem d_Mo_within_186 : decode b_Mo_within 186 = .ok (.iload_n 3, 1) := by decide +kernel
theorem d_Mo_within_187 : decode b_Mo_within 187 = .ok (.iinc 3 1, 3) := by decide +kernel
theorem d_Mo_within_190 : decode b_Mo_within 190 = .ok (.iload 8, 2) := by decide +kernel
theorem d_Mo_within_192 : decode b_Mo_within 192 = .ok (.iastore, 1) := by decide +kernel
theorem d_Mo_within_193 : decode b_Mo_within 193 = .ok (.iinc 7 1, 3) := by decide +kernel
theorem d_Mo_within_196 : decode b_Mo_within 196 = .ok (.goto (-65), 3) := by decide +kernel
theorem d_Mo_within_199 : decode b_Mo_within 199 = .ok (.goto (-122), 3) := by decide +kernel
theorem d_Mo_within_202 : decode b_Mo_within 202 = .ok (.iconst 1, 1) := by decide +kernel
theorem d_Mo_within_203 : decode b_Mo_within 203 = .ok (.ireturn, 1) := by decide +kernel
theorem fl_Mo_63 : (Cond.fieldLink "RegularSolverModel" 63 "RegularSolverModel" "many" "[J") ∈ gW := gm 862 (by decide +kernel) (by decide +kernel)
theorem fl_Mo_66 : (Cond.fieldLink "RegularSolverModel" 66 "RegularSolverModel" "more" "[J") ∈ gW := gm 863 (by decide +kernel) (by decide +kernel)
theorem ml_Mo_154 : (Cond.methodLink "RegularSolverModel" 154 ({ cls := "RegularSolverModel", name := "lead", desc := "(II)V" } : MethodName)) ∈ gW := gm 1036 (by decide +kernel) (by decide +kernel)
theorem im_Mo_lead : (Cond.instanceMethod ({ cls := "RegularSolverModel", name := "lead", desc := "(II)V" } : MethodName)) ∈ gW := gm 1038 (by decide +kernel) (by decide +kernel)
theorem se_Mo_lead : (Cond.selects "RegularSolverModel" ({ cls := "RegularSolverModel", name := "lead", desc := "(II)V" } : MethodName) ({ cls := "RegularSolverModel", name := "lead", desc := "(II)V" } : MethodName)) ∈ gW := gs (by decide +kernel) (by decide +kernel)
theorem ml_Mo_158 : (Cond.methodLink "RegularSolverModel" 158 ({ cls := "RegularSolverModel", name := "firstWord", desc := "(II)J" } : MethodName)) ∈ gW := gm 1040 (by decide +kernel) (by decide +kernel)
theorem im_Mo_firstWord : (Cond.instanceMethod ({ cls := "RegularSolverModel", name := "firstWord", desc := "(II)J" } : MethodName)) ∈ gW := gm 1042 (by decide +kernel) (by decide +kernel)
theorem se_Mo_firstWord : (Cond.selects "RegularSolverModel" ({ cls := "RegularSolverModel", name := "firstWord", desc := "(II)J" } : MethodName) ({ cls := "RegularSolverModel", name := "firstWord", desc := "(II)J" } : MethodName)) ∈ gW := gs (by decide +kernel) (by decide +kernel)
theorem fl_Mo_72 : (Cond.fieldLink "RegularSolverModel" 72 "RegularSolverModel" "met" "[Z") ∈ gW := gm 865 (by decide +kernel) (by decide +kernel)
theorem fl_Mo_75 : (Cond.fieldLink "RegularSolverModel" 75 "RegularSolverModel" "todo" "[I") ∈ gW := gm 866 (by decide +kernel) (by decide +kernel)
section
variable {p : Program} {l : Launch} {e : Env} {R : Room} {s : State} {m : MethodId} {args : Array Value} {below : List Frame} {meth : Method} {c : Code} {H : Heap} {locs : List Loc} {cells slots : Nat} {Q : State → Prop} {A : Nat → Prop} {H0 : Heap}
variable {n : Nat} {D : va_G} {K : Nat → ClassId} {h : Nat} {a : Nat → Nat} {mErr : Int32} {mLanguages : Int32} {mBounds : Int32} {mSize : Nat → Int32} {mGoes : Nat → Int32} {mLast : Nat → Bool} {mLeft : Nat → Int32} {mNext : Nat → Int32} {mGroup : Nat → Int32} {mFresh : Nat → Int32} {mLeader : Nat → Int32} {mNumber : Nat → Int32} {mRight : Nat → Int64} {mEnds : Nat → Bool} {mWay : Int32} {mVariable : Nat → Int32} {mFactor : Nat → Int32} {mLeast : Nat → Int32} {mMost : Nat → Int32} {mLength : Nat → Int32} {mWord : Nat → Int64} {mKept : Bool} {mMany : Nat → Int64} {mMore : Nat → Int64} {mLeads : Nat → Int64} {mMet : Nat → Bool} {mTodo : Nat → Int32} {mMay : Nat → Bool} {mTries : Nat → Int32}
theorem pd_Mo_automaton : y_Mo_automaton.cls ≠ "java/lang/invoke/MethodHandle" ∧ y_Mo_automaton.cls ≠ "java/lang/invoke/VarHandle" ∧ (parseMethodDescriptor y_Mo_automaton.desc).map (fun d => d.parameters.length) = some 3 := by decide +kernel
def f_Mo_automaton_91 (n : Nat) (v1 : Int32) (mSize : Nat → Int32) (mLast : Nat → Bool) : Nat → Int32 → Int32 → Option (Int32 × Int32)
  | 0, _, _ => none
  | k + 1, v5, v4 =>
    ogd (gin v1 60) <|
    if (mSize v1.toNatClampNeg) ≤ v5 then
      some (v5, v4)
    else
      (f_Mo_isLast n v1 v5 mLast).bind fun u12 =>
      if u12 = true then
        f_Mo_automaton_91 n v1 mSize mLast k (v5 + 1) (v4 + 1)
      else
        f_Mo_automaton_91 n v1 mSize mLast k (v5 + 1) v4
set_option maxHeartbeats 4000000 in
set_option maxRecDepth 100000 in
theorem w_Mo_automaton_91  {v1 : Int32} {v2 : Int32} {v3 : Int32} (hx : p.tables.exec = Jvm.exec) (hb : c.code = b_Mo_automaton) (hml : c.maxLocals = 6) (hts : ∀ w ∈ gW, w.before args s = true) (hown : s.vm.findClass "RegularSolverModel" = some m.cls) (hK : va_K D vwCl (tG K) s) (hRf : 2 ≤ R.frames) (hRl : 46 ≤ R.locals) (hRc : cells ≤ R.cells) (hRs : slots ≤ R.slots) (hA : ∀ q, H0.size ≤ q → A q)  {out : Int32 × Int32} (Kx : ∀ (u : Int32 × Int32), out = u → ∀ (ls : Array Slot) (H : Heap) (locs : List Loc), va_P D vwCl (moW K h a mErr mLanguages mBounds mSize mGoes mLast mLeft mNext mGroup mFresh mLeader mNumber mRight mEnds mWay mVariable mFactor mLeast mMost mLength mWord mKept mMany mMore mLeads mMet mTodo mMay mTries) H → va_D A (moW K h a mErr mLanguages mBounds mSize mGoes mLast mLeft mNext mGroup mFresh mLeader mNumber mRight mEnds mWay mVariable mFactor mLeast mMost mLength mWord mKept mMany mMore mLeads mMet mTodo mMay mTries) → va_S A H0 H locs → lv_has ls 6 [(4, .int u.2), (0, .ref h), (1, .int v1), (2, .int v2), (3, .int v3)] → W p l e R s m args below meth c H locs cells slots Q (F0 m 121 ls [])) :
    ∀ (k : Nat) (v5 : Int32) (v4 : Int32), f_Mo_automaton_91 n v1 mSize mLast k v5 v4 = some out → ∀ (ls : Array Slot) (H : Heap) (locs : List Loc), va_P D vwCl (moW K h a mErr mLanguages mBounds mSize mGoes mLast mLeft mNext mGroup mFresh mLeader mNumber mRight mEnds mWay mVariable mFactor mLeast mMost mLength mWord mKept mMany mMore mLeads mMet mTodo mMay mTries) H → va_D A (moW K h a mErr mLanguages mBounds mSize mGoes mLast mLeft mNext mGroup mFresh mLeader mNumber mRight mEnds mWay mVariable mFactor mLeast mMost mLength mWord mKept mMany mMore mLeads mMet mTodo mMay mTries) → va_S A H0 H locs → lv_has ls 6 [(5, .int v5), (4, .int v4), (0, .ref h), (1, .int v1), (2, .int v2), (3, .int v3)] → W p l e R s m args below meth c H locs cells slots Q (F0 m 91 ls []) := by
  intro k
  induction k with
  | zero => intro _ _ hf; exact nomatch (show none = some out from hf)
  | succ k ih =>
    intro v5 v4 hf ls H locs hP hD hS hl
    rw [f_Mo_automaton_91] at hf
    refine lv_iload hx hb d_Mo_automaton_91 (lv_at hl 0 rfl) ?_
    refine lv_aload_n hx hb d_Mo_automaton_93 rfl (lv_at hl 2 rfl) ?_
    refine va_get (D := D) (ci := 0) (v := .ref (a 0)) (C := R_Mo) (T := T_Mo) (N := 29) hx hb hts in_Mo hown hK hP 0 rfl rfl 3 (by decide) (hts _ fl_Mo_9) (fun _ h9 => h9) rfl d_Mo_automaton_94 ?_
    refine lv_iload_n hx hb d_Mo_automaton_97 rfl (lv_at hl 3 rfl) ?_
    obtain ⟨g10, hf⟩ := ogi hf
    refine va_iald hx hb hK hP 1 0 rfl rfl (gin_in g10) d_Mo_automaton_98 ?_
    refine lv_icmp_ge (tgt := 121) hx hb d_Mo_automaton_99 (by decide) (fun c11 => ?_) (fun c11 => ?_)
    · rw [if_pos c11] at hf
      exact Kx _ (Option.some.inj hf).symm _ _ _ hP hD hS (show lv_has ls 6 [(4, .int v4), (0, .ref h), (1, .int v1), (2, .int v2), (3, .int v3)] from lv_sub hl [1, 2, 3, 4, 5] rfl)
    · rw [if_neg c11] at hf
      refine lv_aload_n hx hb d_Mo_automaton_102 rfl (lv_at hl 2 rfl) ?_
      refine lv_iload_n hx hb d_Mo_automaton_103 rfl (lv_at hl 3 rfl) ?_
      refine lv_iload hx hb d_Mo_automaton_104 (lv_at hl 0 rfl) ?_
      obtain ⟨u12, eu12, hf⟩ := obd hf
      refine p_call (W.runV (As := [.int v1, .int v5]) (rest := []) ⟨hx, hb, hml, hown, hts⟩ (c_Mo_isLast l eu12) (gV 2 hts cd_Mo_isLast ml_Mo_102 im_Mo_isLast se_Mo_isLast ini_Mo rfl rfl pd_Mo_isLast ⟨Nat.le_trans (Nat.le_of_ble_eq_true rfl) hRf, Nat.le_trans (Nat.le_of_ble_eq_true rfl) hRl⟩) ⟨pPre_blind, va_recv hK hP (ci := 0) (q0 := 0) rfl rfl, pPre_of hP hK⟩ rfl rfl hl.1 rfl (lv_room (Nat.le_of_ble_eq_true rfl)) d_Mo_automaton_106 ⟨hRc, hRs⟩) ?_
      refine bz_eq (tgt := 115) hx hb d_Mo_automaton_109 (by decide) (fun c13 => ?_) (fun c13 => ?_)
      · rw [if_neg c13] at hf
        refine lv_iinc (v := v5 + 1) (lv' := [(5, .int (v5 + 1)), (4, .int v4), (0, .ref h), (1, .int v1), (2, .int v2), (3, .int v3)]) hx hb d_Mo_automaton_115 hl (k := 0) rfl (by first | rfl | (congr 1)) (by decide) rfl (fun ls hl => ?_)
        refine lv_goto (tgt := 91) hx hb d_Mo_automaton_118 (by decide) ?_
        exact ih _ _ hf _ _ _ hP hD hS (show lv_has ls 6 [(5, .int (v5 + 1)), (4, .int v4), (0, .ref h), (1, .int v1), (2, .int v2), (3, .int v3)] from lv_sub hl [0, 1, 2, 3, 4, 5] rfl)
      · rw [if_pos c13] at hf
        refine lv_iinc (v := v4 + 1) (lv' := [(4, .int (v4 + 1)), (5, .int v5), (0, .ref h), (1, .int v1), (2, .int v2), (3, .int v3)]) hx hb d_Mo_automaton_112 hl (k := 1) rfl (by first | rfl | (congr 1)) (by decide) rfl (fun ls hl => ?_)
        refine lv_iinc (v := v5 + 1) (lv' := [(5, .int (v5 + 1)), (4, .int (v4 + 1)), (0, .ref h), (1, .int v1), (2, .int v2), (3, .int v3)]) hx hb d_Mo_automaton_115 hl (k := 1) rfl (by first | rfl | (congr 1)) (by decide) rfl (fun ls hl => ?_)
        refine lv_goto (tgt := 91) hx hb d_Mo_automaton_118 (by decide) ?_
        exact ih _ _ hf _ _ _ hP hD hS (show lv_has ls 6 [(5, .int (v5 + 1)), (4, .int (v4 + 1)), (0, .ref h), (1, .int v1), (2, .int v2), (3, .int v3)] from lv_sub hl [0, 1, 2, 3, 4, 5] rfl)
def f_Mo_automaton (n : Nat) (p0 : Int32) (p1 : Int32) (p2 : Int32) (mLanguages : Int32) (mSize : Nat → Int32) (mGoes : Nat → Int32) (mLast : Nat → Bool) : Option (Int32 × Int32) :=
  (f_Mo_isLanguage n p0 mLanguages).bind fun u1 =>
  if u1 = true then
    (f_Mo_in n p1.toInt64 0 3).bind fun u78 =>
    if u78 = true then
      (f_Mo_fails n false 1 0).bind fun u80 =>
      if u80.1 = true then
        some (0, u80.2)
      else
        if p1 ≤ 1 then
          (f_Mo_automaton_91 n p0 mSize mLast n 0 0).bind fun u83 =>
          if p1 = 0 then
            ogd (gin p0 60) <|
            some (mSize p0.toNatClampNeg, u80.2)
          else
            if p1 = 1 then
              some (u83.2, u80.2)
            else
              if p1 = 2 then
                (f_Mo_go n p0 (p2 / 4) (p2 - p2 / 4 * 4) mGoes).bind fun u89 =>
                some (u89, u80.2)
              else
                (f_Mo_isLast n p0 p2 mLast).bind fun u87 =>
                if u87 = true then
                  some (1, u80.2)
                else
                  some (0, u80.2)
        else
          if p2 < 0 then
            (f_Mo_fails n true 2 u80.2).bind fun u92 =>
            if u92.1 = true then
              some (0, u92.2)
            else
              (f_Mo_automaton_91 n p0 mSize mLast n 0 0).bind fun u94 =>
              if p1 = 0 then
                ogd (gin p0 60) <|
                some (mSize p0.toNatClampNeg, u92.2)
              else
                if p1 = 1 then
                  some (u94.2, u92.2)
                else
                  if p1 = 2 then
                    (f_Mo_go n p0 (p2 / 4) (p2 - p2 / 4 * 4) mGoes).bind fun u100 =>
                    some (u100, u92.2)
                  else
                    (f_Mo_isLast n p0 p2 mLast).bind fun u98 =>
                    if u98 = true then
                      some (1, u92.2)
                    else
                      some (0, u92.2)
          else
            if p1 = 2 then
              ogd (gin p0 60) <|
              if (p2 / 4) < (mSize p0.toNatClampNeg) then
                (f_Mo_fails n false 2 u80.2).bind fun u127 =>
                if u127.1 = true then
                  some (0, u127.2)
                else
                  (f_Mo_automaton_91 n p0 mSize mLast n 0 0).bind fun u129 =>
                  if p1 = 0 then
                    ogd (gin p0 60) <|
                    some (mSize p0.toNatClampNeg, u127.2)
                  else
                    if p1 = 1 then
                      some (u129.2, u127.2)
                    else
                      if p1 = 2 then
                        (f_Mo_go n p0 (p2 / 4) (p2 - p2 / 4 * 4) mGoes).bind fun u135 =>
                        some (u135, u127.2)
                      else
                        (f_Mo_isLast n p0 p2 mLast).bind fun u133 =>
                        if u133 = true then
                          some (1, u127.2)
                        else
                          some (0, u127.2)
              else
                (f_Mo_fails n true 2 u80.2).bind fun u137 =>
                if u137.1 = true then
                  some (0, u137.2)
                else
                  (f_Mo_automaton_91 n p0 mSize mLast n 0 0).bind fun u139 =>
                  if p1 = 0 then
                    ogd (gin p0 60) <|
                    some (mSize p0.toNatClampNeg, u137.2)
                  else
                    if p1 = 1 then
                      some (u139.2, u137.2)
                    else
                      if p1 = 2 then
                        (f_Mo_go n p0 (p2 / 4) (p2 - p2 / 4 * 4) mGoes).bind fun u145 =>
                        some (u145, u137.2)
                      else
                        (f_Mo_isLast n p0 p2 mLast).bind fun u143 =>
                        if u143 = true then
                          some (1, u137.2)
                        else
                          some (0, u137.2)
            else
              ogd (gin p0 60) <|
              if p2 < (mSize p0.toNatClampNeg) then
                (f_Mo_fails n false 2 u80.2).bind fun u105 =>
                if u105.1 = true then
                  some (0, u105.2)
                else
                  (f_Mo_automaton_91 n p0 mSize mLast n 0 0).bind fun u107 =>
                  if p1 = 0 then
                    ogd (gin p0 60) <|
                    some (mSize p0.toNatClampNeg, u105.2)
                  else
                    if p1 = 1 then
                      some (u107.2, u105.2)
                    else
                      if p1 = 2 then
                        (f_Mo_go n p0 (p2 / 4) (p2 - p2 / 4 * 4) mGoes).bind fun u113 =>
                        some (u113, u105.2)
                      else
                        (f_Mo_isLast n p0 p2 mLast).bind fun u111 =>
                        if u111 = true then
                          some (1, u105.2)
                        else
                          some (0, u105.2)
              else
                (f_Mo_fails n true 2 u80.2).bind fun u115 =>
                if u115.1 = true then
                  some (0, u115.2)
                else
                  (f_Mo_automaton_91 n p0 mSize mLast n 0 0).bind fun u117 =>
                  if p1 = 0 then
                    ogd (gin p0 60) <|
                    some (mSize p0.toNatClampNeg, u115.2)
                  else
                    if p1 = 1 then
                      some (u117.2, u115.2)
                    else
                      if p1 = 2 then
                        (f_Mo_go n p0 (p2 / 4) (p2 - p2 / 4 * 4) mGoes).bind fun u123 =>
                        some (u123, u115.2)
                      else
                        (f_Mo_isLast n p0 p2 mLast).bind fun u121 =>
                        if u121 = true then
                          some (1, u115.2)
                        else
                          some (0, u115.2)
    else
      (f_Mo_fails n true 1 0).bind fun u147 =>
      if u147.1 = true then
        some (0, u147.2)
      else
        if p1 ≤ 1 then
          (f_Mo_automaton_91 n p0 mSize mLast n 0 0).bind fun u150 =>
          if p1 = 0 then
            ogd (gin p0 60) <|
            some (mSize p0.toNatClampNeg, u147.2)
          else
            if p1 = 1 then
              some (u150.2, u147.2)
            else
              if p1 = 2 then
                (f_Mo_go n p0 (p2 / 4) (p2 - p2 / 4 * 4) mGoes).bind fun u156 =>
                some (u156, u147.2)
              else
                (f_Mo_isLast n p0 p2 mLast).bind fun u154 =>
                if u154 = true then
                  some (1, u147.2)
                else
                  some (0, u147.2)
        else
          if p2 < 0 then
            (f_Mo_fails n true 2 u147.2).bind fun u159 =>
            if u159.1 = true then
              some (0, u159.2)
            else
              (f_Mo_automaton_91 n p0 mSize mLast n 0 0).bind fun u161 =>
              if p1 = 0 then
                ogd (gin p0 60) <|
                some (mSize p0.toNatClampNeg, u159.2)
              else
                if p1 = 1 then
                  some (u161.2, u159.2)
                else
                  if p1 = 2 then
                    (f_Mo_go n p0 (p2 / 4) (p2 - p2 / 4 * 4) mGoes).bind fun u167 =>
                    some (u167, u159.2)
                  else
                    (f_Mo_isLast n p0 p2 mLast).bind fun u165 =>
                    if u165 = true then
                      some (1, u159.2)
                    else
                      some (0, u159.2)
          else
            if p1 = 2 then
              ogd (gin p0 60) <|
              if (p2 / 4) < (mSize p0.toNatClampNeg) then
                (f_Mo_fails n false 2 u147.2).bind fun u194 =>
                if u194.1 = true then
                  some (0, u194.2)
                else
                  (f_Mo_automaton_91 n p0 mSize mLast n 0 0).bind fun u196 =>
                  if p1 = 0 then
                    ogd (gin p0 60) <|
                    some (mSize p0.toNatClampNeg, u194.2)
                  else
                    if p1 = 1 then
                      some (u196.2, u194.2)
                    else
                      if p1 = 2 then
                        (f_Mo_go n p0 (p2 / 4) (p2 - p2 / 4 * 4) mGoes).bind fun u202 =>
                        some (u202, u194.2)
                      else
                        (f_Mo_isLast n p0 p2 mLast).bind fun u200 =>
                        if u200 = true then
                          some (1, u194.2)
                        else
                          some (0, u194.2)
              else
                (f_Mo_fails n true 2 u147.2).bind fun u204 =>
                if u204.1 = true then
                  some (0, u204.2)
                else
                  (f_Mo_automaton_91 n p0 mSize mLast n 0 0).bind fun u206 =>
                  if p1 = 0 then
                    ogd (gin p0 60) <|
                    some (mSize p0.toNatClampNeg, u204.2)
                  else
                    if p1 = 1 then
                      some (u206.2, u204.2)
                    else
                      if p1 = 2 then
                        (f_Mo_go n p0 (p2 / 4) (p2 - p2 / 4 * 4) mGoes).bind fun u212 =>
                        some (u212, u204.2)
                      else
                        (f_Mo_isLast n p0 p2 mLast).bind fun u210 =>
                        if u210 = true then
                          some (1, u204.2)
                        else
                          some (0, u204.2)
            else
              ogd (gin p0 60) <|
              if p2 < (mSize p0.toNatClampNeg) then
                (f_Mo_fails n false 2 u147.2).bind fun u172 =>
                if u172.1 = true then
                  some (0, u172.2)
                else
                  (f_Mo_automaton_91 n p0 mSize mLast n 0 0).bind fun u174 =>
                  if p1 = 0 then
                    ogd (gin p0 60) <|
                    some (mSize p0.toNatClampNeg, u172.2)
                  else
                    if p1 = 1 then
                      some (u174.2, u172.2)
                    else
                      if p1 = 2 then
                        (f_Mo_go n p0 (p2 / 4) (p2 - p2 / 4 * 4) mGoes).bind fun u180 =>
                        some (u180, u172.2)
                      else
                        (f_Mo_isLast n p0 p2 mLast).bind fun u178 =>
                        if u178 = true then
                          some (1, u172.2)
                        else
                          some (0, u172.2)
              else
                (f_Mo_fails n true 2 u147.2).bind fun u182 =>
                if u182.1 = true then
                  some (0, u182.2)
                else
                  (f_Mo_automaton_91 n p0 mSize mLast n 0 0).bind fun u184 =>
                  if p1 = 0 then
                    ogd (gin p0 60) <|
                    some (mSize p0.toNatClampNeg, u182.2)
                  else
                    if p1 = 1 then
                      some (u184.2, u182.2)
                    else
                      if p1 = 2 then
                        (f_Mo_go n p0 (p2 / 4) (p2 - p2 / 4 * 4) mGoes).bind fun u190 =>
                        some (u190, u182.2)
                      else
                        (f_Mo_isLast n p0 p2 mLast).bind fun u188 =>
                        if u188 = true then
                          some (1, u182.2)
                        else
                          some (0, u182.2)
  else
    (f_Mo_fails n true 1 0).bind fun u3 =>
    if u3.1 = true then
      some (0, u3.2)
    else
      if p1 ≤ 1 then
        (f_Mo_automaton_91 n p0 mSize mLast n 0 0).bind fun u14 =>
        if p1 = 0 then
          ogd (gin p0 60) <|
          some (mSize p0.toNatClampNeg, u3.2)
        else
          if p1 = 1 then
            some (u14.2, u3.2)
          else
            if p1 = 2 then
              (f_Mo_go n p0 (p2 / 4) (p2 - p2 / 4 * 4) mGoes).bind fun u20 =>
              some (u20, u3.2)
            else
              (f_Mo_isLast n p0 p2 mLast).bind fun u18 =>
              if u18 = true then
                some (1, u3.2)
              else
                some (0, u3.2)
      else
        if p2 < 0 then
          (f_Mo_fails n true 2 u3.2).bind fun u23 =>
          if u23.1 = true then
            some (0, u23.2)
          else
            (f_Mo_automaton_91 n p0 mSize mLast n 0 0).bind fun u25 =>
            if p1 = 0 then
              ogd (gin p0 60) <|
              some (mSize p0.toNatClampNeg, u23.2)
            else
              if p1 = 1 then
                some (u25.2, u23.2)
              else
                if p1 = 2 then
                  (f_Mo_go n p0 (p2 / 4) (p2 - p2 / 4 * 4) mGoes).bind fun u31 =>
                  some (u31, u23.2)
                else
                  (f_Mo_isLast n p0 p2 mLast).bind fun u29 =>
                  if u29 = true then
                    some (1, u23.2)
                  else
                    some (0, u23.2)
        else
          if p1 = 2 then
            ogd (gin p0 60) <|
            if (p2 / 4) < (mSize p0.toNatClampNeg) then
              (f_Mo_fails n false 2 u3.2).bind fun u58 =>
              if u58.1 = true then
                some (0, u58.2)
              else
                (f_Mo_automaton_91 n p0 mSize mLast n 0 0).bind fun u60 =>
                if p1 = 0 then
                  ogd (gin p0 60) <|
                  some (mSize p0.toNatClampNeg, u58.2)
                else
                  if p1 = 1 then
                    some (u60.2, u58.2)
                  else
                    if p1 = 2 then
                      (f_Mo_go n p0 (p2 / 4) (p2 - p2 / 4 * 4) mGoes).bind fun u66 =>
                      some (u66, u58.2)
                    else
                      (f_Mo_isLast n p0 p2 mLast).bind fun u64 =>
                      if u64 = true then
                        some (1, u58.2)
                      else
                        some (0, u58.2)
            else
              (f_Mo_fails n true 2 u3.2).bind fun u68 =>
              if u68.1 = true then
                some (0, u68.2)
              else
                (f_Mo_automaton_91 n p0 mSize mLast n 0 0).bind fun u70 =>
                if p1 = 0 then
                  ogd (gin p0 60) <|
                  some (mSize p0.toNatClampNeg, u68.2)
                else
                  if p1 = 1 then
                    some (u70.2, u68.2)
                  else
                    if p1 = 2 then
                      (f_Mo_go n p0 (p2 / 4) (p2 - p2 / 4 * 4) mGoes).bind fun u76 =>
                      some (u76, u68.2)
                    else
                      (f_Mo_isLast n p0 p2 mLast).bind fun u74 =>
                      if u74 = true then
                        some (1, u68.2)
                      else
                        some (0, u68.2)
          else
            ogd (gin p0 60) <|
            if p2 < (mSize p0.toNatClampNeg) then
              (f_Mo_fails n false 2 u3.2).bind fun u36 =>
              if u36.1 = true then
                some (0, u36.2)
              else
                (f_Mo_automaton_91 n p0 mSize mLast n 0 0).bind fun u38 =>
                if p1 = 0 then
                  ogd (gin p0 60) <|
                  some (mSize p0.toNatClampNeg, u36.2)
                else
                  if p1 = 1 then
                    some (u38.2, u36.2)
                  else
                    if p1 = 2 then
                      (f_Mo_go n p0 (p2 / 4) (p2 - p2 / 4 * 4) mGoes).bind fun u44 =>
                      some (u44, u36.2)
                    else
                      (f_Mo_isLast n p0 p2 mLast).bind fun u42 =>
                      if u42 = true then
                        some (1, u36.2)
                      else
                        some (0, u36.2)
            else
              (f_Mo_fails n true 2 u3.2).bind fun u46 =>
              if u46.1 = true then
                some (0, u46.2)
              else
                (f_Mo_automaton_91 n p0 mSize mLast n 0 0).bind fun u48 =>
                if p1 = 0 then
                  ogd (gin p0 60) <|
                  some (mSize p0.toNatClampNeg, u46.2)
                else
                  if p1 = 1 then
                    some (u48.2, u46.2)
                  else
                    if p1 = 2 then
                      (f_Mo_go n p0 (p2 / 4) (p2 - p2 / 4 * 4) mGoes).bind fun u54 =>
                      some (u54, u46.2)
                    else
                      (f_Mo_isLast n p0 p2 mLast).bind fun u52 =>
                      if u52 = true then
                        some (1, u46.2)
                      else
                        some (0, u46.2)
set_option maxHeartbeats 4000000 in
set_option maxRecDepth 100000 in
theorem w_Mo_automaton  {p0 : Int32} {p1 : Int32} {p2 : Int32}  (hx : p.tables.exec = Jvm.exec) (hb : c.code = b_Mo_automaton) (hml : c.maxLocals = 6) (hts : ∀ w ∈ gW, w.before args s = true) (hown : s.vm.findClass "RegularSolverModel" = some m.cls) (hK : va_K D vwCl (tG K) s) (hRf : 2 ≤ R.frames) (hRl : 46 ≤ R.locals) (hRc : cells ≤ R.cells) (hRs : slots ≤ R.slots) (hA : ∀ q, H0.size ≤ q → A q) {out : Int32 × Int32} (Kr : ∀ (r : Int32 × Int32), out = r → ∀ (pc : Nat) (ls : Array Slot) (H : Heap) (locs : List Loc), decode b_Mo_automaton pc = .ok (.ireturn, 1) → va_P D vwCl (moW K h a r.2 mLanguages mBounds mSize mGoes mLast mLeft mNext mGroup mFresh mLeader mNumber mRight mEnds mWay mVariable mFactor mLeast mMost mLength mWord mKept mMany mMore mLeads mMet mTodo mMay mTries) H → va_D A (moW K h a r.2 mLanguages mBounds mSize mGoes mLast mLeft mNext mGroup mFresh mLeader mNumber mRight mEnds mWay mVariable mFactor mLeast mMost mLength mWord mKept mMany mMore mLeads mMet mTodo mMay mTries) → va_S A H0 H locs → W p l e R s m args below meth c H locs cells slots Q (F0 m pc ls [.int r.1])) (hf : f_Mo_automaton n p0 p1 p2 mLanguages mSize mGoes mLast = some out) (ls : Array Slot) (hP : va_P D vwCl (moW K h a mErr mLanguages mBounds mSize mGoes mLast mLeft mNext mGroup mFresh mLeader mNumber mRight mEnds mWay mVariable mFactor mLeast mMost mLength mWord mKept mMany mMore mLeads mMet mTodo mMay mTries) H) (hD : va_D A (moW K h a mErr mLanguages mBounds mSize mGoes mLast mLeft mNext mGroup mFresh mLeader mNumber mRight mEnds mWay mVariable mFactor mLeast mMost mLength mWord mKept mMany mMore mLeads mMet mTodo mMay mTries)) (hS : va_S A H0 H locs) (hl : lv_has ls 6 [(0, .ref h), (1, .int p0), (2, .int p1), (3, .int p2)]) : W p l e R s m args below meth c H locs cells slots Q (F0 m 0 ls []) := by
  unfold f_Mo_automaton at hf
  refine lv_aload_n hx hb d_Mo_automaton_0 rfl (lv_at hl 0 rfl) ?_
  refine lv_iconst (v := 0) hx hb d_Mo_automaton_1 (by decide) ?_
  refine va_put (D := D) (ci := 0) (v := .int 0) (ty := .int) (C := R_Mo) (T := T_Mo) (N := 29) hx hb hts in_Mo t_Mo t_Mo_ok n_Mo hown hK hP hD hS 0 rfl rfl 0 (by decide) (hts _ fl_Mo_84) (fun _ h9 => h9) rfl (by decide +kernel) rfl rfl (Nat.le_of_ble_eq_true rfl) d_Mo_automaton_2 (fun H locs hP hD hS => ?_)
  have hP : va_P D vwCl (moW K h a 0 mLanguages mBounds mSize mGoes mLast mLeft mNext mGroup mFresh mLeader mNumber mRight mEnds mWay mVariable mFactor mLeast mMost mLength mWord mKept mMany mMore mLeads mMet mTodo mMay mTries) H := hP
  have hD : va_D A (moW K h a 0 mLanguages mBounds mSize mGoes mLast mLeft mNext mGroup mFresh mLeader mNumber mRight mEnds mWay mVariable mFactor mLeast mMost mLength mWord mKept mMany mMore mLeads mMet mTodo mMay mTries) := hD
  refine lv_aload_n hx hb d_Mo_automaton_5 rfl (lv_at hl 0 rfl) ?_
  refine lv_aload_n hx hb d_Mo_automaton_6 rfl (lv_at hl 0 rfl) ?_
  refine lv_iload_n hx hb d_Mo_automaton_7 rfl (lv_at hl 1 rfl) ?_
  obtain ⟨u1, eu1, hf⟩ := obd hf
  refine p_call (W.runV (As := [.int p0]) (rest := [.ref h]) ⟨hx, hb, hml, hown, hts⟩ (c_Mo_isLanguage l eu1) (gV 1 hts cd_Mo_isLanguage ml_Mo_138 im_Mo_isLanguage se_Mo_isLanguage ini_Mo rfl rfl pd_Mo_isLanguage ⟨Nat.le_trans (Nat.le_of_ble_eq_true rfl) hRf, Nat.le_trans (Nat.le_of_ble_eq_true rfl) hRl⟩) ⟨pPre_blind, va_recv hK hP (ci := 0) (q0 := 0) rfl rfl, pPre_of hP hK⟩ rfl rfl hl.1 rfl (lv_room (Nat.le_of_ble_eq_true rfl)) d_Mo_automaton_8 ⟨hRc, hRs⟩) ?_
  refine bz_eq (tgt := 26) hx hb d_Mo_automaton_11 (by decide) (fun c2 => ?_) (fun c2 => ?_)
  · rw [if_neg c2] at hf
    refine lv_iconst (v := 1) hx hb d_Mo_automaton_26 (by decide) ?_
    refine lv_goto (tgt := 31) hx hb d_Mo_automaton_27 (by decide) ?_
    refine lv_iconst (v := 1) hx hb d_Mo_automaton_31 (by decide) ?_
    obtain ⟨u3, eu3, hf⟩ := obd hf
    refine w_call (va_runV (As := [.int (bI true), .int 1]) (rest := []) ⟨hx, hb, hml, hown, hts⟩ (c_Mo_fails l H.size eu3) (gV 2 hts cd_Mo_fails ml_Mo_124 im_Mo_fails se_Mo_fails ini_Mo rfl rfl pd_Mo_fails ⟨Nat.le_trans (Nat.le_of_ble_eq_true rfl) hRf, Nat.le_trans (Nat.le_of_ble_eq_true rfl) hRl⟩) ⟨wPre_blind, va_recv hK hP (ci := 0) (q0 := 0) rfl rfl, wPre_of hP hK hD⟩ rfl rfl hl.1 rfl (lv_room (Nat.le_of_ble_eq_true rfl)) d_Mo_automaton_32 ⟨hRc, hRs⟩) hD hS hA (fun H locs hP hD hS => ?_)
    have hP : va_P D vwCl (moW K h a u3.2 mLanguages mBounds mSize mGoes mLast mLeft mNext mGroup mFresh mLeader mNumber mRight mEnds mWay mVariable mFactor mLeast mMost mLength mWord mKept mMany mMore mLeads mMet mTodo mMay mTries) H := hP
    have hD : va_D A (moW K h a u3.2 mLanguages mBounds mSize mGoes mLast mLeft mNext mGroup mFresh mLeader mNumber mRight mEnds mWay mVariable mFactor mLeast mMost mLength mWord mKept mMany mMore mLeads mMet mTodo mMay mTries) := hD
    refine bz_eq (tgt := 40) hx hb d_Mo_automaton_35 (by decide) (fun c4 => ?_) (fun c4 => ?_)
    · rw [if_neg c4] at hf
      refine lv_iload_n hx hb d_Mo_automaton_40 rfl (lv_at hl 2 rfl) ?_
      refine lv_iconst (v := 1) hx hb d_Mo_automaton_41 (by decide) ?_
      refine lv_icmp_le (tgt := 85) hx hb d_Mo_automaton_42 (by decide) (fun c5 => ?_) (fun c5 => ?_)
      · rw [if_pos c5] at hf
        refine lv_iconst (v := 0) hx hb d_Mo_automaton_85 (by decide) ?_
        refine lv_istore (lv' := [(4, .int 0), (0, .ref h), (1, .int p0), (2, .int p1), (3, .int p2)]) hx hb d_Mo_automaton_86 hl (by decide) rfl (fun ls hl => ?_)
        refine lv_iconst (v := 0) hx hb d_Mo_automaton_88 (by decide) ?_
        refine lv_istore (lv' := [(5, .int 0), (4, .int 0), (0, .ref h), (1, .int p0), (2, .int p1), (3, .int p2)]) hx hb d_Mo_automaton_89 hl (by decide) rfl (fun ls hl => ?_)
        obtain ⟨u14, eu14, hf⟩ := obd hf
        refine w_Mo_automaton_91 hx hb hml hts hown hK hRf hRl hRc hRs hA  (fun u14q eu ls H locs hP hD hS hl => ?_) _ _ _ eu14 _ _ _ hP hD hS (show lv_has ls 6 [(5, .int 0), (4, .int 0), (0, .ref h), (1, .int p0), (2, .int p1), (3, .int p2)] from lv_sub hl [0, 1, 2, 3, 4, 5] rfl)
        subst eu
        refine lv_iload_n hx hb d_Mo_automaton_121 rfl (lv_at hl 3 rfl) ?_
        refine lv_if_ne (tgt := 134) hx hb d_Mo_automaton_122 (by decide) (fun c15 => ?_) (fun c15 => ?_)
        · rw [if_neg c15] at hf
          refine lv_iload_n hx hb d_Mo_automaton_134 rfl (lv_at hl 3 rfl) ?_
          refine lv_iconst (v := 1) hx hb d_Mo_automaton_135 (by decide) ?_
          refine lv_icmp_ne (tgt := 144) hx hb d_Mo_automaton_136 (by decide) (fun c16 => ?_) (fun c16 => ?_)
          · rw [if_neg c16] at hf
            refine lv_iload_n hx hb d_Mo_automaton_144 rfl (lv_at hl 3 rfl) ?_
            refine lv_iconst (v := 2) hx hb d_Mo_automaton_145 (by decide) ?_
            refine lv_icmp_ne (tgt := 163) hx hb d_Mo_automaton_146 (by decide) (fun c17 => ?_) (fun c17 => ?_)
            · rw [if_neg c17] at hf
              refine lv_aload_n hx hb d_Mo_automaton_163 rfl (lv_at hl 1 rfl) ?_
              refine lv_iload_n hx hb d_Mo_automaton_164 rfl (lv_at hl 2 rfl) ?_
              refine lv_iload_n hx hb d_Mo_automaton_165 rfl (lv_at hl 4 rfl) ?_
              obtain ⟨u18, eu18, hf⟩ := obd hf
              refine p_call (W.runV (As := [.int p0, .int p2]) (rest := []) ⟨hx, hb, hml, hown, hts⟩ (c_Mo_isLast l eu18) (gV 2 hts cd_Mo_isLast ml_Mo_102 im_Mo_isLast se_Mo_isLast ini_Mo rfl rfl pd_Mo_isLast ⟨Nat.le_trans (Nat.le_of_ble_eq_true rfl) hRf, Nat.le_trans (Nat.le_of_ble_eq_true rfl) hRl⟩) ⟨pPre_blind, va_recv hK hP (ci := 0) (q0 := 0) rfl rfl, pPre_of hP hK⟩ rfl rfl hl.1 rfl (lv_room (Nat.le_of_ble_eq_true rfl)) d_Mo_automaton_166 ⟨hRc, hRs⟩) ?_
              refine bz_eq (tgt := 176) hx hb d_Mo_automaton_169 (by decide) (fun c19 => ?_) (fun c19 => ?_)
              · rw [if_neg c19] at hf
                refine lv_iconst (v := 0) hx hb d_Mo_automaton_176 (by decide) ?_
                exact Kr _ (Option.some.inj hf).symm _ _ _ _ d_Mo_automaton_177 hP hD hS
              · rw [if_pos c19] at hf
                refine lv_iconst (v := 1) hx hb d_Mo_automaton_172 (by decide) ?_
                refine lv_goto (tgt := 177) hx hb d_Mo_automaton_173 (by decide) ?_
                exact Kr _ (Option.some.inj hf).symm _ _ _ _ d_Mo_automaton_177 hP hD hS
            · rw [if_pos c17] at hf
              refine lv_aload_n hx hb d_Mo_automaton_149 rfl (lv_at hl 1 rfl) ?_
              refine lv_iload_n hx hb d_Mo_automaton_150 rfl (lv_at hl 2 rfl) ?_
              refine lv_iload_n hx hb d_Mo_automaton_151 rfl (lv_at hl 4 rfl) ?_
              refine lv_iconst (v := 4) hx hb d_Mo_automaton_152 (by decide) ?_
              refine lv_idiv hx hb d_Mo_automaton_153 (by decide) ?_
              refine lv_iload_n hx hb d_Mo_automaton_154 rfl (lv_at hl 4 rfl) ?_
              refine lv_iconst (v := 4) hx hb d_Mo_automaton_155 (by decide) ?_
              refine lv_irem hx hb d_Mo_automaton_156 (by decide) ?_
              obtain ⟨u20, eu20, hf⟩ := obd hf
              refine p_call (W.runV (As := [.int p0, .int (p2 / 4), .int (p2 - p2 / 4 * 4)]) (rest := []) ⟨hx, hb, hml, hown, hts⟩ (c_Mo_go l eu20) (gV 3 hts cd_Mo_go ml_Mo_98 im_Mo_go se_Mo_go ini_Mo rfl rfl pd_Mo_go ⟨Nat.le_trans (Nat.le_of_ble_eq_true rfl) hRf, Nat.le_trans (Nat.le_of_ble_eq_true rfl) hRl⟩) ⟨pPre_blind, va_recv hK hP (ci := 0) (q0 := 0) rfl rfl, pPre_of hP hK⟩ rfl rfl hl.1 rfl (lv_room (Nat.le_of_ble_eq_true rfl)) d_Mo_automaton_157 ⟨hRc, hRs⟩) ?_
              refine lv_goto (tgt := 177) hx hb d_Mo_automaton_160 (by decide) ?_
              exact Kr _ (Option.some.inj hf).symm _ _ _ _ d_Mo_automaton_177 hP hD hS
          · rw [if_pos c16] at hf
            refine lv_iload hx hb d_Mo_automaton_139 (lv_at hl 0 rfl) ?_
            refine lv_goto (tgt := 177) hx hb d_Mo_automaton_141 (by decide) ?_
            exact Kr _ (Option.some.inj hf).symm _ _ _ _ d_Mo_automaton_177 hP hD hS
        · rw [if_pos c15] at hf
          refine lv_aload_n hx hb d_Mo_automaton_125 rfl (lv_at hl 1 rfl) ?_
          refine va_get (D := D) (ci := 0) (v := .ref (a 0)) (C := R_Mo) (T := T_Mo) (N := 29) hx hb hts in_Mo hown hK hP 0 rfl rfl 3 (by decide) (hts _ fl_Mo_9) (fun _ h9 => h9) rfl d_Mo_automaton_126 ?_
          refine lv_iload_n hx hb d_Mo_automaton_129 rfl (lv_at hl 2 rfl) ?_
          obtain ⟨g21, hf⟩ := ogi hf
          refine va_iald hx hb hK hP 1 0 rfl rfl (gin_in g21) d_Mo_automaton_130 ?_
          refine lv_goto (tgt := 177) hx hb d_Mo_automaton_131 (by decide) ?_
          exact Kr _ (Option.some.inj hf).symm _ _ _ _ d_Mo_automaton_177 hP hD hS
      · rw [if_neg c5] at hf
        refine lv_aload_n hx hb d_Mo_automaton_45 rfl (lv_at hl 0 rfl) ?_
        refine lv_iload_n hx hb d_Mo_automaton_46 rfl (lv_at hl 3 rfl) ?_
        refine lv_if_lt (tgt := 71) hx hb d_Mo_automaton_47 (by decide) (fun c22 => ?_) (fun c22 => ?_)
        · rw [if_pos c22] at hf
          refine lv_iconst (v := 1) hx hb d_Mo_automaton_71 (by decide) ?_
          refine lv_goto (tgt := 76) hx hb d_Mo_automaton_72 (by decide) ?_
          refine lv_iconst (v := 2) hx hb d_Mo_automaton_76 (by decide) ?_
          obtain ⟨u23, eu23, hf⟩ := obd hf
          refine w_call (va_runV (As := [.int (bI true), .int 2]) (rest := []) ⟨hx, hb, hml, hown, hts⟩ (c_Mo_fails l H.size eu23) (gV 2 hts cd_Mo_fails ml_Mo_124 im_Mo_fails se_Mo_fails ini_Mo rfl rfl pd_Mo_fails ⟨Nat.le_trans (Nat.le_of_ble_eq_true rfl) hRf, Nat.le_trans (Nat.le_of_ble_eq_true rfl) hRl⟩) ⟨wPre_blind, va_recv hK hP (ci := 0) (q0 := 0) rfl rfl, wPre_of hP hK hD⟩ rfl rfl hl.1 rfl (lv_room (Nat.le_of_ble_eq_true rfl)) d_Mo_automaton_77 ⟨hRc, hRs⟩) hD hS hA (fun H locs hP hD hS => ?_)
          have hP : va_P D vwCl (moW K h a u23.2 mLanguages mBounds mSize mGoes mLast mLeft mNext mGroup mFresh mLeader mNumber mRight mEnds mWay mVariable mFactor mLeast mMost mLength mWord mKept mMany mMore mLeads mMet mTodo mMay mTries) H := hP
          have hD : va_D A (moW K h a u23.2 mLanguages mBounds mSize mGoes mLast mLeft mNext mGroup mFresh mLeader mNumber mRight mEnds mWay mVariable mFactor mLeast mMost mLength mWord mKept mMany mMore mLeads mMet mTodo mMay mTries) := hD
          refine bz_eq (tgt := 85) hx hb d_Mo_automaton_80 (by decide) (fun c24 => ?_) (fun c24 => ?_)
          · rw [if_neg c24] at hf
            refine lv_iconst (v := 0) hx hb d_Mo_automaton_85 (by decide) ?_
            refine lv_istore (lv' := [(4, .int 0), (0, .ref h), (1, .int p0), (2, .int p1), (3, .int p2)]) hx hb d_Mo_automaton_86 hl (by decide) rfl (fun ls hl => ?_)
            refine lv_iconst (v := 0) hx hb d_Mo_automaton_88 (by decide) ?_
            refine lv_istore (lv' := [(5, .int 0), (4, .int 0), (0, .ref h), (1, .int p0), (2, .int p1), (3, .int p2)]) hx hb d_Mo_automaton_89 hl (by decide) rfl (fun ls hl => ?_)
            obtain ⟨u25, eu25, hf⟩ := obd hf
            refine w_Mo_automaton_91 hx hb hml hts hown hK hRf hRl hRc hRs hA  (fun u25q eu ls H locs hP hD hS hl => ?_) _ _ _ eu25 _ _ _ hP hD hS (show lv_has ls 6 [(5, .int 0), (4, .int 0), (0, .ref h), (1, .int p0), (2, .int p1), (3, .int p2)] from lv_sub hl [0, 1, 2, 3, 4, 5] rfl)
            subst eu
            refine lv_iload_n hx hb d_Mo_automaton_121 rfl (lv_at hl 3 rfl) ?_
            refine lv_if_ne (tgt := 134) hx hb d_Mo_automaton_122 (by decide) (fun c26 => ?_) (fun c26 => ?_)
            · rw [if_neg c26] at hf
              refine lv_iload_n hx hb d_Mo_automaton_134 rfl (lv_at hl 3 rfl) ?_
              refine lv_iconst (v := 1) hx hb d_Mo_automaton_135 (by decide) ?_
              refine lv_icmp_ne (tgt := 144) hx hb d_Mo_automaton_136 (by decide) (fun c27 => ?_) (fun c27 => ?_)
              · rw [if_neg c27] at hf
                refine lv_iload_n hx hb d_Mo_automaton_144 rfl (lv_at hl 3 rfl) ?_
                refine lv_iconst (v := 2) hx hb d_Mo_automaton_145 (by decide) ?_
                refine lv_icmp_ne (tgt := 163) hx hb d_Mo_automaton_146 (by decide) (fun c28 => ?_) (fun c28 => ?_)
                · rw [if_neg c28] at hf
                  refine lv_aload_n hx hb d_Mo_automaton_163 rfl (lv_at hl 1 rfl) ?_
                  refine lv_iload_n hx hb d_Mo_automaton_164 rfl (lv_at hl 2 rfl) ?_
                  refine lv_iload_n hx hb d_Mo_automaton_165 rfl (lv_at hl 4 rfl) ?_
                  obtain ⟨u29, eu29, hf⟩ := obd hf
                  refine p_call (W.runV (As := [.int p0, .int p2]) (rest := []) ⟨hx, hb, hml, hown, hts⟩ (c_Mo_isLast l eu29) (gV 2 hts cd_Mo_isLast ml_Mo_102 im_Mo_isLast se_Mo_isLast ini_Mo rfl rfl pd_Mo_isLast ⟨Nat.le_trans (Nat.le_of_ble_eq_true rfl) hRf, Nat.le_trans (Nat.le_of_ble_eq_true rfl) hRl⟩) ⟨pPre_blind, va_recv hK hP (ci := 0) (q0 := 0) rfl rfl, pPre_of hP hK⟩ rfl rfl hl.1 rfl (lv_room (Nat.le_of_ble_eq_true rfl)) d_Mo_automaton_166 ⟨hRc, hRs⟩) ?_
                  refine bz_eq (tgt := 176) hx hb d_Mo_automaton_169 (by decide) (fun c30 => ?_) (fun c30 => ?_)
                  · rw [if_neg c30] at hf
                    refine lv_iconst (v := 0) hx hb d_Mo_automaton_176 (by decide) ?_
                    exact Kr _ (Option.some.inj hf).symm _ _ _ _ d_Mo_automaton_177 hP hD hS
                  · rw [if_pos c30] at hf
                    refine lv_iconst (v := 1) hx hb d_Mo_automaton_172 (by decide) ?_
                    refine lv_goto (tgt := 177) hx hb d_Mo_automaton_173 (by decide) ?_
                    exact Kr _ (Option.some.inj hf).symm _ _ _ _ d_Mo_automaton_177 hP hD hS
                · rw [if_pos c28] at hf
                  refine lv_aload_n hx hb d_Mo_automaton_149 rfl (lv_at hl 1 rfl) ?_
                  refine lv_iload_n hx hb d_Mo_automaton_150 rfl (lv_at hl 2 rfl) ?_
                  refine lv_iload_n hx hb d_Mo_automaton_151 rfl (lv_at hl 4 rfl) ?_
                  refine lv_iconst (v := 4) hx hb d_Mo_automaton_152 (by decide) ?_
                  refine lv_idiv hx hb d_Mo_automaton_153 (by decide) ?_
                  refine lv_iload_n hx hb d_Mo_automaton_154 rfl (lv_at hl 4 rfl) ?_
                  refine lv_iconst (v := 4) hx hb d_Mo_automaton_155 (by decide) ?_
                  refine lv_irem hx hb d_Mo_automaton_156 (by decide) ?_
                  obtain ⟨u31, eu31, hf⟩ := obd hf
                  refine p_call (W.runV (As := [.int p0, .int (p2 / 4), .int (p2 - p2 / 4 * 4)]) (rest := []) ⟨hx, hb, hml, hown, hts⟩ (c_Mo_go l eu31) (gV 3 hts cd_Mo_go ml_Mo_98 im_Mo_go se_Mo_go ini_Mo rfl rfl pd_Mo_go ⟨Nat.le_trans (Nat.le_of_ble_eq_true rfl) hRf, Nat.le_trans (Nat.le_of_ble_eq_true rfl) hRl⟩) ⟨pPre_blind, va_recv hK hP (ci := 0) (q0 := 0) rfl rfl, pPre_of hP hK⟩ rfl rfl hl.1 rfl (lv_room (Nat.le_of_ble_eq_true rfl)) d_Mo_automaton_157 ⟨hRc, hRs⟩) ?_
                  refine lv_goto (tgt := 177) hx hb d_Mo_automaton_160 (by decide) ?_
                  exact Kr _ (Option.some.inj hf).symm _ _ _ _ d_Mo_automaton_177 hP hD hS
              · rw [if_pos c27] at hf
                refine lv_iload hx hb d_Mo_automaton_139 (lv_at hl 0 rfl) ?_
                refine lv_goto (tgt := 177) hx hb d_Mo_automaton_141 (by decide) ?_
                exact Kr _ (Option.some.inj hf).symm _ _ _ _ d_Mo_automaton_177 hP hD hS
            · rw [if_pos c26] at hf
              refine lv_aload_n hx hb d_Mo_automaton_125 rfl (lv_at hl 1 rfl) ?_
              refine va_get (D := D) (ci := 0) (v := .ref (a 0)) (C := R_Mo) (T := T_Mo) (N := 29) hx hb hts in_Mo hown hK hP 0 rfl rfl 3 (by decide) (hts _ fl_Mo_9) (fun _ h9 => h9) rfl d_Mo_automaton_126 ?_
              refine lv_iload_n hx hb d_Mo_automaton_129 rfl (lv_at hl 2 rfl) ?_
              obtain ⟨g32, hf⟩ := ogi hf
              refine va_iald hx hb hK hP 1 0 rfl rfl (gin_in g32) d_Mo_automaton_130 ?_
              refine lv_goto (tgt := 177) hx hb d_Mo_automaton_131 (by decide) ?_
              exact Kr _ (Option.some.inj hf).symm _ _ _ _ d_Mo_automaton_177 hP hD hS
          · rw [if_pos c24] at hf
            refine lv_iconst (v := 0) hx hb d_Mo_automaton_83 (by decide) ?_
            exact Kr _ (Option.some.inj hf).symm _ _ _ _ d_Mo_automaton_84 hP hD hS
        · rw [if_neg c22] at hf
          refine lv_iload_n hx hb d_Mo_automaton_50 rfl (lv_at hl 2 rfl) ?_
          refine lv_iconst (v := 2) hx hb d_Mo_automaton_51 (by decide) ?_
          refine lv_icmp_ne (tgt := 61) hx hb d_Mo_automaton_52 (by decide) (fun c33 => ?_) (fun c33 => ?_)
          · rw [if_neg c33] at hf
            refine lv_iload_n hx hb d_Mo_automaton_61 rfl (lv_at hl 3 rfl) ?_
            refine lv_aload_n hx hb d_Mo_automaton_62 rfl (lv_at hl 0 rfl) ?_
            refine va_get (D := D) (ci := 0) (v := .ref (a 0)) (C := R_Mo) (T := T_Mo) (N := 29) hx hb hts in_Mo hown hK hP 0 rfl rfl 3 (by decide) (hts _ fl_Mo_9) (fun _ h9 => h9) rfl d_Mo_automaton_63 ?_
            refine lv_iload_n hx hb d_Mo_automaton_66 rfl (lv_at hl 1 rfl) ?_
            obtain ⟨g34, hf⟩ := ogi hf
            refine va_iald hx hb hK hP 1 0 rfl rfl (gin_in g34) d_Mo_automaton_67 ?_
            refine lv_icmp_lt (tgt := 75) hx hb d_Mo_automaton_68 (by decide) (fun c35 => ?_) (fun c35 => ?_)
            · rw [if_pos c35] at hf
              refine lv_iconst (v := 0) hx hb d_Mo_automaton_75 (by decide) ?_
              refine lv_iconst (v := 2) hx hb d_Mo_automaton_76 (by decide) ?_
              obtain ⟨u36, eu36, hf⟩ := obd hf
              refine w_call (va_runV (As := [.int (bI false), .int 2]) (rest := []) ⟨hx, hb, hml, hown, hts⟩ (c_Mo_fails l H.size eu36) (gV 2 hts cd_Mo_fails ml_Mo_124 im_Mo_fails se_Mo_fails ini_Mo rfl rfl pd_Mo_fails ⟨Nat.le_trans (Nat.le_of_ble_eq_true rfl) hRf, Nat.le_trans (Nat.le_of_ble_eq_true rfl) hRl⟩) ⟨wPre_blind, va_recv hK hP (ci := 0) (q0 := 0) rfl rfl, wPre_of hP hK hD⟩ rfl rfl hl.1 rfl (lv_room (Nat.le_of_ble_eq_true rfl)) d_Mo_automaton_77 ⟨hRc, hRs⟩) hD hS hA (fun H locs hP hD hS => ?_)
              have hP : va_P D vwCl (moW K h a u36.2 mLanguages mBounds mSize mGoes mLast mLeft mNext mGroup mFresh mLeader mNumber mRight mEnds mWay mVariable mFactor mLeast mMost mLength mWord mKept mMany mMore mLeads mMet mTodo mMay mTries) H := hP
              have hD : va_D A (moW K h a u36.2 mLanguages mBounds mSize mGoes mLast mLeft mNext mGroup mFresh mLeader mNumber mRight mEnds mWay mVariable mFactor mLeast mMost mLength mWord mKept mMany mMore mLeads mMet mTodo mMay mTries) := hD
              refine bz_eq (tgt := 85) hx hb d_Mo_automaton_80 (by decide) (fun c37 => ?_) (fun c37 => ?_)
              · rw [if_neg c37] at hf
                refine lv_iconst (v := 0) hx hb d_Mo_automaton_85 (by decide) ?_
                refine lv_istore (lv' := [(4, .int 0), (0, .ref h), (1, .int p0), (2, .int p1), (3, .int p2)]) hx hb d_Mo_automaton_86 hl (by decide) rfl (fun ls hl => ?_)
                refine lv_iconst (v := 0) hx hb d_Mo_automaton_88 (by decide) ?_
                refine lv_istore (lv' := [(5, .int 0), (4, .int 0), (0, .ref h), (1, .int p0), (2, .int p1), (3, .int p2)]) hx hb d_Mo_automaton_89 hl (by decide) rfl (fun ls hl => ?_)
                obtain ⟨u38, eu38, hf⟩ := obd hf
                refine w_Mo_automaton_91 hx hb hml hts hown hK hRf hRl hRc hRs hA  (fun u38q eu ls H locs hP hD hS hl => ?_) _ _ _ eu38 _ _ _ hP hD hS (show lv_has ls 6 [(5, .int 0), (4, .int 0), (0, .ref h), (1, .int p0), (2, .int p1), (3, .int p2)] from lv_sub hl [0, 1, 2, 3, 4, 5] rfl)
                subst eu
                refine lv_iload_n hx hb d_Mo_automaton_121 rfl (lv_at hl 3 rfl) ?_
                refine lv_if_ne (tgt := 134) hx hb d_Mo_automaton_122 (by decide) (fun c39 => ?_) (fun c39 => ?_)
                · rw [if_neg c39] at hf
                  refine lv_iload_n hx hb d_Mo_automaton_134 rfl (lv_at hl 3 rfl) ?_
                  refine lv_iconst (v := 1) hx hb d_Mo_automaton_135 (by decide) ?_
                  refine lv_icmp_ne (tgt := 144) hx hb d_Mo_automaton_136 (by decide) (fun c40 => ?_) (fun c40 => ?_)
                  · rw [if_neg c40] at hf
                    refine lv_iload_n hx hb d_Mo_automaton_144 rfl (lv_at hl 3 rfl) ?_
                    refine lv_iconst (v := 2) hx hb d_Mo_automaton_145 (by decide) ?_
                    refine lv_icmp_ne (tgt := 163) hx hb d_Mo_automaton_146 (by decide) (fun c41 => ?_) (fun c41 => ?_)
                    · rw [if_neg c41] at hf
                      refine lv_aload_n hx hb d_Mo_automaton_163 rfl (lv_at hl 1 rfl) ?_
                      refine lv_iload_n hx hb d_Mo_automaton_164 rfl (lv_at hl 2 rfl) ?_
                      refine lv_iload_n hx hb d_Mo_automaton_165 rfl (lv_at hl 4 rfl) ?_
                      obtain ⟨u42, eu42, hf⟩ := obd hf
                      refine p_call (W.runV (As := [.int p0, .int p2]) (rest := []) ⟨hx, hb, hml, hown, hts⟩ (c_Mo_isLast l eu42) (gV 2 hts cd_Mo_isLast ml_Mo_102 im_Mo_isLast se_Mo_isLast ini_Mo rfl rfl pd_Mo_isLast ⟨Nat.le_trans (Nat.le_of_ble_eq_true rfl) hRf, Nat.le_trans (Nat.le_of_ble_eq_true rfl) hRl⟩) ⟨pPre_blind, va_recv hK hP (ci := 0) (q0 := 0) rfl rfl, pPre_of hP hK⟩ rfl rfl hl.1 rfl (lv_room (Nat.le_of_ble_eq_true rfl)) d_Mo_automaton_166 ⟨hRc, hRs⟩) ?_
                      refine bz_eq (tgt := 176) hx hb d_Mo_automaton_169 (by decide) (fun c43 => ?_) (fun c43 => ?_)
                      · rw [if_neg c43] at hf
                        refine lv_iconst (v := 0) hx hb d_Mo_automaton_176 (by decide) ?_
                        exact Kr _ (Option.some.inj hf).symm _ _ _ _ d_Mo_automaton_177 hP hD hS
                      · rw [if_pos c43] at hf
                        refine lv_iconst (v := 1) hx hb d_Mo_automaton_172 (by decide) ?_
                        refine lv_goto (tgt := 177) hx hb d_Mo_automaton_173 (by decide) ?_
                        exact Kr _ (Option.some.inj hf).symm _ _ _ _ d_Mo_automaton_177 hP hD hS
                    · rw [if_pos c41] at hf
                      refine lv_aload_n hx hb d_Mo_automaton_149 rfl (lv_at hl 1 rfl) ?_
                      refine lv_iload_n hx hb d_Mo_automaton_150 rfl (lv_at hl 2 rfl) ?_
                      refine lv_iload_n hx hb d_Mo_automaton_151 rfl (lv_at hl 4 rfl) ?_
                      refine lv_iconst (v := 4) hx hb d_Mo_automaton_152 (by decide) ?_
                      refine lv_idiv hx hb d_Mo_automaton_153 (by decide) ?_
                      refine lv_iload_n hx hb d_Mo_automaton_154 rfl (lv_at hl 4 rfl) ?_
                      refine lv_iconst (v := 4) hx hb d_Mo_automaton_155 (by decide) ?_
                      refine lv_irem hx hb d_Mo_automaton_156 (by decide) ?_
                      obtain ⟨u44, eu44, hf⟩ := obd hf
                      refine p_call (W.runV (As := [.int p0, .int (p2 / 4), .int (p2 - p2 / 4 * 4)]) (rest := []) ⟨hx, hb, hml, hown, hts⟩ (c_Mo_go l eu44) (gV 3 hts cd_Mo_go ml_Mo_98 im_Mo_go se_Mo_go ini_Mo rfl rfl pd_Mo_go ⟨Nat.le_trans (Nat.le_of_ble_eq_true rfl) hRf, Nat.le_trans (Nat.le_of_ble_eq_true rfl) hRl⟩) ⟨pPre_blind, va_recv hK hP (ci := 0) (q0 := 0) rfl rfl, pPre_of hP hK⟩ rfl rfl hl.1 rfl (lv_room (Nat.le_of_ble_eq_true rfl)) d_Mo_automaton_157 ⟨hRc, hRs⟩) ?_
                      refine lv_goto (tgt := 177) hx hb d_Mo_automaton_160 (by decide) ?_
                      exact Kr _ (Option.some.inj hf).symm _ _ _ _ d_Mo_automaton_177 hP hD hS
                  · rw [if_pos c40] at hf
                    refine lv_iload hx hb d_Mo_automaton_139 (lv_at hl 0 rfl) ?_
                    refine lv_goto (tgt := 177) hx hb d_Mo_automaton_141 (by decide) ?_
                    exact Kr _ (Option.some.inj hf).symm _ _ _ _ d_Mo_automaton_177 hP hD hS
                · rw [if_pos c39] at hf
                  refine lv_aload_n hx hb d_Mo_automaton_125 rfl (lv_at hl 1 rfl) ?_
                  refine va_get (D := D) (ci := 0) (v := .ref (a 0)) (C := R_Mo) (T := T_Mo) (N := 29) hx hb hts in_Mo hown hK hP 0 rfl rfl 3 (by decide) (hts _ fl_Mo_9) (fun _ h9 => h9) rfl d_Mo_automaton_126 ?_
                  refine lv_iload_n hx hb d_Mo_automaton_129 rfl (lv_at hl 2 rfl) ?_
                  obtain ⟨g45, hf⟩ := ogi hf
                  refine va_iald hx hb hK hP 1 0 rfl rfl (gin_in g45) d_Mo_automaton_130 ?_
                  refine lv_goto (tgt := 177) hx hb d_Mo_automaton_131 (by decide) ?_
                  exact Kr _ (Option.some.inj hf).symm _ _ _ _ d_Mo_automaton_177 hP hD hS
              · rw [if_pos c37] at hf
                refine lv_iconst (v := 0) hx hb d_Mo_automaton_83 (by decide) ?_
                exact Kr _ (Option.some.inj hf).symm _ _ _ _ d_Mo_automaton_84 hP hD hS
            · rw [if_neg c35] at hf
              refine lv_iconst (v := 1) hx hb d_Mo_automaton_71 (by decide) ?_
              refine lv_goto (tgt := 76) hx hb d_Mo_automaton_72 (by decide) ?_
              refine lv_iconst (v := 2) hx hb d_Mo_automaton_76 (by decide) ?_
              obtain ⟨u46, eu46, hf⟩ := obd hf
              refine w_call (va_runV (As := [.int (bI true), .int 2]) (rest := []) ⟨hx, hb, hml, hown, hts⟩ (c_Mo_fails l H.size eu46) (gV 2 hts cd_Mo_fails ml_Mo_124 im_Mo_fails se_Mo_fails ini_Mo rfl rfl pd_Mo_fails ⟨Nat.le_trans (Nat.le_of_ble_eq_true rfl) hRf, Nat.le_trans (Nat.le_of_ble_eq_true rfl) hRl⟩) ⟨wPre_blind, va_recv hK hP (ci := 0) (q0 := 0) rfl rfl, wPre_of hP hK hD⟩ rfl rfl hl.1 rfl (lv_room (Nat.le_of_ble_eq_true rfl)) d_Mo_automaton_77 ⟨hRc, hRs⟩) hD hS hA (fun H locs hP hD hS => ?_)
              have hP : va_P D vwCl (moW K h a u46.2 mLanguages mBounds mSize mGoes mLast mLeft mNext mGroup mFresh mLeader mNumber mRight mEnds mWay mVariable mFactor mLeast mMost mLength mWord mKept mMany mMore mLeads mMet mTodo mMay mTries) H := hP
              have hD : va_D A (moW K h a u46.2 mLanguages mBounds mSize mGoes mLast mLeft mNext mGroup mFresh mLeader mNumber mRight mEnds mWay mVariable mFactor mLeast mMost mLength mWord mKept mMany mMore mLeads mMet mTodo mMay mTries) := hD
              refine bz_eq (tgt := 85) hx hb d_Mo_automaton_80 (by decide) (fun c47 => ?_) (fun c47 => ?_)
              · rw [if_neg c47] at hf
                refine lv_iconst (v := 0) hx hb d_Mo_automaton_85 (by decide) ?_
                refine lv_istore (lv' := [(4, .int 0), (0, .ref h), (1, .int p0), (2, .int p1), (3, .int p2)]) hx hb d_Mo_automaton_86 hl (by decide) rfl (fun ls hl => ?_)
                refine lv_iconst (v := 0) hx hb d_Mo_automaton_88 (by decide) ?_
                refine lv_istore (lv' := [(5, .int 0), (4, .int 0), (0, .ref h), (1, .int p0), (2, .int p1), (3, .int p2)]) hx hb d_Mo_automaton_89 hl (by decide) rfl (fun ls hl => ?_)
                obtain ⟨u48, eu48, hf⟩ := obd hf
                refine w_Mo_automaton_91 hx hb hml hts hown hK hRf hRl hRc hRs hA  (fun u48q eu ls H locs hP hD hS hl => ?_) _ _ _ eu48 _ _ _ hP hD hS (show lv_has ls 6 [(5, .int 0), (4, .int 0), (0, .ref h), (1, .int p0), (2, .int p1), (3, .int p2)] from lv_sub hl [0, 1, 2, 3, 4, 5] rfl)
                subst eu
                refine lv_iload_n hx hb d_Mo_automaton_121 rfl (lv_at hl 3 rfl) ?_
                refine lv_if_ne (tgt := 134) hx hb d_Mo_automaton_122 (by decide) (fun c49 => ?_) (fun c49 => ?_)
                · rw [if_neg c49] at hf
                  refine lv_iload_n hx hb d_Mo_automaton_134 rfl (lv_at hl 3 rfl) ?_
                  refine lv_iconst (v := 1) hx hb d_Mo_automaton_135 (by decide) ?_
                  refine lv_icmp_ne (tgt := 144) hx hb d_Mo_automaton_136 (by decide) (fun c50 => ?_) (fun c50 => ?_)
                  · rw [if_neg c50] at hf
                    refine lv_iload_n hx hb d_Mo_automaton_144 rfl (lv_at hl 3 rfl) ?_
                    refine lv_iconst (v := 2) hx hb d_Mo_automaton_145 (by decide) ?_
                    refine lv_icmp_ne (tgt := 163) hx hb d_Mo_automaton_146 (by decide) (fun c51 => ?_) (fun c51 => ?_)
                    · rw [if_neg c51] at hf
                      refine lv_aload_n hx hb d_Mo_automaton_163 rfl (lv_at hl 1 rfl) ?_
                      refine lv_iload_n hx hb d_Mo_automaton_164 rfl (lv_at hl 2 rfl) ?_
                      refine lv_iload_n hx hb d_Mo_automaton_165 rfl (lv_at hl 4 rfl) ?_
                      obtain ⟨u52, eu52, hf⟩ := obd hf
                      refine p_call (W.runV (As := [.int p0, .int p2]) (rest := []) ⟨hx, hb, hml, hown, hts⟩ (c_Mo_isLast l eu52) (gV 2 hts cd_Mo_isLast ml_Mo_102 im_Mo_isLast se_Mo_isLast ini_Mo rfl rfl pd_Mo_isLast ⟨Nat.le_trans (Nat.le_of_ble_eq_true rfl) hRf, Nat.le_trans (Nat.le_of_ble_eq_true rfl) hRl⟩) ⟨pPre_blind, va_recv hK hP (ci := 0) (q0 := 0) rfl rfl, pPre_of hP hK⟩ rfl rfl hl.1 rfl (lv_room (Nat.le_of_ble_eq_true rfl)) d_Mo_automaton_166 ⟨hRc, hRs⟩) ?_
                      refine bz_eq (tgt := 176) hx hb d_Mo_automaton_169 (by decide) (fun c53 => ?_) (fun c53 => ?_)
                      · rw [if_neg c53] at hf
                        refine lv_iconst (v := 0) hx hb d_Mo_automaton_176 (by decide) ?_
                        exact Kr _ (Option.some.inj hf).symm _ _ _ _ d_Mo_automaton_177 hP hD hS
                      · rw [if_pos c53] at hf
                        refine lv_iconst (v := 1) hx hb d_Mo_automaton_172 (by decide) ?_
                        refine lv_goto (tgt := 177) hx hb d_Mo_automaton_173 (by decide) ?_
                        exact Kr _ (Option.some.inj hf).symm _ _ _ _ d_Mo_automaton_177 hP hD hS
                    · rw [if_pos c51] at hf
                      refine lv_aload_n hx hb d_Mo_automaton_149 rfl (lv_at hl 1 rfl) ?_
                      refine lv_iload_n hx hb d_Mo_automaton_150 rfl (lv_at hl 2 rfl) ?_
                      refine lv_iload_n hx hb d_Mo_automaton_151 rfl (lv_at hl 4 rfl) ?_
                      refine lv_iconst (v := 4) hx hb d_Mo_automaton_152 (by decide) ?_
                      refine lv_idiv hx hb d_Mo_automaton_153 (by decide) ?_
                      refine lv_iload_n hx hb d_Mo_automaton_154 rfl (lv_at hl 4 rfl) ?_
                      refine lv_iconst (v := 4) hx hb d_Mo_automaton_155 (by decide) ?_
                      refine lv_irem hx hb d_Mo_automaton_156 (by decide) ?_
                      obtain ⟨u54, eu54, hf⟩ := obd hf
                      refine p_call (W.runV (As := [.int p0, .int (p2 / 4), .int (p2 - p2 / 4 * 4)]) (rest := []) ⟨hx, hb, hml, hown, hts⟩ (c_Mo_go l eu54) (gV 3 hts cd_Mo_go ml_Mo_98 im_Mo_go se_Mo_go ini_Mo rfl rfl pd_Mo_go ⟨Nat.le_trans (Nat.le_of_ble_eq_true rfl) hRf, Nat.le_trans (Nat.le_of_ble_eq_true rfl) hRl⟩) ⟨pPre_blind, va_recv hK hP (ci := 0) (q0 := 0) rfl rfl, pPre_of hP hK⟩ rfl rfl hl.1 rfl (lv_room (Nat.le_of_ble_eq_true rfl)) d_Mo_automaton_157 ⟨hRc, hRs⟩) ?_
                      refine lv_goto (tgt := 177) hx hb d_Mo_automaton_160 (by decide) ?_
                      exact Kr _ (Option.some.inj hf).symm _ _ _ _ d_Mo_automaton_177 hP hD hS
                  · rw [if_pos c50] at hf
                    refine lv_iload hx hb d_Mo_automaton_139 (lv_at hl 0 rfl) ?_
                    refine lv_goto (tgt := 177) hx hb d_Mo_automaton_141 (by decide) ?_
                    exact Kr _ (Option.some.inj hf).symm _ _ _ _ d_Mo_automaton_177 hP hD hS
                · rw [if_pos c49] at hf
                  refine lv_aload_n hx hb d_Mo_automaton_125 rfl (lv_at hl 1 rfl) ?_
                  refine va_get (D := D) (ci := 0) (v := .ref (a 0)) (C := R_Mo) (T := T_Mo) (N := 29) hx hb hts in_Mo hown hK hP 0 rfl rfl 3 (by decide) (hts _ fl_Mo_9) (fun _ h9 => h9) rfl d_Mo_automaton_126 ?_
                  refine lv_iload_n hx hb d_Mo_automaton_129 rfl (lv_at hl 2 rfl) ?_
                  obtain ⟨g55, hf⟩ := ogi hf
                  refine va_iald hx hb hK hP 1 0 rfl rfl (gin_in g55) d_Mo_automaton_130 ?_
                  refine lv_goto (tgt := 177) hx hb d_Mo_automaton_131 (by decide) ?_
                  exact Kr _ (Option.some.inj hf).symm _ _ _ _ d_Mo_automaton_177 hP hD hS
              · rw [if_pos c47] at hf
                refine lv_iconst (v := 0) hx hb d_Mo_automaton_83 (by decide) ?_
                exact Kr _ (Option.some.inj hf).symm _ _ _ _ d_Mo_automaton_84 hP hD hS
          · rw [if_pos c33] at hf
            refine lv_iload_n hx hb d_Mo_automaton_55 rfl (lv_at hl 3 rfl) ?_
            refine lv_iconst (v := 4) hx hb d_Mo_automaton_56 (by decide) ?_
            refine lv_idiv hx hb d_Mo_automaton_57 (by decide) ?_
            refine lv_goto (tgt := 62) hx hb d_Mo_automaton_58 (by decide) ?_
            refine lv_aload_n hx hb d_Mo_automaton_62 rfl (lv_at hl 0 rfl) ?_
            refine va_get (D := D) (ci := 0) (v := .ref (a 0)) (C := R_Mo) (T := T_Mo) (N := 29) hx hb hts in_Mo hown hK hP 0 rfl rfl 3 (by decide) (hts _ fl_Mo_9) (fun _ h9 => h9) rfl d_Mo_automaton_63 ?_
            refine lv_iload_n hx hb d_Mo_automaton_66 rfl (lv_at hl 1 rfl) ?_
            obtain ⟨g56, hf⟩ := ogi hf
            refine va_iald hx hb hK hP 1 0 rfl rfl (gin_in g56) d_Mo_automaton_67 ?_
            refine lv_icmp_lt (tgt := 75) hx hb d_Mo_automaton_68 (by decide) (fun c57 => ?_) (fun c57 => ?_)
            · rw [if_pos c57] at hf
              refine lv_iconst (v := 0) hx hb d_Mo_automaton_75 (by decide) ?_
              refine lv_iconst (v := 2) hx hb d_Mo_automaton_76 (by decide) ?_
              obtain ⟨u58, eu58, hf⟩ := obd hf
              refine w_call (va_runV (As := [.int (bI false), .int 2]) (rest := []) ⟨hx, hb, hml, hown, hts⟩ (c_Mo_fails l H.size eu58) (gV 2 hts cd_Mo_fails ml_Mo_124 im_Mo_fails se_Mo_fails ini_Mo rfl rfl pd_Mo_fails ⟨Nat.le_trans (Nat.le_of_ble_eq_true rfl) hRf, Nat.le_trans (Nat.le_of_ble_eq_true rfl) hRl⟩) ⟨wPre_blind, va_recv hK hP (ci := 0) (q0 := 0) rfl rfl, wPre_of hP hK hD⟩ rfl rfl hl.1 rfl (lv_room (Nat.le_of_ble_eq_true rfl)) d_Mo_automaton_77 ⟨hRc, hRs⟩) hD hS hA (fun H locs hP hD hS => ?_)
              have hP : va_P D vwCl (moW K h a u58.2 mLanguages mBounds mSize mGoes mLast mLeft mNext mGroup mFresh mLeader mNumber mRight mEnds mWay mVariable mFactor mLeast mMost mLength mWord mKept mMany mMore mLeads mMet mTodo mMay mTries) H := hP
              have hD : va_D A (moW K h a u58.2 mLanguages mBounds mSize mGoes mLast mLeft mNext mGroup mFresh mLeader mNumber mRight mEnds mWay mVariable mFactor mLeast mMost mLength mWord mKept mMany mMore mLeads mMet mTodo mMay mTries) := hD
              refine bz_eq (tgt := 85) hx hb d_Mo_automaton_80 (by decide) (fun c59 => ?_) (fun c59 => ?_)
              · rw [if_neg c59] at hf
                refine lv_iconst (v := 0) hx hb d_Mo_automaton_85 (by decide) ?_
                refine lv_istore (lv' := [(4, .int 0), (0, .ref h), (1, .int p0), (2, .int p1), (3, .int p2)]) hx hb d_Mo_automaton_86 hl (by decide) rfl (fun ls hl => ?_)
                refine lv_iconst (v := 0) hx hb d_Mo_automaton_88 (by decide) ?_
                refine lv_istore (lv' := [(5, .int 0), (4, .int 0), (0, .ref h), (1, .int p0), (2, .int p1), (3, .int p2)]) hx hb d_Mo_automaton_89 hl (by decide) rfl (fun ls hl => ?_)
                obtain ⟨u60, eu60, hf⟩ := obd hf
                refine w_Mo_automaton_91 hx hb hml hts hown hK hRf hRl hRc hRs hA  (fun u60q eu ls H locs hP hD hS hl => ?_) _ _ _ eu60 _ _ _ hP hD hS (show lv_has ls 6 [(5, .int 0), (4, .int 0), (0, .ref h), (1, .int p0), (2, .int p1), (3, .int p2)] from lv_sub hl [0, 1, 2, 3, 4, 5] rfl)
                subst eu
                refine lv_iload_n hx hb d_Mo_automaton_121 rfl (lv_at hl 3 rfl) ?_
                refine lv_if_ne (tgt := 134) hx hb d_Mo_automaton_122 (by decide) (fun c61 => ?_) (fun c61 => ?_)
                · rw [if_neg c61] at hf
                  refine lv_iload_n hx hb d_Mo_automaton_134 rfl (lv_at hl 3 rfl) ?_
                  refine lv_iconst (v := 1) hx hb d_Mo_automaton_135 (by decide) ?_
                  refine lv_icmp_ne (tgt := 144) hx hb d_Mo_automaton_136 (by decide) (fun c62 => ?_) (fun c62 => ?_)
                  · rw [if_neg c62] at hf
                    refine lv_iload_n hx hb d_Mo_automaton_144 rfl (lv_at hl 3 rfl) ?_
                    refine lv_iconst (v := 2) hx hb d_Mo_automaton_145 (by decide) ?_
                    refine lv_icmp_ne (tgt := 163) hx hb d_Mo_automaton_146 (by decide) (fun c63 => ?_) (fun c63 => ?_)
                    · rw [if_neg c63] at hf
                      refine lv_aload_n hx hb d_Mo_automaton_163 rfl (lv_at hl 1 rfl) ?_
                      refine lv_iload_n hx hb d_Mo_automaton_164 rfl (lv_at hl 2 rfl) ?_
                      refine lv_iload_n hx hb d_Mo_automaton_165 rfl (lv_at hl 4 rfl) ?_
                      obtain ⟨u64, eu64, hf⟩ := obd hf
                      refine p_call (W.runV (As := [.int p0, .int p2]) (rest := []) ⟨hx, hb, hml, hown, hts⟩ (c_Mo_isLast l eu64) (gV 2 hts cd_Mo_isLast ml_Mo_102 im_Mo_isLast se_Mo_isLast ini_Mo rfl rfl pd_Mo_isLast ⟨Nat.le_trans (Nat.le_of_ble_eq_true rfl) hRf, Nat.le_trans (Nat.le_of_ble_eq_true rfl) hRl⟩) ⟨pPre_blind, va_recv hK hP (ci := 0) (q0 := 0) rfl rfl, pPre_of hP hK⟩ rfl rfl hl.1 rfl (lv_room (Nat.le_of_ble_eq_true rfl)) d_Mo_automaton_166 ⟨hRc, hRs⟩) ?_
                      refine bz_eq (tgt := 176) hx hb d_Mo_automaton_169 (by decide) (fun c65 => ?_) (fun c65 => ?_)
                      · rw [if_neg c65] at hf
                        refine lv_iconst (v := 0) hx hb d_Mo_automaton_176 (by decide) ?_
                        exact Kr _ (Option.some.inj hf).symm _ _ _ _ d_Mo_automaton_177 hP hD hS
                      · rw [if_pos c65] at hf
                        refine lv_iconst (v := 1) hx hb d_Mo_automaton_172 (by decide) ?_
                        refine lv_goto (tgt := 177) hx hb d_Mo_automaton_173 (by decide) ?_
                        exact Kr _ (Option.some.inj hf).symm _ _ _ _ d_Mo_automaton_177 hP hD hS
                    · rw [if_pos c63] at hf
                      refine lv_aload_n hx hb d_Mo_automaton_149 rfl (lv_at hl 1 rfl) ?_
                      refine lv_iload_n hx hb d_Mo_automaton_150 rfl (lv_at hl 2 rfl) ?_
                      refine lv_iload_n hx hb d_Mo_automaton_151 rfl (lv_at hl 4 rfl) ?_
                      refine lv_iconst (v := 4) hx hb d_Mo_automaton_152 (by decide) ?_
                      refine lv_idiv hx hb d_Mo_automaton_153 (by decide) ?_
                      refine lv_iload_n hx hb d_Mo_automaton_154 rfl (lv_at hl 4 rfl) ?_
                      refine lv_iconst (v := 4) hx hb d_Mo_automaton_155 (by decide) ?_
                      refine lv_irem hx hb d_Mo_automaton_156 (by decide) ?_
                      obtain ⟨u66, eu66, hf⟩ := obd hf
                      refine p_call (W.runV (As := [.int p0, .int (p2 / 4), .int (p2 - p2 / 4 * 4)]) (rest := []) ⟨hx, hb, hml, hown, hts⟩ (c_Mo_go l eu66) (gV 3 hts cd_Mo_go ml_Mo_98 im_Mo_go se_Mo_go ini_Mo rfl rfl pd_Mo_go ⟨Nat.le_trans (Nat.le_of_ble_eq_true rfl) hRf, Nat.le_trans (Nat.le_of_ble_eq_true rfl) hRl⟩) ⟨pPre_blind, va_recv hK hP (ci := 0) (q0 := 0) rfl rfl, pPre_of hP hK⟩ rfl rfl hl.1 rfl (lv_room (Nat.le_of_ble_eq_true rfl)) d_Mo_automaton_157 ⟨hRc, hRs⟩) ?_
                      refine lv_goto (tgt := 177) hx hb d_Mo_automaton_160 (by decide) ?_
                      exact Kr _ (Option.some.inj hf).symm _ _ _ _ d_Mo_automaton_177 hP hD hS
                  · rw [if_pos c62] at hf
                    refine lv_iload hx hb d_Mo_automaton_139 (lv_at hl 0 rfl) ?_
                    refine lv_goto (tgt := 177) hx hb d_Mo_automaton_141 (by decide) ?_
                    exact Kr _ (Option.some.inj hf).symm _ _ _ _ d_Mo_automaton_177 hP hD hS
                · rw [if_pos c61] at hf
                  refine lv_aload_n hx hb d_Mo_automaton_125 rfl (lv_at hl 1 rfl) ?_
                  refine va_get (D := D) (ci := 0) (v := .ref (a 0)) (C := R_Mo) (T := T_Mo) (N := 29) hx hb hts in_Mo hown hK hP 0 rfl rfl 3 (by decide) (hts _ fl_Mo_9) (fun _ h9 => h9) rfl d_Mo_automaton_126 ?_
                  refine lv_iload_n hx hb d_Mo_automaton_129 rfl (lv_at hl 2 rfl) ?_
                  obtain ⟨g67, hf⟩ := ogi hf
                  refine va_iald hx hb hK hP 1 0 rfl rfl (gin_in g67) d_Mo_automaton_130 ?_
                  refine lv_goto (tgt := 177) hx hb d_Mo_automaton_131 (by decide) ?_
                  exact Kr _ (Option.some.inj hf).symm _ _ _ _ d_Mo_automaton_177 hP hD hS
              · rw [if_pos c59] at hf
                refine lv_iconst (v := 0) hx hb d_Mo_automaton_83 (by decide) ?_
                exact Kr _ (Option.some.inj hf).symm _ _ _ _ d_Mo_automaton_84 hP hD hS
            · rw [if_neg c57] at hf
              refine lv_iconst (v := 1) hx hb d_Mo_automaton_71 (by decide) ?_
              refine lv_goto (tgt := 76) hx hb d_Mo_automaton_72 (by decide) ?_
              refine lv_iconst (v := 2) hx hb d_Mo_automaton_76 (by decide) ?_
              obtain ⟨u68, eu68, hf⟩ := obd hf
              refine w_call (va_runV (As := [.int (bI true), .int 2]) (rest := []) ⟨hx, hb, hml, hown, hts⟩ (c_Mo_fails l H.size eu68) (gV 2 hts cd_Mo_fails ml_Mo_124 im_Mo_fails se_Mo_fails ini_Mo rfl rfl pd_Mo_fails ⟨Nat.le_trans (Nat.le_of_ble_eq_true rfl) hRf, Nat.le_trans (Nat.le_of_ble_eq_true rfl) hRl⟩) ⟨wPre_blind, va_recv hK hP (ci := 0) (q0 := 0) rfl rfl, wPre_of hP hK hD⟩ rfl rfl hl.1 rfl (lv_room (Nat.le_of_ble_eq_true rfl)) d_Mo_automaton_77 ⟨hRc, hRs⟩) hD hS hA (fun H locs hP hD hS => ?_)
              have hP : va_P D vwCl (moW K h a u68.2 mLanguages mBounds mSize mGoes mLast mLeft mNext mGroup mFresh mLeader mNumber mRight mEnds mWay mVariable mFactor mLeast mMost mLength mWord mKept mMany mMore mLeads mMet mTodo mMay mTries) H := hP
              have hD : va_D A (moW K h a u68.2 mLanguages mBounds mSize mGoes mLast mLeft mNext mGroup mFresh mLeader mNumber mRight mEnds mWay mVariable mFactor mLeast mMost mLength mWord mKept mMany mMore mLeads mMet mTodo mMay mTries) := hD
              refine bz_eq (tgt := 85) hx hb d_Mo_automaton_80 (by decide) (fun c69 => ?_) (fun c69 => ?_)
              · rw [if_neg c69] at hf
                refine lv_iconst (v := 0) hx hb d_Mo_automaton_85 (by decide) ?_
                refine lv_istore (lv' := [(4, .int 0), (0, .ref h), (1, .int p0), (2, .int p1), (3, .int p2)]) hx hb d_Mo_automaton_86 hl (by decide) rfl (fun ls hl => ?_)
                refine lv_iconst (v := 0) hx hb d_Mo_automaton_88 (by decide) ?_
                refine lv_istore (lv' := [(5, .int 0), (4, .int 0), (0, .ref h), (1, .int p0), (2, .int p1), (3, .int p2)]) hx hb d_Mo_automaton_89 hl (by decide) rfl (fun ls hl => ?_)
                obtain ⟨u70, eu70, hf⟩ := obd hf
                refine w_Mo_automaton_91 hx hb hml hts hown hK hRf hRl hRc hRs hA  (fun u70q eu ls H locs hP hD hS hl => ?_) _ _ _ eu70 _ _ _ hP hD hS (show lv_has ls 6 [(5, .int 0), (4, .int 0), (0, .ref h), (1, .int p0), (2, .int p1), (3, .int p2)] from lv_sub hl [0, 1, 2, 3, 4, 5] rfl)
                subst eu
                refine lv_iload_n hx hb d_Mo_automaton_121 rfl (lv_at hl 3 rfl) ?_
                refine lv_if_ne (tgt := 134) hx hb d_Mo_automaton_122 (by decide) (fun c71 => ?_) (fun c71 => ?_)
                · rw [if_neg c71] at hf
                  refine lv_iload_n hx hb d_Mo_automaton_134 rfl (lv_at hl 3 rfl) ?_
                  refine lv_iconst (v := 1) hx hb d_Mo_automaton_135 (by decide) ?_
                  refine lv_icmp_ne (tgt := 144) hx hb d_Mo_automaton_136 (by decide) (fun c72 => ?_) (fun c72 => ?_)
                  · rw [if_neg c72] at hf
                    refine lv_iload_n hx hb d_Mo_automaton_144 rfl (lv_at hl 3 rfl) ?_
                    refine lv_iconst (v := 2) hx hb d_Mo_automaton_145 (by decide) ?_
                    refine lv_icmp_ne (tgt := 163) hx hb d_Mo_automaton_146 (by decide) (fun c73 => ?_) (fun c73 => ?_)
                    · rw [if_neg c73] at hf
                      refine lv_aload_n hx hb d_Mo_automaton_163 rfl (lv_at hl 1 rfl) ?_
                      refine lv_iload_n hx hb d_Mo_automaton_164 rfl (lv_at hl 2 rfl) ?_
                      refine lv_iload_n hx hb d_Mo_automaton_165 rfl (lv_at hl 4 rfl) ?_
                      obtain ⟨u74, eu74, hf⟩ := obd hf
                      refine p_call (W.runV (As := [.int p0, .int p2]) (rest := []) ⟨hx, hb, hml, hown, hts⟩ (c_Mo_isLast l eu74) (gV 2 hts cd_Mo_isLast ml_Mo_102 im_Mo_isLast se_Mo_isLast ini_Mo rfl rfl pd_Mo_isLast ⟨Nat.le_trans (Nat.le_of_ble_eq_true rfl) hRf, Nat.le_trans (Nat.le_of_ble_eq_true rfl) hRl⟩) ⟨pPre_blind, va_recv hK hP (ci := 0) (q0 := 0) rfl rfl, pPre_of hP hK⟩ rfl rfl hl.1 rfl (lv_room (Nat.le_of_ble_eq_true rfl)) d_Mo_automaton_166 ⟨hRc, hRs⟩) ?_
                      refine bz_eq (tgt := 176) hx hb d_Mo_automaton_169 (by decide) (fun c75 => ?_) (fun c75 => ?_)
                      · rw [if_neg c75] at hf
                        refine lv_iconst (v := 0) hx hb d_Mo_automaton_176 (by decide) ?_
                        exact Kr _ (Option.some.inj hf).symm _ _ _ _ d_Mo_automaton_177 hP hD hS
                      · rw [if_pos c75] at hf
                        refine lv_iconst (v := 1) hx hb d_Mo_automaton_172 (by decide) ?_
                        refine lv_goto (tgt := 177) hx hb d_Mo_automaton_173 (by decide) ?_
                        exact Kr _ (Option.some.inj hf).symm _ _ _ _ d_Mo_automaton_177 hP hD hS
                    · rw [if_pos c73] at hf
                      refine lv_aload_n hx hb d_Mo_automaton_149 rfl (lv_at hl 1 rfl) ?_
                      refine lv_iload_n hx hb d_Mo_automaton_150 rfl (lv_at hl 2 rfl) ?_
                      refine lv_iload_n hx hb d_Mo_automaton_151 rfl (lv_at hl 4 rfl) ?_
                      refine lv_iconst (v := 4) hx hb d_Mo_automaton_152 (by decide) ?_
                      refine lv_idiv hx hb d_Mo_automaton_153 (by decide) ?_
                      refine lv_iload_n hx hb d_Mo_automaton_154 rfl (lv_at hl 4 rfl) ?_
                      refine lv_iconst (v := 4) hx hb d_Mo_automaton_155 (by decide) ?_
                      refine lv_irem hx hb d_Mo_automaton_156 (by decide) ?_
                      obtain ⟨u76, eu76, hf⟩ := obd hf
                      refine p_call (W.runV (As := [.int p0, .int (p2 / 4), .int (p2 - p2 / 4 * 4)]) (rest := []) ⟨hx, hb, hml, hown, hts⟩ (c_Mo_go l eu76) (gV 3 hts cd_Mo_go ml_Mo_98 im_Mo_go se_Mo_go ini_Mo rfl rfl pd_Mo_go ⟨Nat.le_trans (Nat.le_of_ble_eq_true rfl) hRf, Nat.le_trans (Nat.le_of_ble_eq_true rfl) hRl⟩) ⟨pPre_blind, va_recv hK hP (ci := 0) (q0 := 0) rfl rfl, pPre_of hP hK⟩ rfl rfl hl.1 rfl (lv_room (Nat.le_of_ble_eq_true rfl)) d_Mo_automaton_157 ⟨hRc, hRs⟩) ?_
                      refine lv_goto (tgt := 177) hx hb d_Mo_automaton_160 (by decide) ?_
                      exact Kr _ (Option.some.inj hf).symm _ _ _ _ d_Mo_automaton_177 hP hD hS
                  · rw [if_pos c72] at hf
                    refine lv_iload hx hb d_Mo_automaton_139 (lv_at hl 0 rfl) ?_
                    refine lv_goto (tgt := 177) hx hb d_Mo_automaton_141 (by decide) ?_
                    exact Kr _ (Option.some.inj hf).symm _ _ _ _ d_Mo_automaton_177 hP hD hS
                · rw [if_pos c71] at hf
                  refine lv_aload_n hx hb d_Mo_automaton_125 rfl (lv_at hl 1 rfl) ?_
                  refine va_get (D := D) (ci := 0) (v := .ref (a 0)) (C := R_Mo) (T := T_Mo) (N := 29) hx hb hts in_Mo hown hK hP 0 rfl rfl 3 (by decide) (hts _ fl_Mo_9) (fun _ h9 => h9) rfl d_Mo_automaton_126 ?_
                  refine lv_iload_n hx hb d_Mo_automaton_129 rfl (lv_at hl 2 rfl) ?_
                  obtain ⟨g77, hf⟩ := ogi hf
                  refine va_iald hx hb hK hP 1 0 rfl rfl (gin_in g77) d_Mo_automaton_130 ?_
                  refine lv_goto (tgt := 177) hx hb d_Mo_automaton_131 (by decide) ?_
                  exact Kr _ (Option.some.inj hf).symm _ _ _ _ d_Mo_automaton_177 hP hD hS
              · rw [if_pos c69] at hf
                refine lv_iconst (v := 0) hx hb d_Mo_automaton_83 (by decide) ?_
                exact Kr _ (Option.some.inj hf).symm _ _ _ _ d_Mo_automaton_84 hP hD hS
    · rw [if_pos c4] at hf
      refine lv_iconst (v := 0) hx hb d_Mo_automaton_38 (by decide) ?_
      exact Kr _ (Option.some.inj hf).symm _ _ _ _ d_Mo_automaton_39 hP hD hS
  · rw [if_pos c2] at hf
    refine lv_iload_n hx hb d_Mo_automaton_14 rfl (lv_at hl 2 rfl) ?_
    refine lv_i2l (v := p1.toInt64) hx hb d_Mo_automaton_15 rfl ?_
    refine lv_lconst (v := 0) hx hb d_Mo_automaton_16 (by decide) ?_
    refine lv_ldc2 (v := 3) hx hb hown (hts (.constantLong "RegularSolverModel" 148 3) (by decide +kernel)) d_Mo_automaton_17 ?_
    obtain ⟨u78, eu78, hf⟩ := obd hf
    refine p_call (W.runS (As := [.long p1.toInt64, .long 0, .long 3]) (rest := [.ref h]) ⟨hx, hb, hml, hown, hts⟩ (c_Mo_in l eu78) (gS 3 hts cd_Mo_in ml_Mo_91 st_Mo_in ini_Mo rfl rfl pd_Mo_in ⟨Nat.le_trans (Nat.le_of_ble_eq_true rfl) hRf, Nat.le_trans (Nat.le_of_ble_eq_true rfl) hRl⟩) ⟨pPre_blind, pPre_of hP hK⟩ rfl rfl hl.1 rfl (lv_room (Nat.le_of_ble_eq_true rfl)) d_Mo_automaton_20 ⟨hRc, hRs⟩) ?_
    refine bz_ne (tgt := 30) hx hb d_Mo_automaton_23 (by decide) (fun c79 => ?_) (fun c79 => ?_)
    · rw [if_pos c79] at hf
      refine lv_iconst (v := 0) hx hb d_Mo_automaton_30 (by decide) ?_
      refine lv_iconst (v := 1) hx hb d_Mo_automaton_31 (by decide) ?_
      obtain ⟨u80, eu80, hf⟩ := obd hf
      refine w_call (va_runV (As := [.int (bI false), .int 1]) (rest := []) ⟨hx, hb, hml, hown, hts⟩ (c_Mo_fails l H.size eu80) (gV 2 hts cd_Mo_fails ml_Mo_124 im_Mo_fails se_Mo_fails ini_Mo rfl rfl pd_Mo_fails ⟨Nat.le_trans (Nat.le_of_ble_eq_true rfl) hRf, Nat.le_trans (Nat.le_of_ble_eq_true rfl) hRl⟩) ⟨wPre_blind, va_recv hK hP (ci := 0) (q0 := 0) rfl rfl, wPre_of hP hK hD⟩ rfl rfl hl.1 rfl (lv_room (Nat.le_of_ble_eq_true rfl)) d_Mo_automaton_32 ⟨hRc, hRs⟩) hD hS hA (fun H locs hP hD hS => ?_)
      have hP : va_P D vwCl (moW K h a u80.2 mLanguages mBounds mSize mGoes mLast mLeft mNext mGroup mFresh mLeader mNumber mRight mEnds mWay mVariable mFactor mLeast mMost mLength mWord mKept mMany mMore mLeads mMet mTodo mMay mTries) H := hP
      have hD : va_D A (moW K h a u80.2 mLanguages mBounds mSize mGoes mLast mLeft mNext mGroup mFresh mLeader mNumber mRight mEnds mWay mVariable mFactor mLeast mMost mLength mWord mKept mMany mMore mLeads mMet mTodo mMay mTries) := hD
      refine bz_eq (tgt := 40) hx hb d_Mo_automaton_35 (by decide) (fun c81 => ?_) (fun c81 => ?_)
      · rw [if_neg c81] at hf
        refine lv_iload_n hx hb d_Mo_automaton_40 rfl (lv_at hl 2 rfl) ?_
        refine lv_iconst (v := 1) hx hb d_Mo_automaton_41 (by decide) ?_
        refine lv_icmp_le (tgt := 85) hx hb d_Mo_automaton_42 (by decide) (fun c82 => ?_) (fun c82 => ?_)
        · rw [if_pos c82] at hf
          refine lv_iconst (v := 0) hx hb d_Mo_automaton_85 (by decide) ?_
          refine lv_istore (lv' := [(4, .int 0), (0, .ref h), (1, .int p0), (2, .int p1), (3, .int p2)]) hx hb d_Mo_automaton_86 hl (by decide) rfl (fun ls hl => ?_)
          refine lv_iconst (v := 0) hx hb d_Mo_automaton_88 (by decide) ?_
          refine lv_istore (lv' := [(5, .int 0), (4, .int 0), (0, .ref h), (1, .int p0), (2, .int p1), (3, .int p2)]) hx hb d_Mo_automaton_89 hl (by decide) rfl (fun ls hl => ?_)
          obtain ⟨u83, eu83, hf⟩ := obd hf
          refine w_Mo_automaton_91 hx hb hml hts hown hK hRf hRl hRc hRs hA  (fun u83q eu ls H locs hP hD hS hl => ?_) _ _ _ eu83 _ _ _ hP hD hS (show lv_has ls 6 [(5, .int 0), (4, .int 0), (0, .ref h), (1, .int p0), (2, .int p1), (3, .int p2)] from lv_sub hl [0, 1, 2, 3, 4, 5] rfl)
          subst eu
          refine lv_iload_n hx hb d_Mo_automaton_121 rfl (lv_at hl 3 rfl) ?_
          refine lv_if_ne (tgt := 134) hx hb d_Mo_automaton_122 (by decide) (fun c84 => ?_) (fun c84 => ?_)
          · rw [if_neg c84] at hf
            refine lv_iload_n hx hb d_Mo_automaton_134 rfl (lv_at hl 3 rfl) ?_
            refine lv_iconst (v := 1) hx hb d_Mo_automaton_135 (by decide) ?_
            refine lv_icmp_ne (tgt := 144) hx hb d_Mo_automaton_136 (by decide) (fun c85 => ?_) (fun c85 => ?_)
            · rw [if_neg c85] at hf
              refine lv_iload_n hx hb d_Mo_automaton_144 rfl (lv_at hl 3 rfl) ?_
              refine lv_iconst (v := 2) hx hb d_Mo_automaton_145 (by decide) ?_
              refine lv_icmp_ne (tgt := 163) hx hb d_Mo_automaton_146 (by decide) (fun c86 => ?_) (fun c86 => ?_)
              · rw [if_neg c86] at hf
                refine lv_aload_n hx hb d_Mo_automaton_163 rfl (lv_at hl 1 rfl) ?_
                refine lv_iload_n hx hb d_Mo_automaton_164 rfl (lv_at hl 2 rfl) ?_
                refine lv_iload_n hx hb d_Mo_automaton_165 rfl (lv_at hl 4 rfl) ?_
                obtain ⟨u87, eu87, hf⟩ := obd hf
                refine p_call (W.runV (As := [.int p0, .int p2]) (rest := []) ⟨hx, hb, hml, hown, hts⟩ (c_Mo_isLast l eu87) (gV 2 hts cd_Mo_isLast ml_Mo_102 im_Mo_isLast se_Mo_isLast ini_Mo rfl rfl pd_Mo_isLast ⟨Nat.le_trans (Nat.le_of_ble_eq_true rfl) hRf, Nat.le_trans (Nat.le_of_ble_eq_true rfl) hRl⟩) ⟨pPre_blind, va_recv hK hP (ci := 0) (q0 := 0) rfl rfl, pPre_of hP hK⟩ rfl rfl hl.1 rfl (lv_room (Nat.le_of_ble_eq_true rfl)) d_Mo_automaton_166 ⟨hRc, hRs⟩) ?_
                refine bz_eq (tgt := 176) hx hb d_Mo_automaton_169 (by decide) (fun c88 => ?_) (fun c88 => ?_)
                · rw [if_neg c88] at hf
                  refine lv_iconst (v := 0) hx hb d_Mo_automaton_176 (by decide) ?_
                  exact Kr _ (Option.some.inj hf).symm _ _ _ _ d_Mo_automaton_177 hP hD hS
                · rw [if_pos c88] at hf
                  refine lv_iconst (v := 1) hx hb d_Mo_automaton_172 (by decide) ?_
                  refine lv_goto (tgt := 177) hx hb d_Mo_automaton_173 (by decide) ?_
                  exact Kr _ (Option.some.inj hf).symm _ _ _ _ d_Mo_automaton_177 hP hD hS
              · rw [if_pos c86] at hf
                refine lv_aload_n hx hb d_Mo_automaton_149 rfl (lv_at hl 1 rfl) ?_
                refine lv_iload_n hx hb d_Mo_automaton_150 rfl (lv_at hl 2 rfl) ?_
                refine lv_iload_n hx hb d_Mo_automaton_151 rfl (lv_at hl 4 rfl) ?_
                refine lv_iconst (v := 4) hx hb d_Mo_automaton_152 (by decide) ?_
                refine lv_idiv hx hb d_Mo_automaton_153 (by decide) ?_
                refine lv_iload_n hx hb d_Mo_automaton_154 rfl (lv_at hl 4 rfl) ?_
                refine lv_iconst (v := 4) hx hb d_Mo_automaton_155 (by decide) ?_
                refine lv_irem hx hb d_Mo_automaton_156 (by decide) ?_
                obtain ⟨u89, eu89, hf⟩ := obd hf
                refine p_call (W.runV (As := [.int p0, .int (p2 / 4), .int (p2 - p2 / 4 * 4)]) (rest := []) ⟨hx, hb, hml, hown, hts⟩ (c_Mo_go l eu89) (gV 3 hts cd_Mo_go ml_Mo_98 im_Mo_go se_Mo_go ini_Mo rfl rfl pd_Mo_go ⟨Nat.le_trans (Nat.le_of_ble_eq_true rfl) hRf, Nat.le_trans (Nat.le_of_ble_eq_true rfl) hRl⟩) ⟨pPre_blind, va_recv hK hP (ci := 0) (q0 := 0) rfl rfl, pPre_of hP hK⟩ rfl rfl hl.1 rfl (lv_room (Nat.le_of_ble_eq_true rfl)) d_Mo_automaton_157 ⟨hRc, hRs⟩) ?_
                refine lv_goto (tgt := 177) hx hb d_Mo_automaton_160 (by decide) ?_
                exact Kr _ (Option.some.inj hf).symm _ _ _ _ d_Mo_automaton_177 hP hD hS
            · rw [if_pos c85] at hf
              refine lv_iload hx hb d_Mo_automaton_139 (lv_at hl 0 rfl) ?_
              refine lv_goto (tgt := 177) hx hb d_Mo_automaton_141 (by decide) ?_
              exact Kr _ (Option.some.inj hf).symm _ _ _ _ d_Mo_automaton_177 hP hD hS
          · rw [if_pos c84] at hf
            refine lv_aload_n hx hb d_Mo_automaton_125 rfl (lv_at hl 1 rfl) ?_
            refine va_get (D := D) (ci := 0) (v := .ref (a 0)) (C := R_Mo) (T := T_Mo) (N := 29) hx hb hts in_Mo hown hK hP 0 rfl rfl 3 (by decide) (hts _ fl_Mo_9) (fun _ h9 => h9) rfl d_Mo_automaton_126 ?_
            refine lv_iload_n hx hb d_Mo_automaton_129 rfl (lv_at hl 2 rfl) ?_
            obtain ⟨g90, hf⟩ := ogi hf
            refine va_iald hx hb hK hP 1 0 rfl rfl (gin_in g90) d_Mo_automaton_130 ?_
            refine lv_goto (tgt := 177) hx hb d_Mo_automaton_131 (by decide) ?_
            exact Kr _ (Option.some.inj hf).symm _ _ _ _ d_Mo_automaton_177 hP hD hS
        · rw [if_neg c82] at hf
          refine lv_aload_n hx hb d_Mo_automaton_45 rfl (lv_at hl 0 rfl) ?_
          refine lv_iload_n hx hb d_Mo_automaton_46 rfl (lv_at hl 3 rfl) ?_
          refine lv_if_lt (tgt := 71) hx hb d_Mo_automaton_47 (by decide) (fun c91 => ?_) (fun c91 => ?_)
          · rw [if_pos c91] at hf
            refine lv_iconst (v := 1) hx hb d_Mo_automaton_71 (by decide) ?_
            refine lv_goto (tgt := 76) hx hb d_Mo_automaton_72 (by decide) ?_
            refine lv_iconst (v := 2) hx hb d_Mo_automaton_76 (by decide) ?_
            obtain ⟨u92, eu92, hf⟩ := obd hf
            refine w_call (va_runV (As := [.int (bI true), .int 2]) (rest := []) ⟨hx, hb, hml, hown, hts⟩ (c_Mo_fails l H.size eu92) (gV 2 hts cd_Mo_fails ml_Mo_124 im_Mo_fails se_Mo_fails ini_Mo rfl rfl pd_Mo_fails ⟨Nat.le_trans (Nat.le_of_ble_eq_true rfl) hRf, Nat.le_trans (Nat.le_of_ble_eq_true rfl) hRl⟩) ⟨wPre_blind, va_recv hK hP (ci := 0) (q0 := 0) rfl rfl, wPre_of hP hK hD⟩ rfl rfl hl.1 rfl (lv_room (Nat.le_of_ble_eq_true rfl)) d_Mo_automaton_77 ⟨hRc, hRs⟩) hD hS hA (fun H locs hP hD hS => ?_)
            have hP : va_P D vwCl (moW K h a u92.2 mLanguages mBounds mSize mGoes mLast mLeft mNext mGroup mFresh mLeader mNumber mRight mEnds mWay mVariable mFactor mLeast mMost mLength mWord mKept mMany mMore mLeads mMet mTodo mMay mTries) H := hP
            have hD : va_D A (moW K h a u92.2 mLanguages mBounds mSize mGoes mLast mLeft mNext mGroup mFresh mLeader mNumber mRight mEnds mWay mVariable mFactor mLeast mMost mLength mWord mKept mMany mMore mLeads mMet mTodo mMay mTries) := hD
            refine bz_eq (tgt := 85) hx hb d_Mo_automaton_80 (by decide) (fun c93 => ?_) (fun c93 => ?_)
            · rw [if_neg c93] at hf
              refine lv_iconst (v := 0) hx hb d_Mo_automaton_85 (by decide) ?_
              refine lv_istore (lv' := [(4, .int 0), (0, .ref h), (1, .int p0), (2, .int p1), (3, .int p2)]) hx hb d_Mo_automaton_86 hl (by decide) rfl (fun ls hl => ?_)
              refine lv_iconst (v := 0) hx hb d_Mo_automaton_88 (by decide) ?_
              refine lv_istore (lv' := [(5, .int 0), (4, .int 0), (0, .ref h), (1, .int p0), (2, .int p1), (3, .int p2)]) hx hb d_Mo_automaton_89 hl (by decide) rfl (fun ls hl => ?_)
              obtain ⟨u94, eu94, hf⟩ := obd hf
              refine w_Mo_automaton_91 hx hb hml hts hown hK hRf hRl hRc hRs hA  (fun u94q eu ls H locs hP hD hS hl => ?_) _ _ _ eu94 _ _ _ hP hD hS (show lv_has ls 6 [(5, .int 0), (4, .int 0), (0, .ref h), (1, .int p0), (2, .int p1), (3, .int p2)] from lv_sub hl [0, 1, 2, 3, 4, 5] rfl)
              subst eu
              refine lv_iload_n hx hb d_Mo_automaton_121 rfl (lv_at hl 3 rfl) ?_
              refine lv_if_ne (tgt := 134) hx hb d_Mo_automaton_122 (by decide) (fun c95 => ?_) (fun c95 => ?_)
              · rw [if_neg c95] at hf
                refine lv_iload_n hx hb d_Mo_automaton_134 rfl (lv_at hl 3 rfl) ?_
                refine lv_iconst (v := 1) hx hb d_Mo_automaton_135 (by decide) ?_
                refine lv_icmp_ne (tgt := 144) hx hb d_Mo_automaton_136 (by decide) (fun c96 => ?_) (fun c96 => ?_)
                · rw [if_neg c96] at hf
                  refine lv_iload_n hx hb d_Mo_automaton_144 rfl (lv_at hl 3 rfl) ?_
                  refine lv_iconst (v := 2) hx hb d_Mo_automaton_145 (by decide) ?_
                  refine lv_icmp_ne (tgt := 163) hx hb d_Mo_automaton_146 (by decide) (fun c97 => ?_) (fun c97 => ?_)
                  · rw [if_neg c97] at hf
                    refine lv_aload_n hx hb d_Mo_automaton_163 rfl (lv_at hl 1 rfl) ?_
                    refine lv_iload_n hx hb d_Mo_automaton_164 rfl (lv_at hl 2 rfl) ?_
                    refine lv_iload_n hx hb d_Mo_automaton_165 rfl (lv_at hl 4 rfl) ?_
                    obtain ⟨u98, eu98, hf⟩ := obd hf
                    refine p_call (W.runV (As := [.int p0, .int p2]) (rest := []) ⟨hx, hb, hml, hown, hts⟩ (c_Mo_isLast l eu98) (gV 2 hts cd_Mo_isLast ml_Mo_102 im_Mo_isLast se_Mo_isLast ini_Mo rfl rfl pd_Mo_isLast ⟨Nat.le_trans (Nat.le_of_ble_eq_true rfl) hRf, Nat.le_trans (Nat.le_of_ble_eq_true rfl) hRl⟩) ⟨pPre_blind, va_recv hK hP (ci := 0) (q0 := 0) rfl rfl, pPre_of hP hK⟩ rfl rfl hl.1 rfl (lv_room (Nat.le_of_ble_eq_true rfl)) d_Mo_automaton_166 ⟨hRc, hRs⟩) ?_
                    refine bz_eq (tgt := 176) hx hb d_Mo_automaton_169 (by decide) (fun c99 => ?_) (fun c99 => ?_)
                    · rw [if_neg c99] at hf
                      refine lv_iconst (v := 0) hx hb d_Mo_automaton_176 (by decide) ?_
                      exact Kr _ (Option.some.inj hf).symm _ _ _ _ d_Mo_automaton_177 hP hD hS
                    · rw [if_pos c99] at hf
                      refine lv_iconst (v := 1) hx hb d_Mo_automaton_172 (by decide) ?_
                      refine lv_goto (tgt := 177) hx hb d_Mo_automaton_173 (by decide) ?_
                      exact Kr _ (Option.some.inj hf).symm _ _ _ _ d_Mo_automaton_177 hP hD hS
                  · rw [if_pos c97] at hf
                    refine lv_aload_n hx hb d_Mo_automaton_149 rfl (lv_at hl 1 rfl) ?_
                    refine lv_iload_n hx hb d_Mo_automaton_150 rfl (lv_at hl 2 rfl) ?_
                    refine lv_iload_n hx hb d_Mo_automaton_151 rfl (lv_at hl 4 rfl) ?_
                    refine lv_iconst (v := 4) hx hb d_Mo_automaton_152 (by decide) ?_
                    refine lv_idiv hx hb d_Mo_automaton_153 (by decide) ?_
                    refine lv_iload_n hx hb d_Mo_automaton_154 rfl (lv_at hl 4 rfl) ?_
                    refine lv_iconst (v := 4) hx hb d_Mo_automaton_155 (by decide) ?_
                    refine lv_irem hx hb d_Mo_automaton_156 (by decide) ?_
                    obtain ⟨u100, eu100, hf⟩ := obd hf
                    refine p_call (W.runV (As := [.int p0, .int (p2 / 4), .int (p2 - p2 / 4 * 4)]) (rest := []) ⟨hx, hb, hml, hown, hts⟩ (c_Mo_go l eu100) (gV 3 hts cd_Mo_go ml_Mo_98 im_Mo_go se_Mo_go ini_Mo rfl rfl pd_Mo_go ⟨Nat.le_trans (Nat.le_of_ble_eq_true rfl) hRf, Nat.le_trans (Nat.le_of_ble_eq_true rfl) hRl⟩) ⟨pPre_blind, va_recv hK hP (ci := 0) (q0 := 0) rfl rfl, pPre_of hP hK⟩ rfl rfl hl.1 rfl (lv_room (Nat.le_of_ble_eq_true rfl)) d_Mo_automaton_157 ⟨hRc, hRs⟩) ?_
                    refine lv_goto (tgt := 177) hx hb d_Mo_automaton_160 (by decide) ?_
                    exact Kr _ (Option.some.inj hf).symm _ _ _ _ d_Mo_automaton_177 hP hD hS
                · rw [if_pos c96] at hf
                  refine lv_iload hx hb d_Mo_automaton_139 (lv_at hl 0 rfl) ?_
                  refine lv_goto (tgt := 177) hx hb d_Mo_automaton_141 (by decide) ?_
                  exact Kr _ (Option.some.inj hf).symm _ _ _ _ d_Mo_automaton_177 hP hD hS
              · rw [if_pos c95] at hf
                refine lv_aload_n hx hb d_Mo_automaton_125 rfl (lv_at hl 1 rfl) ?_
                refine va_get (D := D) (ci := 0) (v := .ref (a 0)) (C := R_Mo) (T := T_Mo) (N := 29) hx hb hts in_Mo hown hK hP 0 rfl rfl 3 (by decide) (hts _ fl_Mo_9) (fun _ h9 => h9) rfl d_Mo_automaton_126 ?_
                refine lv_iload_n hx hb d_Mo_automaton_129 rfl (lv_at hl 2 rfl) ?_
                obtain ⟨g101, hf⟩ := ogi hf
                refine va_iald hx hb hK hP 1 0 rfl rfl (gin_in g101) d_Mo_automaton_130 ?_
                refine lv_goto (tgt := 177) hx hb d_Mo_automaton_131 (by decide) ?_
                exact Kr _ (Option.some.inj hf).symm _ _ _ _ d_Mo_automaton_177 hP hD hS
            · rw [if_pos c93] at hf
              refine lv_iconst (v := 0) hx hb d_Mo_automaton_83 (by decide) ?_
              exact Kr _ (Option.some.inj hf).symm _ _ _ _ d_Mo_automaton_84 hP hD hS
          · rw [if_neg c91] at hf
            refine lv_iload_n hx hb d_Mo_automaton_50 rfl (lv_at hl 2 rfl) ?_
            refine lv_iconst (v := 2) hx hb d_Mo_automaton_51 (by decide) ?_
            refine lv_icmp_ne (tgt := 61) hx hb d_Mo_automaton_52 (by decide) (fun c102 => ?_) (fun c102 => ?_)
            · rw [if_neg c102] at hf
              refine lv_iload_n hx hb d_Mo_automaton_61 rfl (lv_at hl 3 rfl) ?_
              refine lv_aload_n hx hb d_Mo_automaton_62 rfl (lv_at hl 0 rfl) ?_
              refine va_get (D := D) (ci := 0) (v := .ref (a 0)) (C := R_Mo) (T := T_Mo) (N := 29) hx hb hts in_Mo hown hK hP 0 rfl rfl 3 (by decide) (hts _ fl_Mo_9) (fun _ h9 => h9) rfl d_Mo_automaton_63 ?_
              refine lv_iload_n hx hb d_Mo_automaton_66 rfl (lv_at hl 1 rfl) ?_
              obtain ⟨g103, hf⟩ := ogi hf
              refine va_iald hx hb hK hP 1 0 rfl rfl (gin_in g103) d_Mo_automaton_67 ?_
              refine lv_icmp_lt (tgt := 75) hx hb d_Mo_automaton_68 (by decide) (fun c104 => ?_) (fun c104 => ?_)
              · rw [if_pos c104] at hf
                refine lv_iconst (v := 0) hx hb d_Mo_automaton_75 (by decide) ?_
                refine lv_iconst (v := 2) hx hb d_Mo_automaton_76 (by decide) ?_
                obtain ⟨u105, eu105, hf⟩ := obd hf
                refine w_call (va_runV (As := [.int (bI false), .int 2]) (rest := []) ⟨hx, hb, hml, hown, hts⟩ (c_Mo_fails l H.size eu105) (gV 2 hts cd_Mo_fails ml_Mo_124 im_Mo_fails se_Mo_fails ini_Mo rfl rfl pd_Mo_fails ⟨Nat.le_trans (Nat.le_of_ble_eq_true rfl) hRf, Nat.le_trans (Nat.le_of_ble_eq_true rfl) hRl⟩) ⟨wPre_blind, va_recv hK hP (ci := 0) (q0 := 0) rfl rfl, wPre_of hP hK hD⟩ rfl rfl hl.1 rfl (lv_room (Nat.le_of_ble_eq_true rfl)) d_Mo_automaton_77 ⟨hRc, hRs⟩) hD hS hA (fun H locs hP hD hS => ?_)
                have hP : va_P D vwCl (moW K h a u105.2 mLanguages mBounds mSize mGoes mLast mLeft mNext mGroup mFresh mLeader mNumber mRight mEnds mWay mVariable mFactor mLeast mMost mLength mWord mKept mMany mMore mLeads mMet mTodo mMay mTries) H := hP
                have hD : va_D A (moW K h a u105.2 mLanguages mBounds mSize mGoes mLast mLeft mNext mGroup mFresh mLeader mNumber mRight mEnds mWay mVariable mFactor mLeast mMost mLength mWord mKept mMany mMore mLeads mMet mTodo mMay mTries) := hD
                refine bz_eq (tgt := 85) hx hb d_Mo_automaton_80 (by decide) (fun c106 => ?_) (fun c106 => ?_)
                · rw [if_neg c106] at hf
                  refine lv_iconst (v := 0) hx hb d_Mo_automaton_85 (by decide) ?_
                  refine lv_istore (lv' := [(4, .int 0), (0, .ref h), (1, .int p0), (2, .int p1), (3, .int p2)]) hx hb d_Mo_automaton_86 hl (by decide) rfl (fun ls hl => ?_)
                  refine lv_iconst (v := 0) hx hb d_Mo_automaton_88 (by decide) ?_
                  refine lv_istore (lv' := [(5, .int 0), (4, .int 0), (0, .ref h), (1, .int p0), (2, .int p1), (3, .int p2)]) hx hb d_Mo_automaton_89 hl (by decide) rfl (fun ls hl => ?_)
                  obtain ⟨u107, eu107, hf⟩ := obd hf
                  refine w_Mo_automaton_91 hx hb hml hts hown hK hRf hRl hRc hRs hA  (fun u107q eu ls H locs hP hD hS hl => ?_) _ _ _ eu107 _ _ _ hP hD hS (show lv_has ls 6 [(5, .int 0), (4, .int 0), (0, .ref h), (1, .int p0), (2, .int p1), (3, .int p2)] from lv_sub hl [0, 1, 2, 3, 4, 5] rfl)
                  subst eu
                  refine lv_iload_n hx hb d_Mo_automaton_121 rfl (lv_at hl 3 rfl) ?_
                  refine lv_if_ne (tgt := 134) hx hb d_Mo_automaton_122 (by decide) (fun c108 => ?_) (fun c108 => ?_)
                  · rw [if_neg c108] at hf
                    refine lv_iload_n hx hb d_Mo_automaton_134 rfl (lv_at hl 3 rfl) ?_
                    refine lv_iconst (v := 1) hx hb d_Mo_automaton_135 (by decide) ?_
                    refine lv_icmp_ne (tgt := 144) hx hb d_Mo_automaton_136 (by decide) (fun c109 => ?_) (fun c109 => ?_)
                    · rw [if_neg c109] at hf
                      refine lv_iload_n hx hb d_Mo_automaton_144 rfl (lv_at hl 3 rfl) ?_
                      refine lv_iconst (v := 2) hx hb d_Mo_automaton_145 (by decide) ?_
                      refine lv_icmp_ne (tgt := 163) hx hb d_Mo_automaton_146 (by decide) (fun c110 => ?_) (fun c110 => ?_)
                      · rw [if_neg c110] at hf
                        refine lv_aload_n hx hb d_Mo_automaton_163 rfl (lv_at hl 1 rfl) ?_
                        refine lv_iload_n hx hb d_Mo_automaton_164 rfl (lv_at hl 2 rfl) ?_
                        refine lv_iload_n hx hb d_Mo_automaton_165 rfl (lv_at hl 4 rfl) ?_
                        obtain ⟨u111, eu111, hf⟩ := obd hf
                        refine p_call (W.runV (As := [.int p0, .int p2]) (rest := []) ⟨hx, hb, hml, hown, hts⟩ (c_Mo_isLast l eu111) (gV 2 hts cd_Mo_isLast ml_Mo_102 im_Mo_isLast se_Mo_isLast ini_Mo rfl rfl pd_Mo_isLast ⟨Nat.le_trans (Nat.le_of_ble_eq_true rfl) hRf, Nat.le_trans (Nat.le_of_ble_eq_true rfl) hRl⟩) ⟨pPre_blind, va_recv hK hP (ci := 0) (q0 := 0) rfl rfl, pPre_of hP hK⟩ rfl rfl hl.1 rfl (lv_room (Nat.le_of_ble_eq_true rfl)) d_Mo_automaton_166 ⟨hRc, hRs⟩) ?_
                        refine bz_eq (tgt := 176) hx hb d_Mo_automaton_169 (by decide) (fun c112 => ?_) (fun c112 => ?_)
                        · rw [if_neg c112] at hf
                          refine lv_iconst (v := 0) hx hb d_Mo_automaton_176 (by decide) ?_
                          exact Kr _ (Option.some.inj hf).symm _ _ _ _ d_Mo_automaton_177 hP hD hS
                        · rw [if_pos c112] at hf
                          refine lv_iconst (v := 1) hx hb d_Mo_automaton_172 (by decide) ?_
                          refine lv_goto (tgt := 177) hx hb d_Mo_automaton_173 (by decide) ?_
                          exact Kr _ (Option.some.inj hf).symm _ _ _ _ d_Mo_automaton_177 hP hD hS
                      · rw [if_pos c110] at hf
                        refine lv_aload_n hx hb d_Mo_automaton_149 rfl (lv_at hl 1 rfl) ?_
                        refine lv_iload_n hx hb d_Mo_automaton_150 rfl (lv_at hl 2 rfl) ?_
                        refine lv_iload_n hx hb d_Mo_automaton_151 rfl (lv_at hl 4 rfl) ?_
                        refine lv_iconst (v := 4) hx hb d_Mo_automaton_152 (by decide) ?_
                        refine lv_idiv hx hb d_Mo_automaton_153 (by decide) ?_
                        refine lv_iload_n hx hb d_Mo_automaton_154 rfl (lv_at hl 4 rfl) ?_
                        refine lv_iconst (v := 4) hx hb d_Mo_automaton_155 (by decide) ?_
                        refine lv_irem hx hb d_Mo_automaton_156 (by decide) ?_
                        obtain ⟨u113, eu113, hf⟩ := obd hf
                        refine p_call (W.runV (As := [.int p0, .int (p2 / 4), .int (p2 - p2 / 4 * 4)]) (rest := []) ⟨hx, hb, hml, hown, hts⟩ (c_Mo_go l eu113) (gV 3 hts cd_Mo_go ml_Mo_98 im_Mo_go se_Mo_go ini_Mo rfl rfl pd_Mo_go ⟨Nat.le_trans (Nat.le_of_ble_eq_true rfl) hRf, Nat.le_trans (Nat.le_of_ble_eq_true rfl) hRl⟩) ⟨pPre_blind, va_recv hK hP (ci := 0) (q0 := 0) rfl rfl, pPre_of hP hK⟩ rfl rfl hl.1 rfl (lv_room (Nat.le_of_ble_eq_true rfl)) d_Mo_automaton_157 ⟨hRc, hRs⟩) ?_
                        refine lv_goto (tgt := 177) hx hb d_Mo_automaton_160 (by decide) ?_
                        exact Kr _ (Option.some.inj hf).symm _ _ _ _ d_Mo_automaton_177 hP hD hS
                    · rw [if_pos c109] at hf
                      refine lv_iload hx hb d_Mo_automaton_139 (lv_at hl 0 rfl) ?_
                      refine lv_goto (tgt := 177) hx hb d_Mo_automaton_141 (by decide) ?_
                      exact Kr _ (Option.some.inj hf).symm _ _ _ _ d_Mo_automaton_177 hP hD hS
                  · rw [if_pos c108] at hf
                    refine lv_aload_n hx hb d_Mo_automaton_125 rfl (lv_at hl 1 rfl) ?_
                    refine va_get (D := D) (ci := 0) (v := .ref (a 0)) (C := R_Mo) (T := T_Mo) (N := 29) hx hb hts in_Mo hown hK hP 0 rfl rfl 3 (by decide) (hts _ fl_Mo_9) (fun _ h9 => h9) rfl d_Mo_automaton_126 ?_
                    refine lv_iload_n hx hb d_Mo_automaton_129 rfl (lv_at hl 2 rfl) ?_
                    obtain ⟨g114, hf⟩ := ogi hf
                    refine va_iald hx hb hK hP 1 0 rfl rfl (gin_in g114) d_Mo_automaton_130 ?_
                    refine lv_goto (tgt := 177) hx hb d_Mo_automaton_131 (by decide) ?_
                    exact Kr _ (Option.some.inj hf).symm _ _ _ _ d_Mo_automaton_177 hP hD hS
                · rw [if_pos c106] at hf
                  refine lv_iconst (v := 0) hx hb d_Mo_automaton_83 (by decide) ?_
                  exact Kr _ (Option.some.inj hf).symm _ _ _ _ d_Mo_automaton_84 hP hD hS
              · rw [if_neg c104] at hf
                refine lv_iconst (v := 1) hx hb d_Mo_automaton_71 (by decide) ?_
                refine lv_goto (tgt := 76) hx hb d_Mo_automaton_72 (by decide) ?_
                refine lv_iconst (v := 2) hx hb d_Mo_automaton_76 (by decide) ?_
                obtain ⟨u115, eu115, hf⟩ := obd hf
                refine w_call (va_runV (As := [.int (bI true), .int 2]) (rest := []) ⟨hx, hb, hml, hown, hts⟩ (c_Mo_fails l H.size eu115) (gV 2 hts cd_Mo_fails ml_Mo_124 im_Mo_fails se_Mo_fails ini_Mo rfl rfl pd_Mo_fails ⟨Nat.le_trans (Nat.le_of_ble_eq_true rfl) hRf, Nat.le_trans (Nat.le_of_ble_eq_true rfl) hRl⟩) ⟨wPre_blind, va_recv hK hP (ci := 0) (q0 := 0) rfl rfl, wPre_of hP hK hD⟩ rfl rfl hl.1 rfl (lv_room (Nat.le_of_ble_eq_true rfl)) d_Mo_automaton_77 ⟨hRc, hRs⟩) hD hS hA (fun H locs hP hD hS => ?_)
                have hP : va_P D vwCl (moW K h a u115.2 mLanguages mBounds mSize mGoes mLast mLeft mNext mGroup mFresh mLeader mNumber mRight mEnds mWay mVariable mFactor mLeast mMost mLength mWord mKept mMany mMore mLeads mMet mTodo mMay mTries) H := hP
                have hD : va_D A (moW K h a u115.2 mLanguages mBounds mSize mGoes mLast mLeft mNext mGroup mFresh mLeader mNumber mRight mEnds mWay mVariable mFactor mLeast mMost mLength mWord mKept mMany mMore mLeads mMet mTodo mMay mTries) := hD
                refine bz_eq (tgt := 85) hx hb d_Mo_automaton_80 (by decide) (fun c116 => ?_) (fun c116 => ?_)
                · rw [if_neg c116] at hf
                  refine lv_iconst (v := 0) hx hb d_Mo_automaton_85 (by decide) ?_
                  refine lv_istore (lv' := [(4, .int 0), (0, .ref h), (1, .int p0), (2, .int p1), (3, .int p2)]) hx hb d_Mo_automaton_86 hl (by decide) rfl (fun ls hl => ?_)
                  refine lv_iconst (v := 0) hx hb d_Mo_automaton_88 (by decide) ?_
                  refine lv_istore (lv' := [(5, .int 0), (4, .int 0), (0, .ref h), (1, .int p0), (2, .int p1), (3, .int p2)]) hx hb d_Mo_automaton_89 hl (by decide) rfl (fun ls hl => ?_)
                  obtain ⟨u117, eu117, hf⟩ := obd hf
                  refine w_Mo_automaton_91 hx hb hml hts hown hK hRf hRl hRc hRs hA  (fun u117q eu ls H locs hP hD hS hl => ?_) _ _ _ eu117 _ _ _ hP hD hS (show lv_has ls 6 [(5, .int 0), (4, .int 0), (0, .ref h), (1, .int p0), (2, .int p1), (3, .int p2)] from lv_sub hl [0, 1, 2, 3, 4, 5] rfl)
                  subst eu
                  refine lv_iload_n hx hb d_Mo_automaton_121 rfl (lv_at hl 3 rfl) ?_
                  refine lv_if_ne (tgt := 134) hx hb d_Mo_automaton_122 (by decide) (fun c118 => ?_) (fun c118 => ?_)
                  · rw [if_neg c118] at hf
                    refine lv_iload_n hx hb d_Mo_automaton_134 rfl (lv_at hl 3 rfl) ?_
                    refine lv_iconst (v := 1) hx hb d_Mo_automaton_135 (by decide) ?_
                    refine lv_icmp_ne (tgt := 144) hx hb d_Mo_automaton_136 (by decide) (fun c119 => ?_) (fun c119 => ?_)
                    · rw [if_neg c119] at hf
                      refine lv_iload_n hx hb d_Mo_automaton_144 rfl (lv_at hl 3 rfl) ?_
                      refine lv_iconst (v := 2) hx hb d_Mo_automaton_145 (by decide) ?_
                      refine lv_icmp_ne (tgt := 163) hx hb d_Mo_automaton_146 (by decide) (fun c120 => ?_) (fun c120 => ?_)
                      · rw [if_neg c120] at hf
                        refine lv_aload_n hx hb d_Mo_automaton_163 rfl (lv_at hl 1 rfl) ?_
                        refine lv_iload_n hx hb d_Mo_automaton_164 rfl (lv_at hl 2 rfl) ?_
                        refine lv_iload_n hx hb d_Mo_automaton_165 rfl (lv_at hl 4 rfl) ?_
                        obtain ⟨u121, eu121, hf⟩ := obd hf
                        refine p_call (W.runV (As := [.int p0, .int p2]) (rest := []) ⟨hx, hb, hml, hown, hts⟩ (c_Mo_isLast l eu121) (gV 2 hts cd_Mo_isLast ml_Mo_102 im_Mo_isLast se_Mo_isLast ini_Mo rfl rfl pd_Mo_isLast ⟨Nat.le_trans (Nat.le_of_ble_eq_true rfl) hRf, Nat.le_trans (Nat.le_of_ble_eq_true rfl) hRl⟩) ⟨pPre_blind, va_recv hK hP (ci := 0) (q0 := 0) rfl rfl, pPre_of hP hK⟩ rfl rfl hl.1 rfl (lv_room (Nat.le_of_ble_eq_true rfl)) d_Mo_automaton_166 ⟨hRc, hRs⟩) ?_
                        refine bz_eq (tgt := 176) hx hb d_Mo_automaton_169 (by decide) (fun c122 => ?_) (fun c122 => ?_)
                        · rw [if_neg c122] at hf
                          refine lv_iconst (v := 0) hx hb d_Mo_automaton_176 (by decide) ?_
                          exact Kr _ (Option.some.inj hf).symm _ _ _ _ d_Mo_automaton_177 hP hD hS
                        · rw [if_pos c122] at hf
                          refine lv_iconst (v := 1) hx hb d_Mo_automaton_172 (by decide) ?_
                          refine lv_goto (tgt := 177) hx hb d_Mo_automaton_173 (by decide) ?_
                          exact Kr _ (Option.some.inj hf).symm _ _ _ _ d_Mo_automaton_177 hP hD hS
                      · rw [if_pos c120] at hf
                        refine lv_aload_n hx hb d_Mo_automaton_149 rfl (lv_at hl 1 rfl) ?_
                        refine lv_iload_n hx hb d_Mo_automaton_150 rfl (lv_at hl 2 rfl) ?_
                        refine lv_iload_n hx hb d_Mo_automaton_151 rfl (lv_at hl 4 rfl) ?_
                        refine lv_iconst (v := 4) hx hb d_Mo_automaton_152 (by decide) ?_
                        refine lv_idiv hx hb d_Mo_automaton_153 (by decide) ?_
                        refine lv_iload_n hx hb d_Mo_automaton_154 rfl (lv_at hl 4 rfl) ?_
                        refine lv_iconst (v := 4) hx hb d_Mo_automaton_155 (by decide) ?_
                        refine lv_irem hx hb d_Mo_automaton_156 (by decide) ?_
                        obtain ⟨u123, eu123, hf⟩ := obd hf
                        refine p_call (W.runV (As := [.int p0, .int (p2 / 4), .int (p2 - p2 / 4 * 4)]) (rest := []) ⟨hx, hb, hml, hown, hts⟩ (c_Mo_go l eu123) (gV 3 hts cd_Mo_go ml_Mo_98 im_Mo_go se_Mo_go ini_Mo rfl rfl pd_Mo_go ⟨Nat.le_trans (Nat.le_of_ble_eq_true rfl) hRf, Nat.le_trans (Nat.le_of_ble_eq_true rfl) hRl⟩) ⟨pPre_blind, va_recv hK hP (ci := 0) (q0 := 0) rfl rfl, pPre_of hP hK⟩ rfl rfl hl.1 rfl (lv_room (Nat.le_of_ble_eq_true rfl)) d_Mo_automaton_157 ⟨hRc, hRs⟩) ?_
                        refine lv_goto (tgt := 177) hx hb d_Mo_automaton_160 (by decide) ?_
                        exact Kr _ (Option.some.inj hf).symm _ _ _ _ d_Mo_automaton_177 hP hD hS
                    · rw [if_pos c119] at hf
                      refine lv_iload hx hb d_Mo_automaton_139 (lv_at hl 0 rfl) ?_
                      refine lv_goto (tgt := 177) hx hb d_Mo_automaton_141 (by decide) ?_
                      exact Kr _ (Option.some.inj hf).symm _ _ _ _ d_Mo_automaton_177 hP hD hS
                  · rw [if_pos c118] at hf
                    refine lv_aload_n hx hb d_Mo_automaton_125 rfl (lv_at hl 1 rfl) ?_
                    refine va_get (D := D) (ci := 0) (v := .ref (a 0)) (C := R_Mo) (T := T_Mo) (N := 29) hx hb hts in_Mo hown hK hP 0 rfl rfl 3 (by decide) (hts _ fl_Mo_9) (fun _ h9 => h9) rfl d_Mo_automaton_126 ?_
                    refine lv_iload_n hx hb d_Mo_automaton_129 rfl (lv_at hl 2 rfl) ?_
                    obtain ⟨g124, hf⟩ := ogi hf
                    refine va_iald hx hb hK hP 1 0 rfl rfl (gin_in g124) d_Mo_automaton_130 ?_
                    refine lv_goto (tgt := 177) hx hb d_Mo_automaton_131 (by decide) ?_
                    exact Kr _ (Option.some.inj hf).symm _ _ _ _ d_Mo_automaton_177 hP hD hS
                · rw [if_pos c116] at hf
                  refine lv_iconst (v := 0) hx hb d_Mo_automaton_83 (by decide) ?_
                  exact Kr _ (Option.some.inj hf).symm _ _ _ _ d_Mo_automaton_84 hP hD hS
            · rw [if_pos c102] at hf
              refine lv_iload_n hx hb d_Mo_automaton_55 rfl (lv_at hl 3 rfl) ?_
              refine lv_iconst (v := 4) hx hb d_Mo_automaton_56 (by decide) ?_
              refine lv_idiv hx hb d_Mo_automaton_57 (by decide) ?_
              refine lv_goto (tgt := 62) hx hb d_Mo_automaton_58 (by decide) ?_
              refine lv_aload_n hx hb d_Mo_automaton_62 rfl (lv_at hl 0 rfl) ?_
              refine va_get (D := D) (ci := 0) (v := .ref (a 0)) (C := R_Mo) (T := T_Mo) (N := 29) hx hb hts in_Mo hown hK hP 0 rfl rfl 3 (by decide) (hts _ fl_Mo_9) (fun _ h9 => h9) rfl d_Mo_automaton_63 ?_
              refine lv_iload_n hx hb d_Mo_automaton_66 rfl (lv_at hl 1 rfl) ?_
              obtain ⟨g125, hf⟩ := ogi hf
              refine va_iald hx hb hK hP 1 0 rfl rfl (gin_in g125) d_Mo_automaton_67 ?_
              refine lv_icmp_lt (tgt := 75) hx hb d_Mo_automaton_68 (by decide) (fun c126 => ?_) (fun c126 => ?_)
              · rw [if_pos c126] at hf
                refine lv_iconst (v := 0) hx hb d_Mo_automaton_75 (by decide) ?_
                refine lv_iconst (v := 2) hx hb d_Mo_automaton_76 (by decide) ?_
                obtain ⟨u127, eu127, hf⟩ := obd hf
                refine w_call (va_runV (As := [.int (bI false), .int 2]) (rest := []) ⟨hx, hb, hml, hown, hts⟩ (c_Mo_fails l H.size eu127) (gV 2 hts cd_Mo_fails ml_Mo_124 im_Mo_fails se_Mo_fails ini_Mo rfl rfl pd_Mo_fails ⟨Nat.le_trans (Nat.le_of_ble_eq_true rfl) hRf, Nat.le_trans (Nat.le_of_ble_eq_true rfl) hRl⟩) ⟨wPre_blind, va_recv hK hP (ci := 0) (q0 := 0) rfl rfl, wPre_of hP hK hD⟩ rfl rfl hl.1 rfl (lv_room (Nat.le_of_ble_eq_true rfl)) d_Mo_automaton_77 ⟨hRc, hRs⟩) hD hS hA (fun H locs hP hD hS => ?_)
                have hP : va_P D vwCl (moW K h a u127.2 mLanguages mBounds mSize mGoes mLast mLeft mNext mGroup mFresh mLeader mNumber mRight mEnds mWay mVariable mFactor mLeast mMost mLength mWord mKept mMany mMore mLeads mMet mTodo mMay mTries) H := hP
                have hD : va_D A (moW K h a u127.2 mLanguages mBounds mSize mGoes mLast mLeft mNext mGroup mFresh mLeader mNumber mRight mEnds mWay mVariable mFactor mLeast mMost mLength mWord mKept mMany mMore mLeads mMet mTodo mMay mTries) := hD
                refine bz_eq (tgt := 85) hx hb d_Mo_automaton_80 (by decide) (fun c128 => ?_) (fun c128 => ?_)
                · rw [if_neg c128] at hf
                  refine lv_iconst (v := 0) hx hb d_Mo_automaton_85 (by decide) ?_
                  refine lv_istore (lv' := [(4, .int 0), (0, .ref h), (1, .int p0), (2, .int p1), (3, .int p2)]) hx hb d_Mo_automaton_86 hl (by decide) rfl (fun ls hl => ?_)
                  refine lv_iconst (v := 0) hx hb d_Mo_automaton_88 (by decide) ?_
                  refine lv_istore (lv' := [(5, .int 0), (4, .int 0), (0, .ref h), (1, .int p0), (2, .int p1), (3, .int p2)]) hx hb d_Mo_automaton_89 hl (by decide) rfl (fun ls hl => ?_)
                  obtain ⟨u129, eu129, hf⟩ := obd hf
                  refine w_Mo_automaton_91 hx hb hml hts hown hK hRf hRl hRc hRs hA  (fun u129q eu ls H locs hP hD hS hl => ?_) _ _ _ eu129 _ _ _ hP hD hS (show lv_has ls 6 [(5, .int 0), (4, .int 0), (0, .ref h), (1, .int p0), (2, .int p1), (3, .int p2)] from lv_sub hl [0, 1, 2, 3, 4, 5] rfl)
                  subst eu
                  refine lv_iload_n hx hb d_Mo_automaton_121 rfl (lv_at hl 3 rfl) ?_
                  refine lv_if_ne (tgt := 134) hx hb d_Mo_automaton_122 (by decide) (fun c130 => ?_) (fun c130 => ?_)
                  · rw [if_neg c130] at hf
                    refine lv_iload_n hx hb d_Mo_automaton_134 rfl (lv_at hl 3 rfl) ?_
                    refine lv_iconst (v := 1) hx hb d_Mo_automaton_135 (by decide) ?_
                    refine lv_icmp_ne (tgt := 144) hx hb d_Mo_automaton_136 (by decide) (fun c131 => ?_) (fun c131 => ?_)
                    · rw [if_neg c131] at hf
                      refine lv_iload_n hx hb d_Mo_automaton_144 rfl (lv_at hl 3 rfl) ?_
                      refine lv_iconst (v := 2) hx hb d_Mo_automaton_145 (by decide) ?_
                      refine lv_icmp_ne (tgt := 163) hx hb d_Mo_automaton_146 (by decide) (fun c132 => ?_) (fun c132 => ?_)
                      · rw [if_neg c132] at hf
                        refine lv_aload_n hx hb d_Mo_automaton_163 rfl (lv_at hl 1 rfl) ?_
                        refine lv_iload_n hx hb d_Mo_automaton_164 rfl (lv_at hl 2 rfl) ?_
                        refine lv_iload_n hx hb d_Mo_automaton_165 rfl (lv_at hl 4 rfl) ?_
                        obtain ⟨u133, eu133, hf⟩ := obd hf
                        refine p_call (W.runV (As := [.int p0, .int p2]) (rest := []) ⟨hx, hb, hml, hown, hts⟩ (c_Mo_isLast l eu133) (gV 2 hts cd_Mo_isLast ml_Mo_102 im_Mo_isLast se_Mo_isLast ini_Mo rfl rfl pd_Mo_isLast ⟨Nat.le_trans (Nat.le_of_ble_eq_true rfl) hRf, Nat.le_trans (Nat.le_of_ble_eq_true rfl) hRl⟩) ⟨pPre_blind, va_recv hK hP (ci := 0) (q0 := 0) rfl rfl, pPre_of hP hK⟩ rfl rfl hl.1 rfl (lv_room (Nat.le_of_ble_eq_true rfl)) d_Mo_automaton_166 ⟨hRc, hRs⟩) ?_
                        refine bz_eq (tgt := 176) hx hb d_Mo_automaton_169 (by decide) (fun c134 => ?_) (fun c134 => ?_)
                        · rw [if_neg c134] at hf
                          refine lv_iconst (v := 0) hx hb d_Mo_automaton_176 (by decide) ?_
                          exact Kr _ (Option.some.inj hf).symm _ _ _ _ d_Mo_automaton_177 hP hD hS
                        · rw [if_pos c134] at hf
                          refine lv_iconst (v := 1) hx hb d_Mo_automaton_172 (by decide) ?_
                          refine lv_goto (tgt := 177) hx hb d_Mo_automaton_173 (by decide) ?_
                          exact Kr _ (Option.some.inj hf).symm _ _ _ _ d_Mo_automaton_177 hP hD hS
                      · rw [if_pos c132] at hf
                        refine lv_aload_n hx hb d_Mo_automaton_149 rfl (lv_at hl 1 rfl) ?_
                        refine lv_iload_n hx hb d_Mo_automaton_150 rfl (lv_at hl 2 rfl) ?_
                        refine lv_iload_n hx hb d_Mo_automaton_151 rfl (lv_at hl 4 rfl) ?_
                        refine lv_iconst (v := 4) hx hb d_Mo_automaton_152 (by decide) ?_
                        refine lv_idiv hx hb d_Mo_automaton_153 (by decide) ?_
                        refine lv_iload_n hx hb d_Mo_automaton_154 rfl (lv_at hl 4 rfl) ?_
                        refine lv_iconst (v := 4) hx hb d_Mo_automaton_155 (by decide) ?_
                        refine lv_irem hx hb d_Mo_automaton_156 (by decide) ?_
                        obtain ⟨u135, eu135, hf⟩ := obd hf
                        refine p_call (W.runV (As := [.int p0, .int (p2 / 4), .int (p2 - p2 / 4 * 4)]) (rest := []) ⟨hx, hb, hml, hown, hts⟩ (c_Mo_go l eu135) (gV 3 hts cd_Mo_go ml_Mo_98 im_Mo_go se_Mo_go ini_Mo rfl rfl pd_Mo_go ⟨Nat.le_trans (Nat.le_of_ble_eq_true rfl) hRf, Nat.le_trans (Nat.le_of_ble_eq_true rfl) hRl⟩) ⟨pPre_blind, va_recv hK hP (ci := 0) (q0 := 0) rfl rfl, pPre_of hP hK⟩ rfl rfl hl.1 rfl (lv_room (Nat.le_of_ble_eq_true rfl)) d_Mo_automaton_157 ⟨hRc, hRs⟩) ?_
                        refine lv_goto (tgt := 177) hx hb d_Mo_automaton_160 (by decide) ?_
                        exact Kr _ (Option.some.inj hf).symm _ _ _ _ d_Mo_automaton_177 hP hD hS
                    · rw [if_pos c131] at hf
                      refine lv_iload hx hb d_Mo_automaton_139 (lv_at hl 0 rfl) ?_
                      refine lv_goto (tgt := 177) hx hb d_Mo_automaton_141 (by decide) ?_
                      exact Kr _ (Option.some.inj hf).symm _ _ _ _ d_Mo_automaton_177 hP hD hS
                  · rw [if_pos c130] at hf
                    refine lv_aload_n hx hb d_Mo_automaton_125 rfl (lv_at hl 1 rfl) ?_
                    refine va_get (D := D) (ci := 0) (v := .ref (a 0)) (C := R_Mo) (T := T_Mo) (N := 29) hx hb hts in_Mo hown hK hP 0 rfl rfl 3 (by decide) (hts _ fl_Mo_9) (fun _ h9 => h9) rfl d_Mo_automaton_126 ?_
                    refine lv_iload_n hx hb d_Mo_automaton_129 rfl (lv_at hl 2 rfl) ?_
                    obtain ⟨g136, hf⟩ := ogi hf
                    refine va_iald hx hb hK hP 1 0 rfl rfl (gin_in g136) d_Mo_automaton_130 ?_
                    refine lv_goto (tgt := 177) hx hb d_Mo_automaton_131 (by decide) ?_
                    exact Kr _ (Option.some.inj hf).symm _ _ _ _ d_Mo_automaton_177 hP hD hS
                · rw [if_pos c128] at hf
                  refine lv_iconst (v := 0) hx hb d_Mo_automaton_83 (by decide) ?_
                  exact Kr _ (Option.some.inj hf).symm _ _ _ _ d_Mo_automaton_84 hP hD hS
              · rw [if_neg c126] at hf
                refine lv_iconst (v := 1) hx hb d_Mo_automaton_71 (by decide) ?_
                refine lv_goto (tgt := 76) hx hb d_Mo_automaton_72 (by decide) ?_
                refine lv_iconst (v := 2) hx hb d_Mo_automaton_76 (by decide) ?_
                obtain ⟨u137, eu137, hf⟩ := obd hf
                refine w_call (va_runV (As := [.int (bI true), .int 2]) (rest := []) ⟨hx, hb, hml, hown, hts⟩ (c_Mo_fails l H.size eu137) (gV 2 hts cd_Mo_fails ml_Mo_124 im_Mo_fails se_Mo_fails ini_Mo rfl rfl pd_Mo_fails ⟨Nat.le_trans (Nat.le_of_ble_eq_true rfl) hRf, Nat.le_trans (Nat.le_of_ble_eq_true rfl) hRl⟩) ⟨wPre_blind, va_recv hK hP (ci := 0) (q0 := 0) rfl rfl, wPre_of hP hK hD⟩ rfl rfl hl.1 rfl (lv_room (Nat.le_of_ble_eq_true rfl)) d_Mo_automaton_77 ⟨hRc, hRs⟩) hD hS hA (fun H locs hP hD hS => ?_)
                have hP : va_P D vwCl (moW K h a u137.2 mLanguages mBounds mSize mGoes mLast mLeft mNext mGroup mFresh mLeader mNumber mRight mEnds mWay mVariable mFactor mLeast mMost mLength mWord mKept mMany mMore mLeads mMet mTodo mMay mTries) H := hP
                have hD : va_D A (moW K h a u137.2 mLanguages mBounds mSize mGoes mLast mLeft mNext mGroup mFresh mLeader mNumber mRight mEnds mWay mVariable mFactor mLeast mMost mLength mWord mKept mMany mMore mLeads mMet mTodo mMay mTries) := hD
                refine bz_eq (tgt := 85) hx hb d_Mo_automaton_80 (by decide) (fun c138 => ?_) (fun c138 => ?_)
                · rw [if_neg c138] at hf
                  refine lv_iconst (v := 0) hx hb d_Mo_automaton_85 (by decide) ?_
                  refine lv_istore (lv' := [(4, .int 0), (0, .ref h), (1, .int p0), (2, .int p1), (3, .int p2)]) hx hb d_Mo_automaton_86 hl (by decide) rfl (fun ls hl => ?_)
                  refine lv_iconst (v := 0) hx hb d_Mo_automaton_88 (by decide) ?_
                  refine lv_istore (lv' := [(5, .int 0), (4, .int 0), (0, .ref h), (1, .int p0), (2, .int p1), (3, .int p2)]) hx hb d_Mo_automaton_89 hl (by decide) rfl (fun ls hl => ?_)
                  obtain ⟨u139, eu139, hf⟩ := obd hf
                  refine w_Mo_automaton_91 hx hb hml hts hown hK hRf hRl hRc hRs hA  (fun u139q eu ls H locs hP hD hS hl => ?_) _ _ _ eu139 _ _ _ hP hD hS (show lv_has ls 6 [(5, .int 0), (4, .int 0), (0, .ref h), (1, .int p0), (2, .int p1), (3, .int p2)] from lv_sub hl [0, 1, 2, 3, 4, 5] rfl)
                  subst eu
                  refine lv_iload_n hx hb d_Mo_automaton_121 rfl (lv_at hl 3 rfl) ?_
                  refine lv_if_ne (tgt := 134) hx hb d_Mo_automaton_122 (by decide) (fun c140 => ?_) (fun c140 => ?_)
                  · rw [if_neg c140] at hf
                    refine lv_iload_n hx hb d_Mo_automaton_134 rfl (lv_at hl 3 rfl) ?_
                    refine lv_iconst (v := 1) hx hb d_Mo_automaton_135 (by decide) ?_
                    refine lv_icmp_ne (tgt := 144) hx hb d_Mo_automaton_136 (by decide) (fun c141 => ?_) (fun c141 => ?_)
                    · rw [if_neg c141] at hf
                      refine lv_iload_n hx hb d_Mo_automaton_144 rfl (lv_at hl 3 rfl) ?_
                      refine lv_iconst (v := 2) hx hb d_Mo_automaton_145 (by decide) ?_
                      refine lv_icmp_ne (tgt := 163) hx hb d_Mo_automaton_146 (by decide) (fun c142 => ?_) (fun c142 => ?_)
                      · rw [if_neg c142] at hf
                        refine lv_aload_n hx hb d_Mo_automaton_163 rfl (lv_at hl 1 rfl) ?_
                        refine lv_iload_n hx hb d_Mo_automaton_164 rfl (lv_at hl 2 rfl) ?_
                        refine lv_iload_n hx hb d_Mo_automaton_165 rfl (lv_at hl 4 rfl) ?_
                        obtain ⟨u143, eu143, hf⟩ := obd hf
                        refine p_call (W.runV (As := [.int p0, .int p2]) (rest := []) ⟨hx, hb, hml, hown, hts⟩ (c_Mo_isLast l eu143) (gV 2 hts cd_Mo_isLast ml_Mo_102 im_Mo_isLast se_Mo_isLast ini_Mo rfl rfl pd_Mo_isLast ⟨Nat.le_trans (Nat.le_of_ble_eq_true rfl) hRf, Nat.le_trans (Nat.le_of_ble_eq_true rfl) hRl⟩) ⟨pPre_blind, va_recv hK hP (ci := 0) (q0 := 0) rfl rfl, pPre_of hP hK⟩ rfl rfl hl.1 rfl (lv_room (Nat.le_of_ble_eq_true rfl)) d_Mo_automaton_166 ⟨hRc, hRs⟩) ?_
                        refine bz_eq (tgt := 176) hx hb d_Mo_automaton_169 (by decide) (fun c144 => ?_) (fun c144 => ?_)
                        · rw [if_neg c144] at hf
                          refine lv_iconst (v := 0) hx hb d_Mo_automaton_176 (by decide) ?_
                          exact Kr _ (Option.some.inj hf).symm _ _ _ _ d_Mo_automaton_177 hP hD hS
                        · rw [if_pos c144] at hf
                          refine lv_iconst (v := 1) hx hb d_Mo_automaton_172 (by decide) ?_
                          refine lv_goto (tgt := 177) hx hb d_Mo_automaton_173 (by decide) ?_
                          exact Kr _ (Option.some.inj hf).symm _ _ _ _ d_Mo_automaton_177 hP hD hS
                      · rw [if_pos c142] at hf
                        refine lv_aload_n hx hb d_Mo_automaton_149 rfl (lv_at hl 1 rfl) ?_
                        refine lv_iload_n hx hb d_Mo_automaton_150 rfl (lv_at hl 2 rfl) ?_
                        refine lv_iload_n hx hb d_Mo_automaton_151 rfl (lv_at hl 4 rfl) ?_
                        refine lv_iconst (v := 4) hx hb d_Mo_automaton_152 (by decide) ?_
                        refine lv_idiv hx hb d_Mo_automaton_153 (by decide) ?_
                        refine lv_iload_n hx hb d_Mo_automaton_154 rfl (lv_at hl 4 rfl) ?_
                        refine lv_iconst (v := 4) hx hb d_Mo_automaton_155 (by decide) ?_
                        refine lv_irem hx hb d_Mo_automaton_156 (by decide) ?_
                        obtain ⟨u145, eu145, hf⟩ := obd hf
                        refine p_call (W.runV (As := [.int p0, .int (p2 / 4), .int (p2 - p2 / 4 * 4)]) (rest := []) ⟨hx, hb, hml, hown, hts⟩ (c_Mo_go l eu145) (gV 3 hts cd_Mo_go ml_Mo_98 im_Mo_go se_Mo_go ini_Mo rfl rfl pd_Mo_go ⟨Nat.le_trans (Nat.le_of_ble_eq_true rfl) hRf, Nat.le_trans (Nat.le_of_ble_eq_true rfl) hRl⟩) ⟨pPre_blind, va_recv hK hP (ci := 0) (q0 := 0) rfl rfl, pPre_of hP hK⟩ rfl rfl hl.1 rfl (lv_room (Nat.le_of_ble_eq_true rfl)) d_Mo_automaton_157 ⟨hRc, hRs⟩) ?_
                        refine lv_goto (tgt := 177) hx hb d_Mo_automaton_160 (by decide) ?_
                        exact Kr _ (Option.some.inj hf).symm _ _ _ _ d_Mo_automaton_177 hP hD hS
                    · rw [if_pos c141] at hf
                      refine lv_iload hx hb d_Mo_automaton_139 (lv_at hl 0 rfl) ?_
                      refine lv_goto (tgt := 177) hx hb d_Mo_automaton_141 (by decide) ?_
                      exact Kr _ (Option.some.inj hf).symm _ _ _ _ d_Mo_automaton_177 hP hD hS
                  · rw [if_pos c140] at hf
                    refine lv_aload_n hx hb d_Mo_automaton_125 rfl (lv_at hl 1 rfl) ?_
                    refine va_get (D := D) (ci := 0) (v := .ref (a 0)) (C := R_Mo) (T := T_Mo) (N := 29) hx hb hts in_Mo hown hK hP 0 rfl rfl 3 (by decide) (hts _ fl_Mo_9) (fun _ h9 => h9) rfl d_Mo_automaton_126 ?_
                    refine lv_iload_n hx hb d_Mo_automaton_129 rfl (lv_at hl 2 rfl) ?_
                    obtain ⟨g146, hf⟩ := ogi hf
                    refine va_iald hx hb hK hP 1 0 rfl rfl (gin_in g146) d_Mo_automaton_130 ?_
                    refine lv_goto (tgt := 177) hx hb d_Mo_automaton_131 (by decide) ?_
                    exact Kr _ (Option.some.inj hf).symm _ _ _ _ d_Mo_automaton_177 hP hD hS
                · rw [if_pos c138] at hf
                  refine lv_iconst (v := 0) hx hb d_Mo_automaton_83 (by decide) ?_
                  exact Kr _ (Option.some.inj hf).symm _ _ _ _ d_Mo_automaton_84 hP hD hS
      · rw [if_pos c81] at hf
        refine lv_iconst (v := 0) hx hb d_Mo_automaton_38 (by decide) ?_
        exact Kr _ (Option.some.inj hf).symm _ _ _ _ d_Mo_automaton_39 hP hD hS
    · rw [if_neg c79] at hf
      refine lv_iconst (v := 1) hx hb d_Mo_automaton_26 (by decide) ?_
      refine lv_goto (tgt := 31) hx hb d_Mo_automaton_27 (by decide) ?_
      refine lv_iconst (v := 1) hx hb d_Mo_automaton_31 (by decide) ?_
      obtain ⟨u147, eu147, hf⟩ := obd hf
      refine w_call (va_runV (As := [.int (bI true), .int 1]) (rest := []) ⟨hx, hb, hml, hown, hts⟩ (c_Mo_fails l H.size eu147) (gV 2 hts cd_Mo_fails ml_Mo_124 im_Mo_fails se_Mo_fails ini_Mo rfl rfl pd_Mo_fails ⟨Nat.le_trans (Nat.le_of_ble_eq_true rfl) hRf, Nat.le_trans (Nat.le_of_ble_eq_true rfl) hRl⟩) ⟨wPre_blind, va_recv hK hP (ci := 0) (q0 := 0) rfl rfl, wPre_of hP hK hD⟩ rfl rfl hl.1 rfl (lv_room (Nat.le_of_ble_eq_true rfl)) d_Mo_automaton_32 ⟨hRc, hRs⟩) hD hS hA (fun H locs hP hD hS => ?_)
      have hP : va_P D vwCl (moW K h a u147.2 mLanguages mBounds mSize mGoes mLast mLeft mNext mGroup mFresh mLeader mNumber mRight mEnds mWay mVariable mFactor mLeast mMost mLength mWord mKept mMany mMore mLeads mMet mTodo mMay mTries) H := hP
      have hD : va_D A (moW K h a u147.2 mLanguages mBounds mSize mGoes mLast mLeft mNext mGroup mFresh mLeader mNumber mRight mEnds mWay mVariable mFactor mLeast mMost mLength mWord mKept mMany mMore mLeads mMet mTodo mMay mTries) := hD
      refine bz_eq (tgt := 40) hx hb d_Mo_automaton_35 (by decide) (fun c148 => ?_) (fun c148 => ?_)
      · rw [if_neg c148] at hf
        refine lv_iload_n hx hb d_Mo_automaton_40 rfl (lv_at hl 2 rfl) ?_
        refine lv_iconst (v := 1) hx hb d_Mo_automaton_41 (by decide) ?_
        refine lv_icmp_le (tgt := 85) hx hb d_Mo_automaton_42 (by decide) (fun c149 => ?_) (fun c149 => ?_)
        · rw [if_pos c149] at hf
          refine lv_iconst (v := 0) hx hb d_Mo_automaton_85 (by decide) ?_
          refine lv_istore (lv' := [(4, .int 0), (0, .ref h), (1, .int p0), (2, .int p1), (3, .int p2)]) hx hb d_Mo_automaton_86 hl (by decide) rfl (fun ls hl => ?_)
          refine lv_iconst (v := 0) hx hb d_Mo_automaton_88 (by decide) ?_
          refine lv_istore (lv' := [(5, .int 0), (4, .int 0), (0, .ref h), (1, .int p0), (2, .int p1), (3, .int p2)]) hx hb d_Mo_automaton_89 hl (by decide) rfl (fun ls hl => ?_)
          obtain ⟨u150, eu150, hf⟩ := obd hf
          refine w_Mo_automaton_91 hx hb hml hts hown hK hRf hRl hRc hRs hA  (fun u150q eu ls H locs hP hD hS hl => ?_) _ _ _ eu150 _ _ _ hP hD hS (show lv_has ls 6 [(5, .int 0), (4, .int 0), (0, .ref h), (1, .int p0), (2, .int p1), (3, .int p2)] from lv_sub hl [0, 1, 2, 3, 4, 5] rfl)
          subst eu
          refine lv_iload_n hx hb d_Mo_automaton_121 rfl (lv_at hl 3 rfl) ?_
          refine lv_if_ne (tgt := 134) hx hb d_Mo_automaton_122 (by decide) (fun c151 => ?_) (fun c151 => ?_)
          · rw [if_neg c151] at hf
            refine lv_iload_n hx hb d_Mo_automaton_134 rfl (lv_at hl 3 rfl) ?_
            refine lv_iconst (v := 1) hx hb d_Mo_automaton_135 (by decide) ?_
            refine lv_icmp_ne (tgt := 144) hx hb d_Mo_automaton_136 (by decide) (fun c152 => ?_) (fun c152 => ?_)
            · rw [if_neg c152] at hf
              refine lv_iload_n hx hb d_Mo_automaton_144 rfl (lv_at hl 3 rfl) ?_
              refine lv_iconst (v := 2) hx hb d_Mo_automaton_145 (by decide) ?_
              refine lv_icmp_ne (tgt := 163) hx hb d_Mo_automaton_146 (by decide) (fun c153 => ?_) (fun c153 => ?_)
              · rw [if_neg c153] at hf
                refine lv_aload_n hx hb d_Mo_automaton_163 rfl (lv_at hl 1 rfl) ?_
                refine lv_iload_n hx hb d_Mo_automaton_164 rfl (lv_at hl 2 rfl) ?_
                refine lv_iload_n hx hb d_Mo_automaton_165 rfl (lv_at hl 4 rfl) ?_
                obtain ⟨u154, eu154, hf⟩ := obd hf
                refine p_call (W.runV (As := [.int p0, .int p2]) (rest := []) ⟨hx, hb, hml, hown, hts⟩ (c_Mo_isLast l eu154) (gV 2 hts cd_Mo_isLast ml_Mo_102 im_Mo_isLast se_Mo_isLast ini_Mo rfl rfl pd_Mo_isLast ⟨Nat.le_trans (Nat.le_of_ble_eq_true rfl) hRf, Nat.le_trans (Nat.le_of_ble_eq_true rfl) hRl⟩) ⟨pPre_blind, va_recv hK hP (ci := 0) (q0 := 0) rfl rfl, pPre_of hP hK⟩ rfl rfl hl.1 rfl (lv_room (Nat.le_of_ble_eq_true rfl)) d_Mo_automaton_166 ⟨hRc, hRs⟩) ?_
                refine bz_eq (tgt := 176) hx hb d_Mo_automaton_169 (by decide) (fun c155 => ?_) (fun c155 => ?_)
                · rw [if_neg c155] at hf
                  refine lv_iconst (v := 0) hx hb d_Mo_automaton_176 (by decide) ?_
                  exact Kr _ (Option.some.inj hf).symm _ _ _ _ d_Mo_automaton_177 hP hD hS
                · rw [if_pos c155] at hf
                  refine lv_iconst (v := 1) hx hb d_Mo_automaton_172 (by decide) ?_
                  refine lv_goto (tgt := 177) hx hb d_Mo_automaton_173 (by decide) ?_
                  exact Kr _ (Option.some.inj hf).symm _ _ _ _ d_Mo_automaton_177 hP hD hS
              · rw [if_pos c153] at hf
                refine lv_aload_n hx hb d_Mo_automaton_149 rfl (lv_at hl 1 rfl) ?_
                refine lv_iload_n hx hb d_Mo_automaton_150 rfl (lv_at hl 2 rfl) ?_
                refine lv_iload_n hx hb d_Mo_automaton_151 rfl (lv_at hl 4 rfl) ?_
                refine lv_iconst (v := 4) hx hb d_Mo_automaton_152 (by decide) ?_
                refine lv_idiv hx hb d_Mo_automaton_153 (by decide) ?_
                refine lv_iload_n hx hb d_Mo_automaton_154 rfl (lv_at hl 4 rfl) ?_
                refine lv_iconst (v := 4) hx hb d_Mo_automaton_155 (by decide) ?_
                refine lv_irem hx hb d_Mo_automaton_156 (by decide) ?_
                obtain ⟨u156, eu156, hf⟩ := obd hf
                refine p_call (W.runV (As := [.int p0, .int (p2 / 4), .int (p2 - p2 / 4 * 4)]) (rest := []) ⟨hx, hb, hml, hown, hts⟩ (c_Mo_go l eu156) (gV 3 hts cd_Mo_go ml_Mo_98 im_Mo_go se_Mo_go ini_Mo rfl rfl pd_Mo_go ⟨Nat.le_trans (Nat.le_of_ble_eq_true rfl) hRf, Nat.le_trans (Nat.le_of_ble_eq_true rfl) hRl⟩) ⟨pPre_blind, va_recv hK hP (ci := 0) (q0 := 0) rfl rfl, pPre_of hP hK⟩ rfl rfl hl.1 rfl (lv_room (Nat.le_of_ble_eq_true rfl)) d_Mo_automaton_157 ⟨hRc, hRs⟩) ?_
                refine lv_goto (tgt := 177) hx hb d_Mo_automaton_160 (by decide) ?_
                exact Kr _ (Option.some.inj hf).symm _ _ _ _ d_Mo_automaton_177 hP hD hS
            · rw [if_pos c152] at hf
              refine lv_iload hx hb d_Mo_automaton_139 (lv_at hl 0 rfl) ?_
              refine lv_goto (tgt := 177) hx hb d_Mo_automaton_141 (by decide) ?_
              exact Kr _ (Option.some.inj hf).symm _ _ _ _ d_Mo_automaton_177 hP hD hS
          · rw [if_pos c151] at hf
            refine lv_aload_n hx hb d_Mo_automaton_125 rfl (lv_at hl 1 rfl) ?_
            refine va_get (D := D) (ci := 0) (v := .ref (a 0)) (C := R_Mo) (T := T_Mo) (N := 29) hx hb hts in_Mo hown hK hP 0 rfl rfl 3 (by decide) (hts _ fl_Mo_9) (fun _ h9 => h9) rfl d_Mo_automaton_126 ?_
            refine lv_iload_n hx hb d_Mo_automaton_129 rfl (lv_at hl 2 rfl) ?_
            obtain ⟨g157, hf⟩ := ogi hf
            refine va_iald hx hb hK hP 1 0 rfl rfl (gin_in g157) d_Mo_automaton_130 ?_
            refine lv_goto (tgt := 177) hx hb d_Mo_automaton_131 (by decide) ?_
            exact Kr _ (Option.some.inj hf).symm _ _ _ _ d_Mo_automaton_177 hP hD hS
        · rw [if_neg c149] at hf
          refine lv_aload_n hx hb d_Mo_automaton_45 rfl (lv_at hl 0 rfl) ?_
          refine lv_iload_n hx hb d_Mo_automaton_46 rfl (lv_at hl 3 rfl) ?_
          refine lv_if_lt (tgt := 71) hx hb d_Mo_automaton_47 (by decide) (fun c158 => ?_) (fun c158 => ?_)
          · rw [if_pos c158] at hf
            refine lv_iconst (v := 1) hx hb d_Mo_automaton_71 (by decide) ?_
            refine lv_goto (tgt := 76) hx hb d_Mo_automaton_72 (by decide) ?_
            refine lv_iconst (v := 2) hx hb d_Mo_automaton_76 (by decide) ?_
            obtain ⟨u159, eu159, hf⟩ := obd hf
            refine w_call (va_runV (As := [.int (bI true), .int 2]) (rest := []) ⟨hx, hb, hml, hown, hts⟩ (c_Mo_fails l H.size eu159) (gV 2 hts cd_Mo_fails ml_Mo_124 im_Mo_fails se_Mo_fails ini_Mo rfl rfl pd_Mo_fails ⟨Nat.le_trans (Nat.le_of_ble_eq_true rfl) hRf, Nat.le_trans (Nat.le_of_ble_eq_true rfl) hRl⟩) ⟨wPre_blind, va_recv hK hP (ci := 0) (q0 := 0) rfl rfl, wPre_of hP hK hD⟩ rfl rfl hl.1 rfl (lv_room (Nat.le_of_ble_eq_true rfl)) d_Mo_automaton_77 ⟨hRc, hRs⟩) hD hS hA (fun H locs hP hD hS => ?_)
            have hP : va_P D vwCl (moW K h a u159.2 mLanguages mBounds mSize mGoes mLast mLeft mNext mGroup mFresh mLeader mNumber mRight mEnds mWay mVariable mFactor mLeast mMost mLength mWord mKept mMany mMore mLeads mMet mTodo mMay mTries) H := hP
            have hD : va_D A (moW K h a u159.2 mLanguages mBounds mSize mGoes mLast mLeft mNext mGroup mFresh mLeader mNumber mRight mEnds mWay mVariable mFactor mLeast mMost mLength mWord mKept mMany mMore mLeads mMet mTodo mMay mTries) := hD
            refine bz_eq (tgt := 85) hx hb d_Mo_automaton_80 (by decide) (fun c160 => ?_) (fun c160 => ?_)
            · rw [if_neg c160] at hf
              refine lv_iconst (v := 0) hx hb d_Mo_automaton_85 (by decide) ?_
              refine lv_istore (lv' := [(4, .int 0), (0, .ref h), (1, .int p0), (2, .int p1), (3, .int p2)]) hx hb d_Mo_automaton_86 hl (by decide) rfl (fun ls hl => ?_)
              refine lv_iconst (v := 0) hx hb d_Mo_automaton_88 (by decide) ?_
              refine lv_istore (lv' := [(5, .int 0), (4, .int 0), (0, .ref h), (1, .int p0), (2, .int p1), (3, .int p2)]) hx hb d_Mo_automaton_89 hl (by decide) rfl (fun ls hl => ?_)
              obtain ⟨u161, eu161, hf⟩ := obd hf
              refine w_Mo_automaton_91 hx hb hml hts hown hK hRf hRl hRc hRs hA  (fun u161q eu ls H locs hP hD hS hl => ?_) _ _ _ eu161 _ _ _ hP hD hS (show lv_has ls 6 [(5, .int 0), (4, .int 0), (0, .ref h), (1, .int p0), (2, .int p1), (3, .int p2)] from lv_sub hl [0, 1, 2, 3, 4, 5] rfl)
              subst eu
              refine lv_iload_n hx hb d_Mo_automaton_121 rfl (lv_at hl 3 rfl) ?_
              refine lv_if_ne (tgt := 134) hx hb d_Mo_automaton_122 (by decide) (fun c162 => ?_) (fun c162 => ?_)
              · rw [if_neg c162] at hf
                refine lv_iload_n hx hb d_Mo_automaton_134 rfl (lv_at hl 3 rfl) ?_
                refine lv_iconst (v := 1) hx hb d_Mo_automaton_135 (by decide) ?_
                refine lv_icmp_ne (tgt := 144) hx hb d_Mo_automaton_136 (by decide) (fun c163 => ?_) (fun c163 => ?_)
                · rw [if_neg c163] at hf
                  refine lv_iload_n hx hb d_Mo_automaton_144 rfl (lv_at hl 3 rfl) ?_
                  refine lv_iconst (v := 2) hx hb d_Mo_automaton_145 (by decide) ?_
                  refine lv_icmp_ne (tgt := 163) hx hb d_Mo_automaton_146 (by decide) (fun c164 => ?_) (fun c164 => ?_)
                  · rw [if_neg c164] at hf
                    refine lv_aload_n hx hb d_Mo_automaton_163 rfl (lv_at hl 1 rfl) ?_
                    refine lv_iload_n hx hb d_Mo_automaton_164 rfl (lv_at hl 2 rfl) ?_
                    refine lv_iload_n hx hb d_Mo_automaton_165 rfl (lv_at hl 4 rfl) ?_
                    obtain ⟨u165, eu165, hf⟩ := obd hf
                    refine p_call (W.runV (As := [.int p0, .int p2]) (rest := []) ⟨hx, hb, hml, hown, hts⟩ (c_Mo_isLast l eu165) (gV 2 hts cd_Mo_isLast ml_Mo_102 im_Mo_isLast se_Mo_isLast ini_Mo rfl rfl pd_Mo_isLast ⟨Nat.le_trans (Nat.le_of_ble_eq_true rfl) hRf, Nat.le_trans (Nat.le_of_ble_eq_true rfl) hRl⟩) ⟨pPre_blind, va_recv hK hP (ci := 0) (q0 := 0) rfl rfl, pPre_of hP hK⟩ rfl rfl hl.1 rfl (lv_room (Nat.le_of_ble_eq_true rfl)) d_Mo_automaton_166 ⟨hRc, hRs⟩) ?_
                    refine bz_eq (tgt := 176) hx hb d_Mo_automaton_169 (by decide) (fun c166 => ?_) (fun c166 => ?_)
                    · rw [if_neg c166] at hf
                      refine lv_iconst (v := 0) hx hb d_Mo_automaton_176 (by decide) ?_
                      exact Kr _ (Option.some.inj hf).symm _ _ _ _ d_Mo_automaton_177 hP hD hS
                    · rw [if_pos c166] at hf
                      refine lv_iconst (v := 1) hx hb d_Mo_automaton_172 (by decide) ?_
                      refine lv_goto (tgt := 177) hx hb d_Mo_automaton_173 (by decide) ?_
                      exact Kr _ (Option.some.inj hf).symm _ _ _ _ d_Mo_automaton_177 hP hD hS
                  · rw [if_pos c164] at hf
                    refine lv_aload_n hx hb d_Mo_automaton_149 rfl (lv_at hl 1 rfl) ?_
                    refine lv_iload_n hx hb d_Mo_automaton_150 rfl (lv_at hl 2 rfl) ?_
                    refine lv_iload_n hx hb d_Mo_automaton_151 rfl (lv_at hl 4 rfl) ?_
                    refine lv_iconst (v := 4) hx hb d_Mo_automaton_152 (by decide) ?_
                    refine lv_idiv hx hb d_Mo_automaton_153 (by decide) ?_
                    refine lv_iload_n hx hb d_Mo_automaton_154 rfl (lv_at hl 4 rfl) ?_
                    refine lv_iconst (v := 4) hx hb d_Mo_automaton_155 (by decide) ?_
                    refine lv_irem hx hb d_Mo_automaton_156 (by decide) ?_
                    obtain ⟨u167, eu167, hf⟩ := obd hf
                    refine p_call (W.runV (As := [.int p0, .int (p2 / 4), .int (p2 - p2 / 4 * 4)]) (rest := []) ⟨hx, hb, hml, hown, hts⟩ (c_Mo_go l eu167) (gV 3 hts cd_Mo_go ml_Mo_98 im_Mo_go se_Mo_go ini_Mo rfl rfl pd_Mo_go ⟨Nat.le_trans (Nat.le_of_ble_eq_true rfl) hRf, Nat.le_trans (Nat.le_of_ble_eq_true rfl) hRl⟩) ⟨pPre_blind, va_recv hK hP (ci := 0) (q0 := 0) rfl rfl, pPre_of hP hK⟩ rfl rfl hl.1 rfl (lv_room (Nat.le_of_ble_eq_true rfl)) d_Mo_automaton_157 ⟨hRc, hRs⟩) ?_
                    refine lv_goto (tgt := 177) hx hb d_Mo_automaton_160 (by decide) ?_
                    exact Kr _ (Option.some.inj hf).symm _ _ _ _ d_Mo_automaton_177 hP hD hS
                · rw [if_pos c163] at hf
                  refine lv_iload hx hb d_Mo_automaton_139 (lv_at hl 0 rfl) ?_
                  refine lv_goto (tgt := 177) hx hb d_Mo_automaton_141 (by decide) ?_
                  exact Kr _ (Option.some.inj hf).symm _ _ _ _ d_Mo_automaton_177 hP hD hS
              · rw [if_pos c162] at hf
                refine lv_aload_n hx hb d_Mo_automaton_125 rfl (lv_at hl 1 rfl) ?_
                refine va_get (D := D) (ci := 0) (v := .ref (a 0)) (C := R_Mo) (T := T_Mo) (N := 29) hx hb hts in_Mo hown hK hP 0 rfl rfl 3 (by decide) (hts _ fl_Mo_9) (fun _ h9 => h9) rfl d_Mo_automaton_126 ?_
                refine lv_iload_n hx hb d_Mo_automaton_129 rfl (lv_at hl 2 rfl) ?_
                obtain ⟨g168, hf⟩ := ogi hf
                refine va_iald hx hb hK hP 1 0 rfl rfl (gin_in g168) d_Mo_automaton_130 ?_
                refine lv_goto (tgt := 177) hx hb d_Mo_automaton_131 (by decide) ?_
                exact Kr _ (Option.some.inj hf).symm _ _ _ _ d_Mo_automaton_177 hP hD hS
            · rw [if_pos c160] at hf
              refine lv_iconst (v := 0) hx hb d_Mo_automaton_83 (by decide) ?_
              exact Kr _ (Option.some.inj hf).symm _ _ _ _ d_Mo_automaton_84 hP hD hS
          · rw [if_neg c158] at hf
            refine lv_iload_n hx hb d_Mo_automaton_50 rfl (lv_at hl 2 rfl) ?_
            refine lv_iconst (v := 2) hx hb d_Mo_automaton_51 (by decide) ?_
            refine lv_icmp_ne (tgt := 61) hx hb d_Mo_automaton_52 (by decide) (fun c169 => ?_) (fun c169 => ?_)
            · rw [if_neg c169] at hf
              refine lv_iload_n hx hb d_Mo_automaton_61 rfl (lv_at hl 3 rfl) ?_
              refine lv_aload_n hx hb d_Mo_automaton_62 rfl (lv_at hl 0 rfl) ?_
              refine va_get (D := D) (ci := 0) (v := .ref (a 0)) (C := R_Mo) (T := T_Mo) (N := 29) hx hb hts in_Mo hown hK hP 0 rfl rfl 3 (by decide) (hts _ fl_Mo_9) (fun _ h9 => h9) rfl d_Mo_automaton_63 ?_
              refine lv_iload_n hx hb d_Mo_automaton_66 rfl (lv_at hl 1 rfl) ?_
              obtain ⟨g170, hf⟩ := ogi hf
              refine va_iald hx hb hK hP 1 0 rfl rfl (gin_in g170) d_Mo_automaton_67 ?_
              refine lv_icmp_lt (tgt := 75) hx hb d_Mo_automaton_68 (by decide) (fun c171 => ?_) (fun c171 => ?_)
              · rw [if_pos c171] at hf
                refine lv_iconst (v := 0) hx hb d_Mo_automaton_75 (by decide) ?_
                refine lv_iconst (v := 2) hx hb d_Mo_automaton_76 (by decide) ?_
                obtain ⟨u172, eu172, hf⟩ := obd hf
                refine w_call (va_runV (As := [.int (bI false), .int 2]) (rest := []) ⟨hx, hb, hml, hown, hts⟩ (c_Mo_fails l H.size eu172) (gV 2 hts cd_Mo_fails ml_Mo_124 im_Mo_fails se_Mo_fails ini_Mo rfl rfl pd_Mo_fails ⟨Nat.le_trans (Nat.le_of_ble_eq_true rfl) hRf, Nat.le_trans (Nat.le_of_ble_eq_true rfl) hRl⟩) ⟨wPre_blind, va_recv hK hP (ci := 0) (q0 := 0) rfl rfl, wPre_of hP hK hD⟩ rfl rfl hl.1 rfl (lv_room (Nat.le_of_ble_eq_true rfl)) d_Mo_automaton_77 ⟨hRc, hRs⟩) hD hS hA (fun H locs hP hD hS => ?_)
                have hP : va_P D vwCl (moW K h a u172.2 mLanguages mBounds mSize mGoes mLast mLeft mNext mGroup mFresh mLeader mNumber mRight mEnds mWay mVariable mFactor mLeast mMost mLength mWord mKept mMany mMore mLeads mMet mTodo mMay mTries) H := hP
                have hD : va_D A (moW K h a u172.2 mLanguages mBounds mSize mGoes mLast mLeft mNext mGroup mFresh mLeader mNumber mRight mEnds mWay mVariable mFactor mLeast mMost mLength mWord mKept mMany mMore mLeads mMet mTodo mMay mTries) := hD
                refine bz_eq (tgt := 85) hx hb d_Mo_automaton_80 (by decide) (fun c173 => ?_) (fun c173 => ?_)
                · rw [if_neg c173] at hf
                  refine lv_iconst (v := 0) hx hb d_Mo_automaton_85 (by decide) ?_
                  refine lv_istore (lv' := [(4, .int 0), (0, .ref h), (1, .int p0), (2, .int p1), (3, .int p2)]) hx hb d_Mo_automaton_86 hl (by decide) rfl (fun ls hl => ?_)
                  refine lv_iconst (v := 0) hx hb d_Mo_automaton_88 (by decide) ?_
                  refine lv_istore (lv' := [(5, .int 0), (4, .int 0), (0, .ref h), (1, .int p0), (2, .int p1), (3, .int p2)]) hx hb d_Mo_automaton_89 hl (by decide) rfl (fun ls hl => ?_)
                  obtain ⟨u174, eu174, hf⟩ := obd hf
                  refine w_Mo_automaton_91 hx hb hml hts hown hK hRf hRl hRc hRs hA  (fun u174q eu ls H locs hP hD hS hl => ?_) _ _ _ eu174 _ _ _ hP hD hS (show lv_has ls 6 [(5, .int 0), (4, .int 0), (0, .ref h), (1, .int p0), (2, .int p1), (3, .int p2)] from lv_sub hl [0, 1, 2, 3, 4, 5] rfl)
                  subst eu
                  refine lv_iload_n hx hb d_Mo_automaton_121 rfl (lv_at hl 3 rfl) ?_
                  refine lv_if_ne (tgt := 134) hx hb d_Mo_automaton_122 (by decide) (fun c175 => ?_) (fun c175 => ?_)
                  · rw [if_neg c175] at hf
                    refine lv_iload_n hx hb d_Mo_automaton_134 rfl (lv_at hl 3 rfl) ?_
                    refine lv_iconst (v := 1) hx hb d_Mo_automaton_135 (by decide) ?_
                    refine lv_icmp_ne (tgt := 144) hx hb d_Mo_automaton_136 (by decide) (fun c176 => ?_) (fun c176 => ?_)
                    · rw [if_neg c176] at hf
                      refine lv_iload_n hx hb d_Mo_automaton_144 rfl (lv_at hl 3 rfl) ?_
                      refine lv_iconst (v := 2) hx hb d_Mo_automaton_145 (by decide) ?_
                      refine lv_icmp_ne (tgt := 163) hx hb d_Mo_automaton_146 (by decide) (fun c177 => ?_) (fun c177 => ?_)
                      · rw [if_neg c177] at hf
                        refine lv_aload_n hx hb d_Mo_automaton_163 rfl (lv_at hl 1 rfl) ?_
                        refine lv_iload_n hx hb d_Mo_automaton_164 rfl (lv_at hl 2 rfl) ?_
                        refine lv_iload_n hx hb d_Mo_automaton_165 rfl (lv_at hl 4 rfl) ?_
                        obtain ⟨u178, eu178, hf⟩ := obd hf
                        refine p_call (W.runV (As := [.int p0, .int p2]) (rest := []) ⟨hx, hb, hml, hown, hts⟩ (c_Mo_isLast l eu178) (gV 2 hts cd_Mo_isLast ml_Mo_102 im_Mo_isLast se_Mo_isLast ini_Mo rfl rfl pd_Mo_isLast ⟨Nat.le_trans (Nat.le_of_ble_eq_true rfl) hRf, Nat.le_trans (Nat.le_of_ble_eq_true rfl) hRl⟩) ⟨pPre_blind, va_recv hK hP (ci := 0) (q0 := 0) rfl rfl, pPre_of hP hK⟩ rfl rfl hl.1 rfl (lv_room (Nat.le_of_ble_eq_true rfl)) d_Mo_automaton_166 ⟨hRc, hRs⟩) ?_
                        refine bz_eq (tgt := 176) hx hb d_Mo_automaton_169 (by decide) (fun c179 => ?_) (fun c179 => ?_)
                        · rw [if_neg c179] at hf
                          refine lv_iconst (v := 0) hx hb d_Mo_automaton_176 (by decide) ?_
                          exact Kr _ (Option.some.inj hf).symm _ _ _ _ d_Mo_automaton_177 hP hD hS
                        · rw [if_pos c179] at hf
                          refine lv_iconst (v := 1) hx hb d_Mo_automaton_172 (by decide) ?_
                          refine lv_goto (tgt := 177) hx hb d_Mo_automaton_173 (by decide) ?_
                          exact Kr _ (Option.some.inj hf).symm _ _ _ _ d_Mo_automaton_177 hP hD hS
                      · rw [if_pos c177] at hf
                        refine lv_aload_n hx hb d_Mo_automaton_149 rfl (lv_at hl 1 rfl) ?_
                        refine lv_iload_n hx hb d_Mo_automaton_150 rfl (lv_at hl 2 rfl) ?_
                        refine lv_iload_n hx hb d_Mo_automaton_151 rfl (lv_at hl 4 rfl) ?_
                        refine lv_iconst (v := 4) hx hb d_Mo_automaton_152 (by decide) ?_
                        refine lv_idiv hx hb d_Mo_automaton_153 (by decide) ?_
                        refine lv_iload_n hx hb d_Mo_automaton_154 rfl (lv_at hl 4 rfl) ?_
                        refine lv_iconst (v := 4) hx hb d_Mo_automaton_155 (by decide) ?_
                        refine lv_irem hx hb d_Mo_automaton_156 (by decide) ?_
                        obtain ⟨u180, eu180, hf⟩ := obd hf
                        refine p_call (W.runV (As := [.int p0, .int (p2 / 4), .int (p2 - p2 / 4 * 4)]) (rest := []) ⟨hx, hb, hml, hown, hts⟩ (c_Mo_go l eu180) (gV 3 hts cd_Mo_go ml_Mo_98 im_Mo_go se_Mo_go ini_Mo rfl rfl pd_Mo_go ⟨Nat.le_trans (Nat.le_of_ble_eq_true rfl) hRf, Nat.le_trans (Nat.le_of_ble_eq_true rfl) hRl⟩) ⟨pPre_blind, va_recv hK hP (ci := 0) (q0 := 0) rfl rfl, pPre_of hP hK⟩ rfl rfl hl.1 rfl (lv_room (Nat.le_of_ble_eq_true rfl)) d_Mo_automaton_157 ⟨hRc, hRs⟩) ?_
                        refine lv_goto (tgt := 177) hx hb d_Mo_automaton_160 (by decide) ?_
                        exact Kr _ (Option.some.inj hf).symm _ _ _ _ d_Mo_automaton_177 hP hD hS
                    · rw [if_pos c176] at hf
                      refine lv_iload hx hb d_Mo_automaton_139 (lv_at hl 0 rfl) ?_
                      refine lv_goto (tgt := 177) hx hb d_Mo_automaton_141 (by decide) ?_
                      exact Kr _ (Option.some.inj hf).symm _ _ _ _ d_Mo_automaton_177 hP hD hS
                  · rw [if_pos c175] at hf
                    refine lv_aload_n hx hb d_Mo_automaton_125 rfl (lv_at hl 1 rfl) ?_
                    refine va_get (D := D) (ci := 0) (v := .ref (a 0)) (C := R_Mo) (T := T_Mo) (N := 29) hx hb hts in_Mo hown hK hP 0 rfl rfl 3 (by decide) (hts _ fl_Mo_9) (fun _ h9 => h9) rfl d_Mo_automaton_126 ?_
                    refine lv_iload_n hx hb d_Mo_automaton_129 rfl (lv_at hl 2 rfl) ?_
                    obtain ⟨g181, hf⟩ := ogi hf
                    refine va_iald hx hb hK hP 1 0 rfl rfl (gin_in g181) d_Mo_automaton_130 ?_
                    refine lv_goto (tgt := 177) hx hb d_Mo_automaton_131 (by decide) ?_
                    exact Kr _ (Option.some.inj hf).symm _ _ _ _ d_Mo_automaton_177 hP hD hS
                · rw [if_pos c173] at hf
                  refine lv_iconst (v := 0) hx hb d_Mo_automaton_83 (by decide) ?_
                  exact Kr _ (Option.some.inj hf).symm _ _ _ _ d_Mo_automaton_84 hP hD hS
              · rw [if_neg c171] at hf
                refine lv_iconst (v := 1) hx hb d_Mo_automaton_71 (by decide) ?_
                refine lv_goto (tgt := 76) hx hb d_Mo_automaton_72 (by decide) ?_
                refine lv_iconst (v := 2) hx hb d_Mo_automaton_76 (by decide) ?_
                obtain ⟨u182, eu182, hf⟩ := obd hf
                refine w_call (va_runV (As := [.int (bI true), .int 2]) (rest := []) ⟨hx, hb, hml, hown, hts⟩ (c_Mo_fails l H.size eu182) (gV 2 hts cd_Mo_fails ml_Mo_124 im_Mo_fails se_Mo_fails ini_Mo rfl rfl pd_Mo_fails ⟨Nat.le_trans (Nat.le_of_ble_eq_true rfl) hRf, Nat.le_trans (Nat.le_of_ble_eq_true rfl) hRl⟩) ⟨wPre_blind, va_recv hK hP (ci := 0) (q0 := 0) rfl rfl, wPre_of hP hK hD⟩ rfl rfl hl.1 rfl (lv_room (Nat.le_of_ble_eq_true rfl)) d_Mo_automaton_77 ⟨hRc, hRs⟩) hD hS hA (fun H locs hP hD hS => ?_)
                have hP : va_P D vwCl (moW K h a u182.2 mLanguages mBounds mSize mGoes mLast mLeft mNext mGroup mFresh mLeader mNumber mRight mEnds mWay mVariable mFactor mLeast mMost mLength mWord mKept mMany mMore mLeads mMet mTodo mMay mTries) H := hP
                have hD : va_D A (moW K h a u182.2 mLanguages mBounds mSize mGoes mLast mLeft mNext mGroup mFresh mLeader mNumber mRight mEnds mWay mVariable mFactor mLeast mMost mLength mWord mKept mMany mMore mLeads mMet mTodo mMay mTries) := hD
                refine bz_eq (tgt := 85) hx hb d_Mo_automaton_80 (by decide) (fun c183 => ?_) (fun c183 => ?_)
                · rw [if_neg c183] at hf
                  refine lv_iconst (v := 0) hx hb d_Mo_automaton_85 (by decide) ?_
                  refine lv_istore (lv' := [(4, .int 0), (0, .ref h), (1, .int p0), (2, .int p1), (3, .int p2)]) hx hb d_Mo_automaton_86 hl (by decide) rfl (fun ls hl => ?_)
                  refine lv_iconst (v := 0) hx hb d_Mo_automaton_88 (by decide) ?_
                  refine lv_istore (lv' := [(5, .int 0), (4, .int 0), (0, .ref h), (1, .int p0), (2, .int p1), (3, .int p2)]) hx hb d_Mo_automaton_89 hl (by decide) rfl (fun ls hl => ?_)
                  obtain ⟨u184, eu184, hf⟩ := obd hf
                  refine w_Mo_automaton_91 hx hb hml hts hown hK hRf hRl hRc hRs hA  (fun u184q eu ls H locs hP hD hS hl => ?_) _ _ _ eu184 _ _ _ hP hD hS (show lv_has ls 6 [(5, .int 0), (4, .int 0), (0, .ref h), (1, .int p0), (2, .int p1), (3, .int p2)] from lv_sub hl [0, 1, 2, 3, 4, 5] rfl)
                  subst eu
                  refine lv_iload_n hx hb d_Mo_automaton_121 rfl (lv_at hl 3 rfl) ?_
                  refine lv_if_ne (tgt := 134) hx hb d_Mo_automaton_122 (by decide) (fun c185 => ?_) (fun c185 => ?_)
                  · rw [if_neg c185] at hf
                    refine lv_iload_n hx hb d_Mo_automaton_134 rfl (lv_at hl 3 rfl) ?_
                    refine lv_iconst (v := 1) hx hb d_Mo_automaton_135 (by decide) ?_
                    refine lv_icmp_ne (tgt := 144) hx hb d_Mo_automaton_136 (by decide) (fun c186 => ?_) (fun c186 => ?_)
                    · rw [if_neg c186] at hf
                      refine lv_iload_n hx hb d_Mo_automaton_144 rfl (lv_at hl 3 rfl) ?_
                      refine lv_iconst (v := 2) hx hb d_Mo_automaton_145 (by decide) ?_
                      refine lv_icmp_ne (tgt := 163) hx hb d_Mo_automaton_146 (by decide) (fun c187 => ?_) (fun c187 => ?_)
                      · rw [if_neg c187] at hf
                        refine lv_aload_n hx hb d_Mo_automaton_163 rfl (lv_at hl 1 rfl) ?_
                        refine lv_iload_n hx hb d_Mo_automaton_164 rfl (lv_at hl 2 rfl) ?_
                        refine lv_iload_n hx hb d_Mo_automaton_165 rfl (lv_at hl 4 rfl) ?_
                        obtain ⟨u188, eu188, hf⟩ := obd hf
                        refine p_call (W.runV (As := [.int p0, .int p2]) (rest := []) ⟨hx, hb, hml, hown, hts⟩ (c_Mo_isLast l eu188) (gV 2 hts cd_Mo_isLast ml_Mo_102 im_Mo_isLast se_Mo_isLast ini_Mo rfl rfl pd_Mo_isLast ⟨Nat.le_trans (Nat.le_of_ble_eq_true rfl) hRf, Nat.le_trans (Nat.le_of_ble_eq_true rfl) hRl⟩) ⟨pPre_blind, va_recv hK hP (ci := 0) (q0 := 0) rfl rfl, pPre_of hP hK⟩ rfl rfl hl.1 rfl (lv_room (Nat.le_of_ble_eq_true rfl)) d_Mo_automaton_166 ⟨hRc, hRs⟩) ?_
                        refine bz_eq (tgt := 176) hx hb d_Mo_automaton_169 (by decide) (fun c189 => ?_) (fun c189 => ?_)
                        · rw [if_neg c189] at hf
                          refine lv_iconst (v := 0) hx hb d_Mo_automaton_176 (by decide) ?_
                          exact Kr _ (Option.some.inj hf).symm _ _ _ _ d_Mo_automaton_177 hP hD hS
                        · rw [if_pos c189] at hf
                          refine lv_iconst (v := 1) hx hb d_Mo_automaton_172 (by decide) ?_
                          refine lv_goto (tgt := 177) hx hb d_Mo_automaton_173 (by decide) ?_
                          exact Kr _ (Option.some.inj hf).symm _ _ _ _ d_Mo_automaton_177 hP hD hS
                      · rw [if_pos c187] at hf
                        refine lv_aload_n hx hb d_Mo_automaton_149 rfl (lv_at hl 1 rfl) ?_
                        refine lv_iload_n hx hb d_Mo_automaton_150 rfl (lv_at hl 2 rfl) ?_
                        refine lv_iload_n hx hb d_Mo_automaton_151 rfl (lv_at hl 4 rfl) ?_
                        refine lv_iconst (v := 4) hx hb d_Mo_automaton_152 (by decide) ?_
                        refine lv_idiv hx hb d_Mo_automaton_153 (by decide) ?_
                        refine lv_iload_n hx hb d_Mo_automaton_154 rfl (lv_at hl 4 rfl) ?_
                        refine lv_iconst (v := 4) hx hb d_Mo_automaton_155 (by decide) ?_
                        refine lv_irem hx hb d_Mo_automaton_156 (by decide) ?_
                        obtain ⟨u190, eu190, hf⟩ := obd hf
                        refine p_call (W.runV (As := [.int p0, .int (p2 / 4), .int (p2 - p2 / 4 * 4)]) (rest := []) ⟨hx, hb, hml, hown, hts⟩ (c_Mo_go l eu190) (gV 3 hts cd_Mo_go ml_Mo_98 im_Mo_go se_Mo_go ini_Mo rfl rfl pd_Mo_go ⟨Nat.le_trans (Nat.le_of_ble_eq_true rfl) hRf, Nat.le_trans (Nat.le_of_ble_eq_true rfl) hRl⟩) ⟨pPre_blind, va_recv hK hP (ci := 0) (q0 := 0) rfl rfl, pPre_of hP hK⟩ rfl rfl hl.1 rfl (lv_room (Nat.le_of_ble_eq_true rfl)) d_Mo_automaton_157 ⟨hRc, hRs⟩) ?_
                        refine lv_goto (tgt := 177) hx hb d_Mo_automaton_160 (by decide) ?_
                        exact Kr _ (Option.some.inj hf).symm _ _ _ _ d_Mo_automaton_177 hP hD hS
                    · rw [if_pos c186] at hf
                      refine lv_iload hx hb d_Mo_automaton_139 (lv_at hl 0 rfl) ?_
                      refine lv_goto (tgt := 177) hx hb d_Mo_automaton_141 (by decide) ?_
                      exact Kr _ (Option.some.inj hf).symm _ _ _ _ d_Mo_automaton_177 hP hD hS
                  · rw [if_pos c185] at hf
                    refine lv_aload_n hx hb d_Mo_automaton_125 rfl (lv_at hl 1 rfl) ?_
                    refine va_get (D := D) (ci := 0) (v := .ref (a 0)) (C := R_Mo) (T := T_Mo) (N := 29) hx hb hts in_Mo hown hK hP 0 rfl rfl 3 (by decide) (hts _ fl_Mo_9) (fun _ h9 => h9) rfl d_Mo_automaton_126 ?_
                    refine lv_iload_n hx hb d_Mo_automaton_129 rfl (lv_at hl 2 rfl) ?_
                    obtain ⟨g191, hf⟩ := ogi hf
                    refine va_iald hx hb hK hP 1 0 rfl rfl (gin_in g191) d_Mo_automaton_130 ?_
                    refine lv_goto (tgt := 177) hx hb d_Mo_automaton_131 (by decide) ?_
                    exact Kr _ (Option.some.inj hf).symm _ _ _ _ d_Mo_automaton_177 hP hD hS
                · rw [if_pos c183] at hf
                  refine lv_iconst (v := 0) hx hb d_Mo_automaton_83 (by decide) ?_
                  exact Kr _ (Option.some.inj hf).symm _ _ _ _ d_Mo_automaton_84 hP hD hS
            · rw [if_pos c169] at hf
              refine lv_iload_n hx hb d_Mo_automaton_55 rfl (lv_at hl 3 rfl) ?_
              refine lv_iconst (v := 4) hx hb d_Mo_automaton_56 (by decide) ?_
              refine lv_idiv hx hb d_Mo_automaton_57 (by decide) ?_
              refine lv_goto (tgt := 62) hx hb d_Mo_automaton_58 (by decide) ?_
              refine lv_aload_n hx hb d_Mo_automaton_62 rfl (lv_at hl 0 rfl) ?_
              refine va_get (D := D) (ci := 0) (v := .ref (a 0)) (C := R_Mo) (T := T_Mo) (N := 29) hx hb hts in_Mo hown hK hP 0 rfl rfl 3 (by decide) (hts _ fl_Mo_9) (fun _ h9 => h9) rfl d_Mo_automaton_63 ?_
              refine lv_iload_n hx hb d_Mo_automaton_66 rfl (lv_at hl 1 rfl) ?_
              obtain ⟨g192, hf⟩ := ogi hf
              refine va_iald hx hb hK hP 1 0 rfl rfl (gin_in g192) d_Mo_automaton_67 ?_
              refine lv_icmp_lt (tgt := 75) hx hb d_Mo_automaton_68 (by decide) (fun c193 => ?_) (fun c193 => ?_)
              · rw [if_pos c193] at hf
                refine lv_iconst (v := 0) hx hb d_Mo_automaton_75 (by decide) ?_
                refine lv_iconst (v := 2) hx hb d_Mo_automaton_76 (by decide) ?_
                obtain ⟨u194, eu194, hf⟩ := obd hf
                refine w_call (va_runV (As := [.int (bI false), .int 2]) (rest := []) ⟨hx, hb, hml, hown, hts⟩ (c_Mo_fails l H.size eu194) (gV 2 hts cd_Mo_fails ml_Mo_124 im_Mo_fails se_Mo_fails ini_Mo rfl rfl pd_Mo_fails ⟨Nat.le_trans (Nat.le_of_ble_eq_true rfl) hRf, Nat.le_trans (Nat.le_of_ble_eq_true rfl) hRl⟩) ⟨wPre_blind, va_recv hK hP (ci := 0) (q0 := 0) rfl rfl, wPre_of hP hK hD⟩ rfl rfl hl.1 rfl (lv_room (Nat.le_of_ble_eq_true rfl)) d_Mo_automaton_77 ⟨hRc, hRs⟩) hD hS hA (fun H locs hP hD hS => ?_)
                have hP : va_P D vwCl (moW K h a u194.2 mLanguages mBounds mSize mGoes mLast mLeft mNext mGroup mFresh mLeader mNumber mRight mEnds mWay mVariable mFactor mLeast mMost mLength mWord mKept mMany mMore mLeads mMet mTodo mMay mTries) H := hP
                have hD : va_D A (moW K h a u194.2 mLanguages mBounds mSize mGoes mLast mLeft mNext mGroup mFresh mLeader mNumber mRight mEnds mWay mVariable mFactor mLeast mMost mLength mWord mKept mMany mMore mLeads mMet mTodo mMay mTries) := hD
                refine bz_eq (tgt := 85) hx hb d_Mo_automaton_80 (by decide) (fun c195 => ?_) (fun c195 => ?_)
                · rw [if_neg c195] at hf
                  refine lv_iconst (v := 0) hx hb d_Mo_automaton_85 (by decide) ?_
                  refine lv_istore (lv' := [(4, .int 0), (0, .ref h), (1, .int p0), (2, .int p1), (3, .int p2)]) hx hb d_Mo_automaton_86 hl (by decide) rfl (fun ls hl => ?_)
                  refine lv_iconst (v := 0) hx hb d_Mo_automaton_88 (by decide) ?_
                  refine lv_istore (lv' := [(5, .int 0), (4, .int 0), (0, .ref h), (1, .int p0), (2, .int p1), (3, .int p2)]) hx hb d_Mo_automaton_89 hl (by decide) rfl (fun ls hl => ?_)
                  obtain ⟨u196, eu196, hf⟩ := obd hf
                  refine w_Mo_automaton_91 hx hb hml hts hown hK hRf hRl hRc hRs hA  (fun u196q eu ls H locs hP hD hS hl => ?_) _ _ _ eu196 _ _ _ hP hD hS (show lv_has ls 6 [(5, .int 0), (4, .int 0), (0, .ref h), (1, .int p0), (2, .int p1), (3, .int p2)] from lv_sub hl [0, 1, 2, 3, 4, 5] rfl)
                  subst eu
                  refine lv_iload_n hx hb d_Mo_automaton_121 rfl (lv_at hl 3 rfl) ?_
                  refine lv_if_ne (tgt := 134) hx hb d_Mo_automaton_122 (by decide) (fun c197 => ?_) (fun c197 => ?_)
                  · rw [if_neg c197] at hf
                    refine lv_iload_n hx hb d_Mo_automaton_134 rfl (lv_at hl 3 rfl) ?_
                    refine lv_iconst (v := 1) hx hb d_Mo_automaton_135 (by decide) ?_
                    refine lv_icmp_ne (tgt := 144) hx hb d_Mo_automaton_136 (by decide) (fun c198 => ?_) (fun c198 => ?_)
                    · rw [if_neg c198] at hf
                      refine lv_iload_n hx hb d_Mo_automaton_144 rfl (lv_at hl 3 rfl) ?_
                      refine lv_iconst (v := 2) hx hb d_Mo_automaton_145 (by decide) ?_
                      refine lv_icmp_ne (tgt := 163) hx hb d_Mo_automaton_146 (by decide) (fun c199 => ?_) (fun c199 => ?_)
                      · rw [if_neg c199] at hf
                        refine lv_aload_n hx hb d_Mo_automaton_163 rfl (lv_at hl 1 rfl) ?_
                        refine lv_iload_n hx hb d_Mo_automaton_164 rfl (lv_at hl 2 rfl) ?_
                        refine lv_iload_n hx hb d_Mo_automaton_165 rfl (lv_at hl 4 rfl) ?_
                        obtain ⟨u200, eu200, hf⟩ := obd hf
                        refine p_call (W.runV (As := [.int p0, .int p2]) (rest := []) ⟨hx, hb, hml, hown, hts⟩ (c_Mo_isLast l eu200) (gV 2 hts cd_Mo_isLast ml_Mo_102 im_Mo_isLast se_Mo_isLast ini_Mo rfl rfl pd_Mo_isLast ⟨Nat.le_trans (Nat.le_of_ble_eq_true rfl) hRf, Nat.le_trans (Nat.le_of_ble_eq_true rfl) hRl⟩) ⟨pPre_blind, va_recv hK hP (ci := 0) (q0 := 0) rfl rfl, pPre_of hP hK⟩ rfl rfl hl.1 rfl (lv_room (Nat.le_of_ble_eq_true rfl)) d_Mo_automaton_166 ⟨hRc, hRs⟩) ?_
                        refine bz_eq (tgt := 176) hx hb d_Mo_automaton_169 (by decide) (fun c201 => ?_) (fun c201 => ?_)
                        · rw [if_neg c201] at hf
                          refine lv_iconst (v := 0) hx hb d_Mo_automaton_176 (by decide) ?_
                          exact Kr _ (Option.some.inj hf).symm _ _ _ _ d_Mo_automaton_177 hP hD hS
                        · rw [if_pos c201] at hf
                          refine lv_iconst (v := 1) hx hb d_Mo_automaton_172 (by decide) ?_
                          refine lv_goto (tgt := 177) hx hb d_Mo_automaton_173 (by decide) ?_
                          exact Kr _ (Option.some.inj hf).symm _ _ _ _ d_Mo_automaton_177 hP hD hS
                      · rw [if_pos c199] at hf
                        refine lv_aload_n hx hb d_Mo_automaton_149 rfl (lv_at hl 1 rfl) ?_
                        refine lv_iload_n hx hb d_Mo_automaton_150 rfl (lv_at hl 2 rfl) ?_
                        refine lv_iload_n hx hb d_Mo_automaton_151 rfl (lv_at hl 4 rfl) ?_
                        refine lv_iconst (v := 4) hx hb d_Mo_automaton_152 (by decide) ?_
                        refine lv_idiv hx hb d_Mo_automaton_153 (by decide) ?_
                        refine lv_iload_n hx hb d_Mo_automaton_154 rfl (lv_at hl 4 rfl) ?_
                        refine lv_iconst (v := 4) hx hb d_Mo_automaton_155 (by decide) ?_
                        refine lv_irem hx hb d_Mo_automaton_156 (by decide) ?_
                        obtain ⟨u202, eu202, hf⟩ := obd hf
                        refine p_call (W.runV (As := [.int p0, .int (p2 / 4), .int (p2 - p2 / 4 * 4)]) (rest := []) ⟨hx, hb, hml, hown, hts⟩ (c_Mo_go l eu202) (gV 3 hts cd_Mo_go ml_Mo_98 im_Mo_go se_Mo_go ini_Mo rfl rfl pd_Mo_go ⟨Nat.le_trans (Nat.le_of_ble_eq_true rfl) hRf, Nat.le_trans (Nat.le_of_ble_eq_true rfl) hRl⟩) ⟨pPre_blind, va_recv hK hP (ci := 0) (q0 := 0) rfl rfl, pPre_of hP hK⟩ rfl rfl hl.1 rfl (lv_room (Nat.le_of_ble_eq_true rfl)) d_Mo_automaton_157 ⟨hRc, hRs⟩) ?_
                        refine lv_goto (tgt := 177) hx hb d_Mo_automaton_160 (by decide) ?_
                        exact Kr _ (Option.some.inj hf).symm _ _ _ _ d_Mo_automaton_177 hP hD hS
                    · rw [if_pos c198] at hf
                      refine lv_iload hx hb d_Mo_automaton_139 (lv_at hl 0 rfl) ?_
                      refine lv_goto (tgt := 177) hx hb d_Mo_automaton_141 (by decide) ?_
                      exact Kr _ (Option.some.inj hf).symm _ _ _ _ d_Mo_automaton_177 hP hD hS
                  · rw [if_pos c197] at hf
                    refine lv_aload_n hx hb d_Mo_automaton_125 rfl (lv_at hl 1 rfl) ?_
                    refine va_get (D := D) (ci := 0) (v := .ref (a 0)) (C := R_Mo) (T := T_Mo) (N := 29) hx hb hts in_Mo hown hK hP 0 rfl rfl 3 (by decide) (hts _ fl_Mo_9) (fun _ h9 => h9) rfl d_Mo_automaton_126 ?_
                    refine lv_iload_n hx hb d_Mo_automaton_129 rfl (lv_at hl 2 rfl) ?_
                    obtain ⟨g203, hf⟩ := ogi hf
                    refine va_iald hx hb hK hP 1 0 rfl rfl (gin_in g203) d_Mo_automaton_130 ?_
                    refine lv_goto (tgt := 177) hx hb d_Mo_automaton_131 (by decide) ?_
                    exact Kr _ (Option.some.inj hf).symm _ _ _ _ d_Mo_automaton_177 hP hD hS
                · rw [if_pos c195] at hf
                  refine lv_iconst (v := 0) hx hb d_Mo_automaton_83 (by decide) ?_
                  exact Kr _ (Option.some.inj hf).symm _ _ _ _ d_Mo_automaton_84 hP hD hS
              · rw [if_neg c193] at hf
                refine lv_iconst (v := 1) hx hb d_Mo_automaton_71 (by decide) ?_
                refine lv_goto (tgt := 76) hx hb d_Mo_automaton_72 (by decide) ?_
                refine lv_iconst (v := 2) hx hb d_Mo_automaton_76 (by decide) ?_
                obtain ⟨u204, eu204, hf⟩ := obd hf
                refine w_call (va_runV (As := [.int (bI true), .int 2]) (rest := []) ⟨hx, hb, hml, hown, hts⟩ (c_Mo_fails l H.size eu204) (gV 2 hts cd_Mo_fails ml_Mo_124 im_Mo_fails se_Mo_fails ini_Mo rfl rfl pd_Mo_fails ⟨Nat.le_trans (Nat.le_of_ble_eq_true rfl) hRf, Nat.le_trans (Nat.le_of_ble_eq_true rfl) hRl⟩) ⟨wPre_blind, va_recv hK hP (ci := 0) (q0 := 0) rfl rfl, wPre_of hP hK hD⟩ rfl rfl hl.1 rfl (lv_room (Nat.le_of_ble_eq_true rfl)) d_Mo_automaton_77 ⟨hRc, hRs⟩) hD hS hA (fun H locs hP hD hS => ?_)
                have hP : va_P D vwCl (moW K h a u204.2 mLanguages mBounds mSize mGoes mLast mLeft mNext mGroup mFresh mLeader mNumber mRight mEnds mWay mVariable mFactor mLeast mMost mLength mWord mKept mMany mMore mLeads mMet mTodo mMay mTries) H := hP
                have hD : va_D A (moW K h a u204.2 mLanguages mBounds mSize mGoes mLast mLeft mNext mGroup mFresh mLeader mNumber mRight mEnds mWay mVariable mFactor mLeast mMost mLength mWord mKept mMany mMore mLeads mMet mTodo mMay mTries) := hD
                refine bz_eq (tgt := 85) hx hb d_Mo_automaton_80 (by decide) (fun c205 => ?_) (fun c205 => ?_)
                · rw [if_neg c205] at hf
                  refine lv_iconst (v := 0) hx hb d_Mo_automaton_85 (by decide) ?_
                  refine lv_istore (lv' := [(4, .int 0), (0, .ref h), (1, .int p0), (2, .int p1), (3, .int p2)]) hx hb d_Mo_automaton_86 hl (by decide) rfl (fun ls hl => ?_)
                  refine lv_iconst (v := 0) hx hb d_Mo_automaton_88 (by decide) ?_
                  refine lv_istore (lv' := [(5, .int 0), (4, .int 0), (0, .ref h), (1, .int p0), (2, .int p1), (3, .int p2)]) hx hb d_Mo_automaton_89 hl (by decide) rfl (fun ls hl => ?_)
                  obtain ⟨u206, eu206, hf⟩ := obd hf
                  refine w_Mo_automaton_91 hx hb hml hts hown hK hRf hRl hRc hRs hA  (fun u206q eu ls H locs hP hD hS hl => ?_) _ _ _ eu206 _ _ _ hP hD hS (show lv_has ls 6 [(5, .int 0), (4, .int 0), (0, .ref h), (1, .int p0), (2, .int p1), (3, .int p2)] from lv_sub hl [0, 1, 2, 3, 4, 5] rfl)
                  subst eu
                  refine lv_iload_n hx hb d_Mo_automaton_121 rfl (lv_at hl 3 rfl) ?_
                  refine lv_if_ne (tgt := 134) hx hb d_Mo_automaton_122 (by decide) (fun c207 => ?_) (fun c207 => ?_)
                  · rw [if_neg c207] at hf
                    refine lv_iload_n hx hb d_Mo_automaton_134 rfl (lv_at hl 3 rfl) ?_
                    refine lv_iconst (v := 1) hx hb d_Mo_automaton_135 (by decide) ?_
                    refine lv_icmp_ne (tgt := 144) hx hb d_Mo_automaton_136 (by decide) (fun c208 => ?_) (fun c208 => ?_)
                    · rw [if_neg c208] at hf
                      refine lv_iload_n hx hb d_Mo_automaton_144 rfl (lv_at hl 3 rfl) ?_
                      refine lv_iconst (v := 2) hx hb d_Mo_automaton_145 (by decide) ?_
                      refine lv_icmp_ne (tgt := 163) hx hb d_Mo_automaton_146 (by decide) (fun c209 => ?_) (fun c209 => ?_)
                      · rw [if_neg c209] at hf
                        refine lv_aload_n hx hb d_Mo_automaton_163 rfl (lv_at hl 1 rfl) ?_
                        refine lv_iload_n hx hb d_Mo_automaton_164 rfl (lv_at hl 2 rfl) ?_
                        refine lv_iload_n hx hb d_Mo_automaton_165 rfl (lv_at hl 4 rfl) ?_
                        obtain ⟨u210, eu210, hf⟩ := obd hf
                        refine p_call (W.runV (As := [.int p0, .int p2]) (rest := []) ⟨hx, hb, hml, hown, hts⟩ (c_Mo_isLast l eu210) (gV 2 hts cd_Mo_isLast ml_Mo_102 im_Mo_isLast se_Mo_isLast ini_Mo rfl rfl pd_Mo_isLast ⟨Nat.le_trans (Nat.le_of_ble_eq_true rfl) hRf, Nat.le_trans (Nat.le_of_ble_eq_true rfl) hRl⟩) ⟨pPre_blind, va_recv hK hP (ci := 0) (q0 := 0) rfl rfl, pPre_of hP hK⟩ rfl rfl hl.1 rfl (lv_room (Nat.le_of_ble_eq_true rfl)) d_Mo_automaton_166 ⟨hRc, hRs⟩) ?_
                        refine bz_eq (tgt := 176) hx hb d_Mo_automaton_169 (by decide) (fun c211 => ?_) (fun c211 => ?_)
                        · rw [if_neg c211] at hf
                          refine lv_iconst (v := 0) hx hb d_Mo_automaton_176 (by decide) ?_
                          exact Kr _ (Option.some.inj hf).symm _ _ _ _ d_Mo_automaton_177 hP hD hS
                        · rw [if_pos c211] at hf
                          refine lv_iconst (v := 1) hx hb d_Mo_automaton_172 (by decide) ?_
                          refine lv_goto (tgt := 177) hx hb d_Mo_automaton_173 (by decide) ?_
                          exact Kr _ (Option.some.inj hf).symm _ _ _ _ d_Mo_automaton_177 hP hD hS
                      · rw [if_pos c209] at hf
                        refine lv_aload_n hx hb d_Mo_automaton_149 rfl (lv_at hl 1 rfl) ?_
                        refine lv_iload_n hx hb d_Mo_automaton_150 rfl (lv_at hl 2 rfl) ?_
                        refine lv_iload_n hx hb d_Mo_automaton_151 rfl (lv_at hl 4 rfl) ?_
                        refine lv_iconst (v := 4) hx hb d_Mo_automaton_152 (by decide) ?_
                        refine lv_idiv hx hb d_Mo_automaton_153 (by decide) ?_
                        refine lv_iload_n hx hb d_Mo_automaton_154 rfl (lv_at hl 4 rfl) ?_
                        refine lv_iconst (v := 4) hx hb d_Mo_automaton_155 (by decide) ?_
                        refine lv_irem hx hb d_Mo_automaton_156 (by decide) ?_
                        obtain ⟨u212, eu212, hf⟩ := obd hf
                        refine p_call (W.runV (As := [.int p0, .int (p2 / 4), .int (p2 - p2 / 4 * 4)]) (rest := []) ⟨hx, hb, hml, hown, hts⟩ (c_Mo_go l eu212) (gV 3 hts cd_Mo_go ml_Mo_98 im_Mo_go se_Mo_go ini_Mo rfl rfl pd_Mo_go ⟨Nat.le_trans (Nat.le_of_ble_eq_true rfl) hRf, Nat.le_trans (Nat.le_of_ble_eq_true rfl) hRl⟩) ⟨pPre_blind, va_recv hK hP (ci := 0) (q0 := 0) rfl rfl, pPre_of hP hK⟩ rfl rfl hl.1 rfl (lv_room (Nat.le_of_ble_eq_true rfl)) d_Mo_automaton_157 ⟨hRc, hRs⟩) ?_
                        refine lv_goto (tgt := 177) hx hb d_Mo_automaton_160 (by decide) ?_
                        exact Kr _ (Option.some.inj hf).symm _ _ _ _ d_Mo_automaton_177 hP hD hS
                    · rw [if_pos c208] at hf
                      refine lv_iload hx hb d_Mo_automaton_139 (lv_at hl 0 rfl) ?_
                      refine lv_goto (tgt := 177) hx hb d_Mo_automaton_141 (by decide) ?_
                      exact Kr _ (Option.some.inj hf).symm _ _ _ _ d_Mo_automaton_177 hP hD hS
                  · rw [if_pos c207] at hf
                    refine lv_aload_n hx hb d_Mo_automaton_125 rfl (lv_at hl 1 rfl) ?_
                    refine va_get (D := D) (ci := 0) (v := .ref (a 0)) (C := R_Mo) (T := T_Mo) (N := 29) hx hb hts in_Mo hown hK hP 0 rfl rfl 3 (by decide) (hts _ fl_Mo_9) (fun _ h9 => h9) rfl d_Mo_automaton_126 ?_
                    refine lv_iload_n hx hb d_Mo_automaton_129 rfl (lv_at hl 2 rfl) ?_
                    obtain ⟨g213, hf⟩ := ogi hf
                    refine va_iald hx hb hK hP 1 0 rfl rfl (gin_in g213) d_Mo_automaton_130 ?_
                    refine lv_goto (tgt := 177) hx hb d_Mo_automaton_131 (by decide) ?_
                    exact Kr _ (Option.some.inj hf).symm _ _ _ _ d_Mo_automaton_177 hP hD hS
                · rw [if_pos c205] at hf
                  refine lv_iconst (v := 0) hx hb d_Mo_automaton_83 (by decide) ?_
                  exact Kr _ (Option.some.inj hf).symm _ _ _ _ d_Mo_automaton_84 hP hD hS
      · rw [if_pos c148] at hf
        refine lv_iconst (v := 0) hx hb d_Mo_automaton_38 (by decide) ?_
        exact Kr _ (Option.some.inj hf).symm _ _ _ _ d_Mo_automaton_39 hP hD hS
set_option maxHeartbeats 4000000 in
set_option maxRecDepth 100000 in
theorem c_Mo_automaton (l : Launch)  {p0 : Int32} {p1 : Int32} {p2 : Int32}  {r : Int32 × Int32} (sz : Nat) (hf : f_Mo_automaton n p0 p1 p2 mLanguages mSize mGoes mLast = some r) : Met l y_Mo_automaton w0_Mo_automaton ({ frames := 2, cells := 0, slots := 0, locals := 46 }) (wPre D K [.ref h, .int p0, .int p1, .int p2] (moW K h a mErr mLanguages mBounds mSize mGoes mLast mLeft mNext mGroup mFresh mLeader mNumber mRight mEnds mWay mVariable mFactor mLeast mMost mLength mWord mKept mMany mMore mLeads mMet mTodo mMay mTries) sz) (wPost D K (some (.int r.1)) (moW K h a r.2 mLanguages mBounds mSize mGoes mLast mLeft mNext mGroup mFresh mLeader mNumber mRight mEnds mWay mVariable mFactor mLeast mMost mLength mWord mKept mMany mMore mLeads mMet mTodo mMay mTries) (va_A (moW K h a mErr mLanguages mBounds mSize mGoes mLast mLeft mNext mGroup mFresh mLeader mNumber mRight mEnds mWay mVariable mFactor mLeast mMost mLength mWord mKept mMany mMore mLeads mMet mTodo mMay mTries) sz)) 0 0 (va_A (moW K h a mErr mLanguages mBounds mSize mGoes mLast mLeft mNext mGroup mFresh mLeader mNumber mRight mEnds mWay mVariable mFactor mLeast mMost mLength mWord mKept mMany mMore mLeads mMet mTodo mMay mTries) sz) := by
  refine Met.ofW (cc := b_Mo_automaton) (maxL := 6) (ret := (some .int)) (by decide) rfl ?_
  intro p e s m args below meth c s₁ B hml hv
  obtain ⟨rfl, hsz, hP, hK, hD0⟩ := hv
  subst hsz
  have hl := lv_entry [.ref h, .int p0, .int p1, .int p2] (n := 6) (Nat.le_of_ble_eq_true rfl)
  rw [lg_entry_eq]
  generalize (lg_sl [.ref h, .int p0, .int p1, .int p2] ++ List.replicate (6 - (lg_sl [.ref h, .int p0, .int p1, .int p2]).length) Slot.unset).toArray = ls at hl ⊢
  refine w_Mo_automaton (A := va_A (moW K h a mErr mLanguages mBounds mSize mGoes mLast mLeft mNext mGroup mFresh mLeader mNumber mRight mEnds mWay mVariable mFactor mLeast mMost mLength mWord mKept mMany mMore mLeads mMet mTodo mMay mTries) s.heap.size) (H0 := s.heap) B.exec B.bytes hml (fun w hw => atoms_spec (ws := w0_Mo_automaton) B.pre w (List.mem_cons_of_mem _ hw)) (findClass_of_methodNamed B.named) hK (Nat.le_refl _) (Nat.le_refl _) (Nat.zero_le _) (Nat.zero_le _) (fun q h => Or.inr h) (fun r er pc ls H locs hd hP hD hS => ?_) hf ls hP (hD0.self (sz := s.heap.size)) va_S.rf hl
  subst er
  exact W.iret B.exec B.bytes B.returns (fun t ht hW => ⟨⟨rfl, by rw [ht]; exact hP, va_K.moved hW.alike hK, hD⟩, hS.F ht⟩) hS.2.2 hd (hlocks := B.notSynchronized)
theorem pd_Mo_has : y_Mo_has.cls ≠ "java/lang/invoke/MethodHandle" ∧ y_Mo_has.cls ≠ "java/lang/invoke/VarHandle" ∧ (parseMethodDescriptor y_Mo_has.desc).map (fun d => d.parameters.length) = some 3 := by decide +kernel
def f_Mo_has_63 (n : Nat) (v1 : Int32) (v3 : Int64) (mGoes : Nat → Int32) : Nat → Int32 → Int32 → Option (Int32 × Int32)
  | 0, _, _ => none
  | k + 1, v6, v5 =>
    if v6 < 0 then
      some (v6, v5)
    else
      (f_Mo_go n v1 v5 (((lshr v3 (2 * v6)).toInt32) &&& 3) mGoes).bind fun u8 =>
      f_Mo_has_63 n v1 v3 mGoes k (v6 + (-1)) u8
set_option maxHeartbeats 4000000 in
set_option maxRecDepth 100000 in
theorem w_Mo_has_63  {v1 : Int32} {v3 : Int64} (hx : p.tables.exec = Jvm.exec) (hb : c.code = b_Mo_has) (hml : c.maxLocals = 7) (hts : ∀ w ∈ gW, w.before args s = true) (hown : s.vm.findClass "RegularSolverModel" = some m.cls) (hK : va_K D vwCl (tG K) s) (hRf : 2 ≤ R.frames) (hRl : 46 ≤ R.locals) (hRc : cells ≤ R.cells) (hRs : slots ≤ R.slots) (hA : ∀ q, H0.size ≤ q → A q)  {out : Int32 × Int32} (Kx : ∀ (u : Int32 × Int32), out = u → ∀ (ls : Array Slot) (H : Heap) (locs : List Loc), va_P D vwCl (moW K h a mErr mLanguages mBounds mSize mGoes mLast mLeft mNext mGroup mFresh mLeader mNumber mRight mEnds mWay mVariable mFactor mLeast mMost mLength mWord mKept mMany mMore mLeads mMet mTodo mMay mTries) H → va_D A (moW K h a mErr mLanguages mBounds mSize mGoes mLast mLeft mNext mGroup mFresh mLeader mNumber mRight mEnds mWay mVariable mFactor mLeast mMost mLength mWord mKept mMany mMore mLeads mMet mTodo mMay mTries) → va_S A H0 H locs → lv_has ls 7 [(5, .int u.2), (0, .ref h), (1, .int v1)] → W p l e R s m args below meth c H locs cells slots Q (F0 m 92 ls [])) :
    ∀ (k : Nat) (v6 : Int32) (v5 : Int32), f_Mo_has_63 n v1 v3 mGoes k v6 v5 = some out → ∀ (ls : Array Slot) (H : Heap) (locs : List Loc), va_P D vwCl (moW K h a mErr mLanguages mBounds mSize mGoes mLast mLeft mNext mGroup mFresh mLeader mNumber mRight mEnds mWay mVariable mFactor mLeast mMost mLength mWord mKept mMany mMore mLeads mMet mTodo mMay mTries) H → va_D A (moW K h a mErr mLanguages mBounds mSize mGoes mLast mLeft mNext mGroup mFresh mLeader mNumber mRight mEnds mWay mVariable mFactor mLeast mMost mLength mWord mKept mMany mMore mLeads mMet mTodo mMay mTries) → va_S A H0 H locs → lv_has ls 7 [(6, .int v6), (5, .int v5), (0, .ref h), (1, .int v1), (3, .long v3)] → W p l e R s m args below meth c H locs cells slots Q (F0 m 63 ls []) := by
  intro k
  induction k with
  | zero => intro _ _ hf; exact nomatch (show none = some out from hf)
  | succ k ih =>
    intro v6 v5 hf ls H locs hP hD hS hl
    rw [f_Mo_has_63] at hf
    refine lv_iload hx hb d_Mo_has_63 (lv_at hl 0 rfl) ?_
    refine lv_if_lt (tgt := 92) hx hb d_Mo_has_65 (by decide) (fun c7 => ?_) (fun c7 => ?_)
    · rw [if_pos c7] at hf
      exact Kx _ (Option.some.inj hf).symm _ _ _ hP hD hS (show lv_has ls 7 [(5, .int v5), (0, .ref h), (1, .int v1)] from lv_sub hl [1, 2, 3] rfl)
    · rw [if_neg c7] at hf
      refine lv_aload_n hx hb d_Mo_has_68 rfl (lv_at hl 2 rfl) ?_
      refine lv_iload_n hx hb d_Mo_has_69 rfl (lv_at hl 3 rfl) ?_
      refine lv_iload hx hb d_Mo_has_70 (lv_at hl 1 rfl) ?_
      refine lv_lload_n hx hb d_Mo_has_72 rfl (lv_at hl 4 rfl) ?_
      refine lv_iconst (v := 2) hx hb d_Mo_has_73 (by decide) ?_
      refine lv_iload hx hb d_Mo_has_74 (lv_at hl 0 rfl) ?_
      refine lv_imul hx hb d_Mo_has_76 ?_
      refine lv_lshr (v := lshr v3 (2 * v6)) hx hb d_Mo_has_77 rfl ?_
      refine lv_l2i (v := (lshr v3 (2 * v6)).toInt32) hx hb d_Mo_has_78 rfl ?_
      refine lv_iconst (v := 3) hx hb d_Mo_has_79 (by decide) ?_
      refine lv_iand hx hb d_Mo_has_80 ?_
      obtain ⟨u8, eu8, hf⟩ := obd hf
      refine p_call (W.runV (As := [.int v1, .int v5, .int (((lshr v3 (2 * v6)).toInt32) &&& 3)]) (rest := []) ⟨hx, hb, hml, hown, hts⟩ (c_Mo_go l eu8) (gV 3 hts cd_Mo_go ml_Mo_98 im_Mo_go se_Mo_go ini_Mo rfl rfl pd_Mo_go ⟨Nat.le_trans (Nat.le_of_ble_eq_true rfl) hRf, Nat.le_trans (Nat.le_of_ble_eq_true rfl) hRl⟩) ⟨pPre_blind, va_recv hK hP (ci := 0) (q0 := 0) rfl rfl, pPre_of hP hK⟩ rfl rfl hl.1 rfl (lv_room (Nat.le_of_ble_eq_true rfl)) d_Mo_has_81 ⟨hRc, hRs⟩) ?_
      refine lv_istore (lv' := [(5, .int u8), (6, .int v6), (0, .ref h), (1, .int v1), (3, .long v3)]) hx hb d_Mo_has_84 hl (by decide) rfl (fun ls hl => ?_)
      refine lv_iinc (v := v6 + (-1)) (lv' := [(6, .int (v6 + (-1))), (5, .int u8), (0, .ref h), (1, .int v1), (3, .long v3)]) hx hb d_Mo_has_86 hl (k := 1) rfl (by first | rfl | (congr 1)) (by decide) rfl (fun ls hl => ?_)
      refine lv_goto (tgt := 63) hx hb d_Mo_has_89 (by decide) ?_
      exact ih _ _ hf _ _ _ hP hD hS (show lv_has ls 7 [(6, .int (v6 + (-1))), (5, .int u8), (0, .ref h), (1, .int v1), (3, .long v3)] from lv_sub hl [0, 1, 2, 3, 4] rfl)
def f_Mo_has (n : Nat) (p0 : Int32) (p1 : Int32) (p2 : Int64) (mLanguages : Int32) (mGoes : Nat → Int32) (mLast : Nat → Bool) : Option (Bool × Int32) :=
  (f_Mo_isLanguage n p0 mLanguages).bind fun u1 =>
  if u1 = true then
    (f_Mo_in n p1.toInt64 0 31).bind fun u11 =>
    if u11 = true then
      (f_Mo_in n p2 0 ((lshl 1 (2 * p1)) - 1)).bind fun u17 =>
      if u17 = true then
        (f_Mo_fails n false 1 0).bind fun u19 =>
        if u19.1 = true then
          some (false, u19.2)
        else
          (f_Mo_has_63 n p0 p2 mGoes n (p1 - 1) 0).bind fun u21 =>
          (f_Mo_isLast n p0 u21.2 mLast).bind fun u22 =>
          some (u22, u19.2)
      else
        (f_Mo_fails n true 1 0).bind fun u23 =>
        if u23.1 = true then
          some (false, u23.2)
        else
          (f_Mo_has_63 n p0 p2 mGoes n (p1 - 1) 0).bind fun u25 =>
          (f_Mo_isLast n p0 u25.2 mLast).bind fun u26 =>
          some (u26, u23.2)
    else
      (f_Mo_fails n true 1 0).bind fun u13 =>
      if u13.1 = true then
        some (false, u13.2)
      else
        (f_Mo_has_63 n p0 p2 mGoes n (p1 - 1) 0).bind fun u15 =>
        (f_Mo_isLast n p0 u15.2 mLast).bind fun u16 =>
        some (u16, u13.2)
  else
    (f_Mo_fails n true 1 0).bind fun u3 =>
    if u3.1 = true then
      some (false, u3.2)
    else
      (f_Mo_has_63 n p0 p2 mGoes n (p1 - 1) 0).bind fun u9 =>
      (f_Mo_isLast n p0 u9.2 mLast).bind fun u10 =>
      some (u10, u3.2)
set_option maxHeartbeats 4000000 in
set_option maxRecDepth 100000 in
theorem w_Mo_has  {p0 : Int32} {p1 : Int32} {p2 : Int64}  (hx : p.tables.exec = Jvm.exec) (hb : c.code = b_Mo_has) (hml : c.maxLocals = 7) (hts : ∀ w ∈ gW, w.before args s = true) (hown : s.vm.findClass "RegularSolverModel" = some m.cls) (hK : va_K D vwCl (tG K) s) (hRf : 2 ≤ R.frames) (hRl : 46 ≤ R.locals) (hRc : cells ≤ R.cells) (hRs : slots ≤ R.slots) (hA : ∀ q, H0.size ≤ q → A q) {out : Bool × Int32} (Kr : ∀ (r : Bool × Int32), out = r → ∀ (pc : Nat) (ls : Array Slot) (H : Heap) (locs : List Loc), decode b_Mo_has pc = .ok (.ireturn, 1) → va_P D vwCl (moW K h a r.2 mLanguages mBounds mSize mGoes mLast mLeft mNext mGroup mFresh mLeader mNumber mRight mEnds mWay mVariable mFactor mLeast mMost mLength mWord mKept mMany mMore mLeads mMet mTodo mMay mTries) H → va_D A (moW K h a r.2 mLanguages mBounds mSize mGoes mLast mLeft mNext mGroup mFresh mLeader mNumber mRight mEnds mWay mVariable mFactor mLeast mMost mLength mWord mKept mMany mMore mLeads mMet mTodo mMay mTries) → va_S A H0 H locs → W p l e R s m args below meth c H locs cells slots Q (F0 m pc ls [.int (bI r.1)])) (hf : f_Mo_has n p0 p1 p2 mLanguages mGoes mLast = some out) (ls : Array Slot) (hP : va_P D vwCl (moW K h a mErr mLanguages mBounds mSize mGoes mLast mLeft mNext mGroup mFresh mLeader mNumber mRight mEnds mWay mVariable mFactor mLeast mMost mLength mWord mKept mMany mMore mLeads mMet mTodo mMay mTries) H) (hD : va_D A (moW K h a mErr mLanguages mBounds mSize mGoes mLast mLeft mNext mGroup mFresh mLeader mNumber mRight mEnds mWay mVariable mFactor mLeast mMost mLength mWord mKept mMany mMore mLeads mMet mTodo mMay mTries)) (hS : va_S A H0 H locs) (hl : lv_has ls 7 [(0, .ref h), (1, .int p0), (2, .int p1), (3, .long p2)]) : W p l e R s m args below meth c H locs cells slots Q (F0 m 0 ls []) := by
  unfold f_Mo_has at hf
  refine lv_aload_n hx hb d_Mo_has_0 rfl (lv_at hl 0 rfl) ?_
  refine lv_iconst (v := 0) hx hb d_Mo_has_1 (by decide) ?_
  refine va_put (D := D) (ci := 0) (v := .int 0) (ty := .int) (C := R_Mo) (T := T_Mo) (N := 29) hx hb hts in_Mo t_Mo t_Mo_ok n_Mo hown hK hP hD hS 0 rfl rfl 0 (by decide) (hts _ fl_Mo_84) (fun _ h9 => h9) rfl (by decide +kernel) rfl rfl (Nat.le_of_ble_eq_true rfl) d_Mo_has_2 (fun H locs hP hD hS => ?_)
  have hP : va_P D vwCl (moW K h a 0 mLanguages mBounds mSize mGoes mLast mLeft mNext mGroup mFresh mLeader mNumber mRight mEnds mWay mVariable mFactor mLeast mMost mLength mWord mKept mMany mMore mLeads mMet mTodo mMay mTries) H := hP
  have hD : va_D A (moW K h a 0 mLanguages mBounds mSize mGoes mLast mLeft mNext mGroup mFresh mLeader mNumber mRight mEnds mWay mVariable mFactor mLeast mMost mLength mWord mKept mMany mMore mLeads mMet mTodo mMay mTries) := hD
  refine lv_aload_n hx hb d_Mo_has_5 rfl (lv_at hl 0 rfl) ?_
  refine lv_aload_n hx hb d_Mo_has_6 rfl (lv_at hl 0 rfl) ?_
  refine lv_iload_n hx hb d_Mo_has_7 rfl (lv_at hl 1 rfl) ?_
  obtain ⟨u1, eu1, hf⟩ := obd hf
  refine p_call (W.runV (As := [.int p0]) (rest := [.ref h]) ⟨hx, hb, hml, hown, hts⟩ (c_Mo_isLanguage l eu1) (gV 1 hts cd_Mo_isLanguage ml_Mo_138 im_Mo_isLanguage se_Mo_isLanguage ini_Mo rfl rfl pd_Mo_isLanguage ⟨Nat.le_trans (Nat.le_of_ble_eq_true rfl) hRf, Nat.le_trans (Nat.le_of_ble_eq_true rfl) hRl⟩) ⟨pPre_blind, va_recv hK hP (ci := 0) (q0 := 0) rfl rfl, pPre_of hP hK⟩ rfl rfl hl.1 rfl (lv_room (Nat.le_of_ble_eq_true rfl)) d_Mo_has_8 ⟨hRc, hRs⟩) ?_
  refine bz_eq (tgt := 41) hx hb d_Mo_has_11 (by decide) (fun c2 => ?_) (fun c2 => ?_)
  · rw [if_neg c2] at hf
    refine lv_iconst (v := 1) hx hb d_Mo_has_41 (by decide) ?_
    refine lv_goto (tgt := 46) hx hb d_Mo_has_42 (by decide) ?_
    refine lv_iconst (v := 1) hx hb d_Mo_has_46 (by decide) ?_
    obtain ⟨u3, eu3, hf⟩ := obd hf
    refine w_call (va_runV (As := [.int (bI true), .int 1]) (rest := []) ⟨hx, hb, hml, hown, hts⟩ (c_Mo_fails l H.size eu3) (gV 2 hts cd_Mo_fails ml_Mo_124 im_Mo_fails se_Mo_fails ini_Mo rfl rfl pd_Mo_fails ⟨Nat.le_trans (Nat.le_of_ble_eq_true rfl) hRf, Nat.le_trans (Nat.le_of_ble_eq_true rfl) hRl⟩) ⟨wPre_blind, va_recv hK hP (ci := 0) (q0 := 0) rfl rfl, wPre_of hP hK hD⟩ rfl rfl hl.1 rfl (lv_room (Nat.le_of_ble_eq_true rfl)) d_Mo_has_47 ⟨hRc, hRs⟩) hD hS hA (fun H locs hP hD hS => ?_)
    have hP : va_P D vwCl (moW K h a u3.2 mLanguages mBounds mSize mGoes mLast mLeft mNext mGroup mFresh mLeader mNumber mRight mEnds mWay mVariable mFactor mLeast mMost mLength mWord mKept mMany mMore mLeads mMet mTodo mMay mTries) H := hP
    have hD : va_D A (moW K h a u3.2 mLanguages mBounds mSize mGoes mLast mLeft mNext mGroup mFresh mLeader mNumber mRight mEnds mWay mVariable mFactor mLeast mMost mLength mWord mKept mMany mMore mLeads mMet mTodo mMay mTries) := hD
    refine bz_eq (tgt := 55) hx hb d_Mo_has_50 (by decide) (fun c4 => ?_) (fun c4 => ?_)
    · rw [if_neg c4] at hf
      refine lv_iconst (v := 0) hx hb d_Mo_has_55 (by decide) ?_
      refine lv_istore (lv' := [(5, .int 0), (0, .ref h), (1, .int p0), (2, .int p1), (3, .long p2)]) hx hb d_Mo_has_56 hl (by decide) rfl (fun ls hl => ?_)
      refine lv_iload_n hx hb d_Mo_has_58 rfl (lv_at hl 3 rfl) ?_
      refine lv_iconst (v := 1) hx hb d_Mo_has_59 (by decide) ?_
      refine lv_isub hx hb d_Mo_has_60 ?_
      refine lv_istore (lv' := [(6, .int (p1 - 1)), (5, .int 0), (0, .ref h), (1, .int p0), (2, .int p1), (3, .long p2)]) hx hb d_Mo_has_61 hl (by decide) rfl (fun ls hl => ?_)
      obtain ⟨u9, eu9, hf⟩ := obd hf
      refine w_Mo_has_63 hx hb hml hts hown hK hRf hRl hRc hRs hA  (fun u9q eu ls H locs hP hD hS hl => ?_) _ _ _ eu9 _ _ _ hP hD hS (show lv_has ls 7 [(6, .int (p1 - 1)), (5, .int 0), (0, .ref h), (1, .int p0), (3, .long p2)] from lv_sub hl [0, 1, 2, 3, 5] rfl)
      subst eu
      refine lv_aload_n hx hb d_Mo_has_92 rfl (lv_at hl 1 rfl) ?_
      refine lv_iload_n hx hb d_Mo_has_93 rfl (lv_at hl 2 rfl) ?_
      refine lv_iload hx hb d_Mo_has_94 (lv_at hl 0 rfl) ?_
      obtain ⟨u10, eu10, hf⟩ := obd hf
      refine p_call (W.runV (As := [.int p0, .int u9.2]) (rest := []) ⟨hx, hb, hml, hown, hts⟩ (c_Mo_isLast l eu10) (gV 2 hts cd_Mo_isLast ml_Mo_102 im_Mo_isLast se_Mo_isLast ini_Mo rfl rfl pd_Mo_isLast ⟨Nat.le_trans (Nat.le_of_ble_eq_true rfl) hRf, Nat.le_trans (Nat.le_of_ble_eq_true rfl) hRl⟩) ⟨pPre_blind, va_recv hK hP (ci := 0) (q0 := 0) rfl rfl, pPre_of hP hK⟩ rfl rfl hl.1 rfl (lv_room (Nat.le_of_ble_eq_true rfl)) d_Mo_has_96 ⟨hRc, hRs⟩) ?_
      exact Kr _ (Option.some.inj hf).symm _ _ _ _ d_Mo_has_99 hP hD hS
    · rw [if_pos c4] at hf
      refine lv_iconst (v := 0) hx hb d_Mo_has_53 (by decide) ?_
      exact Kr _ (Option.some.inj hf).symm _ _ _ _ d_Mo_has_54 hP hD hS
  · rw [if_pos c2] at hf
    refine lv_iload_n hx hb d_Mo_has_14 rfl (lv_at hl 2 rfl) ?_
    refine lv_i2l (v := p1.toInt64) hx hb d_Mo_has_15 rfl ?_
    refine lv_lconst (v := 0) hx hb d_Mo_has_16 (by decide) ?_
    refine lv_ldc2 (v := 31) hx hb hown (hts (.constantLong "RegularSolverModel" 150 31) (by decide +kernel)) d_Mo_has_17 ?_
    obtain ⟨u11, eu11, hf⟩ := obd hf
    refine p_call (W.runS (As := [.long p1.toInt64, .long 0, .long 31]) (rest := [.ref h]) ⟨hx, hb, hml, hown, hts⟩ (c_Mo_in l eu11) (gS 3 hts cd_Mo_in ml_Mo_91 st_Mo_in ini_Mo rfl rfl pd_Mo_in ⟨Nat.le_trans (Nat.le_of_ble_eq_true rfl) hRf, Nat.le_trans (Nat.le_of_ble_eq_true rfl) hRl⟩) ⟨pPre_blind, pPre_of hP hK⟩ rfl rfl hl.1 rfl (lv_room (Nat.le_of_ble_eq_true rfl)) d_Mo_has_20 ⟨hRc, hRs⟩) ?_
    refine bz_eq (tgt := 41) hx hb d_Mo_has_23 (by decide) (fun c12 => ?_) (fun c12 => ?_)
    · rw [if_neg c12] at hf
      refine lv_iconst (v := 1) hx hb d_Mo_has_41 (by decide) ?_
      refine lv_goto (tgt := 46) hx hb d_Mo_has_42 (by decide) ?_
      refine lv_iconst (v := 1) hx hb d_Mo_has_46 (by decide) ?_
      obtain ⟨u13, eu13, hf⟩ := obd hf
      refine w_call (va_runV (As := [.int (bI true), .int 1]) (rest := []) ⟨hx, hb, hml, hown, hts⟩ (c_Mo_fails l H.size eu13) (gV 2 hts cd_Mo_fails ml_Mo_124 im_Mo_fails se_Mo_fails ini_Mo rfl rfl pd_Mo_fails ⟨Nat.le_trans (Nat.le_of_ble_eq_true rfl) hRf, Nat.le_trans (Nat.le_of_ble_eq_true rfl) hRl⟩) ⟨wPre_blind, va_recv hK hP (ci := 0) (q0 := 0) rfl rfl, wPre_of hP hK hD⟩ rfl rfl hl.1 rfl (lv_room (Nat.le_of_ble_eq_true rfl)) d_Mo_has_47 ⟨hRc, hRs⟩) hD hS hA (fun H locs hP hD hS => ?_)
      have hP : va_P D vwCl (moW K h a u13.2 mLanguages mBounds mSize mGoes mLast mLeft mNext mGroup mFresh mLeader mNumber mRight mEnds mWay mVariable mFactor mLeast mMost mLength mWord mKept mMany mMore mLeads mMet mTodo mMay mTries) H := hP
      have hD : va_D A (moW K h a u13.2 mLanguages mBounds mSize mGoes mLast mLeft mNext mGroup mFresh mLeader mNumber mRight mEnds mWay mVariable mFactor mLeast mMost mLength mWord mKept mMany mMore mLeads mMet mTodo mMay mTries) := hD
      refine bz_eq (tgt := 55) hx hb d_Mo_has_50 (by decide) (fun c14 => ?_) (fun c14 => ?_)
      · rw [if_neg c14] at hf
        refine lv_iconst (v := 0) hx hb d_Mo_has_55 (by decide) ?_
        refine lv_istore (lv' := [(5, .int 0), (0, .ref h), (1, .int p0), (2, .int p1), (3, .long p2)]) hx hb d_Mo_has_56 hl (by decide) rfl (fun ls hl => ?_)
        refine lv_iload_n hx hb d_Mo_has_58 rfl (lv_at hl 3 rfl) ?_
        refine lv_iconst (v := 1) hx hb d_Mo_has_59 (by decide) ?_
        refine lv_isub hx hb d_Mo_has_60 ?_
        refine lv_istore (lv' := [(6, .int (p1 - 1)), (5, .int 0), (0, .ref h), (1, .int p0), (2, .int p1), (3, .long p2)]) hx hb d_Mo_has_61 hl (by decide) rfl (fun ls hl => ?_)
        obtain ⟨u15, eu15, hf⟩ := obd hf
        refine w_Mo_has_63 hx hb hml hts hown hK hRf hRl hRc hRs hA  (fun u15q eu ls H locs hP hD hS hl => ?_) _ _ _ eu15 _ _ _ hP hD hS (show lv_has ls 7 [(6, .int (p1 - 1)), (5, .int 0), (0, .ref h), (1, .int p0), (3, .long p2)] from lv_sub hl [0, 1, 2, 3, 5] rfl)
        subst eu
        refine lv_aload_n hx hb d_Mo_has_92 rfl (lv_at hl 1 rfl) ?_
        refine lv_iload_n hx hb d_Mo_has_93 rfl (lv_at hl 2 rfl) ?_
        refine lv_iload hx hb d_Mo_has_94 (lv_at hl 0 rfl) ?_
        obtain ⟨u16, eu16, hf⟩ := obd hf
        refine p_call (W.runV (As := [.int p0, .int u15.2]) (rest := []) ⟨hx, hb, hml, hown, hts⟩ (c_Mo_isLast l eu16) (gV 2 hts cd_Mo_isLast ml_Mo_102 im_Mo_isLast se_Mo_isLast ini_Mo rfl rfl pd_Mo_isLast ⟨Nat.le_trans (Nat.le_of_ble_eq_true rfl) hRf, Nat.le_trans (Nat.le_of_ble_eq_true rfl) hRl⟩) ⟨pPre_blind, va_recv hK hP (ci := 0) (q0 := 0) rfl rfl, pPre_of hP hK⟩ rfl rfl hl.1 rfl (lv_room (Nat.le_of_ble_eq_true rfl)) d_Mo_has_96 ⟨hRc, hRs⟩) ?_
        exact Kr _ (Option.some.inj hf).symm _ _ _ _ d_Mo_has_99 hP hD hS
      · rw [if_pos c14] at hf
        refine lv_iconst (v := 0) hx hb d_Mo_has_53 (by decide) ?_
        exact Kr _ (Option.some.inj hf).symm _ _ _ _ d_Mo_has_54 hP hD hS
    · rw [if_pos c12] at hf
      refine lv_lload_n hx hb d_Mo_has_26 rfl (lv_at hl 3 rfl) ?_
      refine lv_lconst (v := 0) hx hb d_Mo_has_27 (by decide) ?_
      refine lv_lconst (v := 1) hx hb d_Mo_has_28 (by decide) ?_
      refine lv_iconst (v := 2) hx hb d_Mo_has_29 (by decide) ?_
      refine lv_iload_n hx hb d_Mo_has_30 rfl (lv_at hl 2 rfl) ?_
      refine lv_imul hx hb d_Mo_has_31 ?_
      refine lv_lshl (v := lshl 1 (2 * p1)) hx hb d_Mo_has_32 rfl ?_
      refine lv_lconst (v := 1) hx hb d_Mo_has_33 (by decide) ?_
      refine lv_lsub hx hb d_Mo_has_34 ?_
      obtain ⟨u17, eu17, hf⟩ := obd hf
      refine p_call (W.runS (As := [.long p2, .long 0, .long ((lshl 1 (2 * p1)) - 1)]) (rest := [.ref h]) ⟨hx, hb, hml, hown, hts⟩ (c_Mo_in l eu17) (gS 3 hts cd_Mo_in ml_Mo_91 st_Mo_in ini_Mo rfl rfl pd_Mo_in ⟨Nat.le_trans (Nat.le_of_ble_eq_true rfl) hRf, Nat.le_trans (Nat.le_of_ble_eq_true rfl) hRl⟩) ⟨pPre_blind, pPre_of hP hK⟩ rfl rfl hl.1 rfl (lv_room (Nat.le_of_ble_eq_true rfl)) d_Mo_has_35 ⟨hRc, hRs⟩) ?_
      refine bz_ne (tgt := 45) hx hb d_Mo_has_38 (by decide) (fun c18 => ?_) (fun c18 => ?_)
      · rw [if_pos c18] at hf
        refine lv_iconst (v := 0) hx hb d_Mo_has_45 (by decide) ?_
        refine lv_iconst (v := 1) hx hb d_Mo_has_46 (by decide) ?_
        obtain ⟨u19, eu19, hf⟩ := obd hf
        refine w_call (va_runV (As := [.int (bI false), .int 1]) (rest := []) ⟨hx, hb, hml, hown, hts⟩ (c_Mo_fails l H.size eu19) (gV 2 hts cd_Mo_fails ml_Mo_124 im_Mo_fails se_Mo_fails ini_Mo rfl rfl pd_Mo_fails ⟨Nat.le_trans (Nat.le_of_ble_eq_true rfl) hRf, Nat.le_trans (Nat.le_of_ble_eq_true rfl) hRl⟩) ⟨wPre_blind, va_recv hK hP (ci := 0) (q0 := 0) rfl rfl, wPre_of hP hK hD⟩ rfl rfl hl.1 rfl (lv_room (Nat.le_of_ble_eq_true rfl)) d_Mo_has_47 ⟨hRc, hRs⟩) hD hS hA (fun H locs hP hD hS => ?_)
        have hP : va_P D vwCl (moW K h a u19.2 mLanguages mBounds mSize mGoes mLast mLeft mNext mGroup mFresh mLeader mNumber mRight mEnds mWay mVariable mFactor mLeast mMost mLength mWord mKept mMany mMore mLeads mMet mTodo mMay mTries) H := hP
        have hD : va_D A (moW K h a u19.2 mLanguages mBounds mSize mGoes mLast mLeft mNext mGroup mFresh mLeader mNumber mRight mEnds mWay mVariable mFactor mLeast mMost mLength mWord mKept mMany mMore mLeads mMet mTodo mMay mTries) := hD
        refine bz_eq (tgt := 55) hx hb d_Mo_has_50 (by decide) (fun c20 => ?_) (fun c20 => ?_)
        · rw [if_neg c20] at hf
          refine lv_iconst (v := 0) hx hb d_Mo_has_55 (by decide) ?_
          refine lv_istore (lv' := [(5, .int 0), (0, .ref h), (1, .int p0), (2, .int p1), (3, .long p2)]) hx hb d_Mo_has_56 hl (by decide) rfl (fun ls hl => ?_)
          refine lv_iload_n hx hb d_Mo_has_58 rfl (lv_at hl 3 rfl) ?_
          refine lv_iconst (v := 1) hx hb d_Mo_has_59 (by decide) ?_
          refine lv_isub hx hb d_Mo_has_60 ?_
          refine lv_istore (lv' := [(6, .int (p1 - 1)), (5, .int 0), (0, .ref h), (1, .int p0), (2, .int p1), (3, .long p2)]) hx hb d_Mo_has_61 hl (by decide) rfl (fun ls hl => ?_)
          obtain ⟨u21, eu21, hf⟩ := obd hf
          refine w_Mo_has_63 hx hb hml hts hown hK hRf hRl hRc hRs hA  (fun u21q eu ls H locs hP hD hS hl => ?_) _ _ _ eu21 _ _ _ hP hD hS (show lv_has ls 7 [(6, .int (p1 - 1)), (5, .int 0), (0, .ref h), (1, .int p0), (3, .long p2)] from lv_sub hl [0, 1, 2, 3, 5] rfl)
          subst eu
          refine lv_aload_n hx hb d_Mo_has_92 rfl (lv_at hl 1 rfl) ?_
          refine lv_iload_n hx hb d_Mo_has_93 rfl (lv_at hl 2 rfl) ?_
          refine lv_iload hx hb d_Mo_has_94 (lv_at hl 0 rfl) ?_
          obtain ⟨u22, eu22, hf⟩ := obd hf
          refine p_call (W.runV (As := [.int p0, .int u21.2]) (rest := []) ⟨hx, hb, hml, hown, hts⟩ (c_Mo_isLast l eu22) (gV 2 hts cd_Mo_isLast ml_Mo_102 im_Mo_isLast se_Mo_isLast ini_Mo rfl rfl pd_Mo_isLast ⟨Nat.le_trans (Nat.le_of_ble_eq_true rfl) hRf, Nat.le_trans (Nat.le_of_ble_eq_true rfl) hRl⟩) ⟨pPre_blind, va_recv hK hP (ci := 0) (q0 := 0) rfl rfl, pPre_of hP hK⟩ rfl rfl hl.1 rfl (lv_room (Nat.le_of_ble_eq_true rfl)) d_Mo_has_96 ⟨hRc, hRs⟩) ?_
          exact Kr _ (Option.some.inj hf).symm _ _ _ _ d_Mo_has_99 hP hD hS
        · rw [if_pos c20] at hf
          refine lv_iconst (v := 0) hx hb d_Mo_has_53 (by decide) ?_
          exact Kr _ (Option.some.inj hf).symm _ _ _ _ d_Mo_has_54 hP hD hS
      · rw [if_neg c18] at hf
        refine lv_iconst (v := 1) hx hb d_Mo_has_41 (by decide) ?_
        refine lv_goto (tgt := 46) hx hb d_Mo_has_42 (by decide) ?_
        refine lv_iconst (v := 1) hx hb d_Mo_has_46 (by decide) ?_
        obtain ⟨u23, eu23, hf⟩ := obd hf
        refine w_call (va_runV (As := [.int (bI true), .int 1]) (rest := []) ⟨hx, hb, hml, hown, hts⟩ (c_Mo_fails l H.size eu23) (gV 2 hts cd_Mo_fails ml_Mo_124 im_Mo_fails se_Mo_fails ini_Mo rfl rfl pd_Mo_fails ⟨Nat.le_trans (Nat.le_of_ble_eq_true rfl) hRf, Nat.le_trans (Nat.le_of_ble_eq_true rfl) hRl⟩) ⟨wPre_blind, va_recv hK hP (ci := 0) (q0 := 0) rfl rfl, wPre_of hP hK hD⟩ rfl rfl hl.1 rfl (lv_room (Nat.le_of_ble_eq_true rfl)) d_Mo_has_47 ⟨hRc, hRs⟩) hD hS hA (fun H locs hP hD hS => ?_)
        have hP : va_P D vwCl (moW K h a u23.2 mLanguages mBounds mSize mGoes mLast mLeft mNext mGroup mFresh mLeader mNumber mRight mEnds mWay mVariable mFactor mLeast mMost mLength mWord mKept mMany mMore mLeads mMet mTodo mMay mTries) H := hP
        have hD : va_D A (moW K h a u23.2 mLanguages mBounds mSize mGoes mLast mLeft mNext mGroup mFresh mLeader mNumber mRight mEnds mWay mVariable mFactor mLeast mMost mLength mWord mKept mMany mMore mLeads mMet mTodo mMay mTries) := hD
        refine bz_eq (tgt := 55) hx hb d_Mo_has_50 (by decide) (fun c24 => ?_) (fun c24 => ?_)
        · rw [if_neg c24] at hf
          refine lv_iconst (v := 0) hx hb d_Mo_has_55 (by decide) ?_
          refine lv_istore (lv' := [(5, .int 0), (0, .ref h), (1, .int p0), (2, .int p1), (3, .long p2)]) hx hb d_Mo_has_56 hl (by decide) rfl (fun ls hl => ?_)
          refine lv_iload_n hx hb d_Mo_has_58 rfl (lv_at hl 3 rfl) ?_
          refine lv_iconst (v := 1) hx hb d_Mo_has_59 (by decide) ?_
          refine lv_isub hx hb d_Mo_has_60 ?_
          refine lv_istore (lv' := [(6, .int (p1 - 1)), (5, .int 0), (0, .ref h), (1, .int p0), (2, .int p1), (3, .long p2)]) hx hb d_Mo_has_61 hl (by decide) rfl (fun ls hl => ?_)
          obtain ⟨u25, eu25, hf⟩ := obd hf
          refine w_Mo_has_63 hx hb hml hts hown hK hRf hRl hRc hRs hA  (fun u25q eu ls H locs hP hD hS hl => ?_) _ _ _ eu25 _ _ _ hP hD hS (show lv_has ls 7 [(6, .int (p1 - 1)), (5, .int 0), (0, .ref h), (1, .int p0), (3, .long p2)] from lv_sub hl [0, 1, 2, 3, 5] rfl)
          subst eu
          refine lv_aload_n hx hb d_Mo_has_92 rfl (lv_at hl 1 rfl) ?_
          refine lv_iload_n hx hb d_Mo_has_93 rfl (lv_at hl 2 rfl) ?_
          refine lv_iload hx hb d_Mo_has_94 (lv_at hl 0 rfl) ?_
          obtain ⟨u26, eu26, hf⟩ := obd hf
          refine p_call (W.runV (As := [.int p0, .int u25.2]) (rest := []) ⟨hx, hb, hml, hown, hts⟩ (c_Mo_isLast l eu26) (gV 2 hts cd_Mo_isLast ml_Mo_102 im_Mo_isLast se_Mo_isLast ini_Mo rfl rfl pd_Mo_isLast ⟨Nat.le_trans (Nat.le_of_ble_eq_true rfl) hRf, Nat.le_trans (Nat.le_of_ble_eq_true rfl) hRl⟩) ⟨pPre_blind, va_recv hK hP (ci := 0) (q0 := 0) rfl rfl, pPre_of hP hK⟩ rfl rfl hl.1 rfl (lv_room (Nat.le_of_ble_eq_true rfl)) d_Mo_has_96 ⟨hRc, hRs⟩) ?_
          exact Kr _ (Option.some.inj hf).symm _ _ _ _ d_Mo_has_99 hP hD hS
        · rw [if_pos c24] at hf
          refine lv_iconst (v := 0) hx hb d_Mo_has_53 (by decide) ?_
          exact Kr _ (Option.some.inj hf).symm _ _ _ _ d_Mo_has_54 hP hD hS
set_option maxHeartbeats 4000000 in
set_option maxRecDepth 100000 in
theorem c_Mo_has (l : Launch)  {p0 : Int32} {p1 : Int32} {p2 : Int64}  {r : Bool × Int32} (sz : Nat) (hf : f_Mo_has n p0 p1 p2 mLanguages mGoes mLast = some r) : Met l y_Mo_has w0_Mo_has ({ frames := 2, cells := 0, slots := 0, locals := 46 }) (wPre D K [.ref h, .int p0, .int p1, .long p2] (moW K h a mErr mLanguages mBounds mSize mGoes mLast mLeft mNext mGroup mFresh mLeader mNumber mRight mEnds mWay mVariable mFactor mLeast mMost mLength mWord mKept mMany mMore mLeads mMet mTodo mMay mTries) sz) (wPost D K (some (.int (bI r.1))) (moW K h a r.2 mLanguages mBounds mSize mGoes mLast mLeft mNext mGroup mFresh mLeader mNumber mRight mEnds mWay mVariable mFactor mLeast mMost mLength mWord mKept mMany mMore mLeads mMet mTodo mMay mTries) (va_A (moW K h a mErr mLanguages mBounds mSize mGoes mLast mLeft mNext mGroup mFresh mLeader mNumber mRight mEnds mWay mVariable mFactor mLeast mMost mLength mWord mKept mMany mMore mLeads mMet mTodo mMay mTries) sz)) 0 0 (va_A (moW K h a mErr mLanguages mBounds mSize mGoes mLast mLeft mNext mGroup mFresh mLeader mNumber mRight mEnds mWay mVariable mFactor mLeast mMost mLength mWord mKept mMany mMore mLeads mMet mTodo mMay mTries) sz) := by
  refine Met.ofW (cc := b_Mo_has) (maxL := 7) (ret := (some .boolean)) (by decide) rfl ?_
  intro p e s m args below meth c s₁ B hml hv
  obtain ⟨rfl, hsz, hP, hK, hD0⟩ := hv
  subst hsz
  have hl := lv_entry [.ref h, .int p0, .int p1, .long p2] (n := 7) (Nat.le_of_ble_eq_true rfl)
  rw [lg_entry_eq]
  generalize (lg_sl [.ref h, .int p0, .int p1, .long p2] ++ List.replicate (7 - (lg_sl [.ref h, .int p0, .int p1, .long p2]).length) Slot.unset).toArray = ls at hl ⊢
  refine w_Mo_has (A := va_A (moW K h a mErr mLanguages mBounds mSize mGoes mLast mLeft mNext mGroup mFresh mLeader mNumber mRight mEnds mWay mVariable mFactor mLeast mMost mLength mWord mKept mMany mMore mLeads mMet mTodo mMay mTries) s.heap.size) (H0 := s.heap) B.exec B.bytes hml (fun w hw => atoms_spec (ws := w0_Mo_has) B.pre w (List.mem_cons_of_mem _ hw)) (findClass_of_methodNamed B.named) hK (Nat.le_refl _) (Nat.le_refl _) (Nat.zero_le _) (Nat.zero_le _) (fun q h => Or.inr h) (fun r er pc ls H locs hd hP hD hS => ?_) hf ls hP (hD0.self (sz := s.heap.size)) va_S.rf hl
  subst er
  exact W.zret B.exec B.bytes B.returns (bI_nar _) (fun t ht hW => ⟨⟨rfl, by rw [ht]; exact hP, va_K.moved hW.alike hK, hD⟩, hS.F ht⟩) hS.2.2 hd (hlocks := B.notSynchronized)
theorem pd_Mo_words : y_Mo_words.cls ≠ "java/lang/invoke/MethodHandle" ∧ y_Mo_words.cls ≠ "java/lang/invoke/VarHandle" ∧ (parseMethodDescriptor y_Mo_words.desc).map (fun d => d.parameters.length) = some 2 := by decide +kernel
def f_Mo_words_42 (n : Nat) (v1 : Int32) (mSize : Nat → Int32) (mLast : Nat → Bool) : Nat → Int32 → (Nat → Int64) → Option (Int32 × (Nat → Int64))
  | 0, _, _ => none
  | k + 1, v3, mMany =>
    ogd (gin v1 60) <|
    if (mSize v1.toNatClampNeg) ≤ v3 then
      some (v3, mMany)
    else
      (f_Mo_isLast n v1 v3 mLast).bind fun u13 =>
      if u13 = true then
        ogd (gin v3 64) <|
        f_Mo_words_42 n v1 mSize mLast k (v3 + 1) (vp_updL mMany v3.toNatClampNeg 1)
      else
        ogd (gin v3 64) <|
        f_Mo_words_42 n v1 mSize mLast k (v3 + 1) (vp_updL mMany v3.toNatClampNeg 0)
set_option maxHeartbeats 4000000 in
set_option maxRecDepth 100000 in
theorem w_Mo_words_42  {v1 : Int32} {v2 : Int32} (hx : p.tables.exec = Jvm.exec) (hb : c.code = b_Mo_words) (hml : c.maxLocals = 6) (hts : ∀ w ∈ gW, w.before args s = true) (hown : s.vm.findClass "RegularSolverModel" = some m.cls) (hK : va_K D vwCl (tG K) s) (hRf : 2 ≤ R.frames) (hRl : 46 ≤ R.locals) (hRc : cells ≤ R.cells) (hRs : slots ≤ R.slots) (hA : ∀ q, H0.size ≤ q → A q)  {out : Int32 × (Nat → Int64)} (Kx : ∀ (u : Int32 × (Nat → Int64)), out = u → ∀ (ls : Array Slot) (H : Heap) (locs : List Loc), va_P D vwCl (moW K h a mErr mLanguages mBounds mSize mGoes mLast mLeft mNext mGroup mFresh mLeader mNumber mRight mEnds mWay mVariable mFactor mLeast mMost mLength mWord mKept u.2 mMore mLeads mMet mTodo mMay mTries) H → va_D A (moW K h a mErr mLanguages mBounds mSize mGoes mLast mLeft mNext mGroup mFresh mLeader mNumber mRight mEnds mWay mVariable mFactor mLeast mMost mLength mWord mKept u.2 mMore mLeads mMet mTodo mMay mTries) → va_S A H0 H locs → lv_has ls 6 [(0, .ref h), (1, .int v1), (2, .int v2)] → W p l e R s m args below meth c H locs cells slots Q (F0 m 78 ls [])) :
    ∀ (k : Nat) (v3 : Int32) (mMany : Nat → Int64), f_Mo_words_42 n v1 mSize mLast k v3 mMany = some out → ∀ (ls : Array Slot) (H : Heap) (locs : List Loc), va_P D vwCl (moW K h a mErr mLanguages mBounds mSize mGoes mLast mLeft mNext mGroup mFresh mLeader mNumber mRight mEnds mWay mVariable mFactor mLeast mMost mLength mWord mKept mMany mMore mLeads mMet mTodo mMay mTries) H → va_D A (moW K h a mErr mLanguages mBounds mSize mGoes mLast mLeft mNext mGroup mFresh mLeader mNumber mRight mEnds mWay mVariable mFactor mLeast mMost mLength mWord mKept mMany mMore mLeads mMet mTodo mMay mTries) → va_S A H0 H locs → lv_has ls 6 [(3, .int v3), (0, .ref h), (1, .int v1), (2, .int v2)] → W p l e R s m args below meth c H locs cells slots Q (F0 m 42 ls []) := by
  intro k
  induction k with
  | zero => intro _ _ hf; exact nomatch (show none = some out from hf)
  | succ k ih =>
    intro v3 mMany hf ls H locs hP hD hS hl
    rw [f_Mo_words_42] at hf
    refine lv_iload_n hx hb d_Mo_words_42 rfl (lv_at hl 0 rfl) ?_
    refine lv_aload_n hx hb d_Mo_words_43 rfl (lv_at hl 1 rfl) ?_
    refine va_get (D := D) (ci := 0) (v := .ref (a 0)) (C := R_Mo) (T := T_Mo) (N := 29) hx hb hts in_Mo hown hK hP 0 rfl rfl 3 (by decide) (hts _ fl_Mo_9) (fun _ h9 => h9) rfl d_Mo_words_44 ?_
    refine lv_iload_n hx hb d_Mo_words_47 rfl (lv_at hl 2 rfl) ?_
    obtain ⟨g11, hf⟩ := ogi hf
    refine va_iald hx hb hK hP 1 0 rfl rfl (gin_in g11) d_Mo_words_48 ?_
    refine lv_icmp_ge (tgt := 78) hx hb d_Mo_words_49 (by decide) (fun c12 => ?_) (fun c12 => ?_)
    · rw [if_pos c12] at hf
      exact Kx _ (Option.some.inj hf).symm _ _ _ hP hD hS (show lv_has ls 6 [(0, .ref h), (1, .int v1), (2, .int v2)] from lv_sub hl [1, 2, 3] rfl)
    · rw [if_neg c12] at hf
      refine lv_aload_n hx hb d_Mo_words_52 rfl (lv_at hl 1 rfl) ?_
      refine va_get (D := D) (ci := 0) (v := .ref (a 17)) (C := R_Mo) (T := T_Mo) (N := 29) hx hb hts in_Mo hown hK hP 0 rfl rfl 22 (by decide) (hts _ fl_Mo_63) (fun _ h9 => h9) rfl d_Mo_words_53 ?_
      refine lv_iload_n hx hb d_Mo_words_56 rfl (lv_at hl 0 rfl) ?_
      refine lv_aload_n hx hb d_Mo_words_57 rfl (lv_at hl 1 rfl) ?_
      refine lv_iload_n hx hb d_Mo_words_58 rfl (lv_at hl 2 rfl) ?_
      refine lv_iload_n hx hb d_Mo_words_59 rfl (lv_at hl 0 rfl) ?_
      obtain ⟨u13, eu13, hf⟩ := obd hf
      refine p_call (W.runV (As := [.int v1, .int v3]) (rest := [.int v3, .ref (a 17)]) ⟨hx, hb, hml, hown, hts⟩ (c_Mo_isLast l eu13) (gV 2 hts cd_Mo_isLast ml_Mo_102 im_Mo_isLast se_Mo_isLast ini_Mo rfl rfl pd_Mo_isLast ⟨Nat.le_trans (Nat.le_of_ble_eq_true rfl) hRf, Nat.le_trans (Nat.le_of_ble_eq_true rfl) hRl⟩) ⟨pPre_blind, va_recv hK hP (ci := 0) (q0 := 0) rfl rfl, pPre_of hP hK⟩ rfl rfl hl.1 rfl (lv_room (Nat.le_of_ble_eq_true rfl)) d_Mo_words_60 ⟨hRc, hRs⟩) ?_
      refine bz_eq (tgt := 70) hx hb d_Mo_words_63 (by decide) (fun c14 => ?_) (fun c14 => ?_)
      · rw [if_neg c14] at hf
        refine lv_lconst (v := 0) hx hb d_Mo_words_70 (by decide) ?_
        obtain ⟨g15, hf⟩ := ogi hf
        refine va_last hx hb hK hP hD hS 18 1 rfl rfl (gin_in g15) d_Mo_words_71 (fun H locs hP hD hS => ?_)
        have hP : va_P D vwCl (moW K h a mErr mLanguages mBounds mSize mGoes mLast mLeft mNext mGroup mFresh mLeader mNumber mRight mEnds mWay mVariable mFactor mLeast mMost mLength mWord mKept (vp_updL mMany v3.toNatClampNeg 0) mMore mLeads mMet mTodo mMay mTries) H := hP
        have hD : va_D A (moW K h a mErr mLanguages mBounds mSize mGoes mLast mLeft mNext mGroup mFresh mLeader mNumber mRight mEnds mWay mVariable mFactor mLeast mMost mLength mWord mKept (vp_updL mMany v3.toNatClampNeg 0) mMore mLeads mMet mTodo mMay mTries) := hD
        refine lv_iinc (v := v3 + 1) (lv' := [(3, .int (v3 + 1)), (0, .ref h), (1, .int v1), (2, .int v2)]) hx hb d_Mo_words_72 hl (k := 0) rfl (by first | rfl | (congr 1)) (by decide) rfl (fun ls hl => ?_)
        refine lv_goto (tgt := 42) hx hb d_Mo_words_75 (by decide) ?_
        exact ih _ _ hf _ _ _ hP hD hS (show lv_has ls 6 [(3, .int (v3 + 1)), (0, .ref h), (1, .int v1), (2, .int v2)] from lv_sub hl [0, 1, 2, 3] rfl)
      · rw [if_pos c14] at hf
        refine lv_lconst (v := 1) hx hb d_Mo_words_66 (by decide) ?_
        refine lv_goto (tgt := 71) hx hb d_Mo_words_67 (by decide) ?_
        obtain ⟨g16, hf⟩ := ogi hf
        refine va_last hx hb hK hP hD hS 18 1 rfl rfl (gin_in g16) d_Mo_words_71 (fun H locs hP hD hS => ?_)
        have hP : va_P D vwCl (moW K h a mErr mLanguages mBounds mSize mGoes mLast mLeft mNext mGroup mFresh mLeader mNumber mRight mEnds mWay mVariable mFactor mLeast mMost mLength mWord mKept (vp_updL mMany v3.toNatClampNeg 1) mMore mLeads mMet mTodo mMay mTries) H := hP
        have hD : va_D A (moW K h a mErr mLanguages mBounds mSize mGoes mLast mLeft mNext mGroup mFresh mLeader mNumber mRight mEnds mWay mVariable mFactor mLeast mMost mLength mWord mKept (vp_updL mMany v3.toNatClampNeg 1) mMore mLeads mMet mTodo mMay mTries) := hD
        refine lv_iinc (v := v3 + 1) (lv' := [(3, .int (v3 + 1)), (0, .ref h), (1, .int v1), (2, .int v2)]) hx hb d_Mo_words_72 hl (k := 0) rfl (by first | rfl | (congr 1)) (by decide) rfl (fun ls hl => ?_)
        refine lv_goto (tgt := 42) hx hb d_Mo_words_75 (by decide) ?_
        exact ih _ _ hf _ _ _ hP hD hS (show lv_has ls 6 [(3, .int (v3 + 1)), (0, .ref h), (1, .int v1), (2, .int v2)] from lv_sub hl [0, 1, 2, 3] rfl)
def f_Mo_words_110 (n : Nat) (v4 : Int32) (v1 : Int32) (mGoes : Nat → Int32) (mMany : Nat → Int64) : Nat → Int32 → (Nat → Int64) → Option (Int32 × (Nat → Int64))
  | 0, _, _ => none
  | k + 1, v5, mMore =>
    if 4 ≤ v5 then
      some (v5, mMore)
    else
      ogd (gin v4 64) <|
      (f_Mo_go n v1 v4 v5 mGoes).bind fun u40 =>
      ogd (gin u40 64) <|
      ogd (gin v4 64) <|
      f_Mo_words_110 n v4 v1 mGoes mMany k (v5 + 1) (vp_updL mMore v4.toNatClampNeg ((mMore v4.toNatClampNeg) + (mMany u40.toNatClampNeg)))
set_option maxHeartbeats 4000000 in
set_option maxRecDepth 100000 in
theorem w_Mo_words_110  {v4 : Int32} {v3 : Int32} {v1 : Int32} {v2 : Int32} (hx : p.tables.exec = Jvm.exec) (hb : c.code = b_Mo_words) (hml : c.maxLocals = 6) (hts : ∀ w ∈ gW, w.before args s = true) (hown : s.vm.findClass "RegularSolverModel" = some m.cls) (hK : va_K D vwCl (tG K) s) (hRf : 2 ≤ R.frames) (hRl : 46 ≤ R.locals) (hRc : cells ≤ R.cells) (hRs : slots ≤ R.slots) (hA : ∀ q, H0.size ≤ q → A q)  {out : Int32 × (Nat → Int64)} (Kx : ∀ (u : Int32 × (Nat → Int64)), out = u → ∀ (ls : Array Slot) (H : Heap) (locs : List Loc), va_P D vwCl (moW K h a mErr mLanguages mBounds mSize mGoes mLast mLeft mNext mGroup mFresh mLeader mNumber mRight mEnds mWay mVariable mFactor mLeast mMost mLength mWord mKept mMany u.2 mLeads mMet mTodo mMay mTries) H → va_D A (moW K h a mErr mLanguages mBounds mSize mGoes mLast mLeft mNext mGroup mFresh mLeader mNumber mRight mEnds mWay mVariable mFactor mLeast mMost mLength mWord mKept mMany u.2 mLeads mMet mTodo mMay mTries) → va_S A H0 H locs → lv_has ls 6 [(4, .int v4), (3, .int v3), (0, .ref h), (1, .int v1), (2, .int v2)] → W p l e R s m args below meth c H locs cells slots Q (F0 m 146 ls [])) :
    ∀ (k : Nat) (v5 : Int32) (mMore : Nat → Int64), f_Mo_words_110 n v4 v1 mGoes mMany k v5 mMore = some out → ∀ (ls : Array Slot) (H : Heap) (locs : List Loc), va_P D vwCl (moW K h a mErr mLanguages mBounds mSize mGoes mLast mLeft mNext mGroup mFresh mLeader mNumber mRight mEnds mWay mVariable mFactor mLeast mMost mLength mWord mKept mMany mMore mLeads mMet mTodo mMay mTries) H → va_D A (moW K h a mErr mLanguages mBounds mSize mGoes mLast mLeft mNext mGroup mFresh mLeader mNumber mRight mEnds mWay mVariable mFactor mLeast mMost mLength mWord mKept mMany mMore mLeads mMet mTodo mMay mTries) → va_S A H0 H locs → lv_has ls 6 [(5, .int v5), (4, .int v4), (3, .int v3), (0, .ref h), (1, .int v1), (2, .int v2)] → W p l e R s m args below meth c H locs cells slots Q (F0 m 110 ls []) := by
  intro k
  induction k with
  | zero => intro _ _ hf; exact nomatch (show none = some out from hf)
  | succ k ih =>
    intro v5 mMore hf ls H locs hP hD hS hl
    rw [f_Mo_words_110] at hf
    refine lv_iload hx hb d_Mo_words_110 (lv_at hl 0 rfl) ?_
    refine lv_iconst (v := 4) hx hb d_Mo_words_112 (by decide) ?_
    refine lv_icmp_ge (tgt := 146) hx hb d_Mo_words_113 (by decide) (fun c38 => ?_) (fun c38 => ?_)
    · rw [if_pos c38] at hf
      exact Kx _ (Option.some.inj hf).symm _ _ _ hP hD hS (show lv_has ls 6 [(4, .int v4), (3, .int v3), (0, .ref h), (1, .int v1), (2, .int v2)] from lv_sub hl [1, 2, 3, 4, 5] rfl)
    · rw [if_neg c38] at hf
      refine lv_aload_n hx hb d_Mo_words_116 rfl (lv_at hl 3 rfl) ?_
      refine va_get (D := D) (ci := 0) (v := .ref (a 18)) (C := R_Mo) (T := T_Mo) (N := 29) hx hb hts in_Mo hown hK hP 0 rfl rfl 23 (by decide) (hts _ fl_Mo_66) (fun _ h9 => h9) rfl d_Mo_words_117 ?_
      refine lv_iload hx hb d_Mo_words_120 (lv_at hl 1 rfl) ?_
      refine lv_dup2_11 hx hb d_Mo_words_122 rfl rfl ?_
      obtain ⟨g39, hf⟩ := ogi hf
      refine va_lald hx hb hK hP 19 1 rfl rfl (gin_in g39) d_Mo_words_123 ?_
      refine lv_aload_n hx hb d_Mo_words_124 rfl (lv_at hl 3 rfl) ?_
      refine va_get (D := D) (ci := 0) (v := .ref (a 17)) (C := R_Mo) (T := T_Mo) (N := 29) hx hb hts in_Mo hown hK hP 0 rfl rfl 22 (by decide) (hts _ fl_Mo_63) (fun _ h9 => h9) rfl d_Mo_words_125 ?_
      refine lv_aload_n hx hb d_Mo_words_128 rfl (lv_at hl 3 rfl) ?_
      refine lv_iload_n hx hb d_Mo_words_129 rfl (lv_at hl 4 rfl) ?_
      refine lv_iload hx hb d_Mo_words_130 (lv_at hl 1 rfl) ?_
      refine lv_iload hx hb d_Mo_words_132 (lv_at hl 0 rfl) ?_
      obtain ⟨u40, eu40, hf⟩ := obd hf
      refine p_call (W.runV (As := [.int v1, .int v4, .int v5]) (rest := [.ref (a 17), .long (mMore v4.toNatClampNeg), .int v4, .ref (a 18)]) ⟨hx, hb, hml, hown, hts⟩ (c_Mo_go l eu40) (gV 3 hts cd_Mo_go ml_Mo_98 im_Mo_go se_Mo_go ini_Mo rfl rfl pd_Mo_go ⟨Nat.le_trans (Nat.le_of_ble_eq_true rfl) hRf, Nat.le_trans (Nat.le_of_ble_eq_true rfl) hRl⟩) ⟨pPre_blind, va_recv hK hP (ci := 0) (q0 := 0) rfl rfl, pPre_of hP hK⟩ rfl rfl hl.1 rfl (lv_room (Nat.le_of_ble_eq_true rfl)) d_Mo_words_134 ⟨hRc, hRs⟩) ?_
      obtain ⟨g41, hf⟩ := ogi hf
      refine va_lald hx hb hK hP 18 1 rfl rfl (gin_in g41) d_Mo_words_137 ?_
      refine lv_ladd hx hb d_Mo_words_138 ?_
      obtain ⟨g42, hf⟩ := ogi hf
      refine va_last hx hb hK hP hD hS 19 1 rfl rfl (gin_in g42) d_Mo_words_139 (fun H locs hP hD hS => ?_)
      have hP : va_P D vwCl (moW K h a mErr mLanguages mBounds mSize mGoes mLast mLeft mNext mGroup mFresh mLeader mNumber mRight mEnds mWay mVariable mFactor mLeast mMost mLength mWord mKept mMany (vp_updL mMore v4.toNatClampNeg ((mMore v4.toNatClampNeg) + (mMany u40.toNatClampNeg))) mLeads mMet mTodo mMay mTries) H := hP
      have hD : va_D A (moW K h a mErr mLanguages mBounds mSize mGoes mLast mLeft mNext mGroup mFresh mLeader mNumber mRight mEnds mWay mVariable mFactor mLeast mMost mLength mWord mKept mMany (vp_updL mMore v4.toNatClampNeg ((mMore v4.toNatClampNeg) + (mMany u40.toNatClampNeg))) mLeads mMet mTodo mMay mTries) := hD
      refine lv_iinc (v := v5 + 1) (lv' := [(5, .int (v5 + 1)), (4, .int v4), (3, .int v3), (0, .ref h), (1, .int v1), (2, .int v2)]) hx hb d_Mo_words_140 hl (k := 0) rfl (by first | rfl | (congr 1)) (by decide) rfl (fun ls hl => ?_)
      refine lv_goto (tgt := 110) hx hb d_Mo_words_143 (by decide) ?_
      exact ih _ _ hf _ _ _ hP hD hS (show lv_has ls 6 [(5, .int (v5 + 1)), (4, .int v4), (3, .int v3), (0, .ref h), (1, .int v1), (2, .int v2)] from lv_sub hl [0, 1, 2, 3, 4, 5] rfl)
def f_Mo_words_88 (n : Nat) (v1 : Int32) (mSize : Nat → Int32) (mGoes : Nat → Int32) (mMany : Nat → Int64) : Nat → Int32 → (Nat → Int64) → Option (Int32 × (Nat → Int64))
  | 0, _, _ => none
  | k + 1, v4, mMore =>
    ogd (gin v1 60) <|
    if (mSize v1.toNatClampNeg) ≤ v4 then
      some (v4, mMore)
    else
      ogd (gin v4 64) <|
      (f_Mo_words_110 n v4 v1 mGoes mMany n 0 (vp_updL mMore v4.toNatClampNeg 0)).bind fun u43 =>
      f_Mo_words_88 n v1 mSize mGoes mMany k (v4 + 1) u43.2
set_option maxHeartbeats 4000000 in
set_option maxRecDepth 100000 in
theorem w_Mo_words_88  {v3 : Int32} {v1 : Int32} {v2 : Int32} (hx : p.tables.exec = Jvm.exec) (hb : c.code = b_Mo_words) (hml : c.maxLocals = 6) (hts : ∀ w ∈ gW, w.before args s = true) (hown : s.vm.findClass "RegularSolverModel" = some m.cls) (hK : va_K D vwCl (tG K) s) (hRf : 2 ≤ R.frames) (hRl : 46 ≤ R.locals) (hRc : cells ≤ R.cells) (hRs : slots ≤ R.slots) (hA : ∀ q, H0.size ≤ q → A q)  {out : Int32 × (Nat → Int64)} (Kx : ∀ (u : Int32 × (Nat → Int64)), out = u → ∀ (ls : Array Slot) (H : Heap) (locs : List Loc), va_P D vwCl (moW K h a mErr mLanguages mBounds mSize mGoes mLast mLeft mNext mGroup mFresh mLeader mNumber mRight mEnds mWay mVariable mFactor mLeast mMost mLength mWord mKept mMany u.2 mLeads mMet mTodo mMay mTries) H → va_D A (moW K h a mErr mLanguages mBounds mSize mGoes mLast mLeft mNext mGroup mFresh mLeader mNumber mRight mEnds mWay mVariable mFactor mLeast mMost mLength mWord mKept mMany u.2 mLeads mMet mTodo mMay mTries) → va_S A H0 H locs → lv_has ls 6 [(3, .int v3), (0, .ref h), (1, .int v1), (2, .int v2)] → W p l e R s m args below meth c H locs cells slots Q (F0 m 152 ls [])) :
    ∀ (k : Nat) (v4 : Int32) (mMore : Nat → Int64), f_Mo_words_88 n v1 mSize mGoes mMany k v4 mMore = some out → ∀ (ls : Array Slot) (H : Heap) (locs : List Loc), va_P D vwCl (moW K h a mErr mLanguages mBounds mSize mGoes mLast mLeft mNext mGroup mFresh mLeader mNumber mRight mEnds mWay mVariable mFactor mLeast mMost mLength mWord mKept mMany mMore mLeads mMet mTodo mMay mTries) H → va_D A (moW K h a mErr mLanguages mBounds mSize mGoes mLast mLeft mNext mGroup mFresh mLeader mNumber mRight mEnds mWay mVariable mFactor mLeast mMost mLength mWord mKept mMany mMore mLeads mMet mTodo mMay mTries) → va_S A H0 H locs → lv_has ls 6 [(4, .int v4), (3, .int v3), (0, .ref h), (1, .int v1), (2, .int v2)] → W p l e R s m args below meth c H locs cells slots Q (F0 m 88 ls []) := by
  intro k
  induction k with
  | zero => intro _ _ hf; exact nomatch (show none = some out from hf)
  | succ k ih =>
    intro v4 mMore hf ls H locs hP hD hS hl
    rw [f_Mo_words_88] at hf
    refine lv_iload hx hb d_Mo_words_88 (lv_at hl 0 rfl) ?_
    refine lv_aload_n hx hb d_Mo_words_90 rfl (lv_at hl 2 rfl) ?_
    refine va_get (D := D) (ci := 0) (v := .ref (a 0)) (C := R_Mo) (T := T_Mo) (N := 29) hx hb hts in_Mo hown hK hP 0 rfl rfl 3 (by decide) (hts _ fl_Mo_9) (fun _ h9 => h9) rfl d_Mo_words_91 ?_
    refine lv_iload_n hx hb d_Mo_words_94 rfl (lv_at hl 3 rfl) ?_
    obtain ⟨g35, hf⟩ := ogi hf
    refine va_iald hx hb hK hP 1 0 rfl rfl (gin_in g35) d_Mo_words_95 ?_
    refine lv_icmp_ge (tgt := 152) hx hb d_Mo_words_96 (by decide) (fun c36 => ?_) (fun c36 => ?_)
    · rw [if_pos c36] at hf
      exact Kx _ (Option.some.inj hf).symm _ _ _ hP hD hS (show lv_has ls 6 [(3, .int v3), (0, .ref h), (1, .int v1), (2, .int v2)] from lv_sub hl [1, 2, 3, 4] rfl)
    · rw [if_neg c36] at hf
      refine lv_aload_n hx hb d_Mo_words_99 rfl (lv_at hl 2 rfl) ?_
      refine va_get (D := D) (ci := 0) (v := .ref (a 18)) (C := R_Mo) (T := T_Mo) (N := 29) hx hb hts in_Mo hown hK hP 0 rfl rfl 23 (by decide) (hts _ fl_Mo_66) (fun _ h9 => h9) rfl d_Mo_words_100 ?_
      refine lv_iload hx hb d_Mo_words_103 (lv_at hl 0 rfl) ?_
      refine lv_lconst (v := 0) hx hb d_Mo_words_105 (by decide) ?_
      obtain ⟨g37, hf⟩ := ogi hf
      refine va_last hx hb hK hP hD hS 19 1 rfl rfl (gin_in g37) d_Mo_words_106 (fun H locs hP hD hS => ?_)
      have hP : va_P D vwCl (moW K h a mErr mLanguages mBounds mSize mGoes mLast mLeft mNext mGroup mFresh mLeader mNumber mRight mEnds mWay mVariable mFactor mLeast mMost mLength mWord mKept mMany (vp_updL mMore v4.toNatClampNeg 0) mLeads mMet mTodo mMay mTries) H := hP
      have hD : va_D A (moW K h a mErr mLanguages mBounds mSize mGoes mLast mLeft mNext mGroup mFresh mLeader mNumber mRight mEnds mWay mVariable mFactor mLeast mMost mLength mWord mKept mMany (vp_updL mMore v4.toNatClampNeg 0) mLeads mMet mTodo mMay mTries) := hD
      refine lv_iconst (v := 0) hx hb d_Mo_words_107 (by decide) ?_
      refine lv_istore (lv' := [(5, .int 0), (4, .int v4), (3, .int v3), (0, .ref h), (1, .int v1), (2, .int v2)]) hx hb d_Mo_words_108 hl (by decide) rfl (fun ls hl => ?_)
      obtain ⟨u43, eu43, hf⟩ := obd hf
      refine w_Mo_words_110 hx hb hml hts hown hK hRf hRl hRc hRs hA  (fun u43q eu ls H locs hP hD hS hl => ?_) _ _ _ eu43 _ _ _ hP hD hS (show lv_has ls 6 [(5, .int 0), (4, .int v4), (3, .int v3), (0, .ref h), (1, .int v1), (2, .int v2)] from lv_sub hl [0, 1, 2, 3, 4, 5] rfl)
      subst eu
      refine lv_iinc (v := v4 + 1) (lv' := [(4, .int (v4 + 1)), (3, .int v3), (0, .ref h), (1, .int v1), (2, .int v2)]) hx hb d_Mo_words_146 hl (k := 0) rfl (by first | rfl | (congr 1)) (by decide) rfl (fun ls hl => ?_)
      refine lv_goto (tgt := 88) hx hb d_Mo_words_149 (by decide) ?_
      exact ih _ _ hf _ _ _ hP hD hS (show lv_has ls 6 [(4, .int (v4 + 1)), (3, .int v3), (0, .ref h), (1, .int v1), (2, .int v2)] from lv_sub hl [0, 1, 2, 3, 4] rfl)
def f_Mo_words_155 (n : Nat) (v1 : Int32) (mSize : Nat → Int32) (mMore : Nat → Int64) : Nat → Int32 → (Nat → Int64) → Option (Int32 × (Nat → Int64))
  | 0, _, _ => none
  | k + 1, v4, mMany =>
    ogd (gin v1 60) <|
    if (mSize v1.toNatClampNeg) ≤ v4 then
      some (v4, mMany)
    else
      ogd (gin v4 64) <|
      ogd (gin v4 64) <|
      f_Mo_words_155 n v1 mSize mMore k (v4 + 1) (vp_updL mMany v4.toNatClampNeg (mMore v4.toNatClampNeg))
set_option maxHeartbeats 4000000 in
set_option maxRecDepth 100000 in
theorem w_Mo_words_155  {v3 : Int32} {v1 : Int32} {v2 : Int32} (hx : p.tables.exec = Jvm.exec) (hb : c.code = b_Mo_words) (hml : c.maxLocals = 6) (hts : ∀ w ∈ gW, w.before args s = true) (hown : s.vm.findClass "RegularSolverModel" = some m.cls) (hK : va_K D vwCl (tG K) s) (hRf : 2 ≤ R.frames) (hRl : 46 ≤ R.locals) (hRc : cells ≤ R.cells) (hRs : slots ≤ R.slots) (hA : ∀ q, H0.size ≤ q → A q)  {out : Int32 × (Nat → Int64)} (Kx : ∀ (u : Int32 × (Nat → Int64)), out = u → ∀ (ls : Array Slot) (H : Heap) (locs : List Loc), va_P D vwCl (moW K h a mErr mLanguages mBounds mSize mGoes mLast mLeft mNext mGroup mFresh mLeader mNumber mRight mEnds mWay mVariable mFactor mLeast mMost mLength mWord mKept u.2 mMore mLeads mMet mTodo mMay mTries) H → va_D A (moW K h a mErr mLanguages mBounds mSize mGoes mLast mLeft mNext mGroup mFresh mLeader mNumber mRight mEnds mWay mVariable mFactor mLeast mMost mLength mWord mKept u.2 mMore mLeads mMet mTodo mMay mTries) → va_S A H0 H locs → lv_has ls 6 [(3, .int v3), (0, .ref h), (1, .int v1), (2, .int v2)] → W p l e R s m args below meth c H locs cells slots Q (F0 m 186 ls [])) :
    ∀ (k : Nat) (v4 : Int32) (mMany : Nat → Int64), f_Mo_words_155 n v1 mSize mMore k v4 mMany = some out → ∀ (ls : Array Slot) (H : Heap) (locs : List Loc), va_P D vwCl (moW K h a mErr mLanguages mBounds mSize mGoes mLast mLeft mNext mGroup mFresh mLeader mNumber mRight mEnds mWay mVariable mFactor mLeast mMost mLength mWord mKept mMany mMore mLeads mMet mTodo mMay mTries) H → va_D A (moW K h a mErr mLanguages mBounds mSize mGoes mLast mLeft mNext mGroup mFresh mLeader mNumber mRight mEnds mWay mVariable mFactor mLeast mMost mLength mWord mKept mMany mMore mLeads mMet mTodo mMay mTries) → va_S A H0 H locs → lv_has ls 6 [(4, .int v4), (3, .int v3), (0, .ref h), (1, .int v1), (2, .int v2)] → W p l e R s m args below meth c H locs cells slots Q (F0 m 155 ls []) := by
  intro k
  induction k with
  | zero => intro _ _ hf; exact nomatch (show none = some out from hf)
  | succ k ih =>
    intro v4 mMany hf ls H locs hP hD hS hl
    rw [f_Mo_words_155] at hf
    refine lv_iload hx hb d_Mo_words_155 (lv_at hl 0 rfl) ?_
    refine lv_aload_n hx hb d_Mo_words_157 rfl (lv_at hl 2 rfl) ?_
    refine va_get (D := D) (ci := 0) (v := .ref (a 0)) (C := R_Mo) (T := T_Mo) (N := 29) hx hb hts in_Mo hown hK hP 0 rfl rfl 3 (by decide) (hts _ fl_Mo_9) (fun _ h9 => h9) rfl d_Mo_words_158 ?_
    refine lv_iload_n hx hb d_Mo_words_161 rfl (lv_at hl 3 rfl) ?_
    obtain ⟨g45, hf⟩ := ogi hf
    refine va_iald hx hb hK hP 1 0 rfl rfl (gin_in g45) d_Mo_words_162 ?_
    refine lv_icmp_ge (tgt := 186) hx hb d_Mo_words_163 (by decide) (fun c46 => ?_) (fun c46 => ?_)
    · rw [if_pos c46] at hf
      exact Kx _ (Option.some.inj hf).symm _ _ _ hP hD hS (show lv_has ls 6 [(3, .int v3), (0, .ref h), (1, .int v1), (2, .int v2)] from lv_sub hl [1, 2, 3, 4] rfl)
    · rw [if_neg c46] at hf
      refine lv_aload_n hx hb d_Mo_words_166 rfl (lv_at hl 2 rfl) ?_
      refine va_get (D := D) (ci := 0) (v := .ref (a 17)) (C := R_Mo) (T := T_Mo) (N := 29) hx hb hts in_Mo hown hK hP 0 rfl rfl 22 (by decide) (hts _ fl_Mo_63) (fun _ h9 => h9) rfl d_Mo_words_167 ?_
      refine lv_iload hx hb d_Mo_words_170 (lv_at hl 0 rfl) ?_
      refine lv_aload_n hx hb d_Mo_words_172 rfl (lv_at hl 2 rfl) ?_
      refine va_get (D := D) (ci := 0) (v := .ref (a 18)) (C := R_Mo) (T := T_Mo) (N := 29) hx hb hts in_Mo hown hK hP 0 rfl rfl 23 (by decide) (hts _ fl_Mo_66) (fun _ h9 => h9) rfl d_Mo_words_173 ?_
      refine lv_iload hx hb d_Mo_words_176 (lv_at hl 0 rfl) ?_
      obtain ⟨g47, hf⟩ := ogi hf
      refine va_lald hx hb hK hP 19 1 rfl rfl (gin_in g47) d_Mo_words_178 ?_
      obtain ⟨g48, hf⟩ := ogi hf
      refine va_last hx hb hK hP hD hS 18 1 rfl rfl (gin_in g48) d_Mo_words_179 (fun H locs hP hD hS => ?_)
      have hP : va_P D vwCl (moW K h a mErr mLanguages mBounds mSize mGoes mLast mLeft mNext mGroup mFresh mLeader mNumber mRight mEnds mWay mVariable mFactor mLeast mMost mLength mWord mKept (vp_updL mMany v4.toNatClampNeg (mMore v4.toNatClampNeg)) mMore mLeads mMet mTodo mMay mTries) H := hP
      have hD : va_D A (moW K h a mErr mLanguages mBounds mSize mGoes mLast mLeft mNext mGroup mFresh mLeader mNumber mRight mEnds mWay mVariable mFactor mLeast mMost mLength mWord mKept (vp_updL mMany v4.toNatClampNeg (mMore v4.toNatClampNeg)) mMore mLeads mMet mTodo mMay mTries) := hD
      refine lv_iinc (v := v4 + 1) (lv' := [(4, .int (v4 + 1)), (3, .int v3), (0, .ref h), (1, .int v1), (2, .int v2)]) hx hb d_Mo_words_180 hl (k := 0) rfl (by first | rfl | (congr 1)) (by decide) rfl (fun ls hl => ?_)
      refine lv_goto (tgt := 155) hx hb d_Mo_words_183 (by decide) ?_
      exact ih _ _ hf _ _ _ hP hD hS (show lv_has ls 6 [(4, .int (v4 + 1)), (3, .int v3), (0, .ref h), (1, .int v1), (2, .int v2)] from lv_sub hl [0, 1, 2, 3, 4] rfl)
def f_Mo_words_80 (n : Nat) (v1 : Int32) (v2 : Int32) (mSize : Nat → Int32) (mGoes : Nat → Int32) : Nat → Int32 → (Nat → Int64) → (Nat → Int64) → Option (Int32 × (Nat → Int64) × (Nat → Int64))
  | 0, _, _, _ => none
  | k + 1, v3, mMany, mMore =>
    if v2 ≤ v3 then
      some (v3, mMany, mMore)
    else
      (f_Mo_words_88 n v1 mSize mGoes mMany n 0 mMore).bind fun u44 =>
      (f_Mo_words_155 n v1 mSize u44.2 n 0 mMany).bind fun u49 =>
      f_Mo_words_80 n v1 v2 mSize mGoes k (v3 + 1) u49.2 u44.2
set_option maxHeartbeats 4000000 in
set_option maxRecDepth 100000 in
theorem w_Mo_words_80  {v1 : Int32} {v2 : Int32} (hx : p.tables.exec = Jvm.exec) (hb : c.code = b_Mo_words) (hml : c.maxLocals = 6) (hts : ∀ w ∈ gW, w.before args s = true) (hown : s.vm.findClass "RegularSolverModel" = some m.cls) (hK : va_K D vwCl (tG K) s) (hRf : 2 ≤ R.frames) (hRl : 46 ≤ R.locals) (hRc : cells ≤ R.cells) (hRs : slots ≤ R.slots) (hA : ∀ q, H0.size ≤ q → A q)  {out : Int32 × (Nat → Int64) × (Nat → Int64)} (Kx : ∀ (u : Int32 × (Nat → Int64) × (Nat → Int64)), out = u → ∀ (ls : Array Slot) (H : Heap) (locs : List Loc), va_P D vwCl (moW K h a mErr mLanguages mBounds mSize mGoes mLast mLeft mNext mGroup mFresh mLeader mNumber mRight mEnds mWay mVariable mFactor mLeast mMost mLength mWord mKept u.2.1 u.2.2 mLeads mMet mTodo mMay mTries) H → va_D A (moW K h a mErr mLanguages mBounds mSize mGoes mLast mLeft mNext mGroup mFresh mLeader mNumber mRight mEnds mWay mVariable mFactor mLeast mMost mLength mWord mKept u.2.1 u.2.2 mLeads mMet mTodo mMay mTries) → va_S A H0 H locs → lv_has ls 6 [(0, .ref h)] → W p l e R s m args below meth c H locs cells slots Q (F0 m 192 ls [])) :
    ∀ (k : Nat) (v3 : Int32) (mMany : Nat → Int64) (mMore : Nat → Int64), f_Mo_words_80 n v1 v2 mSize mGoes k v3 mMany mMore = some out → ∀ (ls : Array Slot) (H : Heap) (locs : List Loc), va_P D vwCl (moW K h a mErr mLanguages mBounds mSize mGoes mLast mLeft mNext mGroup mFresh mLeader mNumber mRight mEnds mWay mVariable mFactor mLeast mMost mLength mWord mKept mMany mMore mLeads mMet mTodo mMay mTries) H → va_D A (moW K h a mErr mLanguages mBounds mSize mGoes mLast mLeft mNext mGroup mFresh mLeader mNumber mRight mEnds mWay mVariable mFactor mLeast mMost mLength mWord mKept mMany mMore mLeads mMet mTodo mMay mTries) → va_S A H0 H locs → lv_has ls 6 [(3, .int v3), (0, .ref h), (1, .int v1), (2, .int v2)] → W p l e R s m args below meth c H locs cells slots Q (F0 m 80 ls []) := by
  intro k
  induction k with
  | zero => intro _ _ _ hf; exact nomatch (show none = some out from hf)
  | succ k ih =>
    intro v3 mMany mMore hf ls H locs hP hD hS hl
    rw [f_Mo_words_80] at hf
    refine lv_iload_n hx hb d_Mo_words_80 rfl (lv_at hl 0 rfl) ?_
    refine lv_iload_n hx hb d_Mo_words_81 rfl (lv_at hl 3 rfl) ?_
    refine lv_icmp_ge (tgt := 192) hx hb d_Mo_words_82 (by decide) (fun c34 => ?_) (fun c34 => ?_)
    · rw [if_pos c34] at hf
      exact Kx _ (Option.some.inj hf).symm _ _ _ hP hD hS (show lv_has ls 6 [(0, .ref h)] from lv_sub hl [1] rfl)
    · rw [if_neg c34] at hf
      refine lv_iconst (v := 0) hx hb d_Mo_words_85 (by decide) ?_
      refine lv_istore (lv' := [(4, .int 0), (3, .int v3), (0, .ref h), (1, .int v1), (2, .int v2)]) hx hb d_Mo_words_86 hl (by decide) rfl (fun ls hl => ?_)
      obtain ⟨u44, eu44, hf⟩ := obd hf
      refine w_Mo_words_88 hx hb hml hts hown hK hRf hRl hRc hRs hA  (fun u44q eu ls H locs hP hD hS hl => ?_) _ _ _ eu44 _ _ _ hP hD hS (show lv_has ls 6 [(4, .int 0), (3, .int v3), (0, .ref h), (1, .int v1), (2, .int v2)] from lv_sub hl [0, 1, 2, 3, 4] rfl)
      subst eu
      refine lv_iconst (v := 0) hx hb d_Mo_words_152 (by decide) ?_
      refine lv_istore (lv' := [(4, .int 0), (3, .int v3), (0, .ref h), (1, .int v1), (2, .int v2)]) hx hb d_Mo_words_153 hl (by decide) rfl (fun ls hl => ?_)
      obtain ⟨u49, eu49, hf⟩ := obd hf
      refine w_Mo_words_155 hx hb hml hts hown hK hRf hRl hRc hRs hA  (fun u49q eu ls H locs hP hD hS hl => ?_) _ _ _ eu49 _ _ _ hP hD hS (show lv_has ls 6 [(4, .int 0), (3, .int v3), (0, .ref h), (1, .int v1), (2, .int v2)] from lv_sub hl [0, 1, 2, 3, 4] rfl)
      subst eu
      refine lv_iinc (v := v3 + 1) (lv' := [(3, .int (v3 + 1)), (0, .ref h), (1, .int v1), (2, .int v2)]) hx hb d_Mo_words_186 hl (k := 0) rfl (by first | rfl | (congr 1)) (by decide) rfl (fun ls hl => ?_)
      refine lv_goto (tgt := 80) hx hb d_Mo_words_189 (by decide) ?_
      exact ih _ _ _ hf _ _ _ hP hD hS (show lv_has ls 6 [(3, .int (v3 + 1)), (0, .ref h), (1, .int v1), (2, .int v2)] from lv_sub hl [0, 1, 2, 3] rfl)
def f_Mo_words (n : Nat) (p0 : Int32) (p1 : Int32) (mLanguages : Int32) (mSize : Nat → Int32) (mGoes : Nat → Int32) (mLast : Nat → Bool) (mMany : Nat → Int64) (mMore : Nat → Int64) : Option (Int64 × Int32 × (Nat → Int64) × (Nat → Int64)) :=
  (f_Mo_isLanguage n p0 mLanguages).bind fun u1 =>
  if u1 = true then
    (f_Mo_in n p1.toInt64 0 1000).bind fun u52 =>
    if u52 = true then
      (f_Mo_fails n false 1 0).bind fun u54 =>
      if u54.1 = true then
        some (0, u54.2, mMany, mMore)
      else
        (f_Mo_words_42 n p0 mSize mLast n 0 mMany).bind fun u56 =>
        (f_Mo_words_80 n p0 p1 mSize mGoes n 0 u56.2 mMore).bind fun u57 =>
        ogd (gin 0 64) <|
        some (u57.2.1 (0 : Int32).toNatClampNeg, u54.2, u57.2.1, u57.2.2)
    else
      (f_Mo_fails n true 1 0).bind fun u59 =>
      if u59.1 = true then
        some (0, u59.2, mMany, mMore)
      else
        (f_Mo_words_42 n p0 mSize mLast n 0 mMany).bind fun u61 =>
        (f_Mo_words_80 n p0 p1 mSize mGoes n 0 u61.2 mMore).bind fun u62 =>
        ogd (gin 0 64) <|
        some (u62.2.1 (0 : Int32).toNatClampNeg, u59.2, u62.2.1, u62.2.2)
  else
    (f_Mo_fails n true 1 0).bind fun u3 =>
    if u3.1 = true then
      some (0, u3.2, mMany, mMore)
    else
      (f_Mo_words_42 n p0 mSize mLast n 0 mMany).bind fun u17 =>
      (f_Mo_words_80 n p0 p1 mSize mGoes n 0 u17.2 mMore).bind fun u50 =>
      ogd (gin 0 64) <|
      some (u50.2.1 (0 : Int32).toNatClampNeg, u3.2, u50.2.1, u50.2.2)
set_option maxHeartbeats 4000000 in
set_option maxRecDepth 100000 in
theorem w_Mo_words  {p0 : Int32} {p1 : Int32}  (hx : p.tables.exec = Jvm.exec) (hb : c.code = b_Mo_words) (hml : c.maxLocals = 6) (hts : ∀ w ∈ gW, w.before args s = true) (hown : s.vm.findClass "RegularSolverModel" = some m.cls) (hK : va_K D vwCl (tG K) s) (hRf : 2 ≤ R.frames) (hRl : 46 ≤ R.locals) (hRc : cells ≤ R.cells) (hRs : slots ≤ R.slots) (hA : ∀ q, H0.size ≤ q → A q) {out : Int64 × Int32 × (Nat → Int64) × (Nat → Int64)} (Kr : ∀ (r : Int64 × Int32 × (Nat → Int64) × (Nat → Int64)), out = r → ∀ (pc : Nat) (ls : Array Slot) (H : Heap) (locs : List Loc), decode b_Mo_words pc = .ok (.lreturn, 1) → va_P D vwCl (moW K h a r.2.1 mLanguages mBounds mSize mGoes mLast mLeft mNext mGroup mFresh mLeader mNumber mRight mEnds mWay mVariable mFactor mLeast mMost mLength mWord mKept r.2.2.1 r.2.2.2 mLeads mMet mTodo mMay mTries) H → va_D A (moW K h a r.2.1 mLanguages mBounds mSize mGoes mLast mLeft mNext mGroup mFresh mLeader mNumber mRight mEnds mWay mVariable mFactor mLeast mMost mLength mWord mKept r.2.2.1 r.2.2.2 mLeads mMet mTodo mMay mTries) → va_S A H0 H locs → W p l e R s m args below meth c H locs cells slots Q (F0 m pc ls [.long r.1])) (hf : f_Mo_words n p0 p1 mLanguages mSize mGoes mLast mMany mMore = some out) (ls : Array Slot) (hP : va_P D vwCl (moW K h a mErr mLanguages mBounds mSize mGoes mLast mLeft mNext mGroup mFresh mLeader mNumber mRight mEnds mWay mVariable mFactor mLeast mMost mLength mWord mKept mMany mMore mLeads mMet mTodo mMay mTries) H) (hD : va_D A (moW K h a mErr mLanguages mBounds mSize mGoes mLast mLeft mNext mGroup mFresh mLeader mNumber mRight mEnds mWay mVariable mFactor mLeast mMost mLength mWord mKept mMany mMore mLeads mMet mTodo mMay mTries)) (hS : va_S A H0 H locs) (hl : lv_has ls 6 [(0, .ref h), (1, .int p0), (2, .int p1)]) : W p l e R s m args below meth c H locs cells slots Q (F0 m 0 ls []) := by
  unfold f_Mo_words at hf
  refine lv_aload_n hx hb d_Mo_words_0 rfl (lv_at hl 0 rfl) ?_
  refine lv_iconst (v := 0) hx hb d_Mo_words_1 (by decide) ?_
  refine va_put (D := D) (ci := 0) (v := .int 0) (ty := .int) (C := R_Mo) (T := T_Mo) (N := 29) hx hb hts in_Mo t_Mo t_Mo_ok n_Mo hown hK hP hD hS 0 rfl rfl 0 (by decide) (hts _ fl_Mo_84) (fun _ h9 => h9) rfl (by decide +kernel) rfl rfl (Nat.le_of_ble_eq_true rfl) d_Mo_words_2 (fun H locs hP hD hS => ?_)
  have hP : va_P D vwCl (moW K h a 0 mLanguages mBounds mSize mGoes mLast mLeft mNext mGroup mFresh mLeader mNumber mRight mEnds mWay mVariable mFactor mLeast mMost mLength mWord mKept mMany mMore mLeads mMet mTodo mMay mTries) H := hP
  have hD : va_D A (moW K h a 0 mLanguages mBounds mSize mGoes mLast mLeft mNext mGroup mFresh mLeader mNumber mRight mEnds mWay mVariable mFactor mLeast mMost mLength mWord mKept mMany mMore mLeads mMet mTodo mMay mTries) := hD
  refine lv_aload_n hx hb d_Mo_words_5 rfl (lv_at hl 0 rfl) ?_
  refine lv_aload_n hx hb d_Mo_words_6 rfl (lv_at hl 0 rfl) ?_
  refine lv_iload_n hx hb d_Mo_words_7 rfl (lv_at hl 1 rfl) ?_
  obtain ⟨u1, eu1, hf⟩ := obd hf
  refine p_call (W.runV (As := [.int p0]) (rest := [.ref h]) ⟨hx, hb, hml, hown, hts⟩ (c_Mo_isLanguage l eu1) (gV 1 hts cd_Mo_isLanguage ml_Mo_138 im_Mo_isLanguage se_Mo_isLanguage ini_Mo rfl rfl pd_Mo_isLanguage ⟨Nat.le_trans (Nat.le_of_ble_eq_true rfl) hRf, Nat.le_trans (Nat.le_of_ble_eq_true rfl) hRl⟩) ⟨pPre_blind, va_recv hK hP (ci := 0) (q0 := 0) rfl rfl, pPre_of hP hK⟩ rfl rfl hl.1 rfl (lv_room (Nat.le_of_ble_eq_true rfl)) d_Mo_words_8 ⟨hRc, hRs⟩) ?_
  refine bz_eq (tgt := 26) hx hb d_Mo_words_11 (by decide) (fun c2 => ?_) (fun c2 => ?_)
  · rw [if_neg c2] at hf
    refine lv_iconst (v := 1) hx hb d_Mo_words_26 (by decide) ?_
    refine lv_goto (tgt := 31) hx hb d_Mo_words_27 (by decide) ?_
    refine lv_iconst (v := 1) hx hb d_Mo_words_31 (by decide) ?_
    obtain ⟨u3, eu3, hf⟩ := obd hf
    refine w_call (va_runV (As := [.int (bI true), .int 1]) (rest := []) ⟨hx, hb, hml, hown, hts⟩ (c_Mo_fails l H.size eu3) (gV 2 hts cd_Mo_fails ml_Mo_124 im_Mo_fails se_Mo_fails ini_Mo rfl rfl pd_Mo_fails ⟨Nat.le_trans (Nat.le_of_ble_eq_true rfl) hRf, Nat.le_trans (Nat.le_of_ble_eq_true rfl) hRl⟩) ⟨wPre_blind, va_recv hK hP (ci := 0) (q0 := 0) rfl rfl, wPre_of hP hK hD⟩ rfl rfl hl.1 rfl (lv_room (Nat.le_of_ble_eq_true rfl)) d_Mo_words_32 ⟨hRc, hRs⟩) hD hS hA (fun H locs hP hD hS => ?_)
    have hP : va_P D vwCl (moW K h a u3.2 mLanguages mBounds mSize mGoes mLast mLeft mNext mGroup mFresh mLeader mNumber mRight mEnds mWay mVariable mFactor mLeast mMost mLength mWord mKept mMany mMore mLeads mMet mTodo mMay mTries) H := hP
    have hD : va_D A (moW K h a u3.2 mLanguages mBounds mSize mGoes mLast mLeft mNext mGroup mFresh mLeader mNumber mRight mEnds mWay mVariable mFactor mLeast mMost mLength mWord mKept mMany mMore mLeads mMet mTodo mMay mTries) := hD
    refine bz_eq (tgt := 40) hx hb d_Mo_words_35 (by decide) (fun c4 => ?_) (fun c4 => ?_)
    · rw [if_neg c4] at hf
      refine lv_iconst (v := 0) hx hb d_Mo_words_40 (by decide) ?_
      refine lv_istore_n (lv' := [(3, .int 0), (0, .ref h), (1, .int p0), (2, .int p1)]) hx hb d_Mo_words_41 rfl hl (by decide) rfl (fun ls hl => ?_)
      obtain ⟨u17, eu17, hf⟩ := obd hf
      refine w_Mo_words_42 hx hb hml hts hown hK hRf hRl hRc hRs hA  (fun u17q eu ls H locs hP hD hS hl => ?_) _ _ _ eu17 _ _ _ hP hD hS (show lv_has ls 6 [(3, .int 0), (0, .ref h), (1, .int p0), (2, .int p1)] from lv_sub hl [0, 1, 2, 3] rfl)
      subst eu
      refine lv_iconst (v := 0) hx hb d_Mo_words_78 (by decide) ?_
      refine lv_istore_n (lv' := [(3, .int 0), (0, .ref h), (1, .int p0), (2, .int p1)]) hx hb d_Mo_words_79 rfl hl (by decide) rfl (fun ls hl => ?_)
      obtain ⟨u50, eu50, hf⟩ := obd hf
      refine w_Mo_words_80 hx hb hml hts hown hK hRf hRl hRc hRs hA  (fun u50q eu ls H locs hP hD hS hl => ?_) _ _ _ _ eu50 _ _ _ hP hD hS (show lv_has ls 6 [(3, .int 0), (0, .ref h), (1, .int p0), (2, .int p1)] from lv_sub hl [0, 1, 2, 3] rfl)
      subst eu
      refine lv_aload_n hx hb d_Mo_words_192 rfl (lv_at hl 0 rfl) ?_
      refine va_get (D := D) (ci := 0) (v := .ref (a 17)) (C := R_Mo) (T := T_Mo) (N := 29) hx hb hts in_Mo hown hK hP 0 rfl rfl 22 (by decide) (hts _ fl_Mo_63) (fun _ h9 => h9) rfl d_Mo_words_193 ?_
      refine lv_iconst (v := 0) hx hb d_Mo_words_196 (by decide) ?_
      obtain ⟨g51, hf⟩ := ogi hf
      refine va_lald hx hb hK hP 18 1 rfl rfl (gin_in g51) d_Mo_words_197 ?_
      exact Kr _ (Option.some.inj hf).symm _ _ _ _ d_Mo_words_198 hP hD hS
    · rw [if_pos c4] at hf
      refine lv_lconst (v := 0) hx hb d_Mo_words_38 (by decide) ?_
      exact Kr _ (Option.some.inj hf).symm _ _ _ _ d_Mo_words_39 hP hD hS
  · rw [if_pos c2] at hf
    refine lv_iload_n hx hb d_Mo_words_14 rfl (lv_at hl 2 rfl) ?_
    refine lv_i2l (v := p1.toInt64) hx hb d_Mo_words_15 rfl ?_
    refine lv_lconst (v := 0) hx hb d_Mo_words_16 (by decide) ?_
    refine lv_ldc2 (v := 1000) hx hb hown (hts (.constantLong "RegularSolverModel" 152 1000) (by decide +kernel)) d_Mo_words_17 ?_
    obtain ⟨u52, eu52, hf⟩ := obd hf
    refine p_call (W.runS (As := [.long p1.toInt64, .long 0, .long 1000]) (rest := [.ref h]) ⟨hx, hb, hml, hown, hts⟩ (c_Mo_in l eu52) (gS 3 hts cd_Mo_in ml_Mo_91 st_Mo_in ini_Mo rfl rfl pd_Mo_in ⟨Nat.le_trans (Nat.le_of_ble_eq_true rfl) hRf, Nat.le_trans (Nat.le_of_ble_eq_true rfl) hRl⟩) ⟨pPre_blind, pPre_of hP hK⟩ rfl rfl hl.1 rfl (lv_room (Nat.le_of_ble_eq_true rfl)) d_Mo_words_20 ⟨hRc, hRs⟩) ?_
    refine bz_ne (tgt := 30) hx hb d_Mo_words_23 (by decide) (fun c53 => ?_) (fun c53 => ?_)
    · rw [if_pos c53] at hf
      refine lv_iconst (v := 0) hx hb d_Mo_words_30 (by decide) ?_
      refine lv_iconst (v := 1) hx hb d_Mo_words_31 (by decide) ?_
      obtain ⟨u54, eu54, hf⟩ := obd hf
      refine w_call (va_runV (As := [.int (bI false), .int 1]) (rest := []) ⟨hx, hb, hml, hown, hts⟩ (c_Mo_fails l H.size eu54) (gV 2 hts cd_Mo_fails ml_Mo_124 im_Mo_fails se_Mo_fails ini_Mo rfl rfl pd_Mo_fails ⟨Nat.le_trans (Nat.le_of_ble_eq_true rfl) hRf, Nat.le_trans (Nat.le_of_ble_eq_true rfl) hRl⟩) ⟨wPre_blind, va_recv hK hP (ci := 0) (q0 := 0) rfl rfl, wPre_of hP hK hD⟩ rfl rfl hl.1 rfl (lv_room (Nat.le_of_ble_eq_true rfl)) d_Mo_words_32 ⟨hRc, hRs⟩) hD hS hA (fun H locs hP hD hS => ?_)
      have hP : va_P D vwCl (moW K h a u54.2 mLanguages mBounds mSize mGoes mLast mLeft mNext mGroup mFresh mLeader mNumber mRight mEnds mWay mVariable mFactor mLeast mMost mLength mWord mKept mMany mMore mLeads mMet mTodo mMay mTries) H := hP
      have hD : va_D A (moW K h a u54.2 mLanguages mBounds mSize mGoes mLast mLeft mNext mGroup mFresh mLeader mNumber mRight mEnds mWay mVariable mFactor mLeast mMost mLength mWord mKept mMany mMore mLeads mMet mTodo mMay mTries) := hD
      refine bz_eq (tgt := 40) hx hb d_Mo_words_35 (by decide) (fun c55 => ?_) (fun c55 => ?_)
      · rw [if_neg c55] at hf
        refine lv_iconst (v := 0) hx hb d_Mo_words_40 (by decide) ?_
        refine lv_istore_n (lv' := [(3, .int 0), (0, .ref h), (1, .int p0), (2, .int p1)]) hx hb d_Mo_words_41 rfl hl (by decide) rfl (fun ls hl => ?_)
        obtain ⟨u56, eu56, hf⟩ := obd hf
        refine w_Mo_words_42 hx hb hml hts hown hK hRf hRl hRc hRs hA  (fun u56q eu ls H locs hP hD hS hl => ?_) _ _ _ eu56 _ _ _ hP hD hS (show lv_has ls 6 [(3, .int 0), (0, .ref h), (1, .int p0), (2, .int p1)] from lv_sub hl [0, 1, 2, 3] rfl)
        subst eu
        refine lv_iconst (v := 0) hx hb d_Mo_words_78 (by decide) ?_
        refine lv_istore_n (lv' := [(3, .int 0), (0, .ref h), (1, .int p0), (2, .int p1)]) hx hb d_Mo_words_79 rfl hl (by decide) rfl (fun ls hl => ?_)
        obtain ⟨u57, eu57, hf⟩ := obd hf
        refine w_Mo_words_80 hx hb hml hts hown hK hRf hRl hRc hRs hA  (fun u57q eu ls H locs hP hD hS hl => ?_) _ _ _ _ eu57 _ _ _ hP hD hS (show lv_has ls 6 [(3, .int 0), (0, .ref h), (1, .int p0), (2, .int p1)] from lv_sub hl [0, 1, 2, 3] rfl)
        subst eu
        refine lv_aload_n hx hb d_Mo_words_192 rfl (lv_at hl 0 rfl) ?_
        refine va_get (D := D) (ci := 0) (v := .ref (a 17)) (C := R_Mo) (T := T_Mo) (N := 29) hx hb hts in_Mo hown hK hP 0 rfl rfl 22 (by decide) (hts _ fl_Mo_63) (fun _ h9 => h9) rfl d_Mo_words_193 ?_
        refine lv_iconst (v := 0) hx hb d_Mo_words_196 (by decide) ?_
        obtain ⟨g58, hf⟩ := ogi hf
        refine va_lald hx hb hK hP 18 1 rfl rfl (gin_in g58) d_Mo_words_197 ?_
        exact Kr _ (Option.some.inj hf).symm _ _ _ _ d_Mo_words_198 hP hD hS
      · rw [if_pos c55] at hf
        refine lv_lconst (v := 0) hx hb d_Mo_words_38 (by decide) ?_
        exact Kr _ (Option.some.inj hf).symm _ _ _ _ d_Mo_words_39 hP hD hS
    · rw [if_neg c53] at hf
      refine lv_iconst (v := 1) hx hb d_Mo_words_26 (by decide) ?_
      refine lv_goto (tgt := 31) hx hb d_Mo_words_27 (by decide) ?_
      refine lv_iconst (v := 1) hx hb d_Mo_words_31 (by decide) ?_
      obtain ⟨u59, eu59, hf⟩ := obd hf
      refine w_call (va_runV (As := [.int (bI true), .int 1]) (rest := []) ⟨hx, hb, hml, hown, hts⟩ (c_Mo_fails l H.size eu59) (gV 2 hts cd_Mo_fails ml_Mo_124 im_Mo_fails se_Mo_fails ini_Mo rfl rfl pd_Mo_fails ⟨Nat.le_trans (Nat.le_of_ble_eq_true rfl) hRf, Nat.le_trans (Nat.le_of_ble_eq_true rfl) hRl⟩) ⟨wPre_blind, va_recv hK hP (ci := 0) (q0 := 0) rfl rfl, wPre_of hP hK hD⟩ rfl rfl hl.1 rfl (lv_room (Nat.le_of_ble_eq_true rfl)) d_Mo_words_32 ⟨hRc, hRs⟩) hD hS hA (fun H locs hP hD hS => ?_)
      have hP : va_P D vwCl (moW K h a u59.2 mLanguages mBounds mSize mGoes mLast mLeft mNext mGroup mFresh mLeader mNumber mRight mEnds mWay mVariable mFactor mLeast mMost mLength mWord mKept mMany mMore mLeads mMet mTodo mMay mTries) H := hP
      have hD : va_D A (moW K h a u59.2 mLanguages mBounds mSize mGoes mLast mLeft mNext mGroup mFresh mLeader mNumber mRight mEnds mWay mVariable mFactor mLeast mMost mLength mWord mKept mMany mMore mLeads mMet mTodo mMay mTries) := hD
      refine bz_eq (tgt := 40) hx hb d_Mo_words_35 (by decide) (fun c60 => ?_) (fun c60 => ?_)
      · rw [if_neg c60] at hf
        refine lv_iconst (v := 0) hx hb d_Mo_words_40 (by decide) ?_
        refine lv_istore_n (lv' := [(3, .int 0), (0, .ref h), (1, .int p0), (2, .int p1)]) hx hb d_Mo_words_41 rfl hl (by decide) rfl (fun ls hl => ?_)
        obtain ⟨u61, eu61, hf⟩ := obd hf
        refine w_Mo_words_42 hx hb hml hts hown hK hRf hRl hRc hRs hA  (fun u61q eu ls H locs hP hD hS hl => ?_) _ _ _ eu61 _ _ _ hP hD hS (show lv_has ls 6 [(3, .int 0), (0, .ref h), (1, .int p0), (2, .int p1)] from lv_sub hl [0, 1, 2, 3] rfl)
        subst eu
        refine lv_iconst (v := 0) hx hb d_Mo_words_78 (by decide) ?_
        refine lv_istore_n (lv' := [(3, .int 0), (0, .ref h), (1, .int p0), (2, .int p1)]) hx hb d_Mo_words_79 rfl hl (by decide) rfl (fun ls hl => ?_)
        obtain ⟨u62, eu62, hf⟩ := obd hf
        refine w_Mo_words_80 hx hb hml hts hown hK hRf hRl hRc hRs hA  (fun u62q eu ls H locs hP hD hS hl => ?_) _ _ _ _ eu62 _ _ _ hP hD hS (show lv_has ls 6 [(3, .int 0), (0, .ref h), (1, .int p0), (2, .int p1)] from lv_sub hl [0, 1, 2, 3] rfl)
        subst eu
        refine lv_aload_n hx hb d_Mo_words_192 rfl (lv_at hl 0 rfl) ?_
        refine va_get (D := D) (ci := 0) (v := .ref (a 17)) (C := R_Mo) (T := T_Mo) (N := 29) hx hb hts in_Mo hown hK hP 0 rfl rfl 22 (by decide) (hts _ fl_Mo_63) (fun _ h9 => h9) rfl d_Mo_words_193 ?_
        refine lv_iconst (v := 0) hx hb d_Mo_words_196 (by decide) ?_
        obtain ⟨g63, hf⟩ := ogi hf
        refine va_lald hx hb hK hP 18 1 rfl rfl (gin_in g63) d_Mo_words_197 ?_
        exact Kr _ (Option.some.inj hf).symm _ _ _ _ d_Mo_words_198 hP hD hS
      · rw [if_pos c60] at hf
        refine lv_lconst (v := 0) hx hb d_Mo_words_38 (by decide) ?_
        exact Kr _ (Option.some.inj hf).symm _ _ _ _ d_Mo_words_39 hP hD hS
set_option maxHeartbeats 4000000 in
set_option maxRecDepth 100000 in
theorem c_Mo_words (l : Launch)  {p0 : Int32} {p1 : Int32}  {r : Int64 × Int32 × (Nat → Int64) × (Nat → Int64)} (sz : Nat) (hf : f_Mo_words n p0 p1 mLanguages mSize mGoes mLast mMany mMore = some r) : Met l y_Mo_words w0_Mo_words ({ frames := 2, cells := 0, slots := 0, locals := 46 }) (wPre D K [.ref h, .int p0, .int p1] (moW K h a mErr mLanguages mBounds mSize mGoes mLast mLeft mNext mGroup mFresh mLeader mNumber mRight mEnds mWay mVariable mFactor mLeast mMost mLength mWord mKept mMany mMore mLeads mMet mTodo mMay mTries) sz) (wPost D K (some (.long r.1)) (moW K h a r.2.1 mLanguages mBounds mSize mGoes mLast mLeft mNext mGroup mFresh mLeader mNumber mRight mEnds mWay mVariable mFactor mLeast mMost mLength mWord mKept r.2.2.1 r.2.2.2 mLeads mMet mTodo mMay mTries) (va_A (moW K h a mErr mLanguages mBounds mSize mGoes mLast mLeft mNext mGroup mFresh mLeader mNumber mRight mEnds mWay mVariable mFactor mLeast mMost mLength mWord mKept mMany mMore mLeads mMet mTodo mMay mTries) sz)) 0 0 (va_A (moW K h a mErr mLanguages mBounds mSize mGoes mLast mLeft mNext mGroup mFresh mLeader mNumber mRight mEnds mWay mVariable mFactor mLeast mMost mLength mWord mKept mMany mMore mLeads mMet mTodo mMay mTries) sz) := by
  refine Met.ofW (cc := b_Mo_words) (maxL := 6) (ret := (some .long)) (by decide) rfl ?_
  intro p e s m args below meth c s₁ B hml hv
  obtain ⟨rfl, hsz, hP, hK, hD0⟩ := hv
  subst hsz
  have hl := lv_entry [.ref h, .int p0, .int p1] (n := 6) (Nat.le_of_ble_eq_true rfl)
  rw [lg_entry_eq]
  generalize (lg_sl [.ref h, .int p0, .int p1] ++ List.replicate (6 - (lg_sl [.ref h, .int p0, .int p1]).length) Slot.unset).toArray = ls at hl ⊢
  refine w_Mo_words (A := va_A (moW K h a mErr mLanguages mBounds mSize mGoes mLast mLeft mNext mGroup mFresh mLeader mNumber mRight mEnds mWay mVariable mFactor mLeast mMost mLength mWord mKept mMany mMore mLeads mMet mTodo mMay mTries) s.heap.size) (H0 := s.heap) B.exec B.bytes hml (fun w hw => atoms_spec (ws := w0_Mo_words) B.pre w (List.mem_cons_of_mem _ hw)) (findClass_of_methodNamed B.named) hK (Nat.le_refl _) (Nat.le_refl _) (Nat.zero_le _) (Nat.zero_le _) (fun q h => Or.inr h) (fun r er pc ls H locs hd hP hD hS => ?_) hf ls hP (hD0.self (sz := s.heap.size)) va_S.rf hl
  subst er
  exact W.lret B.exec B.bytes B.returns (fun t ht hW => ⟨⟨rfl, by rw [ht]; exact hP, va_K.moved hW.alike hK, hD⟩, hS.F ht⟩) hS.2.2 hd (hlocks := B.notSynchronized)
theorem pd_Mo_first : y_Mo_first.cls ≠ "java/lang/invoke/MethodHandle" ∧ y_Mo_first.cls ≠ "java/lang/invoke/VarHandle" ∧ (parseMethodDescriptor y_Mo_first.desc).map (fun d => d.parameters.length) = some 2 := by decide +kernel
def f_Mo_first (n : Nat) (p0 : Int32) (p1 : Int32) (mLanguages : Int32) (mSize : Nat → Int32) (mGoes : Nat → Int32) (mLast : Nat → Bool) (mLeads : Nat → Int64) : Option (Int64 × Int32 × (Nat → Int64)) :=
  (f_Mo_isLanguage n p0 mLanguages).bind fun u1 =>
  if u1 = true then
    (f_Mo_in n p1.toInt64 0 31).bind fun u14 =>
    if u14 = true then
      (f_Mo_fails n false 1 0).bind fun u16 =>
      if u16.1 = true then
        some (0, u16.2, mLeads)
      else
        (f_Mo_lead n p0 p1 mSize mGoes mLast mLeads).bind fun u18 =>
        ogd (gin p1 32) <|
        if ((u18 p1.toNatClampNeg) &&& 1) = 0 then
          (f_Mo_fails n true 2 u16.2).bind fun u24 =>
          if u24.1 = true then
            some (0, u24.2, u18)
          else
            (f_Mo_firstWord n p0 p1 mGoes u18).bind fun u26 =>
            some (u26, u24.2, u18)
        else
          (f_Mo_fails n false 2 u16.2).bind fun u21 =>
          if u21.1 = true then
            some (0, u21.2, u18)
          else
            (f_Mo_firstWord n p0 p1 mGoes u18).bind fun u23 =>
            some (u23, u21.2, u18)
    else
      (f_Mo_fails n true 1 0).bind fun u27 =>
      if u27.1 = true then
        some (0, u27.2, mLeads)
      else
        (f_Mo_lead n p0 p1 mSize mGoes mLast mLeads).bind fun u29 =>
        ogd (gin p1 32) <|
        if ((u29 p1.toNatClampNeg) &&& 1) = 0 then
          (f_Mo_fails n true 2 u27.2).bind fun u35 =>
          if u35.1 = true then
            some (0, u35.2, u29)
          else
            (f_Mo_firstWord n p0 p1 mGoes u29).bind fun u37 =>
            some (u37, u35.2, u29)
        else
          (f_Mo_fails n false 2 u27.2).bind fun u32 =>
          if u32.1 = true then
            some (0, u32.2, u29)
          else
            (f_Mo_firstWord n p0 p1 mGoes u29).bind fun u34 =>
            some (u34, u32.2, u29)
  else
    (f_Mo_fails n true 1 0).bind fun u3 =>
    if u3.1 = true then
      some (0, u3.2, mLeads)
    else
      (f_Mo_lead n p0 p1 mSize mGoes mLast mLeads).bind fun u5 =>
      ogd (gin p1 32) <|
      if ((u5 p1.toNatClampNeg) &&& 1) = 0 then
        (f_Mo_fails n true 2 u3.2).bind fun u11 =>
        if u11.1 = true then
          some (0, u11.2, u5)
        else
          (f_Mo_firstWord n p0 p1 mGoes u5).bind fun u13 =>
          some (u13, u11.2, u5)
      else
        (f_Mo_fails n false 2 u3.2).bind fun u8 =>
        if u8.1 = true then
          some (0, u8.2, u5)
        else
          (f_Mo_firstWord n p0 p1 mGoes u5).bind fun u10 =>
          some (u10, u8.2, u5)
set_option maxHeartbeats 4000000 in
set_option maxRecDepth 100000 in
theorem w_Mo_first  {p0 : Int32} {p1 : Int32}  (hx : p.tables.exec = Jvm.exec) (hb : c.code = b_Mo_first) (hml : c.maxLocals = 3) (hts : ∀ w ∈ gW, w.before args s = true) (hown : s.vm.findClass "RegularSolverModel" = some m.cls) (hK : va_K D vwCl (tG K) s) (hRf : 2 ≤ R.frames) (hRl : 50 ≤ R.locals) (hRc : cells ≤ R.cells) (hRs : slots ≤ R.slots) (hA : ∀ q, H0.size ≤ q → A q) {out : Int64 × Int32 × (Nat → Int64)} (Kr : ∀ (r : Int64 × Int32 × (Nat → Int64)), out = r → ∀ (pc : Nat) (ls : Array Slot) (H : Heap) (locs : List Loc), decode b_Mo_first pc = .ok (.lreturn, 1) → va_P D vwCl (moW K h a r.2.1 mLanguages mBounds mSize mGoes mLast mLeft mNext mGroup mFresh mLeader mNumber mRight mEnds mWay mVariable mFactor mLeast mMost mLength mWord mKept mMany mMore r.2.2 mMet mTodo mMay mTries) H → va_D A (moW K h a r.2.1 mLanguages mBounds mSize mGoes mLast mLeft mNext mGroup mFresh mLeader mNumber mRight mEnds mWay mVariable mFactor mLeast mMost mLength mWord mKept mMany mMore r.2.2 mMet mTodo mMay mTries) → va_S A H0 H locs → W p l e R s m args below meth c H locs cells slots Q (F0 m pc ls [.long r.1])) (hf : f_Mo_first n p0 p1 mLanguages mSize mGoes mLast mLeads = some out) (ls : Array Slot) (hP : va_P D vwCl (moW K h a mErr mLanguages mBounds mSize mGoes mLast mLeft mNext mGroup mFresh mLeader mNumber mRight mEnds mWay mVariable mFactor mLeast mMost mLength mWord mKept mMany mMore mLeads mMet mTodo mMay mTries) H) (hD : va_D A (moW K h a mErr mLanguages mBounds mSize mGoes mLast mLeft mNext mGroup mFresh mLeader mNumber mRight mEnds mWay mVariable mFactor mLeast mMost mLength mWord mKept mMany mMore mLeads mMet mTodo mMay mTries)) (hS : va_S A H0 H locs) (hl : lv_has ls 3 [(0, .ref h), (1, .int p0), (2, .int p1)]) : W p l e R s m args below meth c H locs cells slots Q (F0 m 0 ls []) := by
  unfold f_Mo_first at hf
  refine lv_aload_n hx hb d_Mo_first_0 rfl (lv_at hl 0 rfl) ?_
  refine lv_iconst (v := 0) hx hb d_Mo_first_1 (by decide) ?_
  refine va_put (D := D) (ci := 0) (v := .int 0) (ty := .int) (C := R_Mo) (T := T_Mo) (N := 29) hx hb hts in_Mo t_Mo t_Mo_ok n_Mo hown hK hP hD hS 0 rfl rfl 0 (by decide) (hts _ fl_Mo_84) (fun _ h9 => h9) rfl (by decide +kernel) rfl rfl (Nat.le_of_ble_eq_true rfl) d_Mo_first_2 (fun H locs hP hD hS => ?_)
  have hP : va_P D vwCl (moW K h a 0 mLanguages mBounds mSize mGoes mLast mLeft mNext mGroup mFresh mLeader mNumber mRight mEnds mWay mVariable mFactor mLeast mMost mLength mWord mKept mMany mMore mLeads mMet mTodo mMay mTries) H := hP
  have hD : va_D A (moW K h a 0 mLanguages mBounds mSize mGoes mLast mLeft mNext mGroup mFresh mLeader mNumber mRight mEnds mWay mVariable mFactor mLeast mMost mLength mWord mKept mMany mMore mLeads mMet mTodo mMay mTries) := hD
  refine lv_aload_n hx hb d_Mo_first_5 rfl (lv_at hl 0 rfl) ?_
  refine lv_aload_n hx hb d_Mo_first_6 rfl (lv_at hl 0 rfl) ?_
  refine lv_iload_n hx hb d_Mo_first_7 rfl (lv_at hl 1 rfl) ?_
  obtain ⟨u1, eu1, hf⟩ := obd hf
  refine p_call (W.runV (As := [.int p0]) (rest := [.ref h]) ⟨hx, hb, hml, hown, hts⟩ (c_Mo_isLanguage l eu1) (gV 1 hts cd_Mo_isLanguage ml_Mo_138 im_Mo_isLanguage se_Mo_isLanguage ini_Mo rfl rfl pd_Mo_isLanguage ⟨Nat.le_trans (Nat.le_of_ble_eq_true rfl) hRf, Nat.le_trans (Nat.le_of_ble_eq_true rfl) hRl⟩) ⟨pPre_blind, va_recv hK hP (ci := 0) (q0 := 0) rfl rfl, pPre_of hP hK⟩ rfl rfl hl.1 rfl (lv_room (Nat.le_of_ble_eq_true rfl)) d_Mo_first_8 ⟨hRc, hRs⟩) ?_
  refine bz_eq (tgt := 26) hx hb d_Mo_first_11 (by decide) (fun c2 => ?_) (fun c2 => ?_)
  · rw [if_neg c2] at hf
    refine lv_iconst (v := 1) hx hb d_Mo_first_26 (by decide) ?_
    refine lv_goto (tgt := 31) hx hb d_Mo_first_27 (by decide) ?_
    refine lv_iconst (v := 1) hx hb d_Mo_first_31 (by decide) ?_
    obtain ⟨u3, eu3, hf⟩ := obd hf
    refine w_call (va_runV (As := [.int (bI true), .int 1]) (rest := []) ⟨hx, hb, hml, hown, hts⟩ (c_Mo_fails l H.size eu3) (gV 2 hts cd_Mo_fails ml_Mo_124 im_Mo_fails se_Mo_fails ini_Mo rfl rfl pd_Mo_fails ⟨Nat.le_trans (Nat.le_of_ble_eq_true rfl) hRf, Nat.le_trans (Nat.le_of_ble_eq_true rfl) hRl⟩) ⟨wPre_blind, va_recv hK hP (ci := 0) (q0 := 0) rfl rfl, wPre_of hP hK hD⟩ rfl rfl hl.1 rfl (lv_room (Nat.le_of_ble_eq_true rfl)) d_Mo_first_32 ⟨hRc, hRs⟩) hD hS hA (fun H locs hP hD hS => ?_)
    have hP : va_P D vwCl (moW K h a u3.2 mLanguages mBounds mSize mGoes mLast mLeft mNext mGroup mFresh mLeader mNumber mRight mEnds mWay mVariable mFactor mLeast mMost mLength mWord mKept mMany mMore mLeads mMet mTodo mMay mTries) H := hP
    have hD : va_D A (moW K h a u3.2 mLanguages mBounds mSize mGoes mLast mLeft mNext mGroup mFresh mLeader mNumber mRight mEnds mWay mVariable mFactor mLeast mMost mLength mWord mKept mMany mMore mLeads mMet mTodo mMay mTries) := hD
    refine bz_eq (tgt := 40) hx hb d_Mo_first_35 (by decide) (fun c4 => ?_) (fun c4 => ?_)
    · rw [if_neg c4] at hf
      refine lv_aload_n hx hb d_Mo_first_40 rfl (lv_at hl 0 rfl) ?_
      refine lv_iload_n hx hb d_Mo_first_41 rfl (lv_at hl 1 rfl) ?_
      refine lv_iload_n hx hb d_Mo_first_42 rfl (lv_at hl 2 rfl) ?_
      obtain ⟨u5, eu5, hf⟩ := obd hf
      refine w_call (va_runV (As := [.int p0, .int p1]) (rest := []) ⟨hx, hb, hml, hown, hts⟩ (c_Mo_lead l H.size eu5) (gV 2 hts cd_Mo_lead ml_Mo_154 im_Mo_lead se_Mo_lead ini_Mo rfl rfl pd_Mo_lead ⟨Nat.le_trans (Nat.le_of_ble_eq_true rfl) hRf, Nat.le_trans (Nat.le_of_ble_eq_true rfl) hRl⟩) ⟨wPre_blind, va_recv hK hP (ci := 0) (q0 := 0) rfl rfl, wPre_of hP hK hD⟩ rfl rfl hl.1 rfl (lv_room (Nat.le_of_ble_eq_true rfl)) d_Mo_first_43 ⟨hRc, hRs⟩) hD hS hA (fun H locs hP hD hS => ?_)
      have hP : va_P D vwCl (moW K h a u3.2 mLanguages mBounds mSize mGoes mLast mLeft mNext mGroup mFresh mLeader mNumber mRight mEnds mWay mVariable mFactor mLeast mMost mLength mWord mKept mMany mMore u5 mMet mTodo mMay mTries) H := hP
      have hD : va_D A (moW K h a u3.2 mLanguages mBounds mSize mGoes mLast mLeft mNext mGroup mFresh mLeader mNumber mRight mEnds mWay mVariable mFactor mLeast mMost mLength mWord mKept mMany mMore u5 mMet mTodo mMay mTries) := hD
      refine lv_aload_n hx hb d_Mo_first_46 rfl (lv_at hl 0 rfl) ?_
      refine lv_aload_n hx hb d_Mo_first_47 rfl (lv_at hl 0 rfl) ?_
      refine va_get (D := D) (ci := 0) (v := .ref (a 19)) (C := R_Mo) (T := T_Mo) (N := 29) hx hb hts in_Mo hown hK hP 0 rfl rfl 24 (by decide) (hts _ fl_Mo_69) (fun _ h9 => h9) rfl d_Mo_first_48 ?_
      refine lv_iload_n hx hb d_Mo_first_51 rfl (lv_at hl 2 rfl) ?_
      obtain ⟨g6, hf⟩ := ogi hf
      refine va_lald hx hb hK hP 20 1 rfl rfl (gin_in g6) d_Mo_first_52 ?_
      refine lv_lconst (v := 1) hx hb d_Mo_first_53 (by decide) ?_
      refine lv_land hx hb d_Mo_first_54 ?_
      refine lv_lconst (v := 0) hx hb d_Mo_first_55 (by decide) ?_
      refine W.lcmp hx hb d_Mo_first_56 ?_
      refine lc_ne (tgt := 64) hx hb d_Mo_first_57 (by decide) (fun c7 => ?_) (fun c7 => ?_)
      · rw [if_neg c7] at hf
        refine lv_iconst (v := 0) hx hb d_Mo_first_64 (by decide) ?_
        refine lv_iconst (v := 2) hx hb d_Mo_first_65 (by decide) ?_
        obtain ⟨u8, eu8, hf⟩ := obd hf
        refine w_call (va_runV (As := [.int (bI false), .int 2]) (rest := []) ⟨hx, hb, hml, hown, hts⟩ (c_Mo_fails l H.size eu8) (gV 2 hts cd_Mo_fails ml_Mo_124 im_Mo_fails se_Mo_fails ini_Mo rfl rfl pd_Mo_fails ⟨Nat.le_trans (Nat.le_of_ble_eq_true rfl) hRf, Nat.le_trans (Nat.le_of_ble_eq_true rfl) hRl⟩) ⟨wPre_blind, va_recv hK hP (ci := 0) (q0 := 0) rfl rfl, wPre_of hP hK hD⟩ rfl rfl hl.1 rfl (lv_room (Nat.le_of_ble_eq_true rfl)) d_Mo_first_66 ⟨hRc, hRs⟩) hD hS hA (fun H locs hP hD hS => ?_)
        have hP : va_P D vwCl (moW K h a u8.2 mLanguages mBounds mSize mGoes mLast mLeft mNext mGroup mFresh mLeader mNumber mRight mEnds mWay mVariable mFactor mLeast mMost mLength mWord mKept mMany mMore u5 mMet mTodo mMay mTries) H := hP
        have hD : va_D A (moW K h a u8.2 mLanguages mBounds mSize mGoes mLast mLeft mNext mGroup mFresh mLeader mNumber mRight mEnds mWay mVariable mFactor mLeast mMost mLength mWord mKept mMany mMore u5 mMet mTodo mMay mTries) := hD
        refine bz_eq (tgt := 76) hx hb d_Mo_first_69 (by decide) (fun c9 => ?_) (fun c9 => ?_)
        · rw [if_neg c9] at hf
          refine lv_aload_n hx hb d_Mo_first_76 rfl (lv_at hl 0 rfl) ?_
          refine lv_iload_n hx hb d_Mo_first_77 rfl (lv_at hl 1 rfl) ?_
          refine lv_iload_n hx hb d_Mo_first_78 rfl (lv_at hl 2 rfl) ?_
          obtain ⟨u10, eu10, hf⟩ := obd hf
          refine p_call (W.runV (As := [.int p0, .int p1]) (rest := []) ⟨hx, hb, hml, hown, hts⟩ (c_Mo_firstWord l eu10) (gV 2 hts cd_Mo_firstWord ml_Mo_158 im_Mo_firstWord se_Mo_firstWord ini_Mo rfl rfl pd_Mo_firstWord ⟨Nat.le_trans (Nat.le_of_ble_eq_true rfl) hRf, Nat.le_trans (Nat.le_of_ble_eq_true rfl) hRl⟩) ⟨pPre_blind, va_recv hK hP (ci := 0) (q0 := 0) rfl rfl, pPre_of hP hK⟩ rfl rfl hl.1 rfl (lv_room (Nat.le_of_ble_eq_true rfl)) d_Mo_first_79 ⟨hRc, hRs⟩) ?_
          exact Kr _ (Option.some.inj hf).symm _ _ _ _ d_Mo_first_82 hP hD hS
        · rw [if_pos c9] at hf
          refine lv_lconst (v := 0) hx hb d_Mo_first_72 (by decide) ?_
          refine lv_goto (tgt := 82) hx hb d_Mo_first_73 (by decide) ?_
          exact Kr _ (Option.some.inj hf).symm _ _ _ _ d_Mo_first_82 hP hD hS
      · rw [if_pos c7] at hf
        refine lv_iconst (v := 1) hx hb d_Mo_first_60 (by decide) ?_
        refine lv_goto (tgt := 65) hx hb d_Mo_first_61 (by decide) ?_
        refine lv_iconst (v := 2) hx hb d_Mo_first_65 (by decide) ?_
        obtain ⟨u11, eu11, hf⟩ := obd hf
        refine w_call (va_runV (As := [.int (bI true), .int 2]) (rest := []) ⟨hx, hb, hml, hown, hts⟩ (c_Mo_fails l H.size eu11) (gV 2 hts cd_Mo_fails ml_Mo_124 im_Mo_fails se_Mo_fails ini_Mo rfl rfl pd_Mo_fails ⟨Nat.le_trans (Nat.le_of_ble_eq_true rfl) hRf, Nat.le_trans (Nat.le_of_ble_eq_true rfl) hRl⟩) ⟨wPre_blind, va_recv hK hP (ci := 0) (q0 := 0) rfl rfl, wPre_of hP hK hD⟩ rfl rfl hl.1 rfl (lv_room (Nat.le_of_ble_eq_true rfl)) d_Mo_first_66 ⟨hRc, hRs⟩) hD hS hA (fun H locs hP hD hS => ?_)
        have hP : va_P D vwCl (moW K h a u11.2 mLanguages mBounds mSize mGoes mLast mLeft mNext mGroup mFresh mLeader mNumber mRight mEnds mWay mVariable mFactor mLeast mMost mLength mWord mKept mMany mMore u5 mMet mTodo mMay mTries) H := hP
        have hD : va_D A (moW K h a u11.2 mLanguages mBounds mSize mGoes mLast mLeft mNext mGroup mFresh mLeader mNumber mRight mEnds mWay mVariable mFactor mLeast mMost mLength mWord mKept mMany mMore u5 mMet mTodo mMay mTries) := hD
        refine bz_eq (tgt := 76) hx hb d_Mo_first_69 (by decide) (fun c12 => ?_) (fun c12 => ?_)
        · rw [if_neg c12] at hf
          refine lv_aload_n hx hb d_Mo_first_76 rfl (lv_at hl 0 rfl) ?_
          refine lv_iload_n hx hb d_Mo_first_77 rfl (lv_at hl 1 rfl) ?_
          refine lv_iload_n hx hb d_Mo_first_78 rfl (lv_at hl 2 rfl) ?_
          obtain ⟨u13, eu13, hf⟩ := obd hf
          refine p_call (W.runV (As := [.int p0, .int p1]) (rest := []) ⟨hx, hb, hml, hown, hts⟩ (c_Mo_firstWord l eu13) (gV 2 hts cd_Mo_firstWord ml_Mo_158 im_Mo_firstWord se_Mo_firstWord ini_Mo rfl rfl pd_Mo_firstWord ⟨Nat.le_trans (Nat.le_of_ble_eq_true rfl) hRf, Nat.le_trans (Nat.le_of_ble_eq_true rfl) hRl⟩) ⟨pPre_blind, va_recv hK hP (ci := 0) (q0 := 0) rfl rfl, pPre_of hP hK⟩ rfl rfl hl.1 rfl (lv_room (Nat.le_of_ble_eq_true rfl)) d_Mo_first_79 ⟨hRc, hRs⟩) ?_
          exact Kr _ (Option.some.inj hf).symm _ _ _ _ d_Mo_first_82 hP hD hS
        · rw [if_pos c12] at hf
          refine lv_lconst (v := 0) hx hb d_Mo_first_72 (by decide) ?_
          refine lv_goto (tgt := 82) hx hb d_Mo_first_73 (by decide) ?_
          exact Kr _ (Option.some.inj hf).symm _ _ _ _ d_Mo_first_82 hP hD hS
    · rw [if_pos c4] at hf
      refine lv_lconst (v := 0) hx hb d_Mo_first_38 (by decide) ?_
      exact Kr _ (Option.some.inj hf).symm _ _ _ _ d_Mo_first_39 hP hD hS
  · rw [if_pos c2] at hf
    refine lv_iload_n hx hb d_Mo_first_14 rfl (lv_at hl 2 rfl) ?_
    refine lv_i2l (v := p1.toInt64) hx hb d_Mo_first_15 rfl ?_
    refine lv_lconst (v := 0) hx hb d_Mo_first_16 (by decide) ?_
    refine lv_ldc2 (v := 31) hx hb hown (hts (.constantLong "RegularSolverModel" 150 31) (by decide +kernel)) d_Mo_first_17 ?_
    obtain ⟨u14, eu14, hf⟩ := obd hf
    refine p_call (W.runS (As := [.long p1.toInt64, .long 0, .long 31]) (rest := [.ref h]) ⟨hx, hb, hml, hown, hts⟩ (c_Mo_in l eu14) (gS 3 hts cd_Mo_in ml_Mo_91 st_Mo_in ini_Mo rfl rfl pd_Mo_in ⟨Nat.le_trans (Nat.le_of_ble_eq_true rfl) hRf, Nat.le_trans (Nat.le_of_ble_eq_true rfl) hRl⟩) ⟨pPre_blind, pPre_of hP hK⟩ rfl rfl hl.1 rfl (lv_room (Nat.le_of_ble_eq_true rfl)) d_Mo_first_20 ⟨hRc, hRs⟩) ?_
    refine bz_ne (tgt := 30) hx hb d_Mo_first_23 (by decide) (fun c15 => ?_) (fun c15 => ?_)
    · rw [if_pos c15] at hf
      refine lv_iconst (v := 0) hx hb d_Mo_first_30 (by decide) ?_
      refine lv_iconst (v := 1) hx hb d_Mo_first_31 (by decide) ?_
      obtain ⟨u16, eu16, hf⟩ := obd hf
      refine w_call (va_runV (As := [.int (bI false), .int 1]) (rest := []) ⟨hx, hb, hml, hown, hts⟩ (c_Mo_fails l H.size eu16) (gV 2 hts cd_Mo_fails ml_Mo_124 im_Mo_fails se_Mo_fails ini_Mo rfl rfl pd_Mo_fails ⟨Nat.le_trans (Nat.le_of_ble_eq_true rfl) hRf, Nat.le_trans (Nat.le_of_ble_eq_true rfl) hRl⟩) ⟨wPre_blind, va_recv hK hP (ci := 0) (q0 := 0) rfl rfl, wPre_of hP hK hD⟩ rfl rfl hl.1 rfl (lv_room (Nat.le_of_ble_eq_true rfl)) d_Mo_first_32 ⟨hRc, hRs⟩) hD hS hA (fun H locs hP hD hS => ?_)
      have hP : va_P D vwCl (moW K h a u16.2 mLanguages mBounds mSize mGoes mLast mLeft mNext mGroup mFresh mLeader mNumber mRight mEnds mWay mVariable mFactor mLeast mMost mLength mWord mKept mMany mMore mLeads mMet mTodo mMay mTries) H := hP
      have hD : va_D A (moW K h a u16.2 mLanguages mBounds mSize mGoes mLast mLeft mNext mGroup mFresh mLeader mNumber mRight mEnds mWay mVariable mFactor mLeast mMost mLength mWord mKept mMany mMore mLeads mMet mTodo mMay mTries) := hD
      refine bz_eq (tgt := 40) hx hb d_Mo_first_35 (by decide) (fun c17 => ?_) (fun c17 => ?_)
      · rw [if_neg c17] at hf
        refine lv_aload_n hx hb d_Mo_first_40 rfl (lv_at hl 0 rfl) ?_
        refine lv_iload_n hx hb d_Mo_first_41 rfl (lv_at hl 1 rfl) ?_
        refine lv_iload_n hx hb d_Mo_first_42 rfl (lv_at hl 2 rfl) ?_
        obtain ⟨u18, eu18, hf⟩ := obd hf
        refine w_call (va_runV (As := [.int p0, .int p1]) (rest := []) ⟨hx, hb, hml, hown, hts⟩ (c_Mo_lead l H.size eu18) (gV 2 hts cd_Mo_lead ml_Mo_154 im_Mo_lead se_Mo_lead ini_Mo rfl rfl pd_Mo_lead ⟨Nat.le_trans (Nat.le_of_ble_eq_true rfl) hRf, Nat.le_trans (Nat.le_of_ble_eq_true rfl) hRl⟩) ⟨wPre_blind, va_recv hK hP (ci := 0) (q0 := 0) rfl rfl, wPre_of hP hK hD⟩ rfl rfl hl.1 rfl (lv_room (Nat.le_of_ble_eq_true rfl)) d_Mo_first_43 ⟨hRc, hRs⟩) hD hS hA (fun H locs hP hD hS => ?_)
        have hP : va_P D vwCl (moW K h a u16.2 mLanguages mBounds mSize mGoes mLast mLeft mNext mGroup mFresh mLeader mNumber mRight mEnds mWay mVariable mFactor mLeast mMost mLength mWord mKept mMany mMore u18 mMet mTodo mMay mTries) H := hP
        have hD : va_D A (moW K h a u16.2 mLanguages mBounds mSize mGoes mLast mLeft mNext mGroup mFresh mLeader mNumber mRight mEnds mWay mVariable mFactor mLeast mMost mLength mWord mKept mMany mMore u18 mMet mTodo mMay mTries) := hD
        refine lv_aload_n hx hb d_Mo_first_46 rfl (lv_at hl 0 rfl) ?_
        refine lv_aload_n hx hb d_Mo_first_47 rfl (lv_at hl 0 rfl) ?_
        refine va_get (D := D) (ci := 0) (v := .ref (a 19)) (C := R_Mo) (T := T_Mo) (N := 29) hx hb hts in_Mo hown hK hP 0 rfl rfl 24 (by decide) (hts _ fl_Mo_69) (fun _ h9 => h9) rfl d_Mo_first_48 ?_
        refine lv_iload_n hx hb d_Mo_first_51 rfl (lv_at hl 2 rfl) ?_
        obtain ⟨g19, hf⟩ := ogi hf
        refine va_lald hx hb hK hP 20 1 rfl rfl (gin_in g19) d_Mo_first_52 ?_
        refine lv_lconst (v := 1) hx hb d_Mo_first_53 (by decide) ?_
        refine lv_land hx hb d_Mo_first_54 ?_
        refine lv_lconst (v := 0) hx hb d_Mo_first_55 (by decide) ?_
        refine W.lcmp hx hb d_Mo_first_56 ?_
        refine lc_ne (tgt := 64) hx hb d_Mo_first_57 (by decide) (fun c20 => ?_) (fun c20 => ?_)
        · rw [if_neg c20] at hf
          refine lv_iconst (v := 0) hx hb d_Mo_first_64 (by decide) ?_
          refine lv_iconst (v := 2) hx hb d_Mo_first_65 (by decide) ?_
          obtain ⟨u21, eu21, hf⟩ := obd hf
          refine w_call (va_runV (As := [.int (bI false), .int 2]) (rest := []) ⟨hx, hb, hml, hown, hts⟩ (c_Mo_fails l H.size eu21) (gV 2 hts cd_Mo_fails ml_Mo_124 im_Mo_fails se_Mo_fails ini_Mo rfl rfl pd_Mo_fails ⟨Nat.le_trans (Nat.le_of_ble_eq_true rfl) hRf, Nat.le_trans (Nat.le_of_ble_eq_true rfl) hRl⟩) ⟨wPre_blind, va_recv hK hP (ci := 0) (q0 := 0) rfl rfl, wPre_of hP hK hD⟩ rfl rfl hl.1 rfl (lv_room (Nat.le_of_ble_eq_true rfl)) d_Mo_first_66 ⟨hRc, hRs⟩) hD hS hA (fun H locs hP hD hS => ?_)
          have hP : va_P D vwCl (moW K h a u21.2 mLanguages mBounds mSize mGoes mLast mLeft mNext mGroup mFresh mLeader mNumber mRight mEnds mWay mVariable mFactor mLeast mMost mLength mWord mKept mMany mMore u18 mMet mTodo mMay mTries) H := hP
          have hD : va_D A (moW K h a u21.2 mLanguages mBounds mSize mGoes mLast mLeft mNext mGroup mFresh mLeader mNumber mRight mEnds mWay mVariable mFactor mLeast mMost mLength mWord mKept mMany mMore u18 mMet mTodo mMay mTries) := hD
          refine bz_eq (tgt := 76) hx hb d_Mo_first_69 (by decide) (fun c22 => ?_) (fun c22 => ?_)
          · rw [if_neg c22] at hf
            refine lv_aload_n hx hb d_Mo_first_76 rfl (lv_at hl 0 rfl) ?_
            refine lv_iload_n hx hb d_Mo_first_77 rfl (lv_at hl 1 rfl) ?_
            refine lv_iload_n hx hb d_Mo_first_78 rfl (lv_at hl 2 rfl) ?_
            obtain ⟨u23, eu23, hf⟩ := obd hf
            refine p_call (W.runV (As := [.int p0, .int p1]) (rest := []) ⟨hx, hb, hml, hown, hts⟩ (c_Mo_firstWord l eu23) (gV 2 hts cd_Mo_firstWord ml_Mo_158 im_Mo_firstWord se_Mo_firstWord ini_Mo rfl rfl pd_Mo_firstWord ⟨Nat.le_trans (Nat.le_of_ble_eq_true rfl) hRf, Nat.le_trans (Nat.le_of_ble_eq_true rfl) hRl⟩) ⟨pPre_blind, va_recv hK hP (ci := 0) (q0 := 0) rfl rfl, pPre_of hP hK⟩ rfl rfl hl.1 rfl (lv_room (Nat.le_of_ble_eq_true rfl)) d_Mo_first_79 ⟨hRc, hRs⟩) ?_
            exact Kr _ (Option.some.inj hf).symm _ _ _ _ d_Mo_first_82 hP hD hS
          · rw [if_pos c22] at hf
            refine lv_lconst (v := 0) hx hb d_Mo_first_72 (by decide) ?_
            refine lv_goto (tgt := 82) hx hb d_Mo_first_73 (by decide) ?_
            exact Kr _ (Option.some.inj hf).symm _ _ _ _ d_Mo_first_82 hP hD hS
        · rw [if_pos c20] at hf
          refine lv_iconst (v := 1) hx hb d_Mo_first_60 (by decide) ?_
          refine lv_goto (tgt := 65) hx hb d_Mo_first_61 (by decide) ?_
          refine lv_iconst (v := 2) hx hb d_Mo_first_65 (by decide) ?_
          obtain ⟨u24, eu24, hf⟩ := obd hf
          refine w_call (va_runV (As := [.int (bI true), .int 2]) (rest := []) ⟨hx, hb, hml, hown, hts⟩ (c_Mo_fails l H.size eu24) (gV 2 hts cd_Mo_fails ml_Mo_124 im_Mo_fails se_Mo_fails ini_Mo rfl rfl pd_Mo_fails ⟨Nat.le_trans (Nat.le_of_ble_eq_true rfl) hRf, Nat.le_trans (Nat.le_of_ble_eq_true rfl) hRl⟩) ⟨wPre_blind, va_recv hK hP (ci := 0) (q0 := 0) rfl rfl, wPre_of hP hK hD⟩ rfl rfl hl.1 rfl (lv_room (Nat.le_of_ble_eq_true rfl)) d_Mo_first_66 ⟨hRc, hRs⟩) hD hS hA (fun H locs hP hD hS => ?_)
          have hP : va_P D vwCl (moW K h a u24.2 mLanguages mBounds mSize mGoes mLast mLeft mNext mGroup mFresh mLeader mNumber mRight mEnds mWay mVariable mFactor mLeast mMost mLength mWord mKept mMany mMore u18 mMet mTodo mMay mTries) H := hP
          have hD : va_D A (moW K h a u24.2 mLanguages mBounds mSize mGoes mLast mLeft mNext mGroup mFresh mLeader mNumber mRight mEnds mWay mVariable mFactor mLeast mMost mLength mWord mKept mMany mMore u18 mMet mTodo mMay mTries) := hD
          refine bz_eq (tgt := 76) hx hb d_Mo_first_69 (by decide) (fun c25 => ?_) (fun c25 => ?_)
          · rw [if_neg c25] at hf
            refine lv_aload_n hx hb d_Mo_first_76 rfl (lv_at hl 0 rfl) ?_
            refine lv_iload_n hx hb d_Mo_first_77 rfl (lv_at hl 1 rfl) ?_
            refine lv_iload_n hx hb d_Mo_first_78 rfl (lv_at hl 2 rfl) ?_
            obtain ⟨u26, eu26, hf⟩ := obd hf
            refine p_call (W.runV (As := [.int p0, .int p1]) (rest := []) ⟨hx, hb, hml, hown, hts⟩ (c_Mo_firstWord l eu26) (gV 2 hts cd_Mo_firstWord ml_Mo_158 im_Mo_firstWord se_Mo_firstWord ini_Mo rfl rfl pd_Mo_firstWord ⟨Nat.le_trans (Nat.le_of_ble_eq_true rfl) hRf, Nat.le_trans (Nat.le_of_ble_eq_true rfl) hRl⟩) ⟨pPre_blind, va_recv hK hP (ci := 0) (q0 := 0) rfl rfl, pPre_of hP hK⟩ rfl rfl hl.1 rfl (lv_room (Nat.le_of_ble_eq_true rfl)) d_Mo_first_79 ⟨hRc, hRs⟩) ?_
            exact Kr _ (Option.some.inj hf).symm _ _ _ _ d_Mo_first_82 hP hD hS
          · rw [if_pos c25] at hf
            refine lv_lconst (v := 0) hx hb d_Mo_first_72 (by decide) ?_
            refine lv_goto (tgt := 82) hx hb d_Mo_first_73 (by decide) ?_
            exact Kr _ (Option.some.inj hf).symm _ _ _ _ d_Mo_first_82 hP hD hS
      · rw [if_pos c17] at hf
        refine lv_lconst (v := 0) hx hb d_Mo_first_38 (by decide) ?_
        exact Kr _ (Option.some.inj hf).symm _ _ _ _ d_Mo_first_39 hP hD hS
    · rw [if_neg c15] at hf
      refine lv_iconst (v := 1) hx hb d_Mo_first_26 (by decide) ?_
      refine lv_goto (tgt := 31) hx hb d_Mo_first_27 (by decide) ?_
      refine lv_iconst (v := 1) hx hb d_Mo_first_31 (by decide) ?_
      obtain ⟨u27, eu27, hf⟩ := obd hf
      refine w_call (va_runV (As := [.int (bI true), .int 1]) (rest := []) ⟨hx, hb, hml, hown, hts⟩ (c_Mo_fails l H.size eu27) (gV 2 hts cd_Mo_fails ml_Mo_124 im_Mo_fails se_Mo_fails ini_Mo rfl rfl pd_Mo_fails ⟨Nat.le_trans (Nat.le_of_ble_eq_true rfl) hRf, Nat.le_trans (Nat.le_of_ble_eq_true rfl) hRl⟩) ⟨wPre_blind, va_recv hK hP (ci := 0) (q0 := 0) rfl rfl, wPre_of hP hK hD⟩ rfl rfl hl.1 rfl (lv_room (Nat.le_of_ble_eq_true rfl)) d_Mo_first_32 ⟨hRc, hRs⟩) hD hS hA (fun H locs hP hD hS => ?_)
      have hP : va_P D vwCl (moW K h a u27.2 mLanguages mBounds mSize mGoes mLast mLeft mNext mGroup mFresh mLeader mNumber mRight mEnds mWay mVariable mFactor mLeast mMost mLength mWord mKept mMany mMore mLeads mMet mTodo mMay mTries) H := hP
      have hD : va_D A (moW K h a u27.2 mLanguages mBounds mSize mGoes mLast mLeft mNext mGroup mFresh mLeader mNumber mRight mEnds mWay mVariable mFactor mLeast mMost mLength mWord mKept mMany mMore mLeads mMet mTodo mMay mTries) := hD
      refine bz_eq (tgt := 40) hx hb d_Mo_first_35 (by decide) (fun c28 => ?_) (fun c28 => ?_)
      · rw [if_neg c28] at hf
        refine lv_aload_n hx hb d_Mo_first_40 rfl (lv_at hl 0 rfl) ?_
        refine lv_iload_n hx hb d_Mo_first_41 rfl (lv_at hl 1 rfl) ?_
        refine lv_iload_n hx hb d_Mo_first_42 rfl (lv_at hl 2 rfl) ?_
        obtain ⟨u29, eu29, hf⟩ := obd hf
        refine w_call (va_runV (As := [.int p0, .int p1]) (rest := []) ⟨hx, hb, hml, hown, hts⟩ (c_Mo_lead l H.size eu29) (gV 2 hts cd_Mo_lead ml_Mo_154 im_Mo_lead se_Mo_lead ini_Mo rfl rfl pd_Mo_lead ⟨Nat.le_trans (Nat.le_of_ble_eq_true rfl) hRf, Nat.le_trans (Nat.le_of_ble_eq_true rfl) hRl⟩) ⟨wPre_blind, va_recv hK hP (ci := 0) (q0 := 0) rfl rfl, wPre_of hP hK hD⟩ rfl rfl hl.1 rfl (lv_room (Nat.le_of_ble_eq_true rfl)) d_Mo_first_43 ⟨hRc, hRs⟩) hD hS hA (fun H locs hP hD hS => ?_)
        have hP : va_P D vwCl (moW K h a u27.2 mLanguages mBounds mSize mGoes mLast mLeft mNext mGroup mFresh mLeader mNumber mRight mEnds mWay mVariable mFactor mLeast mMost mLength mWord mKept mMany mMore u29 mMet mTodo mMay mTries) H := hP
        have hD : va_D A (moW K h a u27.2 mLanguages mBounds mSize mGoes mLast mLeft mNext mGroup mFresh mLeader mNumber mRight mEnds mWay mVariable mFactor mLeast mMost mLength mWord mKept mMany mMore u29 mMet mTodo mMay mTries) := hD
        refine lv_aload_n hx hb d_Mo_first_46 rfl (lv_at hl 0 rfl) ?_
        refine lv_aload_n hx hb d_Mo_first_47 rfl (lv_at hl 0 rfl) ?_
        refine va_get (D := D) (ci := 0) (v := .ref (a 19)) (C := R_Mo) (T := T_Mo) (N := 29) hx hb hts in_Mo hown hK hP 0 rfl rfl 24 (by decide) (hts _ fl_Mo_69) (fun _ h9 => h9) rfl d_Mo_first_48 ?_
        refine lv_iload_n hx hb d_Mo_first_51 rfl (lv_at hl 2 rfl) ?_
        obtain ⟨g30, hf⟩ := ogi hf
        refine va_lald hx hb hK hP 20 1 rfl rfl (gin_in g30) d_Mo_first_52 ?_
        refine lv_lconst (v := 1) hx hb d_Mo_first_53 (by decide) ?_
        refine lv_land hx hb d_Mo_first_54 ?_
        refine lv_lconst (v := 0) hx hb d_Mo_first_55 (by decide) ?_
        refine W.lcmp hx hb d_Mo_first_56 ?_
        refine lc_ne (tgt := 64) hx hb d_Mo_first_57 (by decide) (fun c31 => ?_) (fun c31 => ?_)
        · rw [if_neg c31] at hf
          refine lv_iconst (v := 0) hx hb d_Mo_first_64 (by decide) ?_
          refine lv_iconst (v := 2) hx hb d_Mo_first_65 (by decide) ?_
          obtain ⟨u32, eu32, hf⟩ := obd hf
          refine w_call (va_runV (As := [.int (bI false), .int 2]) (rest := []) ⟨hx, hb, hml, hown, hts⟩ (c_Mo_fails l H.size eu32) (gV 2 hts cd_Mo_fails ml_Mo_124 im_Mo_fails se_Mo_fails ini_Mo rfl rfl pd_Mo_fails ⟨Nat.le_trans (Nat.le_of_ble_eq_true rfl) hRf, Nat.le_trans (Nat.le_of_ble_eq_true rfl) hRl⟩) ⟨wPre_blind, va_recv hK hP (ci := 0) (q0 := 0) rfl rfl, wPre_of hP hK hD⟩ rfl rfl hl.1 rfl (lv_room (Nat.le_of_ble_eq_true rfl)) d_Mo_first_66 ⟨hRc, hRs⟩) hD hS hA (fun H locs hP hD hS => ?_)
          have hP : va_P D vwCl (moW K h a u32.2 mLanguages mBounds mSize mGoes mLast mLeft mNext mGroup mFresh mLeader mNumber mRight mEnds mWay mVariable mFactor mLeast mMost mLength mWord mKept mMany mMore u29 mMet mTodo mMay mTries) H := hP
          have hD : va_D A (moW K h a u32.2 mLanguages mBounds mSize mGoes mLast mLeft mNext mGroup mFresh mLeader mNumber mRight mEnds mWay mVariable mFactor mLeast mMost mLength mWord mKept mMany mMore u29 mMet mTodo mMay mTries) := hD
          refine bz_eq (tgt := 76) hx hb d_Mo_first_69 (by decide) (fun c33 => ?_) (fun c33 => ?_)
          · rw [if_neg c33] at hf
            refine lv_aload_n hx hb d_Mo_first_76 rfl (lv_at hl 0 rfl) ?_
            refine lv_iload_n hx hb d_Mo_first_77 rfl (lv_at hl 1 rfl) ?_
            refine lv_iload_n hx hb d_Mo_first_78 rfl (lv_at hl 2 rfl) ?_
            obtain ⟨u34, eu34, hf⟩ := obd hf
            refine p_call (W.runV (As := [.int p0, .int p1]) (rest := []) ⟨hx, hb, hml, hown, hts⟩ (c_Mo_firstWord l eu34) (gV 2 hts cd_Mo_firstWord ml_Mo_158 im_Mo_firstWord se_Mo_firstWord ini_Mo rfl rfl pd_Mo_firstWord ⟨Nat.le_trans (Nat.le_of_ble_eq_true rfl) hRf, Nat.le_trans (Nat.le_of_ble_eq_true rfl) hRl⟩) ⟨pPre_blind, va_recv hK hP (ci := 0) (q0 := 0) rfl rfl, pPre_of hP hK⟩ rfl rfl hl.1 rfl (lv_room (Nat.le_of_ble_eq_true rfl)) d_Mo_first_79 ⟨hRc, hRs⟩) ?_
            exact Kr _ (Option.some.inj hf).symm _ _ _ _ d_Mo_first_82 hP hD hS
          · rw [if_pos c33] at hf
            refine lv_lconst (v := 0) hx hb d_Mo_first_72 (by decide) ?_
            refine lv_goto (tgt := 82) hx hb d_Mo_first_73 (by decide) ?_
            exact Kr _ (Option.some.inj hf).symm _ _ _ _ d_Mo_first_82 hP hD hS
        · rw [if_pos c31] at hf
          refine lv_iconst (v := 1) hx hb d_Mo_first_60 (by decide) ?_
          refine lv_goto (tgt := 65) hx hb d_Mo_first_61 (by decide) ?_
          refine lv_iconst (v := 2) hx hb d_Mo_first_65 (by decide) ?_
          obtain ⟨u35, eu35, hf⟩ := obd hf
          refine w_call (va_runV (As := [.int (bI true), .int 2]) (rest := []) ⟨hx, hb, hml, hown, hts⟩ (c_Mo_fails l H.size eu35) (gV 2 hts cd_Mo_fails ml_Mo_124 im_Mo_fails se_Mo_fails ini_Mo rfl rfl pd_Mo_fails ⟨Nat.le_trans (Nat.le_of_ble_eq_true rfl) hRf, Nat.le_trans (Nat.le_of_ble_eq_true rfl) hRl⟩) ⟨wPre_blind, va_recv hK hP (ci := 0) (q0 := 0) rfl rfl, wPre_of hP hK hD⟩ rfl rfl hl.1 rfl (lv_room (Nat.le_of_ble_eq_true rfl)) d_Mo_first_66 ⟨hRc, hRs⟩) hD hS hA (fun H locs hP hD hS => ?_)
          have hP : va_P D vwCl (moW K h a u35.2 mLanguages mBounds mSize mGoes mLast mLeft mNext mGroup mFresh mLeader mNumber mRight mEnds mWay mVariable mFactor mLeast mMost mLength mWord mKept mMany mMore u29 mMet mTodo mMay mTries) H := hP
          have hD : va_D A (moW K h a u35.2 mLanguages mBounds mSize mGoes mLast mLeft mNext mGroup mFresh mLeader mNumber mRight mEnds mWay mVariable mFactor mLeast mMost mLength mWord mKept mMany mMore u29 mMet mTodo mMay mTries) := hD
          refine bz_eq (tgt := 76) hx hb d_Mo_first_69 (by decide) (fun c36 => ?_) (fun c36 => ?_)
          · rw [if_neg c36] at hf
            refine lv_aload_n hx hb d_Mo_first_76 rfl (lv_at hl 0 rfl) ?_
            refine lv_iload_n hx hb d_Mo_first_77 rfl (lv_at hl 1 rfl) ?_
            refine lv_iload_n hx hb d_Mo_first_78 rfl (lv_at hl 2 rfl) ?_
            obtain ⟨u37, eu37, hf⟩ := obd hf
            refine p_call (W.runV (As := [.int p0, .int p1]) (rest := []) ⟨hx, hb, hml, hown, hts⟩ (c_Mo_firstWord l eu37) (gV 2 hts cd_Mo_firstWord ml_Mo_158 im_Mo_firstWord se_Mo_firstWord ini_Mo rfl rfl pd_Mo_firstWord ⟨Nat.le_trans (Nat.le_of_ble_eq_true rfl) hRf, Nat.le_trans (Nat.le_of_ble_eq_true rfl) hRl⟩) ⟨pPre_blind, va_recv hK hP (ci := 0) (q0 := 0) rfl rfl, pPre_of hP hK⟩ rfl rfl hl.1 rfl (lv_room (Nat.le_of_ble_eq_true rfl)) d_Mo_first_79 ⟨hRc, hRs⟩) ?_
            exact Kr _ (Option.some.inj hf).symm _ _ _ _ d_Mo_first_82 hP hD hS
          · rw [if_pos c36] at hf
            refine lv_lconst (v := 0) hx hb d_Mo_first_72 (by decide) ?_
            refine lv_goto (tgt := 82) hx hb d_Mo_first_73 (by decide) ?_
            exact Kr _ (Option.some.inj hf).symm _ _ _ _ d_Mo_first_82 hP hD hS
      · rw [if_pos c28] at hf
        refine lv_lconst (v := 0) hx hb d_Mo_first_38 (by decide) ?_
        exact Kr _ (Option.some.inj hf).symm _ _ _ _ d_Mo_first_39 hP hD hS
set_option maxHeartbeats 4000000 in
set_option maxRecDepth 100000 in
theorem c_Mo_first (l : Launch)  {p0 : Int32} {p1 : Int32}  {r : Int64 × Int32 × (Nat → Int64)} (sz : Nat) (hf : f_Mo_first n p0 p1 mLanguages mSize mGoes mLast mLeads = some r) : Met l y_Mo_first w0_Mo_first ({ frames := 2, cells := 0, slots := 0, locals := 50 }) (wPre D K [.ref h, .int p0, .int p1] (moW K h a mErr mLanguages mBounds mSize mGoes mLast mLeft mNext mGroup mFresh mLeader mNumber mRight mEnds mWay mVariable mFactor mLeast mMost mLength mWord mKept mMany mMore mLeads mMet mTodo mMay mTries) sz) (wPost D K (some (.long r.1)) (moW K h a r.2.1 mLanguages mBounds mSize mGoes mLast mLeft mNext mGroup mFresh mLeader mNumber mRight mEnds mWay mVariable mFactor mLeast mMost mLength mWord mKept mMany mMore r.2.2 mMet mTodo mMay mTries) (va_A (moW K h a mErr mLanguages mBounds mSize mGoes mLast mLeft mNext mGroup mFresh mLeader mNumber mRight mEnds mWay mVariable mFactor mLeast mMost mLength mWord mKept mMany mMore mLeads mMet mTodo mMay mTries) sz)) 0 0 (va_A (moW K h a mErr mLanguages mBounds mSize mGoes mLast mLeft mNext mGroup mFresh mLeader mNumber mRight mEnds mWay mVariable mFactor mLeast mMost mLength mWord mKept mMany mMore mLeads mMet mTodo mMay mTries) sz) := by
  refine Met.ofW (cc := b_Mo_first) (maxL := 3) (ret := (some .long)) (by decide) rfl ?_
  intro p e s m args below meth c s₁ B hml hv
  obtain ⟨rfl, hsz, hP, hK, hD0⟩ := hv
  subst hsz
  have hl := lv_entry [.ref h, .int p0, .int p1] (n := 3) (Nat.le_of_ble_eq_true rfl)
  rw [lg_entry_eq]
  generalize (lg_sl [.ref h, .int p0, .int p1] ++ List.replicate (3 - (lg_sl [.ref h, .int p0, .int p1]).length) Slot.unset).toArray = ls at hl ⊢
  refine w_Mo_first (A := va_A (moW K h a mErr mLanguages mBounds mSize mGoes mLast mLeft mNext mGroup mFresh mLeader mNumber mRight mEnds mWay mVariable mFactor mLeast mMost mLength mWord mKept mMany mMore mLeads mMet mTodo mMay mTries) s.heap.size) (H0 := s.heap) B.exec B.bytes hml (fun w hw => atoms_spec (ws := w0_Mo_first) B.pre w (List.mem_cons_of_mem _ hw)) (findClass_of_methodNamed B.named) hK (Nat.le_refl _) (Nat.le_refl _) (Nat.zero_le _) (Nat.zero_le _) (fun q h => Or.inr h) (fun r er pc ls H locs hd hP hD hS => ?_) hf ls hP (hD0.self (sz := s.heap.size)) va_S.rf hl
  subst er
  exact W.lret B.exec B.bytes B.returns (fun t ht hW => ⟨⟨rfl, by rw [ht]; exact hP, va_K.moved hW.alike hK, hD⟩, hS.F ht⟩) hS.2.2 hd (hlocks := B.notSynchronized)
theorem pd_Mo_shortest : y_Mo_shortest.cls ≠ "java/lang/invoke/MethodHandle" ∧ y_Mo_shortest.cls ≠ "java/lang/invoke/VarHandle" ∧ (parseMethodDescriptor y_Mo_shortest.desc).map (fun d => d.parameters.length) = some 1 := by decide +kernel
def f_Mo_shortest_62 (n : Nat) (v2 : Int64) (v1 : Int32) (mSize : Nat → Int32) (mGoes : Nat → Int32) : Nat → Int32 → Int64 → Option (Int32 × Int64)
  | 0, _, _ => none
  | k + 1, v7, v5 =>
    if 4 ≤ v7 then
      some (v7, v5)
    else
      (f_Mo_step n v1 v2 v7 mSize mGoes).bind fun u17 =>
      f_Mo_shortest_62 n v2 v1 mSize mGoes k (v7 + 1) (v5 ||| u17)
set_option maxHeartbeats 4000000 in
set_option maxRecDepth 100000 in
theorem w_Mo_shortest_62  {v4 : Int32} {v2 : Int64} {v1 : Int32} (hx : p.tables.exec = Jvm.exec) (hb : c.code = b_Mo_shortest) (hml : c.maxLocals = 8) (hts : ∀ w ∈ gW, w.before args s = true) (hown : s.vm.findClass "RegularSolverModel" = some m.cls) (hK : va_K D vwCl (tG K) s) (hRf : 2 ≤ R.frames) (hRl : 50 ≤ R.locals) (hRc : cells ≤ R.cells) (hRs : slots ≤ R.slots) (hA : ∀ q, H0.size ≤ q → A q)  {out : Int32 × Int64} (Kx : ∀ (u : Int32 × Int64), out = u → ∀ (ls : Array Slot) (H : Heap) (locs : List Loc), va_P D vwCl (moW K h a mErr mLanguages mBounds mSize mGoes mLast mLeft mNext mGroup mFresh mLeader mNumber mRight mEnds mWay mVariable mFactor mLeast mMost mLength mWord mKept mMany mMore mLeads mMet mTodo mMay mTries) H → va_D A (moW K h a mErr mLanguages mBounds mSize mGoes mLast mLeft mNext mGroup mFresh mLeader mNumber mRight mEnds mWay mVariable mFactor mLeast mMost mLength mWord mKept mMany mMore mLeads mMet mTodo mMay mTries) → va_S A H0 H locs → lv_has ls 8 [(5, .long u.2), (4, .int v4), (0, .ref h), (1, .int v1)] → W p l e R s m args below meth c H locs cells slots Q (F0 m 87 ls [])) :
    ∀ (k : Nat) (v7 : Int32) (v5 : Int64), f_Mo_shortest_62 n v2 v1 mSize mGoes k v7 v5 = some out → ∀ (ls : Array Slot) (H : Heap) (locs : List Loc), va_P D vwCl (moW K h a mErr mLanguages mBounds mSize mGoes mLast mLeft mNext mGroup mFresh mLeader mNumber mRight mEnds mWay mVariable mFactor mLeast mMost mLength mWord mKept mMany mMore mLeads mMet mTodo mMay mTries) H → va_D A (moW K h a mErr mLanguages mBounds mSize mGoes mLast mLeft mNext mGroup mFresh mLeader mNumber mRight mEnds mWay mVariable mFactor mLeast mMost mLength mWord mKept mMany mMore mLeads mMet mTodo mMay mTries) → va_S A H0 H locs → lv_has ls 8 [(7, .int v7), (5, .long v5), (4, .int v4), (2, .long v2), (0, .ref h), (1, .int v1)] → W p l e R s m args below meth c H locs cells slots Q (F0 m 62 ls []) := by
  intro k
  induction k with
  | zero => intro _ _ hf; exact nomatch (show none = some out from hf)
  | succ k ih =>
    intro v7 v5 hf ls H locs hP hD hS hl
    rw [f_Mo_shortest_62] at hf
    refine lv_iload hx hb d_Mo_shortest_62 (lv_at hl 0 rfl) ?_
    refine lv_iconst (v := 4) hx hb d_Mo_shortest_64 (by decide) ?_
    refine lv_icmp_ge (tgt := 87) hx hb d_Mo_shortest_65 (by decide) (fun c16 => ?_) (fun c16 => ?_)
    · rw [if_pos c16] at hf
      exact Kx _ (Option.some.inj hf).symm _ _ _ hP hD hS (show lv_has ls 8 [(5, .long v5), (4, .int v4), (0, .ref h), (1, .int v1)] from lv_sub hl [1, 2, 4, 5] rfl)
    · rw [if_neg c16] at hf
      refine lv_lload hx hb d_Mo_shortest_68 (lv_at hl 1 rfl) ?_
      refine lv_aload_n hx hb d_Mo_shortest_70 rfl (lv_at hl 4 rfl) ?_
      refine lv_iload_n hx hb d_Mo_shortest_71 rfl (lv_at hl 5 rfl) ?_
      refine lv_lload_n hx hb d_Mo_shortest_72 rfl (lv_at hl 3 rfl) ?_
      refine lv_iload hx hb d_Mo_shortest_73 (lv_at hl 0 rfl) ?_
      obtain ⟨u17, eu17, hf⟩ := obd hf
      refine p_call (W.runV (As := [.int v1, .long v2, .int v7]) (rest := [.long v5]) ⟨hx, hb, hml, hown, hts⟩ (c_Mo_step l eu17) (gV 3 hts cd_Mo_step ml_Mo_117 im_Mo_step se_Mo_step ini_Mo rfl rfl pd_Mo_step ⟨Nat.le_trans (Nat.le_of_ble_eq_true rfl) hRf, Nat.le_trans (Nat.le_of_ble_eq_true rfl) hRl⟩) ⟨pPre_blind, va_recv hK hP (ci := 0) (q0 := 0) rfl rfl, pPre_of hP hK⟩ rfl rfl hl.1 rfl (lv_room (Nat.le_of_ble_eq_true rfl)) d_Mo_shortest_75 ⟨hRc, hRs⟩) ?_
      refine lv_lor hx hb d_Mo_shortest_78 ?_
      refine lv_lstore (lv' := [(5, .long (v5 ||| u17)), (7, .int v7), (4, .int v4), (2, .long v2), (0, .ref h), (1, .int v1)]) hx hb d_Mo_shortest_79 hl (by decide) rfl (fun ls hl => ?_)
      refine lv_iinc (v := v7 + 1) (lv' := [(7, .int (v7 + 1)), (5, .long (v5 ||| u17)), (4, .int v4), (2, .long v2), (0, .ref h), (1, .int v1)]) hx hb d_Mo_shortest_81 hl (k := 1) rfl (by first | rfl | (congr 1)) (by decide) rfl (fun ls hl => ?_)
      refine lv_goto (tgt := 62) hx hb d_Mo_shortest_84 (by decide) ?_
      exact ih _ _ hf _ _ _ hP hD hS (show lv_has ls 8 [(7, .int (v7 + 1)), (5, .long (v5 ||| u17)), (4, .int v4), (2, .long v2), (0, .ref h), (1, .int v1)] from lv_sub hl [0, 1, 2, 3, 4, 5] rfl)
def f_Mo_shortest_33 (n : Nat) (v1 : Int32) (mErr : Int32) (mSize : Nat → Int32) (mGoes : Nat → Int32) (mLast : Nat → Bool) : Nat → Int32 → Int64 → Option ((Int32 × Int32) ⊕ (Int32 × Int64))
  | 0, _, _ => none
  | k + 1, v4, v2 =>
    ogd (gin v1 60) <|
    if (mSize v1.toNatClampNeg) ≤ v4 then
      some (.inr (v4, v2))
    else
      (f_Mo_hasLast n v1 v2 mSize mLast).bind fun u14 =>
      if u14 = true then
        some (.inl (v4, mErr))
      else
        (f_Mo_shortest_62 n v2 v1 mSize mGoes n 0 0).bind fun u18 =>
        f_Mo_shortest_33 n v1 mErr mSize mGoes mLast k (v4 + 1) u18.2
set_option maxHeartbeats 4000000 in
set_option maxRecDepth 100000 in
theorem w_Mo_shortest_33  {v1 : Int32} (hx : p.tables.exec = Jvm.exec) (hb : c.code = b_Mo_shortest) (hml : c.maxLocals = 8) (hts : ∀ w ∈ gW, w.before args s = true) (hown : s.vm.findClass "RegularSolverModel" = some m.cls) (hK : va_K D vwCl (tG K) s) (hRf : 2 ≤ R.frames) (hRl : 50 ≤ R.locals) (hRc : cells ≤ R.cells) (hRs : slots ≤ R.slots) (hA : ∀ q, H0.size ≤ q → A q)  {out : (Int32 × Int32) ⊕ (Int32 × Int64)} (Kr : ∀ (r : Int32 × Int32), out = .inl r → ∀ (pc : Nat) (ls : Array Slot) (H : Heap) (locs : List Loc), decode b_Mo_shortest pc = .ok (.ireturn, 1) → va_P D vwCl (moW K h a r.2 mLanguages mBounds mSize mGoes mLast mLeft mNext mGroup mFresh mLeader mNumber mRight mEnds mWay mVariable mFactor mLeast mMost mLength mWord mKept mMany mMore mLeads mMet mTodo mMay mTries) H → va_D A (moW K h a r.2 mLanguages mBounds mSize mGoes mLast mLeft mNext mGroup mFresh mLeader mNumber mRight mEnds mWay mVariable mFactor mLeast mMost mLength mWord mKept mMany mMore mLeads mMet mTodo mMay mTries) → va_S A H0 H locs → W p l e R s m args below meth c H locs cells slots Q (F0 m pc ls [.int r.1])) (Kx : ∀ (u : Int32 × Int64), out = .inr u → ∀ (ls : Array Slot) (H : Heap) (locs : List Loc), va_P D vwCl (moW K h a mErr mLanguages mBounds mSize mGoes mLast mLeft mNext mGroup mFresh mLeader mNumber mRight mEnds mWay mVariable mFactor mLeast mMost mLength mWord mKept mMany mMore mLeads mMet mTodo mMay mTries) H → va_D A (moW K h a mErr mLanguages mBounds mSize mGoes mLast mLeft mNext mGroup mFresh mLeader mNumber mRight mEnds mWay mVariable mFactor mLeast mMost mLength mWord mKept mMany mMore mLeads mMet mTodo mMay mTries) → va_S A H0 H locs → lv_has ls 8 [] → W p l e R s m args below meth c H locs cells slots Q (F0 m 96 ls [])) :
    ∀ (k : Nat) (v4 : Int32) (v2 : Int64), f_Mo_shortest_33 n v1 mErr mSize mGoes mLast k v4 v2 = some out → ∀ (ls : Array Slot) (H : Heap) (locs : List Loc), va_P D vwCl (moW K h a mErr mLanguages mBounds mSize mGoes mLast mLeft mNext mGroup mFresh mLeader mNumber mRight mEnds mWay mVariable mFactor mLeast mMost mLength mWord mKept mMany mMore mLeads mMet mTodo mMay mTries) H → va_D A (moW K h a mErr mLanguages mBounds mSize mGoes mLast mLeft mNext mGroup mFresh mLeader mNumber mRight mEnds mWay mVariable mFactor mLeast mMost mLength mWord mKept mMany mMore mLeads mMet mTodo mMay mTries) → va_S A H0 H locs → lv_has ls 8 [(4, .int v4), (2, .long v2), (0, .ref h), (1, .int v1)] → W p l e R s m args below meth c H locs cells slots Q (F0 m 33 ls []) := by
  intro k
  induction k with
  | zero => intro _ _ hf; exact nomatch (show none = some out from hf)
  | succ k ih =>
    intro v4 v2 hf ls H locs hP hD hS hl
    rw [f_Mo_shortest_33] at hf
    refine lv_iload hx hb d_Mo_shortest_33 (lv_at hl 0 rfl) ?_
    refine lv_aload_n hx hb d_Mo_shortest_35 rfl (lv_at hl 2 rfl) ?_
    refine va_get (D := D) (ci := 0) (v := .ref (a 0)) (C := R_Mo) (T := T_Mo) (N := 29) hx hb hts in_Mo hown hK hP 0 rfl rfl 3 (by decide) (hts _ fl_Mo_9) (fun _ h9 => h9) rfl d_Mo_shortest_36 ?_
    refine lv_iload_n hx hb d_Mo_shortest_39 rfl (lv_at hl 3 rfl) ?_
    obtain ⟨g12, hf⟩ := ogi hf
    refine va_iald hx hb hK hP 1 0 rfl rfl (gin_in g12) d_Mo_shortest_40 ?_
    refine lv_icmp_ge (tgt := 96) hx hb d_Mo_shortest_41 (by decide) (fun c13 => ?_) (fun c13 => ?_)
    · rw [if_pos c13] at hf
      exact Kx _ (Option.some.inj hf).symm _ _ _ hP hD hS (show lv_has ls 8 [] from lv_sub hl [] rfl)
    · rw [if_neg c13] at hf
      refine lv_aload_n hx hb d_Mo_shortest_44 rfl (lv_at hl 2 rfl) ?_
      refine lv_iload_n hx hb d_Mo_shortest_45 rfl (lv_at hl 3 rfl) ?_
      refine lv_lload_n hx hb d_Mo_shortest_46 rfl (lv_at hl 1 rfl) ?_
      obtain ⟨u14, eu14, hf⟩ := obd hf
      refine p_call (W.runV (As := [.int v1, .long v2]) (rest := []) ⟨hx, hb, hml, hown, hts⟩ (c_Mo_hasLast l eu14) (gV 2 hts cd_Mo_hasLast ml_Mo_106 im_Mo_hasLast se_Mo_hasLast ini_Mo rfl rfl pd_Mo_hasLast ⟨Nat.le_trans (Nat.le_of_ble_eq_true rfl) hRf, Nat.le_trans (Nat.le_of_ble_eq_true rfl) hRl⟩) ⟨pPre_blind, va_recv hK hP (ci := 0) (q0 := 0) rfl rfl, pPre_of hP hK⟩ rfl rfl hl.1 rfl (lv_room (Nat.le_of_ble_eq_true rfl)) d_Mo_shortest_47 ⟨hRc, hRs⟩) ?_
      refine bz_eq (tgt := 56) hx hb d_Mo_shortest_50 (by decide) (fun c15 => ?_) (fun c15 => ?_)
      · rw [if_neg c15] at hf
        refine lv_lconst (v := 0) hx hb d_Mo_shortest_56 (by decide) ?_
        refine lv_lstore (lv' := [(5, .long 0), (4, .int v4), (2, .long v2), (0, .ref h), (1, .int v1)]) hx hb d_Mo_shortest_57 hl (by decide) rfl (fun ls hl => ?_)
        refine lv_iconst (v := 0) hx hb d_Mo_shortest_59 (by decide) ?_
        refine lv_istore (lv' := [(7, .int 0), (5, .long 0), (4, .int v4), (2, .long v2), (0, .ref h), (1, .int v1)]) hx hb d_Mo_shortest_60 hl (by decide) rfl (fun ls hl => ?_)
        obtain ⟨u18, eu18, hf⟩ := obd hf
        refine w_Mo_shortest_62 hx hb hml hts hown hK hRf hRl hRc hRs hA  (fun u18q eu ls H locs hP hD hS hl => ?_) _ _ _ eu18 _ _ _ hP hD hS (show lv_has ls 8 [(7, .int 0), (5, .long 0), (4, .int v4), (2, .long v2), (0, .ref h), (1, .int v1)] from lv_sub hl [0, 1, 2, 3, 4, 5] rfl)
        subst eu
        refine lv_lload hx hb d_Mo_shortest_87 (lv_at hl 0 rfl) ?_
        refine lv_lstore_n (lv' := [(2, .long u18.2), (5, .long u18.2), (4, .int v4), (0, .ref h), (1, .int v1)]) hx hb d_Mo_shortest_89 rfl hl (by decide) rfl (fun ls hl => ?_)
        refine lv_iinc (v := v4 + 1) (lv' := [(4, .int (v4 + 1)), (2, .long u18.2), (5, .long u18.2), (0, .ref h), (1, .int v1)]) hx hb d_Mo_shortest_90 hl (k := 2) rfl (by first | rfl | (congr 1)) (by decide) rfl (fun ls hl => ?_)
        refine lv_goto (tgt := 33) hx hb d_Mo_shortest_93 (by decide) ?_
        exact ih _ _ hf _ _ _ hP hD hS (show lv_has ls 8 [(4, .int (v4 + 1)), (2, .long u18.2), (0, .ref h), (1, .int v1)] from lv_sub hl [0, 1, 3, 4] rfl)
      · rw [if_pos c15] at hf
        refine lv_iload hx hb d_Mo_shortest_53 (lv_at hl 0 rfl) ?_
        exact Kr _ (Option.some.inj hf).symm _ _ _ _ d_Mo_shortest_55 hP hD hS
def f_Mo_shortest (n : Nat) (p0 : Int32) (mLanguages : Int32) (mSize : Nat → Int32) (mGoes : Nat → Int32) (mLast : Nat → Bool) : Option (Int32 × Int32) :=
  (f_Mo_isLanguage n p0 mLanguages).bind fun u1 =>
  if u1 = true then
    (f_Mo_fails n false 1 0).bind fun u3 =>
    if u3.1 = true then
      some (0, u3.2)
    else
      (f_Mo_shortest_33 n p0 u3.2 mSize mGoes mLast n 0 1).bind fun u19 => u19.elim (fun r => some r) fun x19 =>
      some ((-1), u3.2)
  else
    (f_Mo_fails n true 1 0).bind fun u20 =>
    if u20.1 = true then
      some (0, u20.2)
    else
      (f_Mo_shortest_33 n p0 u20.2 mSize mGoes mLast n 0 1).bind fun u22 => u22.elim (fun r => some r) fun x22 =>
      some ((-1), u20.2)
set_option maxHeartbeats 4000000 in
set_option maxRecDepth 100000 in
theorem w_Mo_shortest  {p0 : Int32}  (hx : p.tables.exec = Jvm.exec) (hb : c.code = b_Mo_shortest) (hml : c.maxLocals = 8) (hts : ∀ w ∈ gW, w.before args s = true) (hown : s.vm.findClass "RegularSolverModel" = some m.cls) (hK : va_K D vwCl (tG K) s) (hRf : 2 ≤ R.frames) (hRl : 50 ≤ R.locals) (hRc : cells ≤ R.cells) (hRs : slots ≤ R.slots) (hA : ∀ q, H0.size ≤ q → A q) {out : Int32 × Int32} (Kr : ∀ (r : Int32 × Int32), out = r → ∀ (pc : Nat) (ls : Array Slot) (H : Heap) (locs : List Loc), decode b_Mo_shortest pc = .ok (.ireturn, 1) → va_P D vwCl (moW K h a r.2 mLanguages mBounds mSize mGoes mLast mLeft mNext mGroup mFresh mLeader mNumber mRight mEnds mWay mVariable mFactor mLeast mMost mLength mWord mKept mMany mMore mLeads mMet mTodo mMay mTries) H → va_D A (moW K h a r.2 mLanguages mBounds mSize mGoes mLast mLeft mNext mGroup mFresh mLeader mNumber mRight mEnds mWay mVariable mFactor mLeast mMost mLength mWord mKept mMany mMore mLeads mMet mTodo mMay mTries) → va_S A H0 H locs → W p l e R s m args below meth c H locs cells slots Q (F0 m pc ls [.int r.1])) (hf : f_Mo_shortest n p0 mLanguages mSize mGoes mLast = some out) (ls : Array Slot) (hP : va_P D vwCl (moW K h a mErr mLanguages mBounds mSize mGoes mLast mLeft mNext mGroup mFresh mLeader mNumber mRight mEnds mWay mVariable mFactor mLeast mMost mLength mWord mKept mMany mMore mLeads mMet mTodo mMay mTries) H) (hD : va_D A (moW K h a mErr mLanguages mBounds mSize mGoes mLast mLeft mNext mGroup mFresh mLeader mNumber mRight mEnds mWay mVariable mFactor mLeast mMost mLength mWord mKept mMany mMore mLeads mMet mTodo mMay mTries)) (hS : va_S A H0 H locs) (hl : lv_has ls 8 [(0, .ref h), (1, .int p0)]) : W p l e R s m args below meth c H locs cells slots Q (F0 m 0 ls []) := by
  unfold f_Mo_shortest at hf
  refine lv_aload_n hx hb d_Mo_shortest_0 rfl (lv_at hl 0 rfl) ?_
  refine lv_iconst (v := 0) hx hb d_Mo_shortest_1 (by decide) ?_
  refine va_put (D := D) (ci := 0) (v := .int 0) (ty := .int) (C := R_Mo) (T := T_Mo) (N := 29) hx hb hts in_Mo t_Mo t_Mo_ok n_Mo hown hK hP hD hS 0 rfl rfl 0 (by decide) (hts _ fl_Mo_84) (fun _ h9 => h9) rfl (by decide +kernel) rfl rfl (Nat.le_of_ble_eq_true rfl) d_Mo_shortest_2 (fun H locs hP hD hS => ?_)
  have hP : va_P D vwCl (moW K h a 0 mLanguages mBounds mSize mGoes mLast mLeft mNext mGroup mFresh mLeader mNumber mRight mEnds mWay mVariable mFactor mLeast mMost mLength mWord mKept mMany mMore mLeads mMet mTodo mMay mTries) H := hP
  have hD : va_D A (moW K h a 0 mLanguages mBounds mSize mGoes mLast mLeft mNext mGroup mFresh mLeader mNumber mRight mEnds mWay mVariable mFactor mLeast mMost mLength mWord mKept mMany mMore mLeads mMet mTodo mMay mTries) := hD
  refine lv_aload_n hx hb d_Mo_shortest_5 rfl (lv_at hl 0 rfl) ?_
  refine lv_aload_n hx hb d_Mo_shortest_6 rfl (lv_at hl 0 rfl) ?_
  refine lv_iload_n hx hb d_Mo_shortest_7 rfl (lv_at hl 1 rfl) ?_
  obtain ⟨u1, eu1, hf⟩ := obd hf
  refine p_call (W.runV (As := [.int p0]) (rest := [.ref h]) ⟨hx, hb, hml, hown, hts⟩ (c_Mo_isLanguage l eu1) (gV 1 hts cd_Mo_isLanguage ml_Mo_138 im_Mo_isLanguage se_Mo_isLanguage ini_Mo rfl rfl pd_Mo_isLanguage ⟨Nat.le_trans (Nat.le_of_ble_eq_true rfl) hRf, Nat.le_trans (Nat.le_of_ble_eq_true rfl) hRl⟩) ⟨pPre_blind, va_recv hK hP (ci := 0) (q0 := 0) rfl rfl, pPre_of hP hK⟩ rfl rfl hl.1 rfl (lv_room (Nat.le_of_ble_eq_true rfl)) d_Mo_shortest_8 ⟨hRc, hRs⟩) ?_
  refine bz_ne (tgt := 18) hx hb d_Mo_shortest_11 (by decide) (fun c2 => ?_) (fun c2 => ?_)
  · rw [if_pos c2] at hf
    refine lv_iconst (v := 0) hx hb d_Mo_shortest_18 (by decide) ?_
    refine lv_iconst (v := 1) hx hb d_Mo_shortest_19 (by decide) ?_
    obtain ⟨u3, eu3, hf⟩ := obd hf
    refine w_call (va_runV (As := [.int (bI false), .int 1]) (rest := []) ⟨hx, hb, hml, hown, hts⟩ (c_Mo_fails l H.size eu3) (gV 2 hts cd_Mo_fails ml_Mo_124 im_Mo_fails se_Mo_fails ini_Mo rfl rfl pd_Mo_fails ⟨Nat.le_trans (Nat.le_of_ble_eq_true rfl) hRf, Nat.le_trans (Nat.le_of_ble_eq_true rfl) hRl⟩) ⟨wPre_blind, va_recv hK hP (ci := 0) (q0 := 0) rfl rfl, wPre_of hP hK hD⟩ rfl rfl hl.1 rfl (lv_room (Nat.le_of_ble_eq_true rfl)) d_Mo_shortest_20 ⟨hRc, hRs⟩) hD hS hA (fun H locs hP hD hS => ?_)
    have hP : va_P D vwCl (moW K h a u3.2 mLanguages mBounds mSize mGoes mLast mLeft mNext mGroup mFresh mLeader mNumber mRight mEnds mWay mVariable mFactor mLeast mMost mLength mWord mKept mMany mMore mLeads mMet mTodo mMay mTries) H := hP
    have hD : va_D A (moW K h a u3.2 mLanguages mBounds mSize mGoes mLast mLeft mNext mGroup mFresh mLeader mNumber mRight mEnds mWay mVariable mFactor mLeast mMost mLength mWord mKept mMany mMore mLeads mMet mTodo mMay mTries) := hD
    refine bz_eq (tgt := 28) hx hb d_Mo_shortest_23 (by decide) (fun c4 => ?_) (fun c4 => ?_)
    · rw [if_neg c4] at hf
      refine lv_lconst (v := 1) hx hb d_Mo_shortest_28 (by decide) ?_
      refine lv_lstore_n (lv' := [(2, .long 1), (0, .ref h), (1, .int p0)]) hx hb d_Mo_shortest_29 rfl hl (by decide) rfl (fun ls hl => ?_)
      refine lv_iconst (v := 0) hx hb d_Mo_shortest_30 (by decide) ?_
      refine lv_istore (lv' := [(4, .int 0), (2, .long 1), (0, .ref h), (1, .int p0)]) hx hb d_Mo_shortest_31 hl (by decide) rfl (fun ls hl => ?_)
      obtain ⟨u19, eu19, hf⟩ := obd hf
      refine w_Mo_shortest_33 hx hb hml hts hown hK hRf hRl hRc hRs hA (fun r er pc ls H locs hd hP hD hS => Kr r (by subst er; exact (Option.some.inj hf).symm) pc ls H locs hd hP hD hS) (fun x19 eu ls H locs hP hD hS hl => ?_) _ _ _ eu19 _ _ _ hP hD hS (show lv_has ls 8 [(4, .int 0), (2, .long 1), (0, .ref h), (1, .int p0)] from lv_sub hl [0, 1, 2, 3] rfl)
      subst eu
      replace hf := oel hf
      refine lv_iconst (v := -1) hx hb d_Mo_shortest_96 (by decide) ?_
      exact Kr _ (Option.some.inj hf).symm _ _ _ _ d_Mo_shortest_97 hP hD hS
    · rw [if_pos c4] at hf
      refine lv_iconst (v := 0) hx hb d_Mo_shortest_26 (by decide) ?_
      exact Kr _ (Option.some.inj hf).symm _ _ _ _ d_Mo_shortest_27 hP hD hS
  · rw [if_neg c2] at hf
    refine lv_iconst (v := 1) hx hb d_Mo_shortest_14 (by decide) ?_
    refine lv_goto (tgt := 19) hx hb d_Mo_shortest_15 (by decide) ?_
    refine lv_iconst (v := 1) hx hb d_Mo_shortest_19 (by decide) ?_
    obtain ⟨u20, eu20, hf⟩ := obd hf
    refine w_call (va_runV (As := [.int (bI true), .int 1]) (rest := []) ⟨hx, hb, hml, hown, hts⟩ (c_Mo_fails l H.size eu20) (gV 2 hts cd_Mo_fails ml_Mo_124 im_Mo_fails se_Mo_fails ini_Mo rfl rfl pd_Mo_fails ⟨Nat.le_trans (Nat.le_of_ble_eq_true rfl) hRf, Nat.le_trans (Nat.le_of_ble_eq_true rfl) hRl⟩) ⟨wPre_blind, va_recv hK hP (ci := 0) (q0 := 0) rfl rfl, wPre_of hP hK hD⟩ rfl rfl hl.1 rfl (lv_room (Nat.le_of_ble_eq_true rfl)) d_Mo_shortest_20 ⟨hRc, hRs⟩) hD hS hA (fun H locs hP hD hS => ?_)
    have hP : va_P D vwCl (moW K h a u20.2 mLanguages mBounds mSize mGoes mLast mLeft mNext mGroup mFresh mLeader mNumber mRight mEnds mWay mVariable mFactor mLeast mMost mLength mWord mKept mMany mMore mLeads mMet mTodo mMay mTries) H := hP
    have hD : va_D A (moW K h a u20.2 mLanguages mBounds mSize mGoes mLast mLeft mNext mGroup mFresh mLeader mNumber mRight mEnds mWay mVariable mFactor mLeast mMost mLength mWord mKept mMany mMore mLeads mMet mTodo mMay mTries) := hD
    refine bz_eq (tgt := 28) hx hb d_Mo_shortest_23 (by decide) (fun c21 => ?_) (fun c21 => ?_)
    · rw [if_neg c21] at hf
      refine lv_lconst (v := 1) hx hb d_Mo_shortest_28 (by decide) ?_
      refine lv_lstore_n (lv' := [(2, .long 1), (0, .ref h), (1, .int p0)]) hx hb d_Mo_shortest_29 rfl hl (by decide) rfl (fun ls hl => ?_)
      refine lv_iconst (v := 0) hx hb d_Mo_shortest_30 (by decide) ?_
      refine lv_istore (lv' := [(4, .int 0), (2, .long 1), (0, .ref h), (1, .int p0)]) hx hb d_Mo_shortest_31 hl (by decide) rfl (fun ls hl => ?_)
      obtain ⟨u22, eu22, hf⟩ := obd hf
      refine w_Mo_shortest_33 hx hb hml hts hown hK hRf hRl hRc hRs hA (fun r er pc ls H locs hd hP hD hS => Kr r (by subst er; exact (Option.some.inj hf).symm) pc ls H locs hd hP hD hS) (fun x22 eu ls H locs hP hD hS hl => ?_) _ _ _ eu22 _ _ _ hP hD hS (show lv_has ls 8 [(4, .int 0), (2, .long 1), (0, .ref h), (1, .int p0)] from lv_sub hl [0, 1, 2, 3] rfl)
      subst eu
      replace hf := oel hf
      refine lv_iconst (v := -1) hx hb d_Mo_shortest_96 (by decide) ?_
      exact Kr _ (Option.some.inj hf).symm _ _ _ _ d_Mo_shortest_97 hP hD hS
    · rw [if_pos c21] at hf
      refine lv_iconst (v := 0) hx hb d_Mo_shortest_26 (by decide) ?_
      exact Kr _ (Option.some.inj hf).symm _ _ _ _ d_Mo_shortest_27 hP hD hS
set_option maxHeartbeats 4000000 in
set_option maxRecDepth 100000 in
theorem c_Mo_shortest (l : Launch)  {p0 : Int32}  {r : Int32 × Int32} (sz : Nat) (hf : f_Mo_shortest n p0 mLanguages mSize mGoes mLast = some r) : Met l y_Mo_shortest w0_Mo_shortest ({ frames := 2, cells := 0, slots := 0, locals := 50 }) (wPre D K [.ref h, .int p0] (moW K h a mErr mLanguages mBounds mSize mGoes mLast mLeft mNext mGroup mFresh mLeader mNumber mRight mEnds mWay mVariable mFactor mLeast mMost mLength mWord mKept mMany mMore mLeads mMet mTodo mMay mTries) sz) (wPost D K (some (.int r.1)) (moW K h a r.2 mLanguages mBounds mSize mGoes mLast mLeft mNext mGroup mFresh mLeader mNumber mRight mEnds mWay mVariable mFactor mLeast mMost mLength mWord mKept mMany mMore mLeads mMet mTodo mMay mTries) (va_A (moW K h a mErr mLanguages mBounds mSize mGoes mLast mLeft mNext mGroup mFresh mLeader mNumber mRight mEnds mWay mVariable mFactor mLeast mMost mLength mWord mKept mMany mMore mLeads mMet mTodo mMay mTries) sz)) 0 0 (va_A (moW K h a mErr mLanguages mBounds mSize mGoes mLast mLeft mNext mGroup mFresh mLeader mNumber mRight mEnds mWay mVariable mFactor mLeast mMost mLength mWord mKept mMany mMore mLeads mMet mTodo mMay mTries) sz) := by
  refine Met.ofW (cc := b_Mo_shortest) (maxL := 8) (ret := (some .int)) (by decide) rfl ?_
  intro p e s m args below meth c s₁ B hml hv
  obtain ⟨rfl, hsz, hP, hK, hD0⟩ := hv
  subst hsz
  have hl := lv_entry [.ref h, .int p0] (n := 8) (Nat.le_of_ble_eq_true rfl)
  rw [lg_entry_eq]
  generalize (lg_sl [.ref h, .int p0] ++ List.replicate (8 - (lg_sl [.ref h, .int p0]).length) Slot.unset).toArray = ls at hl ⊢
  refine w_Mo_shortest (A := va_A (moW K h a mErr mLanguages mBounds mSize mGoes mLast mLeft mNext mGroup mFresh mLeader mNumber mRight mEnds mWay mVariable mFactor mLeast mMost mLength mWord mKept mMany mMore mLeads mMet mTodo mMay mTries) s.heap.size) (H0 := s.heap) B.exec B.bytes hml (fun w hw => atoms_spec (ws := w0_Mo_shortest) B.pre w (List.mem_cons_of_mem _ hw)) (findClass_of_methodNamed B.named) hK (Nat.le_refl _) (Nat.le_refl _) (Nat.zero_le _) (Nat.zero_le _) (fun q h => Or.inr h) (fun r er pc ls H locs hd hP hD hS => ?_) hf ls hP (hD0.self (sz := s.heap.size)) va_S.rf hl
  subst er
  exact W.iret B.exec B.bytes B.returns (fun t ht hW => ⟨⟨rfl, by rw [ht]; exact hP, va_K.moved hW.alike hK, hD⟩, hS.F ht⟩) hS.2.2 hd (hlocks := B.notSynchronized)
theorem pd_Mo_within : y_Mo_within.cls ≠ "java/lang/invoke/MethodHandle" ∧ y_Mo_within.cls ≠ "java/lang/invoke/VarHandle" ∧ (parseMethodDescriptor y_Mo_within.desc).map (fun d => d.parameters.length) = some 2 := by decide +kernel
def f_Mo_within_38 (n : Nat)  : Nat → Int32 → (Nat → Bool) → Option (Int32 × (Nat → Bool))
  | 0, _, _ => none
  | k + 1, v3, mMet =>
    if 4096 ≤ v3 then
      some (v3, mMet)
    else
      ogd (gin v3 4096) <|
      f_Mo_within_38 n  k (v3 + 1) (va_up mMet v3.toNatClampNeg false)
set_option maxHeartbeats 4000000 in
set_option maxRecDepth 100000 in
theorem w_Mo_within_38  {v1 : Int32} {v2 : Int32} (hx : p.tables.exec = Jvm.exec) (hb : c.code = b_Mo_within) (hml : c.maxLocals = 9) (hts : ∀ w ∈ gW, w.before args s = true) (hown : s.vm.findClass "RegularSolverModel" = some m.cls) (hK : va_K D vwCl (tG K) s) (hRf : 2 ≤ R.frames) (hRl : 46 ≤ R.locals) (hRc : cells ≤ R.cells) (hRs : slots ≤ R.slots) (hA : ∀ q, H0.size ≤ q → A q)  {out : Int32 × (Nat → Bool)} (Kx : ∀ (u : Int32 × (Nat → Bool)), out = u → ∀ (ls : Array Slot) (H : Heap) (locs : List Loc), va_P D vwCl (moW K h a mErr mLanguages mBounds mSize mGoes mLast mLeft mNext mGroup mFresh mLeader mNumber mRight mEnds mWay mVariable mFactor mLeast mMost mLength mWord mKept mMany mMore mLeads u.2 mTodo mMay mTries) H → va_D A (moW K h a mErr mLanguages mBounds mSize mGoes mLast mLeft mNext mGroup mFresh mLeader mNumber mRight mEnds mWay mVariable mFactor mLeast mMost mLength mWord mKept mMany mMore mLeads u.2 mTodo mMay mTries) → va_S A H0 H locs → lv_has ls 9 [(0, .ref h), (1, .int v1), (2, .int v2)] → W p l e R s m args below meth c H locs cells slots Q (F0 m 58 ls [])) :
    ∀ (k : Nat) (v3 : Int32) (mMet : Nat → Bool), f_Mo_within_38 n  k v3 mMet = some out → ∀ (ls : Array Slot) (H : Heap) (locs : List Loc), va_P D vwCl (moW K h a mErr mLanguages mBounds mSize mGoes mLast mLeft mNext mGroup mFresh mLeader mNumber mRight mEnds mWay mVariable mFactor mLeast mMost mLength mWord mKept mMany mMore mLeads mMet mTodo mMay mTries) H → va_D A (moW K h a mErr mLanguages mBounds mSize mGoes mLast mLeft mNext mGroup mFresh mLeader mNumber mRight mEnds mWay mVariable mFactor mLeast mMost mLength mWord mKept mMany mMore mLeads mMet mTodo mMay mTries) → va_S A H0 H locs → lv_has ls 9 [(3, .int v3), (0, .ref h), (1, .int v1), (2, .int v2)] → W p l e R s m args below meth c H locs cells slots Q (F0 m 38 ls []) := by
  intro k
  induction k with
  | zero => intro _ _ hf; exact nomatch (show none = some out from hf)
  | succ k ih =>
    intro v3 mMet hf ls H locs hP hD hS hl
    rw [f_Mo_within_38] at hf
    refine lv_iload_n hx hb d_Mo_within_38 rfl (lv_at hl 0 rfl) ?_
    refine lv_sipush (v := 4096) hx hb d_Mo_within_39 (by decide) ?_
    refine lv_icmp_ge (tgt := 58) hx hb d_Mo_within_42 (by decide) (fun c7 => ?_) (fun c7 => ?_)
    · rw [if_pos c7] at hf
      exact Kx _ (Option.some.inj hf).symm _ _ _ hP hD hS (show lv_has ls 9 [(0, .ref h), (1, .int v1), (2, .int v2)] from lv_sub hl [1, 2, 3] rfl)
    · rw [if_neg c7] at hf
      refine lv_aload_n hx hb d_Mo_within_45 rfl (lv_at hl 1 rfl) ?_
      refine va_get (D := D) (ci := 0) (v := .ref (a 20)) (C := R_Mo) (T := T_Mo) (N := 29) hx hb hts in_Mo hown hK hP 0 rfl rfl 25 (by decide) (hts _ fl_Mo_72) (fun _ h9 => h9) rfl d_Mo_within_46 ?_
      refine lv_iload_n hx hb d_Mo_within_49 rfl (lv_at hl 0 rfl) ?_
      refine lv_iconst (v := 0) hx hb d_Mo_within_50 (by decide) ?_
      obtain ⟨g8, hf⟩ := ogi hf
      refine bz_ast (b := false) hx hb hK hP hD hS 21 2 rfl rfl (gin_in g8) d_Mo_within_51 (fun H locs hP hD hS => ?_)
      have hP : va_P D vwCl (moW K h a mErr mLanguages mBounds mSize mGoes mLast mLeft mNext mGroup mFresh mLeader mNumber mRight mEnds mWay mVariable mFactor mLeast mMost mLength mWord mKept mMany mMore mLeads (va_up mMet v3.toNatClampNeg false) mTodo mMay mTries) H := hP
      have hD : va_D A (moW K h a mErr mLanguages mBounds mSize mGoes mLast mLeft mNext mGroup mFresh mLeader mNumber mRight mEnds mWay mVariable mFactor mLeast mMost mLength mWord mKept mMany mMore mLeads (va_up mMet v3.toNatClampNeg false) mTodo mMay mTries) := hD
      refine lv_iinc (v := v3 + 1) (lv' := [(3, .int (v3 + 1)), (0, .ref h), (1, .int v1), (2, .int v2)]) hx hb d_Mo_within_52 hl (k := 0) rfl (by first | rfl | (congr 1)) (by decide) rfl (fun ls hl => ?_)
      refine lv_goto (tgt := 38) hx hb d_Mo_within_55 (by decide) ?_
      exact ih _ _ hf _ _ _ hP hD hS (show lv_has ls 9 [(3, .int (v3 + 1)), (0, .ref h), (1, .int v1), (2, .int v2)] from lv_sub hl [0, 1, 2, 3] rfl)
def f_Mo_within_131 (n : Nat) (v6 : Int32) (v5 : Int32) (v1 : Int32) (v2 : Int32) (mGoes : Nat → Int32) : Nat → Int32 → Int32 → (Nat → Bool) → (Nat → Int32) → Option (Int32 × Int32 × (Nat → Bool) × (Nat → Int32))
  | 0, _, _, _, _ => none
  | k + 1, v7, v3, mMet, mTodo =>
    if 4 ≤ v7 then
      some (v7, v3, mMet, mTodo)
    else
      (f_Mo_go n v1 v5 v7 mGoes).bind fun u32 =>
      (f_Mo_go n v2 v6 v7 mGoes).bind fun u33 =>
      ogd (gin ((64 * u32) + u33) 4096) <|
      if (mMet ((64 * u32) + u33).toNatClampNeg) = true then
        f_Mo_within_131 n v6 v5 v1 v2 mGoes k (v7 + 1) v3 mMet mTodo
      else
        ogd (gin ((64 * u32) + u33) 4096) <|
        ogd (gin v3 4096) <|
        f_Mo_within_131 n v6 v5 v1 v2 mGoes k (v7 + 1) (v3 + 1) (va_up mMet ((64 * u32) + u33).toNatClampNeg true) (upd mTodo v3.toNatClampNeg ((64 * u32) + u33))
set_option maxHeartbeats 4000000 in
set_option maxRecDepth 100000 in
theorem w_Mo_within_131  {v6 : Int32} {v5 : Int32} {v1 : Int32} {v2 : Int32} (hx : p.tables.exec = Jvm.exec) (hb : c.code = b_Mo_within) (hml : c.maxLocals = 9) (hts : ∀ w ∈ gW, w.before args s = true) (hown : s.vm.findClass "RegularSolverModel" = some m.cls) (hK : va_K D vwCl (tG K) s) (hRf : 2 ≤ R.frames) (hRl : 46 ≤ R.locals) (hRc : cells ≤ R.cells) (hRs : slots ≤ R.slots) (hA : ∀ q, H0.size ≤ q → A q)  {out : Int32 × Int32 × (Nat → Bool) × (Nat → Int32)} (Kx : ∀ (u : Int32 × Int32 × (Nat → Bool) × (Nat → Int32)), out = u → ∀ (ls : Array Slot) (H : Heap) (locs : List Loc), va_P D vwCl (moW K h a mErr mLanguages mBounds mSize mGoes mLast mLeft mNext mGroup mFresh mLeader mNumber mRight mEnds mWay mVariable mFactor mLeast mMost mLength mWord mKept mMany mMore mLeads u.2.2.1 u.2.2.2 mMay mTries) H → va_D A (moW K h a mErr mLanguages mBounds mSize mGoes mLast mLeft mNext mGroup mFresh mLeader mNumber mRight mEnds mWay mVariable mFactor mLeast mMost mLength mWord mKept mMany mMore mLeads u.2.2.1 u.2.2.2 mMay mTries) → va_S A H0 H locs → lv_has ls 9 [(3, .int u.2.1), (0, .ref h), (1, .int v1), (2, .int v2)] → W p l e R s m args below meth c H locs cells slots Q (F0 m 199 ls [])) :
    ∀ (k : Nat) (v7 : Int32) (v3 : Int32) (mMet : Nat → Bool) (mTodo : Nat → Int32), f_Mo_within_131 n v6 v5 v1 v2 mGoes k v7 v3 mMet mTodo = some out → ∀ (ls : Array Slot) (H : Heap) (locs : List Loc), va_P D vwCl (moW K h a mErr mLanguages mBounds mSize mGoes mLast mLeft mNext mGroup mFresh mLeader mNumber mRight mEnds mWay mVariable mFactor mLeast mMost mLength mWord mKept mMany mMore mLeads mMet mTodo mMay mTries) H → va_D A (moW K h a mErr mLanguages mBounds mSize mGoes mLast mLeft mNext mGroup mFresh mLeader mNumber mRight mEnds mWay mVariable mFactor mLeast mMost mLength mWord mKept mMany mMore mLeads mMet mTodo mMay mTries) → va_S A H0 H locs → lv_has ls 9 [(7, .int v7), (6, .int v6), (5, .int v5), (3, .int v3), (0, .ref h), (1, .int v1), (2, .int v2)] → W p l e R s m args below meth c H locs cells slots Q (F0 m 131 ls []) := by
  intro k
  induction k with
  | zero => intro _ _ _ _ hf; exact nomatch (show none = some out from hf)
  | succ k ih =>
    intro v7 v3 mMet mTodo hf ls H locs hP hD hS hl
    rw [f_Mo_within_131] at hf
    refine lv_iload hx hb d_Mo_within_131 (lv_at hl 0 rfl) ?_
    refine lv_iconst (v := 4) hx hb d_Mo_within_133 (by decide) ?_
    refine lv_icmp_ge (tgt := 199) hx hb d_Mo_within_134 (by decide) (fun c31 => ?_) (fun c31 => ?_)
    · rw [if_pos c31] at hf
      exact Kx _ (Option.some.inj hf).symm _ _ _ hP hD hS (show lv_has ls 9 [(3, .int v3), (0, .ref h), (1, .int v1), (2, .int v2)] from lv_sub hl [3, 4, 5, 6] rfl)
    · rw [if_neg c31] at hf
      refine lv_bipush (v := 64) hx hb d_Mo_within_137 (by decide) ?_
      refine lv_aload_n hx hb d_Mo_within_139 rfl (lv_at hl 4 rfl) ?_
      refine lv_iload_n hx hb d_Mo_within_140 rfl (lv_at hl 5 rfl) ?_
      refine lv_iload hx hb d_Mo_within_141 (lv_at hl 2 rfl) ?_
      refine lv_iload hx hb d_Mo_within_143 (lv_at hl 0 rfl) ?_
      obtain ⟨u32, eu32, hf⟩ := obd hf
      refine p_call (W.runV (As := [.int v1, .int v5, .int v7]) (rest := [.int 64]) ⟨hx, hb, hml, hown, hts⟩ (c_Mo_go l eu32) (gV 3 hts cd_Mo_go ml_Mo_98 im_Mo_go se_Mo_go ini_Mo rfl rfl pd_Mo_go ⟨Nat.le_trans (Nat.le_of_ble_eq_true rfl) hRf, Nat.le_trans (Nat.le_of_ble_eq_true rfl) hRl⟩) ⟨pPre_blind, va_recv hK hP (ci := 0) (q0 := 0) rfl rfl, pPre_of hP hK⟩ rfl rfl hl.1 rfl (lv_room (Nat.le_of_ble_eq_true rfl)) d_Mo_within_145 ⟨hRc, hRs⟩) ?_
      refine lv_imul hx hb d_Mo_within_148 ?_
      refine lv_aload_n hx hb d_Mo_within_149 rfl (lv_at hl 4 rfl) ?_
      refine lv_iload_n hx hb d_Mo_within_150 rfl (lv_at hl 6 rfl) ?_
      refine lv_iload hx hb d_Mo_within_151 (lv_at hl 1 rfl) ?_
      refine lv_iload hx hb d_Mo_within_153 (lv_at hl 0 rfl) ?_
      obtain ⟨u33, eu33, hf⟩ := obd hf
      refine p_call (W.runV (As := [.int v2, .int v6, .int v7]) (rest := [.int (64 * u32)]) ⟨hx, hb, hml, hown, hts⟩ (c_Mo_go l eu33) (gV 3 hts cd_Mo_go ml_Mo_98 im_Mo_go se_Mo_go ini_Mo rfl rfl pd_Mo_go ⟨Nat.le_trans (Nat.le_of_ble_eq_true rfl) hRf, Nat.le_trans (Nat.le_of_ble_eq_true rfl) hRl⟩) ⟨pPre_blind, va_recv hK hP (ci := 0) (q0 := 0) rfl rfl, pPre_of hP hK⟩ rfl rfl hl.1 rfl (lv_room (Nat.le_of_ble_eq_true rfl)) d_Mo_within_155 ⟨hRc, hRs⟩) ?_
      refine lv_iadd hx hb d_Mo_within_158 ?_
      refine lv_istore (lv' := [(8, .int ((64 * u32) + u33)), (7, .int v7), (6, .int v6), (5, .int v5), (3, .int v3), (0, .ref h), (1, .int v1), (2, .int v2)]) hx hb d_Mo_within_159 hl (by decide) rfl (fun ls hl => ?_)
      refine lv_aload_n hx hb d_Mo_within_161 rfl (lv_at hl 5 rfl) ?_
      refine va_get (D := D) (ci := 0) (v := .ref (a 20)) (C := R_Mo) (T := T_Mo) (N := 29) hx hb hts in_Mo hown hK hP 0 rfl rfl 25 (by decide) (hts _ fl_Mo_72) (fun _ h9 => h9) rfl d_Mo_within_162 ?_
      refine lv_iload hx hb d_Mo_within_165 (lv_at hl 0 rfl) ?_
      obtain ⟨g34, hf⟩ := ogi hf
      refine bz_ald hx hb hK hP 21 2 rfl rfl (gin_in g34) d_Mo_within_167 ?_
      refine bz_eq (tgt := 174) hx hb d_Mo_within_168 (by decide) (fun c35 => ?_) (fun c35 => ?_)
      · rw [if_neg c35] at hf
        refine lv_aload_n hx hb d_Mo_within_174 rfl (lv_at hl 5 rfl) ?_
        refine va_get (D := D) (ci := 0) (v := .ref (a 20)) (C := R_Mo) (T := T_Mo) (N := 29) hx hb hts in_Mo hown hK hP 0 rfl rfl 25 (by decide) (hts _ fl_Mo_72) (fun _ h9 => h9) rfl d_Mo_within_175 ?_
        refine lv_iload hx hb d_Mo_within_178 (lv_at hl 0 rfl) ?_
        refine lv_iconst (v := 1) hx hb d_Mo_within_180 (by decide) ?_
        obtain ⟨g36, hf⟩ := ogi hf
        refine bz_ast (b := true) hx hb hK hP hD hS 21 2 rfl rfl (gin_in g36) d_Mo_within_181 (fun H locs hP hD hS => ?_)
        have hP : va_P D vwCl (moW K h a mErr mLanguages mBounds mSize mGoes mLast mLeft mNext mGroup mFresh mLeader mNumber mRight mEnds mWay mVariable mFactor mLeast mMost mLength mWord mKept mMany mMore mLeads (va_up mMet ((64 * u32) + u33).toNatClampNeg true) mTodo mMay mTries) H := hP
        have hD : va_D A (moW K h a mErr mLanguages mBounds mSize mGoes mLast mLeft mNext mGroup mFresh mLeader mNumber mRight mEnds mWay mVariable mFactor mLeast mMost mLength mWord mKept mMany mMore mLeads (va_up mMet ((64 * u32) + u33).toNatClampNeg true) mTodo mMay mTries) := hD
        refine lv_aload_n hx hb d_Mo_within_182 rfl (lv_at hl 5 rfl) ?_
        refine va_get (D := D) (ci := 0) (v := .ref (a 21)) (C := R_Mo) (T := T_Mo) (N := 29) hx hb hts in_Mo hown hK hP 0 rfl rfl 26 (by decide) (hts _ fl_Mo_75) (fun _ h9 => h9) rfl d_Mo_within_183 ?_
        refine lv_iload_n hx hb d_Mo_within_186 rfl (lv_at hl 4 rfl) ?_
        refine lv_iinc (v := v3 + 1) (lv' := [(3, .int (v3 + 1)), (8, .int ((64 * u32) + u33)), (7, .int v7), (6, .int v6), (5, .int v5), (0, .ref h), (1, .int v1), (2, .int v2)]) hx hb d_Mo_within_187 hl (k := 4) rfl (by first | rfl | (congr 1)) (by decide) rfl (fun ls hl => ?_)
        refine lv_iload hx hb d_Mo_within_190 (lv_at hl 1 rfl) ?_
        obtain ⟨g37, hf⟩ := ogi hf
        refine va_iast hx hb hK hP hD hS 22 0 rfl rfl (gin_in g37) d_Mo_within_192 (fun H locs hP hD hS => ?_)
        have hP : va_P D vwCl (moW K h a mErr mLanguages mBounds mSize mGoes mLast mLeft mNext mGroup mFresh mLeader mNumber mRight mEnds mWay mVariable mFactor mLeast mMost mLength mWord mKept mMany mMore mLeads (va_up mMet ((64 * u32) + u33).toNatClampNeg true) (upd mTodo v3.toNatClampNeg ((64 * u32) + u33)) mMay mTries) H := hP
        have hD : va_D A (moW K h a mErr mLanguages mBounds mSize mGoes mLast mLeft mNext mGroup mFresh mLeader mNumber mRight mEnds mWay mVariable mFactor mLeast mMost mLength mWord mKept mMany mMore mLeads (va_up mMet ((64 * u32) + u33).toNatClampNeg true) (upd mTodo v3.toNatClampNeg ((64 * u32) + u33)) mMay mTries) := hD
        refine lv_iinc (v := v7 + 1) (lv' := [(7, .int (v7 + 1)), (3, .int (v3 + 1)), (8, .int ((64 * u32) + u33)), (6, .int v6), (5, .int v5), (0, .ref h), (1, .int v1), (2, .int v2)]) hx hb d_Mo_within_193 hl (k := 2) rfl (by first | rfl | (congr 1)) (by decide) rfl (fun ls hl => ?_)
        refine lv_goto (tgt := 131) hx hb d_Mo_within_196 (by decide) ?_
        exact ih _ _ _ _ hf _ _ _ hP hD hS (show lv_has ls 9 [(7, .int (v7 + 1)), (6, .int v6), (5, .int v5), (3, .int (v3 + 1)), (0, .ref h), (1, .int v1), (2, .int v2)] from lv_sub hl [0, 3, 4, 1, 5, 6, 7] rfl)
      · rw [if_pos c35] at hf
        refine lv_goto (tgt := 193) hx hb d_Mo_within_171 (by decide) ?_
        refine lv_iinc (v := v7 + 1) (lv' := [(7, .int (v7 + 1)), (8, .int ((64 * u32) + u33)), (6, .int v6), (5, .int v5), (3, .int v3), (0, .ref h), (1, .int v1), (2, .int v2)]) hx hb d_Mo_within_193 hl (k := 1) rfl (by first | rfl | (congr 1)) (by decide) rfl (fun ls hl => ?_)
        refine lv_goto (tgt := 131) hx hb d_Mo_within_196 (by decide) ?_
        exact ih _ _ _ _ hf _ _ _ hP hD hS (show lv_has ls 9 [(7, .int (v7 + 1)), (6, .int v6), (5, .int v5), (3, .int v3), (0, .ref h), (1, .int v1), (2, .int v2)] from lv_sub hl [0, 2, 3, 4, 5, 6, 7] rfl)
def f_Mo_within_77 (n : Nat) (v1 : Int32) (v2 : Int32) (mErr : Int32) (mGoes : Nat → Int32) (mLast : Nat → Bool) : Nat → Int32 → (Nat → Bool) → (Nat → Int32) → Option ((Bool × Int32 × (Nat → Bool) × (Nat → Int32)) ⊕ (Int32 × (Nat → Bool) × (Nat → Int32)))
  | 0, _, _, _ => none
  | k + 1, v3, mMet, mTodo =>
    if v3 ≤ 0 then
      some (.inr (v3, mMet, mTodo))
    else
      ogd (gin (v3 + (-1)) 4096) <|
      (f_Mo_isLast n v1 ((mTodo (v3 + (-1)).toNatClampNeg) / 64) mLast).bind fun u29 =>
      if u29 = true then
        (f_Mo_isLast n v2 ((mTodo (v3 + (-1)).toNatClampNeg) - (mTodo (v3 + (-1)).toNatClampNeg) / 64 * 64) mLast).bind fun u39 =>
        if u39 = true then
          (f_Mo_within_131 n ((mTodo (v3 + (-1)).toNatClampNeg) - (mTodo (v3 + (-1)).toNatClampNeg) / 64 * 64) ((mTodo (v3 + (-1)).toNatClampNeg) / 64) v1 v2 mGoes n 0 (v3 + (-1)) mMet mTodo).bind fun u41 =>
          f_Mo_within_77 n v1 v2 mErr mGoes mLast k u41.2.1 u41.2.2.1 u41.2.2.2
        else
          some (.inl (false, mErr, mMet, mTodo))
      else
        (f_Mo_within_131 n ((mTodo (v3 + (-1)).toNatClampNeg) - (mTodo (v3 + (-1)).toNatClampNeg) / 64 * 64) ((mTodo (v3 + (-1)).toNatClampNeg) / 64) v1 v2 mGoes n 0 (v3 + (-1)) mMet mTodo).bind fun u38 =>
        f_Mo_within_77 n v1 v2 mErr mGoes mLast k u38.2.1 u38.2.2.1 u38.2.2.2
set_option maxHeartbeats 4000000 in
set_option maxRecDepth 100000 in
theorem w_Mo_within_77  {v1 : Int32} {v2 : Int32} (hx : p.tables.exec = Jvm.exec) (hb : c.code = b_Mo_within) (hml : c.maxLocals = 9) (hts : ∀ w ∈ gW, w.before args s = true) (hown : s.vm.findClass "RegularSolverModel" = some m.cls) (hK : va_K D vwCl (tG K) s) (hRf : 2 ≤ R.frames) (hRl : 46 ≤ R.locals) (hRc : cells ≤ R.cells) (hRs : slots ≤ R.slots) (hA : ∀ q, H0.size ≤ q → A q)  {out : (Bool × Int32 × (Nat → Bool) × (Nat → Int32)) ⊕ (Int32 × (Nat → Bool) × (Nat → Int32))} (Kr : ∀ (r : Bool × Int32 × (Nat → Bool) × (Nat → Int32)), out = .inl r → ∀ (pc : Nat) (ls : Array Slot) (H : Heap) (locs : List Loc), decode b_Mo_within pc = .ok (.ireturn, 1) → va_P D vwCl (moW K h a r.2.1 mLanguages mBounds mSize mGoes mLast mLeft mNext mGroup mFresh mLeader mNumber mRight mEnds mWay mVariable mFactor mLeast mMost mLength mWord mKept mMany mMore mLeads r.2.2.1 r.2.2.2 mMay mTries) H → va_D A (moW K h a r.2.1 mLanguages mBounds mSize mGoes mLast mLeft mNext mGroup mFresh mLeader mNumber mRight mEnds mWay mVariable mFactor mLeast mMost mLength mWord mKept mMany mMore mLeads r.2.2.1 r.2.2.2 mMay mTries) → va_S A H0 H locs → W p l e R s m args below meth c H locs cells slots Q (F0 m pc ls [.int (bI r.1)])) (Kx : ∀ (u : Int32 × (Nat → Bool) × (Nat → Int32)), out = .inr u → ∀ (ls : Array Slot) (H : Heap) (locs : List Loc), va_P D vwCl (moW K h a mErr mLanguages mBounds mSize mGoes mLast mLeft mNext mGroup mFresh mLeader mNumber mRight mEnds mWay mVariable mFactor mLeast mMost mLength mWord mKept mMany mMore mLeads u.2.1 u.2.2 mMay mTries) H → va_D A (moW K h a mErr mLanguages mBounds mSize mGoes mLast mLeft mNext mGroup mFresh mLeader mNumber mRight mEnds mWay mVariable mFactor mLeast mMost mLength mWord mKept mMany mMore mLeads u.2.1 u.2.2 mMay mTries) → va_S A H0 H locs → lv_has ls 9 [] → W p l e R s m args below meth c H locs cells slots Q (F0 m 202 ls [])) :
    ∀ (k : Nat) (v3 : Int32) (mMet : Nat → Bool) (mTodo : Nat → Int32), f_Mo_within_77 n v1 v2 mErr mGoes mLast k v3 mMet mTodo = some out → ∀ (ls : Array Slot) (H : Heap) (locs : List Loc), va_P D vwCl (moW K h a mErr mLanguages mBounds mSize mGoes mLast mLeft mNext mGroup mFresh mLeader mNumber mRight mEnds mWay mVariable mFactor mLeast mMost mLength mWord mKept mMany mMore mLeads mMet mTodo mMay mTries) H → va_D A (moW K h a mErr mLanguages mBounds mSize mGoes mLast mLeft mNext mGroup mFresh mLeader mNumber mRight mEnds mWay mVariable mFactor mLeast mMost mLength mWord mKept mMany mMore mLeads mMet mTodo mMay mTries) → va_S A H0 H locs → lv_has ls 9 [(3, .int v3), (0, .ref h), (1, .int v1), (2, .int v2)] → W p l e R s m args below meth c H locs cells slots Q (F0 m 77 ls []) := by
  intro k
  induction k with
  | zero => intro _ _ _ hf; exact nomatch (show none = some out from hf)
  | succ k ih =>
    intro v3 mMet mTodo hf ls H locs hP hD hS hl
    rw [f_Mo_within_77] at hf
    refine lv_iload_n hx hb d_Mo_within_77 rfl (lv_at hl 0 rfl) ?_
    refine lv_if_le (tgt := 202) hx hb d_Mo_within_78 (by decide) (fun c27 => ?_) (fun c27 => ?_)
    · rw [if_pos c27] at hf
      exact Kx _ (Option.some.inj hf).symm _ _ _ hP hD hS (show lv_has ls 9 [] from lv_sub hl [] rfl)
    · rw [if_neg c27] at hf
      refine lv_aload_n hx hb d_Mo_within_81 rfl (lv_at hl 1 rfl) ?_
      refine va_get (D := D) (ci := 0) (v := .ref (a 21)) (C := R_Mo) (T := T_Mo) (N := 29) hx hb hts in_Mo hown hK hP 0 rfl rfl 26 (by decide) (hts _ fl_Mo_75) (fun _ h9 => h9) rfl d_Mo_within_82 ?_
      refine lv_iinc (v := v3 + (-1)) (lv' := [(3, .int (v3 + (-1))), (0, .ref h), (1, .int v1), (2, .int v2)]) hx hb d_Mo_within_85 hl (k := 0) rfl (by first | rfl | (congr 1)) (by decide) rfl (fun ls hl => ?_)
      refine lv_iload_n hx hb d_Mo_within_88 rfl (lv_at hl 0 rfl) ?_
      obtain ⟨g28, hf⟩ := ogi hf
      refine va_iald hx hb hK hP 22 0 rfl rfl (gin_in g28) d_Mo_within_89 ?_
      refine lv_istore (lv' := [(4, .int (mTodo (v3 + (-1)).toNatClampNeg)), (3, .int (v3 + (-1))), (0, .ref h), (1, .int v1), (2, .int v2)]) hx hb d_Mo_within_90 hl (by decide) rfl (fun ls hl => ?_)
      refine lv_iload hx hb d_Mo_within_92 (lv_at hl 0 rfl) ?_
      refine lv_bipush (v := 64) hx hb d_Mo_within_94 (by decide) ?_
      refine lv_idiv hx hb d_Mo_within_96 (by decide) ?_
      refine lv_istore (lv' := [(5, .int ((mTodo (v3 + (-1)).toNatClampNeg) / 64)), (4, .int (mTodo (v3 + (-1)).toNatClampNeg)), (3, .int (v3 + (-1))), (0, .ref h), (1, .int v1), (2, .int v2)]) hx hb d_Mo_within_97 hl (by decide) rfl (fun ls hl => ?_)
      refine lv_iload hx hb d_Mo_within_99 (lv_at hl 1 rfl) ?_
      refine lv_bipush (v := 64) hx hb d_Mo_within_101 (by decide) ?_
      refine lv_irem hx hb d_Mo_within_103 (by decide) ?_
      refine lv_istore (lv' := [(6, .int ((mTodo (v3 + (-1)).toNatClampNeg) - (mTodo (v3 + (-1)).toNatClampNeg) / 64 * 64)), (5, .int ((mTodo (v3 + (-1)).toNatClampNeg) / 64)), (4, .int (mTodo (v3 + (-1)).toNatClampNeg)), (3, .int (v3 + (-1))), (0, .ref h), (1, .int v1), (2, .int v2)]) hx hb d_Mo_within_104 hl (by decide) rfl (fun ls hl => ?_)
      refine lv_aload_n hx hb d_Mo_within_106 rfl (lv_at hl 4 rfl) ?_
      refine lv_iload_n hx hb d_Mo_within_107 rfl (lv_at hl 5 rfl) ?_
      refine lv_iload hx hb d_Mo_within_108 (lv_at hl 1 rfl) ?_
      obtain ⟨u29, eu29, hf⟩ := obd hf
      refine p_call (W.runV (As := [.int v1, .int ((mTodo (v3 + (-1)).toNatClampNeg) / 64)]) (rest := []) ⟨hx, hb, hml, hown, hts⟩ (c_Mo_isLast l eu29) (gV 2 hts cd_Mo_isLast ml_Mo_102 im_Mo_isLast se_Mo_isLast ini_Mo rfl rfl pd_Mo_isLast ⟨Nat.le_trans (Nat.le_of_ble_eq_true rfl) hRf, Nat.le_trans (Nat.le_of_ble_eq_true rfl) hRl⟩) ⟨pPre_blind, va_recv hK hP (ci := 0) (q0 := 0) rfl rfl, pPre_of hP hK⟩ rfl rfl hl.1 rfl (lv_room (Nat.le_of_ble_eq_true rfl)) d_Mo_within_110 ⟨hRc, hRs⟩) ?_
      refine bz_eq (tgt := 128) hx hb d_Mo_within_113 (by decide) (fun c30 => ?_) (fun c30 => ?_)
      · rw [if_neg c30] at hf
        refine lv_iconst (v := 0) hx hb d_Mo_within_128 (by decide) ?_
        refine lv_istore (lv' := [(7, .int 0), (6, .int ((mTodo (v3 + (-1)).toNatClampNeg) - (mTodo (v3 + (-1)).toNatClampNeg) / 64 * 64)), (5, .int ((mTodo (v3 + (-1)).toNatClampNeg) / 64)), (4, .int (mTodo (v3 + (-1)).toNatClampNeg)), (3, .int (v3 + (-1))), (0, .ref h), (1, .int v1), (2, .int v2)]) hx hb d_Mo_within_129 hl (by decide) rfl (fun ls hl => ?_)
        obtain ⟨u38, eu38, hf⟩ := obd hf
        refine w_Mo_within_131 hx hb hml hts hown hK hRf hRl hRc hRs hA  (fun u38q eu ls H locs hP hD hS hl => ?_) _ _ _ _ _ eu38 _ _ _ hP hD hS (show lv_has ls 9 [(7, .int 0), (6, .int ((mTodo (v3 + (-1)).toNatClampNeg) - (mTodo (v3 + (-1)).toNatClampNeg) / 64 * 64)), (5, .int ((mTodo (v3 + (-1)).toNatClampNeg) / 64)), (3, .int (v3 + (-1))), (0, .ref h), (1, .int v1), (2, .int v2)] from lv_sub hl [0, 1, 2, 4, 5, 6, 7] rfl)
        subst eu
        refine lv_goto (tgt := 77) hx hb d_Mo_within_199 (by decide) ?_
        exact ih _ _ _ hf _ _ _ hP hD hS (show lv_has ls 9 [(3, .int u38.2.1), (0, .ref h), (1, .int v1), (2, .int v2)] from lv_sub hl [0, 1, 2, 3] rfl)
      · rw [if_pos c30] at hf
        refine lv_aload_n hx hb d_Mo_within_116 rfl (lv_at hl 4 rfl) ?_
        refine lv_iload_n hx hb d_Mo_within_117 rfl (lv_at hl 6 rfl) ?_
        refine lv_iload hx hb d_Mo_within_118 (lv_at hl 0 rfl) ?_
        obtain ⟨u39, eu39, hf⟩ := obd hf
        refine p_call (W.runV (As := [.int v2, .int ((mTodo (v3 + (-1)).toNatClampNeg) - (mTodo (v3 + (-1)).toNatClampNeg) / 64 * 64)]) (rest := []) ⟨hx, hb, hml, hown, hts⟩ (c_Mo_isLast l eu39) (gV 2 hts cd_Mo_isLast ml_Mo_102 im_Mo_isLast se_Mo_isLast ini_Mo rfl rfl pd_Mo_isLast ⟨Nat.le_trans (Nat.le_of_ble_eq_true rfl) hRf, Nat.le_trans (Nat.le_of_ble_eq_true rfl) hRl⟩) ⟨pPre_blind, va_recv hK hP (ci := 0) (q0 := 0) rfl rfl, pPre_of hP hK⟩ rfl rfl hl.1 rfl (lv_room (Nat.le_of_ble_eq_true rfl)) d_Mo_within_120 ⟨hRc, hRs⟩) ?_
        refine bz_ne (tgt := 128) hx hb d_Mo_within_123 (by decide) (fun c40 => ?_) (fun c40 => ?_)
        · rw [if_pos c40] at hf
          refine lv_iconst (v := 0) hx hb d_Mo_within_128 (by decide) ?_
          refine lv_istore (lv' := [(7, .int 0), (6, .int ((mTodo (v3 + (-1)).toNatClampNeg) - (mTodo (v3 + (-1)).toNatClampNeg) / 64 * 64)), (5, .int ((mTodo (v3 + (-1)).toNatClampNeg) / 64)), (4, .int (mTodo (v3 + (-1)).toNatClampNeg)), (3, .int (v3 + (-1))), (0, .ref h), (1, .int v1), (2, .int v2)]) hx hb d_Mo_within_129 hl (by decide) rfl (fun ls hl => ?_)
          obtain ⟨u41, eu41, hf⟩ := obd hf
          refine w_Mo_within_131 hx hb hml hts hown hK hRf hRl hRc hRs hA  (fun u41q eu ls H locs hP hD hS hl => ?_) _ _ _ _ _ eu41 _ _ _ hP hD hS (show lv_has ls 9 [(7, .int 0), (6, .int ((mTodo (v3 + (-1)).toNatClampNeg) - (mTodo (v3 + (-1)).toNatClampNeg) / 64 * 64)), (5, .int ((mTodo (v3 + (-1)).toNatClampNeg) / 64)), (3, .int (v3 + (-1))), (0, .ref h), (1, .int v1), (2, .int v2)] from lv_sub hl [0, 1, 2, 4, 5, 6, 7] rfl)
          subst eu
          refine lv_goto (tgt := 77) hx hb d_Mo_within_199 (by decide) ?_
          exact ih _ _ _ hf _ _ _ hP hD hS (show lv_has ls 9 [(3, .int u41.2.1), (0, .ref h), (1, .int v1), (2, .int v2)] from lv_sub hl [0, 1, 2, 3] rfl)
        · rw [if_neg c40] at hf
          refine lv_iconst (v := 0) hx hb d_Mo_within_126 (by decide) ?_
          exact Kr _ (Option.some.inj hf).symm _ _ _ _ d_Mo_within_127 hP hD hS
def f_Mo_within (n : Nat) (p0 : Int32) (p1 : Int32) (mLanguages : Int32) (mGoes : Nat → Int32) (mLast : Nat → Bool) (mMet : Nat → Bool) (mTodo : Nat → Int32) : Option (Bool × Int32 × (Nat → Bool) × (Nat → Int32)) :=
  (f_Mo_isLanguage n p0 mLanguages).bind fun u1 =>
  if u1 = true then
    (f_Mo_isLanguage n p1 mLanguages).bind fun u43 =>
    if u43 = true then
      (f_Mo_fails n false 1 0).bind fun u45 =>
      if u45.1 = true then
        some (false, u45.2, mMet, mTodo)
      else
        (f_Mo_within_38 n  n 0 mMet).bind fun u47 =>
        ogd (gin 0 4096) <|
        ogd (gin 0 4096) <|
        (f_Mo_within_77 n p0 p1 u45.2 mGoes mLast n (0 + 1) (va_up u47.2 (0 : Int32).toNatClampNeg true) (upd mTodo (0 : Int32).toNatClampNeg 0)).bind fun u50 => u50.elim (fun r => some r) fun x50 =>
        some (true, u45.2, x50.2.1, x50.2.2)
    else
      (f_Mo_fails n true 1 0).bind fun u51 =>
      if u51.1 = true then
        some (false, u51.2, mMet, mTodo)
      else
        (f_Mo_within_38 n  n 0 mMet).bind fun u53 =>
        ogd (gin 0 4096) <|
        ogd (gin 0 4096) <|
        (f_Mo_within_77 n p0 p1 u51.2 mGoes mLast n (0 + 1) (va_up u53.2 (0 : Int32).toNatClampNeg true) (upd mTodo (0 : Int32).toNatClampNeg 0)).bind fun u56 => u56.elim (fun r => some r) fun x56 =>
        some (true, u51.2, x56.2.1, x56.2.2)
  else
    (f_Mo_fails n true 1 0).bind fun u3 =>
    if u3.1 = true then
      some (false, u3.2, mMet, mTodo)
    else
      (f_Mo_within_38 n  n 0 mMet).bind fun u9 =>
      ogd (gin 0 4096) <|
      ogd (gin 0 4096) <|
      (f_Mo_within_77 n p0 p1 u3.2 mGoes mLast n (0 + 1) (va_up u9.2 (0 : Int32).toNatClampNeg true) (upd mTodo (0 : Int32).toNatClampNeg 0)).bind fun u42 => u42.elim (fun r => some r) fun x42 =>
      some (true, u3.2, x42.2.1, x42.2.2)
set_option maxHeartbeats 4000000 in
set_option maxRecDepth 100000 in
theorem w_Mo_within  {p0 : Int32} {p1 : Int32}  (hx : p.tables.exec = Jvm.exec) (hb : c.code = b_Mo_within) (hml : c.maxLocals = 9) (hts : ∀ w ∈ gW, w.before args s = true) (hown : s.vm.findClass "RegularSolverModel" = some m.cls) (hK : va_K D vwCl (tG K) s) (hRf : 2 ≤ R.frames) (hRl : 46 ≤ R.locals) (hRc : cells ≤ R.cells) (hRs : slots ≤ R.slots) (hA : ∀ q, H0.size ≤ q → A q) {out : Bool × Int32 × (Nat → Bool) × (Nat → Int32)} (Kr : ∀ (r : Bool × Int32 × (Nat → Bool) × (Nat → Int32)), out = r → ∀ (pc : Nat) (ls : Array Slot) (H : Heap) (locs : List Loc), decode b_Mo_within pc = .ok (.ireturn, 1) → va_P D vwCl (moW K h a r.2.1 mLanguages mBounds mSize mGoes mLast mLeft mNext mGroup mFresh mLeader mNumber mRight mEnds mWay mVariable mFactor mLeast mMost mLength mWord mKept mMany mMore mLeads r.2.2.1 r.2.2.2 mMay mTries) H → va_D A (moW K h a r.2.1 mLanguages mBounds mSize mGoes mLast mLeft mNext mGroup mFresh mLeader mNumber mRight mEnds mWay mVariable mFactor mLeast mMost mLength mWord mKept mMany mMore mLeads r.2.2.1 r.2.2.2 mMay mTries) → va_S A H0 H locs → W p l e R s m args below meth c H locs cells slots Q (F0 m pc ls [.int (bI r.1)])) (hf : f_Mo_within n p0 p1 mLanguages mGoes mLast mMet mTodo = some out) (ls : Array Slot) (hP : va_P D vwCl (moW K h a mErr mLanguages mBounds mSize mGoes mLast mLeft mNext mGroup mFresh mLeader mNumber mRight mEnds mWay mVariable mFactor mLeast mMost mLength mWord mKept mMany mMore mLeads mMet mTodo mMay mTries) H) (hD : va_D A (moW K h a mErr mLanguages mBounds mSize mGoes mLast mLeft mNext mGroup mFresh mLeader mNumber mRight mEnds mWay mVariable mFactor mLeast mMost mLength mWord mKept mMany mMore mLeads mMet mTodo mMay mTries)) (hS : va_S A H0 H locs) (hl : lv_has ls 9 [(0, .ref h), (1, .int p0), (2, .int p1)]) : W p l e R s m args below meth c H locs cells slots Q (F0 m 0 ls []) := by
  unfold f_Mo_within at hf
  refine lv_aload_n hx hb d_Mo_within_0 rfl (lv_at hl 0 rfl) ?_
  refine lv_iconst (v := 0) hx hb d_Mo_within_1 (by decide) ?_
  refine va_put (D := D) (ci := 0) (v := .int 0) (ty := .int) (C := R_Mo) (T := T_Mo) (N := 29) hx hb hts in_Mo t_Mo t_Mo_ok n_Mo hown hK hP hD hS 0 rfl rfl 0 (by decide) (hts _ fl_Mo_84) (fun _ h9 => h9) rfl (by decide +kernel) rfl rfl (Nat.le_of_ble_eq_true rfl) d_Mo_within_2 (fun H locs hP hD hS => ?_)
  have hP : va_P D vwCl (moW K h a 0 mLanguages mBounds mSize mGoes mLast mLeft mNext mGroup mFresh mLeader mNumber mRight mEnds mWay mVariable mFactor mLeast mMost mLength mWord mKept mMany mMore mLeads mMet mTodo mMay mTries) H := hP
  have hD : va_D A (moW K h a 0 mLanguages mBounds mSize mGoes mLast mLeft mNext mGroup mFresh mLeader mNumber mRight mEnds mWay mVariable mFactor mLeast mMost mLength mWord mKept mMany mMore mLeads mMet mTodo mMay mTries) := hD
  refine lv_aload_n hx hb d_Mo_within_5 rfl (lv_at hl 0 rfl) ?_
  refine lv_aload_n hx hb d_Mo_within_6 rfl (lv_at hl 0 rfl) ?_
  refine lv_iload_n hx hb d_Mo_within_7 rfl (lv_at hl 1 rfl) ?_
  obtain ⟨u1, eu1, hf⟩ := obd hf
  refine p_call (W.runV (As := [.int p0]) (rest := [.ref h]) ⟨hx, hb, hml, hown, hts⟩ (c_Mo_isLanguage l eu1) (gV 1 hts cd_Mo_isLanguage ml_Mo_138 im_Mo_isLanguage se_Mo_isLanguage ini_Mo rfl rfl pd_Mo_isLanguage ⟨Nat.le_trans (Nat.le_of_ble_eq_true rfl) hRf, Nat.le_trans (Nat.le_of_ble_eq_true rfl) hRl⟩) ⟨pPre_blind, va_recv hK hP (ci := 0) (q0 := 0) rfl rfl, pPre_of hP hK⟩ rfl rfl hl.1 rfl (lv_room (Nat.le_of_ble_eq_true rfl)) d_Mo_within_8 ⟨hRc, hRs⟩) ?_
  refine bz_eq (tgt := 22) hx hb d_Mo_within_11 (by decide) (fun c2 => ?_) (fun c2 => ?_)
  · rw [if_neg c2] at hf
    refine lv_iconst (v := 1) hx hb d_Mo_within_22 (by decide) ?_
    refine lv_goto (tgt := 27) hx hb d_Mo_within_23 (by decide) ?_
    refine lv_iconst (v := 1) hx hb d_Mo_within_27 (by decide) ?_
    obtain ⟨u3, eu3, hf⟩ := obd hf
    refine w_call (va_runV (As := [.int (bI true), .int 1]) (rest := []) ⟨hx, hb, hml, hown, hts⟩ (c_Mo_fails l H.size eu3) (gV 2 hts cd_Mo_fails ml_Mo_124 im_Mo_fails se_Mo_fails ini_Mo rfl rfl pd_Mo_fails ⟨Nat.le_trans (Nat.le_of_ble_eq_true rfl) hRf, Nat.le_trans (Nat.le_of_ble_eq_true rfl) hRl⟩) ⟨wPre_blind, va_recv hK hP (ci := 0) (q0 := 0) rfl rfl, wPre_of hP hK hD⟩ rfl rfl hl.1 rfl (lv_room (Nat.le_of_ble_eq_true rfl)) d_Mo_within_28 ⟨hRc, hRs⟩) hD hS hA (fun H locs hP hD hS => ?_)
    have hP : va_P D vwCl (moW K h a u3.2 mLanguages mBounds mSize mGoes mLast mLeft mNext mGroup mFresh mLeader mNumber mRight mEnds mWay mVariable mFactor mLeast mMost mLength mWord mKept mMany mMore mLeads mMet mTodo mMay mTries) H := hP
    have hD : va_D A (moW K h a u3.2 mLanguages mBounds mSize mGoes mLast mLeft mNext mGroup mFresh mLeader mNumber mRight mEnds mWay mVariable mFactor mLeast mMost mLength mWord mKept mMany mMore mLeads mMet mTodo mMay mTries) := hD
    refine bz_eq (tgt := 36) hx hb d_Mo_within_31 (by decide) (fun c4 => ?_) (fun c4 => ?_)
    · rw [if_neg c4] at hf
      refine lv_iconst (v := 0) hx hb d_Mo_within_36 (by decide) ?_
      refine lv_istore_n (lv' := [(3, .int 0), (0, .ref h), (1, .int p0), (2, .int p1)]) hx hb d_Mo_within_37 rfl hl (by decide) rfl (fun ls hl => ?_)
      obtain ⟨u9, eu9, hf⟩ := obd hf
      refine w_Mo_within_38 hx hb hml hts hown hK hRf hRl hRc hRs hA  (fun u9q eu ls H locs hP hD hS hl => ?_) _ _ _ eu9 _ _ _ hP hD hS (show lv_has ls 9 [(3, .int 0), (0, .ref h), (1, .int p0), (2, .int p1)] from lv_sub hl [0, 1, 2, 3] rfl)
      subst eu
      refine lv_iconst (v := 0) hx hb d_Mo_within_58 (by decide) ?_
      refine lv_istore_n (lv' := [(3, .int 0), (0, .ref h), (1, .int p0), (2, .int p1)]) hx hb d_Mo_within_59 rfl hl (by decide) rfl (fun ls hl => ?_)
      refine lv_aload_n hx hb d_Mo_within_60 rfl (lv_at hl 1 rfl) ?_
      refine va_get (D := D) (ci := 0) (v := .ref (a 20)) (C := R_Mo) (T := T_Mo) (N := 29) hx hb hts in_Mo hown hK hP 0 rfl rfl 25 (by decide) (hts _ fl_Mo_72) (fun _ h9 => h9) rfl d_Mo_within_61 ?_
      refine lv_iconst (v := 0) hx hb d_Mo_within_64 (by decide) ?_
      refine lv_iconst (v := 1) hx hb d_Mo_within_65 (by decide) ?_
      obtain ⟨g10, hf⟩ := ogi hf
      refine bz_ast (b := true) hx hb hK hP hD hS 21 2 rfl rfl (gin_in g10) d_Mo_within_66 (fun H locs hP hD hS => ?_)
      have hP : va_P D vwCl (moW K h a u3.2 mLanguages mBounds mSize mGoes mLast mLeft mNext mGroup mFresh mLeader mNumber mRight mEnds mWay mVariable mFactor mLeast mMost mLength mWord mKept mMany mMore mLeads (va_up u9.2 (0 : Int32).toNatClampNeg true) mTodo mMay mTries) H := hP
      have hD : va_D A (moW K h a u3.2 mLanguages mBounds mSize mGoes mLast mLeft mNext mGroup mFresh mLeader mNumber mRight mEnds mWay mVariable mFactor mLeast mMost mLength mWord mKept mMany mMore mLeads (va_up u9.2 (0 : Int32).toNatClampNeg true) mTodo mMay mTries) := hD
      refine lv_aload_n hx hb d_Mo_within_67 rfl (lv_at hl 1 rfl) ?_
      refine va_get (D := D) (ci := 0) (v := .ref (a 21)) (C := R_Mo) (T := T_Mo) (N := 29) hx hb hts in_Mo hown hK hP 0 rfl rfl 26 (by decide) (hts _ fl_Mo_75) (fun _ h9 => h9) rfl d_Mo_within_68 ?_
      refine lv_iload_n hx hb d_Mo_within_71 rfl (lv_at hl 0 rfl) ?_
      refine lv_iinc (v := 0 + 1) (lv' := [(3, .int (0 + 1)), (0, .ref h), (1, .int p0), (2, .int p1)]) hx hb d_Mo_within_72 hl (k := 0) rfl (by first | rfl | (congr 1)) (by decide) rfl (fun ls hl => ?_)
      refine lv_iconst (v := 0) hx hb d_Mo_within_75 (by decide) ?_
      obtain ⟨g11, hf⟩ := ogi hf
      refine va_iast hx hb hK hP hD hS 22 0 rfl rfl (gin_in g11) d_Mo_within_76 (fun H locs hP hD hS => ?_)
      have hP : va_P D vwCl (moW K h a u3.2 mLanguages mBounds mSize mGoes mLast mLeft mNext mGroup mFresh mLeader mNumber mRight mEnds mWay mVariable mFactor mLeast mMost mLength mWord mKept mMany mMore mLeads (va_up u9.2 (0 : Int32).toNatClampNeg true) (upd mTodo (0 : Int32).toNatClampNeg 0) mMay mTries) H := hP
      have hD : va_D A (moW K h a u3.2 mLanguages mBounds mSize mGoes mLast mLeft mNext mGroup mFresh mLeader mNumber mRight mEnds mWay mVariable mFactor mLeast mMost mLength mWord mKept mMany mMore mLeads (va_up u9.2 (0 : Int32).toNatClampNeg true) (upd mTodo (0 : Int32).toNatClampNeg 0) mMay mTries) := hD
      obtain ⟨u42, eu42, hf⟩ := obd hf
      refine w_Mo_within_77 hx hb hml hts hown hK hRf hRl hRc hRs hA (fun r er pc ls H locs hd hP hD hS => Kr r (by subst er; exact (Option.some.inj hf).symm) pc ls H locs hd hP hD hS) (fun x42 eu ls H locs hP hD hS hl => ?_) _ _ _ _ eu42 _ _ _ hP hD hS (show lv_has ls 9 [(3, .int (0 + 1)), (0, .ref h), (1, .int p0), (2, .int p1)] from lv_sub hl [0, 1, 2, 3] rfl)
      subst eu
      replace hf := oel hf
      refine lv_iconst (v := 1) hx hb d_Mo_within_202 (by decide) ?_
      exact Kr _ (Option.some.inj hf).symm _ _ _ _ d_Mo_within_203 hP hD hS
    · rw [if_pos c4] at hf
      refine lv_iconst (v := 0) hx hb d_Mo_within_34 (by decide) ?_
      exact Kr _ (Option.some.inj hf).symm _ _ _ _ d_Mo_within_35 hP hD hS
  · rw [if_pos c2] at hf
    refine lv_aload_n hx hb d_Mo_within_14 rfl (lv_at hl 0 rfl) ?_
    refine lv_iload_n hx hb d_Mo_within_15 rfl (lv_at hl 2 rfl) ?_
    obtain ⟨u43, eu43, hf⟩ := obd hf
    refine p_call (W.runV (As := [.int p1]) (rest := [.ref h]) ⟨hx, hb, hml, hown, hts⟩ (c_Mo_isLanguage l eu43) (gV 1 hts cd_Mo_isLanguage ml_Mo_138 im_Mo_isLanguage se_Mo_isLanguage ini_Mo rfl rfl pd_Mo_isLanguage ⟨Nat.le_trans (Nat.le_of_ble_eq_true rfl) hRf, Nat.le_trans (Nat.le_of_ble_eq_true rfl) hRl⟩) ⟨pPre_blind, va_recv hK hP (ci := 0) (q0 := 0) rfl rfl, pPre_of hP hK⟩ rfl rfl hl.1 rfl (lv_room (Nat.le_of_ble_eq_true rfl)) d_Mo_within_16 ⟨hRc, hRs⟩) ?_
    refine bz_ne (tgt := 26) hx hb d_Mo_within_19 (by decide) (fun c44 => ?_) (fun c44 => ?_)
    · rw [if_pos c44] at hf
      refine lv_iconst (v := 0) hx hb d_Mo_within_26 (by decide) ?_
      refine lv_iconst (v := 1) hx hb d_Mo_within_27 (by decide) ?_
      obtain ⟨u45, eu45, hf⟩ := obd hf
      refine w_call (va_runV (As := [.int (bI false), .int 1]) (rest := []) ⟨hx, hb, hml, hown, hts⟩ (c_Mo_fails l H.size eu45) (gV 2 hts cd_Mo_fails ml_Mo_124 im_Mo_fails se_Mo_fails ini_Mo rfl rfl pd_Mo_fails ⟨Nat.le_trans (Nat.le_of_ble_eq_true rfl) hRf, Nat.le_trans (Nat.le_of_ble_eq_true rfl) hRl⟩) ⟨wPre_blind, va_recv hK hP (ci := 0) (q0 := 0) rfl rfl, wPre_of hP hK hD⟩ rfl rfl hl.1 rfl (lv_room (Nat.le_of_ble_eq_true rfl)) d_Mo_within_28 ⟨hRc, hRs⟩) hD hS hA (fun H locs hP hD hS => ?_)
      have hP : va_P D vwCl (moW K h a u45.2 mLanguages mBounds mSize mGoes mLast mLeft mNext mGroup mFresh mLeader mNumber mRight mEnds mWay mVariable mFactor mLeast mMost mLength mWord mKept mMany mMore mLeads mMet mTodo mMay mTries) H := hP
      have hD : va_D A (moW K h a u45.2 mLanguages mBounds mSize mGoes mLast mLeft mNext mGroup mFresh mLeader mNumber mRight mEnds mWay mVariable mFactor mLeast mMost mLength mWord mKept mMany mMore mLeads mMet mTodo mMay mTries) := hD
      refine bz_eq (tgt := 36) hx hb d_Mo_within_31 (by decide) (fun c46 => ?_) (fun c46 => ?_)
      · rw [if_neg c46] at hf
        refine lv_iconst (v := 0) hx hb d_Mo_within_36 (by decide) ?_
        refine lv_istore_n (lv' := [(3, .int 0), (0, .ref h), (1, .int p0), (2, .int p1)]) hx hb d_Mo_within_37 rfl hl (by decide) rfl (fun ls hl => ?_)
        obtain ⟨u47, eu47, hf⟩ := obd hf
        refine w_Mo_within_38 hx hb hml hts hown hK hRf hRl hRc hRs hA  (fun u47q eu ls H locs hP hD hS hl => ?_) _ _ _ eu47 _ _ _ hP hD hS (show lv_has ls 9 [(3, .int 0), (0, .ref h), (1, .int p0), (2, .int p1)] from lv_sub hl [0, 1, 2, 3] rfl)
        subst eu
        refine lv_iconst (v := 0) hx hb d_Mo_within_58 (by decide) ?_
        refine lv_istore_n (lv' := [(3, .int 0), (0, .ref h), (1, .int p0), (2, .int p1)]) hx hb d_Mo_within_59 rfl hl (by decide) rfl (fun ls hl => ?_)
        refine lv_aload_n hx hb d_Mo_within_60 rfl (lv_at hl 1 rfl) ?_
        refine va_get (D := D) (ci := 0) (v := .ref (a 20)) (C := R_Mo) (T := T_Mo) (N := 29) hx hb hts in_Mo hown hK hP 0 rfl rfl 25 (by decide) (hts _ fl_Mo_72) (fun _ h9 => h9) rfl d_Mo_within_61 ?_
        refine lv_iconst (v := 0) hx hb d_Mo_within_64 (by decide) ?_
        refine lv_iconst (v := 1) hx hb d_Mo_within_65 (by decide) ?_
        obtain ⟨g48, hf⟩ := ogi hf
        refine bz_ast (b := true) hx hb hK hP hD hS 21 2 rfl rfl (gin_in g48) d_Mo_within_66 (fun H locs hP hD hS => ?_)
        have hP : va_P D vwCl (moW K h a u45.2 mLanguages mBounds mSize mGoes mLast mLeft mNext mGroup mFresh mLeader mNumber mRight mEnds mWay mVariable mFactor mLeast mMost mLength mWord mKept mMany mMore mLeads (va_up u47.2 (0 : Int32).toNatClampNeg true) mTodo mMay mTries) H := hP
        have hD : va_D A (moW K h a u45.2 mLanguages mBounds mSize mGoes mLast mLeft mNext mGroup mFresh mLeader mNumber mRight mEnds mWay mVariable mFactor mLeast mMost mLength mWord mKept mMany mMore mLeads (va_up u47.2 (0 : Int32).toNatClampNeg true) mTodo mMay mTries) := hD
        refine lv_aload_n hx hb d_Mo_within_67 rfl (lv_at hl 1 rfl) ?_
        refine va_get (D := D) (ci := 0) (v := .ref (a 21)) (C := R_Mo) (T := T_Mo) (N := 29) hx hb hts in_Mo hown hK hP 0 rfl rfl 26 (by decide) (hts _ fl_Mo_75) (fun _ h9 => h9) rfl d_Mo_within_68 ?_
        refine lv_iload_n hx hb d_Mo_within_71 rfl (lv_at hl 0 rfl) ?_
        refine lv_iinc (v := 0 + 1) (lv' := [(3, .int (0 + 1)), (0, .ref h), (1, .int p0), (2, .int p1)]) hx hb d_Mo_within_72 hl (k := 0) rfl (by first | rfl | (congr 1)) (by decide) rfl (fun ls hl => ?_)
        refine lv_iconst (v := 0) hx hb d_Mo_within_75 (by decide) ?_
        obtain ⟨g49, hf⟩ := ogi hf
        refine va_iast hx hb hK hP hD hS 22 0 rfl rfl (gin_in g49) d_Mo_within_76 (fun H locs hP hD hS => ?_)
        have hP : va_P D vwCl (moW K h a u45.2 mLanguages mBounds mSize mGoes mLast mLeft mNext mGroup mFresh mLeader mNumber mRight mEnds mWay mVariable mFactor mLeast mMost mLength mWord mKept mMany mMore mLeads (va_up u47.2 (0 : Int32).toNatClampNeg true) (upd mTodo (0 : Int32).toNatClampNeg 0) mMay mTries) H := hP
        have hD : va_D A (moW K h a u45.2 mLanguages mBounds mSize mGoes mLast mLeft mNext mGroup mFresh mLeader mNumber mRight mEnds mWay mVariable mFactor mLeast mMost mLength mWord mKept mMany mMore mLeads (va_up u47.2 (0 : Int32).toNatClampNeg true) (upd mTodo (0 : Int32).toNatClampNeg 0) mMay mTries) := hD
        obtain ⟨u50, eu50, hf⟩ := obd hf
        refine w_Mo_within_77 hx hb hml hts hown hK hRf hRl hRc hRs hA (fun r er pc ls H locs hd hP hD hS => Kr r (by subst er; exact (Option.some.inj hf).symm) pc ls H locs hd hP hD hS) (fun x50 eu ls H locs hP hD hS hl => ?_) _ _ _ _ eu50 _ _ _ hP hD hS (show lv_has ls 9 [(3, .int (0 + 1)), (0, .ref h), (1, .int p0), (2, .int p1)] from lv_sub hl [0, 1, 2, 3] rfl)
        subst eu
        replace hf := oel hf
        refine lv_iconst (v := 1) hx hb d_Mo_within_202 (by decide) ?_
        exact Kr _ (Option.some.inj hf).symm _ _ _ _ d_Mo_within_203 hP hD hS
      · rw [if_pos c46] at hf
        refine lv_iconst (v := 0) hx hb d_Mo_within_34 (by decide) ?_
        exact Kr _ (Option.some.inj hf).symm _ _ _ _ d_Mo_within_35 hP hD hS
    · rw [if_neg c44] at hf
      refine lv_iconst (v := 1) hx hb d_Mo_within_22 (by decide) ?_
      refine lv_goto (tgt := 27) hx hb d_Mo_within_23 (by decide) ?_
      refine lv_iconst (v := 1) hx hb d_Mo_within_27 (by decide) ?_
      obtain ⟨u51, eu51, hf⟩ := obd hf
      refine w_call (va_runV (As := [.int (bI true), .int 1]) (rest := []) ⟨hx, hb, hml, hown, hts⟩ (c_Mo_fails l H.size eu51) (gV 2 hts cd_Mo_fails ml_Mo_124 im_Mo_fails se_Mo_fails ini_Mo rfl rfl pd_Mo_fails ⟨Nat.le_trans (Nat.le_of_ble_eq_true rfl) hRf, Nat.le_trans (Nat.le_of_ble_eq_true rfl) hRl⟩) ⟨wPre_blind, va_recv hK hP (ci := 0) (q0 := 0) rfl rfl, wPre_of hP hK hD⟩ rfl rfl hl.1 rfl (lv_room (Nat.le_of_ble_eq_true rfl)) d_Mo_within_28 ⟨hRc, hRs⟩) hD hS hA (fun H locs hP hD hS => ?_)
      have hP : va_P D vwCl (moW K h a u51.2 mLanguages mBounds mSize mGoes mLast mLeft mNext mGroup mFresh mLeader mNumber mRight mEnds mWay mVariable mFactor mLeast mMost mLength mWord mKept mMany mMore mLeads mMet mTodo mMay mTries) H := hP
      have hD : va_D A (moW K h a u51.2 mLanguages mBounds mSize mGoes mLast mLeft mNext mGroup mFresh mLeader mNumber mRight mEnds mWay mVariable mFactor mLeast mMost mLength mWord mKept mMany mMore mLeads mMet mTodo mMay mTries) := hD
      refine bz_eq (tgt := 36) hx hb d_Mo_within_31 (by decide) (fun c52 => ?_) (fun c52 => ?_)
      · rw [if_neg c52] at hf
        refine lv_iconst (v := 0) hx hb d_Mo_within_36 (by decide) ?_
        refine lv_istore_n (lv' := [(3, .int 0), (0, .ref h), (1, .int p0), (2, .int p1)]) hx hb d_Mo_within_37 rfl hl (by decide) rfl (fun ls hl => ?_)
        obtain ⟨u53, eu53, hf⟩ := obd hf
        refine w_Mo_within_38 hx hb hml hts hown hK hRf hRl hRc hRs hA  (fun u53q eu ls H locs hP hD hS hl => ?_) _ _ _ eu53 _ _ _ hP hD hS (show lv_has ls 9 [(3, .int 0), (0, .ref h), (1, .int p0), (2, .int p1)] from lv_sub hl [0, 1, 2, 3] rfl)
        subst eu
        refine lv_iconst (v := 0) hx hb d_Mo_within_58 (by decide) ?_
        refine lv_istore_n (lv' := [(3, .int 0), (0, .ref h), (1, .int p0), (2, .int p1)]) hx hb d_Mo_within_59 rfl hl (by decide) rfl (fun ls hl => ?_)
        refine lv_aload_n hx hb d_Mo_within_60 rfl (lv_at hl 1 rfl) ?_
        refine va_get (D := D) (ci := 0) (v := .ref (a 20)) (C := R_Mo) (T := T_Mo) (N := 29) hx hb hts in_Mo hown hK hP 0 rfl rfl 25 (by decide) (hts _ fl_Mo_72) (fun _ h9 => h9) rfl d_Mo_within_61 ?_
        refine lv_iconst (v := 0) hx hb d_Mo_within_64 (by decide) ?_
        refine lv_iconst (v := 1) hx hb d_Mo_within_65 (by decide) ?_
        obtain ⟨g54, hf⟩ := ogi hf
        refine bz_ast (b := true) hx hb hK hP hD hS 21 2 rfl rfl (gin_in g54) d_Mo_within_66 (fun H locs hP hD hS => ?_)
        have hP : va_P D vwCl (moW K h a u51.2 mLanguages mBounds mSize mGoes mLast mLeft mNext mGroup mFresh mLeader mNumber mRight mEnds mWay mVariable mFactor mLeast mMost mLength mWord mKept mMany mMore mLeads (va_up u53.2 (0 : Int32).toNatClampNeg true) mTodo mMay mTries) H := hP
        have hD : va_D A (moW K h a u51.2 mLanguages mBounds mSize mGoes mLast mLeft mNext mGroup mFresh mLeader mNumber mRight mEnds mWay mVariable mFactor mLeast mMost mLength mWord mKept mMany mMore mLeads (va_up u53.2 (0 : Int32).toNatClampNeg true) mTodo mMay mTries) := hD
        refine lv_aload_n hx hb d_Mo_within_67 rfl (lv_at hl 1 rfl) ?_
        refine va_get (D := D) (ci := 0) (v := .ref (a 21)) (C := R_Mo) (T := T_Mo) (N := 29) hx hb hts in_Mo hown hK hP 0 rfl rfl 26 (by decide) (hts _ fl_Mo_75) (fun _ h9 => h9) rfl d_Mo_within_68 ?_
        refine lv_iload_n hx hb d_Mo_within_71 rfl (lv_at hl 0 rfl) ?_
        refine lv_iinc (v := 0 + 1) (lv' := [(3, .int (0 + 1)), (0, .ref h), (1, .int p0), (2, .int p1)]) hx hb d_Mo_within_72 hl (k := 0) rfl (by first | rfl | (congr 1)) (by decide) rfl (fun ls hl => ?_)
        refine lv_iconst (v := 0) hx hb d_Mo_within_75 (by decide) ?_
        obtain ⟨g55, hf⟩ := ogi hf
        refine va_iast hx hb hK hP hD hS 22 0 rfl rfl (gin_in g55) d_Mo_within_76 (fun H locs hP hD hS => ?_)
        have hP : va_P D vwCl (moW K h a u51.2 mLanguages mBounds mSize mGoes mLast mLeft mNext mGroup mFresh mLeader mNumber mRight mEnds mWay mVariable mFactor mLeast mMost mLength mWord mKept mMany mMore mLeads (va_up u53.2 (0 : Int32).toNatClampNeg true) (upd mTodo (0 : Int32).toNatClampNeg 0) mMay mTries) H := hP
        have hD : va_D A (moW K h a u51.2 mLanguages mBounds mSize mGoes mLast mLeft mNext mGroup mFresh mLeader mNumber mRight mEnds mWay mVariable mFactor mLeast mMost mLength mWord mKept mMany mMore mLeads (va_up u53.2 (0 : Int32).toNatClampNeg true) (upd mTodo (0 : Int32).toNatClampNeg 0) mMay mTries) := hD
        obtain ⟨u56, eu56, hf⟩ := obd hf
        refine w_Mo_within_77 hx hb hml hts hown hK hRf hRl hRc hRs hA (fun r er pc ls H locs hd hP hD hS => Kr r (by subst er; exact (Option.some.inj hf).symm) pc ls H locs hd hP hD hS) (fun x56 eu ls H locs hP hD hS hl => ?_) _ _ _ _ eu56 _ _ _ hP hD hS (show lv_has ls 9 [(3, .int (0 + 1)), (0, .ref h), (1, .int p0), (2, .int p1)] from lv_sub hl [0, 1, 2, 3] rfl)
        subst eu
        replace hf := oel hf
        refine lv_iconst (v := 1) hx hb d_Mo_within_202 (by decide) ?_
        exact Kr _ (Option.some.inj hf).symm _ _ _ _ d_Mo_within_203 hP hD hS
      · rw [if_pos c52] at hf
        refine lv_iconst (v := 0) hx hb d_Mo_within_34 (by decide) ?_
        exact Kr _ (Option.some.inj hf).symm _ _ _ _ d_Mo_within_35 hP hD hS
set_option maxHeartbeats 4000000 in
set_option maxRecDepth 100000 in
theorem c_Mo_within (l : Launch)  {p0 : Int32} {p1 : Int32}  {r : Bool × Int32 × (Nat → Bool) × (Nat → Int32)} (sz : Nat) (hf : f_Mo_within n p0 p1 mLanguages mGoes mLast mMet mTodo = some r) : Met l y_Mo_within w0_Mo_within ({ frames := 2, cells := 0, slots := 0, locals := 46 }) (wPre D K [.ref h, .int p0, .int p1] (moW K h a mErr mLanguages mBounds mSize mGoes mLast mLeft mNext mGroup mFresh mLeader mNumber mRight mEnds mWay mVariable mFactor mLeast mMost mLength mWord mKept mMany mMore mLeads mMet mTodo mMay mTries) sz) (wPost D K (some (.int (bI r.1))) (moW K h a r.2.1 mLanguages mBounds mSize mGoes mLast mLeft mNext mGroup mFresh mLeader mNumber mRight mEnds mWay mVariable mFactor mLeast mMost mLength mWord mKept mMany mMore mLeads r.2.2.1 r.2.2.2 mMay mTries) (va_A (moW K h a mErr mLanguages mBounds mSize mGoes mLast mLeft mNext mGroup mFresh mLeader mNumber mRight mEnds mWay mVariable mFactor mLeast mMost mLength mWord mKept mMany mMore mLeads mMet mTodo mMay mTries) sz)) 0 0 (va_A (moW K h a mErr mLanguages mBounds mSize mGoes mLast mLeft mNext mGroup mFresh mLeader mNumber mRight mEnds mWay mVariable mFactor mLeast mMost mLength mWord mKept mMany mMore mLeads mMet mTodo mMay mTries) sz) := by
  refine Met.ofW (cc := b_Mo_within) (maxL := 9) (ret := (some .boolean)) (by decide) rfl ?_
  intro p e s m args below meth c s₁ B hml hv
  obtain ⟨rfl, hsz, hP, hK, hD0⟩ := hv
  subst hsz
  have hl := lv_entry [.ref h, .int p0, .int p1] (n := 9) (Nat.le_of_ble_eq_true rfl)
  rw [lg_entry_eq]
  generalize (lg_sl [.ref h, .int p0, .int p1] ++ List.replicate (9 - (lg_sl [.ref h, .int p0, .int p1]).length) Slot.unset).toArray = ls at hl ⊢
  refine w_Mo_within (A := va_A (moW K h a mErr mLanguages mBounds mSize mGoes mLast mLeft mNext mGroup mFresh mLeader mNumber mRight mEnds mWay mVariable mFactor mLeast mMost mLength mWord mKept mMany mMore mLeads mMet mTodo mMay mTries) s.heap.size) (H0 := s.heap) B.exec B.bytes hml (fun w hw => atoms_spec (ws := w0_Mo_within) B.pre w (List.mem_cons_of_mem _ hw)) (findClass_of_methodNamed B.named) hK (Nat.le_refl _) (Nat.le_refl _) (Nat.zero_le _) (Nat.zero_le _) (fun q h => Or.inr h) (fun r er pc ls H locs hd hP hD hS => ?_) hf ls hP (hD0.self (sz := s.heap.size)) va_S.rf hl
  subst er
  exact W.zret B.exec B.bytes B.returns (bI_nar _) (fun t ht hW => ⟨⟨rfl, by rw [ht]; exact hP, va_K.moved hW.alike hK, hD⟩, hS.F ht⟩) hS.2.2 hd (hlocks := B.notSynchronized)
end
