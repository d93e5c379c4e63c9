abbrev b_Mo_variable : ByteArray := prog_13_method_32_code
def y_Mo_variable : MethodName := ⟨"RegularSolverModel", "variable", "(II)V"⟩
abbrev w0_Mo_variable : List Cond := Cond.code y_Mo_variable b_Mo_variable 3 none :: gW
theorem cd_Mo_variable : Cond.code y_Mo_variable b_Mo_variable 3 none ∈ gW := gm 1055 (by decide +kernel) (by decide +kernel)
theorem d_Mo_variable_0 : decode b_Mo_variable 0 = .ok (.aload_n 0, 1) := by decide +kernel
theorem d_Mo_variable_1 : decode b_Mo_variable 1 = .ok (.iconst 0, 1) := by decide +kernel
theorem d_Mo_variable_2 : decode b_Mo_variable 2 = .ok (.putfield 84, 3) := by decide +kernel
theorem d_Mo_variable_5 : decode b_Mo_variable 5 = .ok (.aload_n 0, 1) := by decide +kernel
theorem d_Mo_variable_6 : decode b_Mo_variable 6 = .ok (.iload_n 1, 1) := by decide +kernel
theorem d_Mo_variable_7 : decode b_Mo_variable 7 = .ok (.i2l, 1) := by decide +kernel
theorem d_Mo_variable_8 : decode b_Mo_variable 8 = .ok (.lconst 0, 1) := by decide +kernel
theorem d_Mo_variable_9 : decode b_Mo_variable 9 = .ok (.ldc2_w 148, 3) := by decide +kernel
theorem d_Mo_variable_12 : decode b_Mo_variable 12 = .ok (.invokestatic 91, 3) := by decide +kernel
theorem d_Mo_variable_15 : decode b_Mo_variable 15 = .ok (.ifCond .eq 16, 3) := by decide +kernel
theorem d_Mo_variable_18 : decode b_Mo_variable 18 = .ok (.iload_n 2, 1) := by decide +kernel
theorem d_Mo_variable_19 : decode b_Mo_variable 19 = .ok (.iconst (-1), 1) := by decide +kernel
theorem d_Mo_variable_20 : decode b_Mo_variable 20 = .ok (.if_icmp .eq 15, 3) := by decide +kernel
theorem d_Mo_variable_23 : decode b_Mo_variable 23 = .ok (.aload_n 0, 1) := by decide +kernel
theorem d_Mo_variable_24 : decode b_Mo_variable 24 = .ok (.iload_n 2, 1) := by decide +kernel
theorem d_Mo_variable_25 : decode b_Mo_variable 25 = .ok (.invokevirtual 138, 3) := by decide +kernel
theorem d_Mo_variable_28 : decode b_Mo_variable 28 = .ok (.ifCond .ne 7, 3) := by decide +kernel
theorem d_Mo_variable_31 : decode b_Mo_variable 31 = .ok (.iconst 1, 1) := by decide +kernel
theorem d_Mo_variable_32 : decode b_Mo_variable 32 = .ok (.goto 4, 3) := by decide +kernel
theorem d_Mo_variable_35 : decode b_Mo_variable 35 = .ok (.iconst 0, 1) := by decide +kernel
theorem d_Mo_variable_36 : decode b_Mo_variable 36 = .ok (.iconst 1, 1) := by decide +kernel
theorem d_Mo_variable_37 : decode b_Mo_variable 37 = .ok (.invokevirtual 124, 3) := by decide +kernel
theorem d_Mo_variable_40 : decode b_Mo_variable 40 = .ok (.ifCond .ne 10, 3) := by decide +kernel
theorem d_Mo_variable_43 : decode b_Mo_variable 43 = .ok (.aload_n 0, 1) := by decide +kernel
theorem d_Mo_variable_44 : decode b_Mo_variable 44 = .ok (.getfield 45, 3) := by decide +kernel
theorem d_Mo_variable_47 : decode b_Mo_variable 47 = .ok (.iload_n 1, 1) := by decide +kernel
theorem d_Mo_variable_48 : decode b_Mo_variable 48 = .ok (.iload_n 2, 1) := by decide +kernel
theorem d_Mo_variable_49 : decode b_Mo_variable 49 = .ok (.iastore, 1) := by decide +kernel
theorem d_Mo_variable_50 : decode b_Mo_variable 50 = .ok (.return_, 1) := by decide +kernel
abbrev b_Mo_bound : ByteArray := prog_13_method_33_code
def y_Mo_bound : MethodName := ⟨"RegularSolverModel", "bound", "(IIIIII)I"⟩
abbrev w0_Mo_bound : List Cond := Cond.code y_Mo_bound b_Mo_bound 8 (some .int) :: gW
theorem cd_Mo_bound : Cond.code y_Mo_bound b_Mo_bound 8 (some .int) ∈ gW := gm 1059 (by decide +kernel) (by decide +kernel)
theorem d_Mo_bound_0 : decode b_Mo_bound 0 = .ok (.aload_n 0, 1) := by decide +kernel
theorem d_Mo_bound_1 : decode b_Mo_bound 1 = .ok (.iconst 0, 1) := by decide +kernel
theorem d_Mo_bound_2 : decode b_Mo_bound 2 = .ok (.putfield 84, 3) := by decide +kernel
theorem d_Mo_bound_5 : decode b_Mo_bound 5 = .ok (.aload_n 0, 1) := by decide +kernel
theorem d_Mo_bound_6 : decode b_Mo_bound 6 = .ok (.iload_n 1, 1) := by decide +kernel
theorem d_Mo_bound_7 : decode b_Mo_bound 7 = .ok (.i2l, 1) := by decide +kernel
theorem d_Mo_bound_8 : decode b_Mo_bound 8 = .ok (.ldc2_w 162, 3) := by decide +kernel
theorem d_Mo_bound_11 : decode b_Mo_bound 11 = .ok (.ldc2_w 164, 3) := by decide +kernel
theorem d_Mo_bound_14 : decode b_Mo_bound 14 = .ok (.invokestatic 91, 3) := by decide +kernel
theorem d_Mo_bound_17 : decode b_Mo_bound 17 = .ok (.ifCond .eq 46, 3) := by decide +kernel
theorem d_Mo_bound_20 : decode b_Mo_bound 20 = .ok (.iload_n 2, 1) := by decide +kernel
theorem d_Mo_bound_21 : decode b_Mo_bound 21 = .ok (.i2l, 1) := by decide +kernel
theorem d_Mo_bound_22 : decode b_Mo_bound 22 = .ok (.ldc2_w 162, 3) := by decide +kernel
theorem d_Mo_bound_25 : decode b_Mo_bound 25 = .ok (.ldc2_w 164, 3) := by decide +kernel
theorem d_Mo_bound_28 : decode b_Mo_bound 28 = .ok (.invokestatic 91, 3) := by decide +kernel
theorem d_Mo_bound_31 : decode b_Mo_bound 31 = .ok (.ifCond .eq 32, 3) := by decide +kernel
theorem d_Mo_bound_34 : decode b_Mo_bound 34 = .ok (.iload_n 3, 1) := by decide +kernel
theorem d_Mo_bound_35 : decode b_Mo_bound 35 = .ok (.i2l, 1) := by decide +kernel
theorem d_Mo_bound_36 : decode b_Mo_bound 36 = .ok (.ldc2_w 162, 3) := by decide +kernel
theorem d_Mo_bound_39 : decode b_Mo_bound 39 = .ok (.ldc2_w 164, 3) := by decide +kernel
theorem d_Mo_bound_42 : decode b_Mo_bound 42 = .ok (.invokestatic 91, 3) := by decide +kernel
theorem d_Mo_bound_45 : decode b_Mo_bound 45 = .ok (.ifCond .eq 18, 3) := by decide +kernel
theorem d_Mo_bound_48 : decode b_Mo_bound 48 = .ok (.iload 4, 2) := by decide +kernel
theorem d_Mo_bound_50 : decode b_Mo_bound 50 = .ok (.i2l, 1) := by decide +kernel
theorem d_Mo_bound_51 : decode b_Mo_bound 51 = .ok (.ldc2_w 162, 3) := by decide +kernel
theorem d_Mo_bound_54 : decode b_Mo_bound 54 = .ok (.ldc2_w 164, 3) := by decide +kernel
theorem d_Mo_bound_57 : decode b_Mo_bound 57 = .ok (.invokestatic 91, 3) := by decide +kernel
theorem d_Mo_bound_60 : decode b_Mo_bound 60 = .ok (.ifCond .ne 7, 3) := by decide +kernel
theorem d_Mo_bound_63 : decode b_Mo_bound 63 = .ok (.iconst 1, 1) := by decide +kernel
theorem d_Mo_bound_64 : decode b_Mo_bound 64 = .ok (.goto 4, 3) := by decide +kernel
theorem d_Mo_bound_67 : decode b_Mo_bound 67 = .ok (.iconst 0, 1) := by decide +kernel
theorem d_Mo_bound_68 : decode b_Mo_bound 68 = .ok (.iconst 1, 1) := by decide +kernel
theorem d_Mo_bound_69 : decode b_Mo_bound 69 = .ok (.invokevirtual 124, 3) := by decide +kernel
theorem d_Mo_bound_72 : decode b_Mo_bound 72 = .ok (.ifCond .ne 25, 3) := by decide +kernel
theorem d_Mo_bound_75 : decode b_Mo_bound 75 = .ok (.aload_n 0, 1) := by decide +kernel
theorem d_Mo_bound_76 : decode b_Mo_bound 76 = .ok (.aload_n 0, 1) := by decide +kernel
theorem d_Mo_bound_77 : decode b_Mo_bound 77 = .ok (.getfield 166, 3) := by decide +kernel
theorem d_Mo_bound_80 : decode b_Mo_bound 80 = .ok (.bipush 8, 2) := by decide +kernel
theorem d_Mo_bound_82 : decode b_Mo_bound 82 = .ok (.if_icmp .ne 7, 3) := by decide +kernel
theorem d_Mo_bound_85 : decode b_Mo_bound 85 = .ok (.iconst 1, 1) := by decide +kernel
theorem d_Mo_bound_86 : decode b_Mo_bound 86 = .ok (.goto 4, 3) := by decide +kernel
theorem d_Mo_bound_89 : decode b_Mo_bound 89 = .ok (.iconst 0, 1) := by decide +kernel
theorem d_Mo_bound_90 : decode b_Mo_bound 90 = .ok (.iconst 2, 1) := by decide +kernel
theorem d_Mo_bound_91 : decode b_Mo_bound 91 = .ok (.invokevirtual 124, 3) := by decide +kernel
theorem d_Mo_bound_94 : decode b_Mo_bound 94 = .ok (.ifCond .eq 5, 3) := by decide +kernel
theorem d_Mo_bound_97 : decode b_Mo_bound 97 = .ok (.iconst 0, 1) := by decide +kernel
theorem d_Mo_bound_98 : decode b_Mo_bound 98 = .ok (.ireturn, 1) := by decide +kernel
theorem d_Mo_bound_99 : decode b_Mo_bound 99 = .ok (.iconst 4, 1) := by decide +kernel
theorem d_Mo_bound_100 : decode b_Mo_bound 100 = .ok (.aload_n 0, 1) := by decide +kernel
theorem d_Mo_bound_101 : decode b_Mo_bound 101 = .ok (.getfield 166, 3) := by decide +kernel
theorem d_Mo_bound_104 : decode b_Mo_bound 104 = .ok (.imul, 1) := by decide +kernel
theorem d_Mo_bound_105 : decode b_Mo_bound 105 = .ok (.istore 7, 2) := by decide +kernel
theorem d_Mo_bound_107 : decode b_Mo_bound 107 = .ok (.aload_n 0, 1) := by decide +kernel
theorem d_Mo_bound_108 : decode b_Mo_bound 108 = .ok (.getfield 48, 3) := by decide +kernel
theorem d_Mo_bound_111 : decode b_Mo_bound 111 = .ok (.iload 7, 2) := by decide +kernel
theorem d_Mo_bound_113 : decode b_Mo_bound 113 = .ok (.iload_n 1, 1) := by decide +kernel
theorem d_Mo_bound_114 : decode b_Mo_bound 114 = .ok (.iastore, 1) := by decide +kernel
theorem d_Mo_bound_115 : decode b_Mo_bound 115 = .ok (.aload_n 0, 1) := by decide +kernel
theorem d_Mo_bound_116 : decode b_Mo_bound 116 = .ok (.getfield 48, 3) := by decide +kernel
theorem d_Mo_bound_119 : decode b_Mo_bound 119 = .ok (.iload 7, 2) := by decide +kernel
theorem d_Mo_bound_121 : decode b_Mo_bound 121 = .ok (.iconst 1, 1) := by decide +kernel
theorem d_Mo_bound_122 : decode b_Mo_bound 122 = .ok (.iadd, 1) := by decide +kernel
theorem d_Mo_bound_123 : decode b_Mo_bound 123 = .ok (.iload_n 2, 1) := by decide +kernel
theorem d_Mo_bound_124 : decode b_Mo_bound 124 = .ok (.iastore, 1) := by decide +kernel
theorem d_Mo_bound_125 : decode b_Mo_bound 125 = .ok (.aload_n 0, 1) := by decide +kernel
theorem d_Mo_bound_126 : decode b_Mo_bound 126 = .ok (.getfield 48, 3) := by decide +kernel
theorem d_Mo_bound_129 : decode b_Mo_bound 129 = .ok (.iload 7, 2) := by decide +kernel
theorem d_Mo_bound_131 : decode b_Mo_bound 131 = .ok (.iconst 2, 1) := by decide +kernel
theorem d_Mo_bound_132 : decode b_Mo_bound 132 = .ok (.iadd, 1) := by decide +kernel
theorem d_Mo_bound_133 : decode b_Mo_bound 133 = .ok (.iload_n 3, 1) := by decide +kernel
theorem d_Mo_bound_134 : decode b_Mo_bound 134 = .ok (.iastore, 1) := by decide +kernel
theorem d_Mo_bound_135 : decode b_Mo_bound 135 = .ok (.aload_n 0, 1) := by decide +kernel
theorem d_Mo_bound_136 : decode b_Mo_bound 136 = .ok (.getfield 48, 3) := by decide +kernel
theorem d_Mo_bound_139 : decode b_Mo_bound 139 = .ok (.iload 7, 2) := by decide +kernel
theorem d_Mo_bound_141 : decode b_Mo_bound 141 = .ok (.iconst 3, 1) := by decide +kernel
theorem d_Mo_bound_142 : decode b_Mo_bound 142 = .ok (.iadd, 1) := by decide +kernel
theorem d_Mo_bound_143 : decode b_Mo_bound 143 = .ok (.iload 4, 2) := by decide +kernel
theorem d_Mo_bound_145 : decode b_Mo_bound 145 = .ok (.iastore, 1) := by decide +kernel
theorem d_Mo_bound_146 : decode b_Mo_bound 146 = .ok (.aload_n 0, 1) := by decide +kernel
theorem d_Mo_bound_147 : decode b_Mo_bound 147 = .ok (.getfield 51, 3) := by decide +kernel
theorem d_Mo_bound_150 : decode b_Mo_bound 150 = .ok (.aload_n 0, 1) := by decide +kernel
theorem d_Mo_bound_151 : decode b_Mo_bound 151 = .ok (.getfield 166, 3) := by decide +kernel
theorem d_Mo_bound_154 : decode b_Mo_bound 154 = .ok (.iload 5, 2) := by decide +kernel
theorem d_Mo_bound_156 : decode b_Mo_bound 156 = .ok (.iastore, 1) := by decide +kernel
theorem d_Mo_bound_157 : decode b_Mo_bound 157 = .ok (.aload_n 0, 1) := by decide +kernel
theorem d_Mo_bound_158 : decode b_Mo_bound 158 = .ok (.getfield 54, 3) := by decide +kernel
theorem d_Mo_bound_161 : decode b_Mo_bound 161 = .ok (.aload_n 0, 1) := by decide +kernel
theorem d_Mo_bound_162 : decode b_Mo_bound 162 = .ok (.getfield 166, 3) := by decide +kernel
theorem d_Mo_bound_165 : decode b_Mo_bound 165 = .ok (.iload 6, 2) := by decide +kernel
theorem d_Mo_bound_167 : decode b_Mo_bound 167 = .ok (.iastore, 1) := by decide +kernel
theorem d_Mo_bound_168 : decode b_Mo_bound 168 = .ok (.aload_n 0, 1) := by decide +kernel
theorem d_Mo_bound_169 : decode b_Mo_bound 169 = .ok (.dup, 1) := by decide +kernel
theorem d_Mo_bound_170 : decode b_Mo_bound 170 = .ok (.getfield 166, 3) := by decide +kernel
theorem d_Mo_bound_173 : decode b_Mo_bound 173 = .ok (.iconst 1, 1) := by decide +kernel
theorem d_Mo_bound_174 : decode b_Mo_bound 174 = .ok (.iadd, 1) := by decide +kernel
theorem d_Mo_bound_175 : decode b_Mo_bound 175 = .ok (.dup_x1, 1) := by decide +kernel
theorem d_Mo_bound_176 : decode b_Mo_bound 176 = .ok (.putfield 166, 3) := by decide +kernel
theorem d_Mo_bound_179 : decode b_Mo_bound 179 = .ok (.ireturn, 1) := by decide +kernel
abbrev b_Mo_solve : ByteArray := prog_13_method_36_code
def y_Mo_solve : MethodName := ⟨"RegularSolverModel", "solve", "(I)Z"⟩
abbrev w0_Mo_solve : List Cond := Cond.code y_Mo_solve b_Mo_solve 4 (some .boolean) :: gW
theorem cd_Mo_solve : Cond.code y_Mo_solve b_Mo_solve 4 (some .boolean) ∈ gW := gm 1069 (by decide +kernel) (by decide +kernel)
theorem d_Mo_solve_0 : decode b_Mo_solve 0 = .ok (.aload_n 0, 1) := by decide +kernel
theorem d_Mo_solve_1 : decode b_Mo_solve 1 = .ok (.iconst 0, 1) := by decide +kernel
theorem d_Mo_solve_2 : decode b_Mo_solve 2 = .ok (.putfield 84, 3) := by decide +kernel
theorem d_Mo_solve_5 : decode b_Mo_solve 5 = .ok (.aload_n 0, 1) := by decide +kernel
theorem d_Mo_solve_6 : decode b_Mo_solve 6 = .ok (.iload_n 1, 1) := by decide +kernel
theorem d_Mo_solve_7 : decode b_Mo_solve 7 = .ok (.i2l, 1) := by decide +kernel
theorem d_Mo_solve_8 : decode b_Mo_solve 8 = .ok (.lconst 0, 1) := by decide +kernel
theorem d_Mo_solve_9 : decode b_Mo_solve 9 = .ok (.ldc2_w 150, 3) := by decide +kernel
theorem d_Mo_solve_12 : decode b_Mo_solve 12 = .ok (.invokestatic 91, 3) := by decide +kernel
theorem d_Mo_solve_15 : decode b_Mo_solve 15 = .ok (.ifCond .ne 7, 3) := by decide +kernel
theorem d_Mo_solve_18 : decode b_Mo_solve 18 = .ok (.iconst 1, 1) := by decide +kernel
theorem d_Mo_solve_19 : decode b_Mo_solve 19 = .ok (.goto 4, 3) := by decide +kernel
theorem d_Mo_solve_22 : decode b_Mo_solve 22 = .ok (.iconst 0, 1) := by decide +kernel
theorem d_Mo_solve_23 : decode b_Mo_solve 23 = .ok (.iconst 1, 1) := by decide +kernel
theorem d_Mo_solve_24 : decode b_Mo_solve 24 = .ok (.invokevirtual 124, 3) := by decide +kernel
theorem d_Mo_solve_27 : decode b_Mo_solve 27 = .ok (.ifCond .eq 5, 3) := by decide +kernel
theorem d_Mo_solve_30 : decode b_Mo_solve 30 = .ok (.iconst 0, 1) := by decide +kernel
theorem d_Mo_solve_31 : decode b_Mo_solve 31 = .ok (.ireturn, 1) := by decide +kernel
theorem d_Mo_solve_32 : decode b_Mo_solve 32 = .ok (.aload_n 0, 1) := by decide +kernel
theorem d_Mo_solve_33 : decode b_Mo_solve 33 = .ok (.iconst 0, 1) := by decide +kernel
theorem d_Mo_solve_34 : decode b_Mo_solve 34 = .ok (.putfield 169, 3) := by decide +kernel
theorem d_Mo_solve_37 : decode b_Mo_solve 37 = .ok (.iconst 0, 1) := by decide +kernel
theorem d_Mo_solve_38 : decode b_Mo_solve 38 = .ok (.istore_n 2, 1) := by decide +kernel
theorem d_Mo_solve_39 : decode b_Mo_solve 39 = .ok (.iload_n 2, 1) := by decide +kernel
theorem d_Mo_solve_40 : decode b_Mo_solve 40 = .ok (.iconst 4, 1) := by decide +kernel
theorem d_Mo_solve_41 : decode b_Mo_solve 41 = .ok (.if_icmp .ge 91, 3) := by decide +kernel
theorem d_Mo_solve_44 : decode b_Mo_solve 44 = .ok (.aload_n 0, 1) := by decide +kernel
theorem d_Mo_solve_45 : decode b_Mo_solve 45 = .ok (.getfield 45, 3) := by decide +kernel
theorem d_Mo_solve_48 : decode b_Mo_solve 48 = .ok (.iload_n 2, 1) := by decide +kernel
theorem d_Mo_solve_49 : decode b_Mo_solve 49 = .ok (.iaload, 1) := by decide +kernel
theorem d_Mo_solve_50 : decode b_Mo_solve 50 = .ok (.ifCond .lt 14, 3) := by decide +kernel
theorem d_Mo_solve_53 : decode b_Mo_solve 53 = .ok (.aload_n 0, 1) := by decide +kernel
theorem d_Mo_solve_54 : decode b_Mo_solve 54 = .ok (.aload_n 0, 1) := by decide +kernel
theorem d_Mo_solve_55 : decode b_Mo_solve 55 = .ok (.getfield 45, 3) := by decide +kernel
theorem d_Mo_solve_58 : decode b_Mo_solve 58 = .ok (.iload_n 2, 1) := by decide +kernel
theorem d_Mo_solve_59 : decode b_Mo_solve 59 = .ok (.iaload, 1) := by decide +kernel
theorem d_Mo_solve_60 : decode b_Mo_solve 60 = .ok (.iload_n 1, 1) := by decide +kernel
theorem d_Mo_solve_61 : decode b_Mo_solve 61 = .ok (.invokevirtual 154, 3) := by decide +kernel
theorem d_Mo_solve_64 : decode b_Mo_solve 64 = .ok (.iconst 0, 1) := by decide +kernel
theorem d_Mo_solve_65 : decode b_Mo_solve 65 = .ok (.istore_n 3, 1) := by decide +kernel
theorem d_Mo_solve_66 : decode b_Mo_solve 66 = .ok (.iload_n 3, 1) := by decide +kernel
theorem d_Mo_solve_67 : decode b_Mo_solve 67 = .ok (.iload_n 1, 1) := by decide +kernel
theorem d_Mo_solve_68 : decode b_Mo_solve 68 = .ok (.if_icmp .gt 58, 3) := by decide +kernel
theorem d_Mo_solve_71 : decode b_Mo_solve 71 = .ok (.aload_n 0, 1) := by decide +kernel
theorem d_Mo_solve_72 : decode b_Mo_solve 72 = .ok (.getfield 78, 3) := by decide +kernel
theorem d_Mo_solve_75 : decode b_Mo_solve 75 = .ok (.iconst 4, 1) := by decide +kernel
theorem d_Mo_solve_76 : decode b_Mo_solve 76 = .ok (.iload_n 3, 1) := by decide +kernel
theorem d_Mo_solve_77 : decode b_Mo_solve 77 = .ok (.imul, 1) := by decide +kernel
theorem d_Mo_solve_78 : decode b_Mo_solve 78 = .ok (.iload_n 2, 1) := by decide +kernel
theorem d_Mo_solve_79 : decode b_Mo_solve 79 = .ok (.iadd, 1) := by decide +kernel
theorem d_Mo_solve_80 : decode b_Mo_solve 80 = .ok (.aload_n 0, 1) := by decide +kernel
theorem d_Mo_solve_81 : decode b_Mo_solve 81 = .ok (.getfield 45, 3) := by decide +kernel
theorem d_Mo_solve_84 : decode b_Mo_solve 84 = .ok (.iload_n 2, 1) := by decide +kernel
theorem d_Mo_solve_85 : decode b_Mo_solve 85 = .ok (.iaload, 1) := by decide +kernel
theorem d_Mo_solve_86 : decode b_Mo_solve 86 = .ok (.ifCond .ge 15, 3) := by decide +kernel
theorem d_Mo_solve_89 : decode b_Mo_solve 89 = .ok (.iload_n 3, 1) := by decide +kernel
theorem d_Mo_solve_90 : decode b_Mo_solve 90 = .ok (.ifCond .ne 7, 3) := by decide +kernel
theorem d_Mo_solve_93 : decode b_Mo_solve 93 = .ok (.iconst 1, 1) := by decide +kernel
theorem d_Mo_solve_94 : decode b_Mo_solve 94 = .ok (.goto 25, 3) := by decide +kernel
theorem d_Mo_solve_97 : decode b_Mo_solve 97 = .ok (.iconst 0, 1) := by decide +kernel
theorem d_Mo_solve_98 : decode b_Mo_solve 98 = .ok (.goto 21, 3) := by decide +kernel
theorem d_Mo_solve_101 : decode b_Mo_solve 101 = .ok (.aload_n 0, 1) := by decide +kernel
theorem d_Mo_solve_102 : decode b_Mo_solve 102 = .ok (.getfield 69, 3) := by decide +kernel
theorem d_Mo_solve_105 : decode b_Mo_solve 105 = .ok (.iload_n 3, 1) := by decide +kernel
theorem d_Mo_solve_106 : decode b_Mo_solve 106 = .ok (.laload, 1) := by decide +kernel
theorem d_Mo_solve_107 : decode b_Mo_solve 107 = .ok (.lconst 1, 1) := by decide +kernel
theorem d_Mo_solve_108 : decode b_Mo_solve 108 = .ok (.land, 1) := by decide +kernel
theorem d_Mo_solve_109 : decode b_Mo_solve 109 = .ok (.lconst 0, 1) := by decide +kernel
theorem d_Mo_solve_110 : decode b_Mo_solve 110 = .ok (.lcmp, 1) := by decide +kernel
theorem d_Mo_solve_111 : decode b_Mo_solve 111 = .ok (.ifCond .eq 7, 3) := by decide +kernel
theorem d_Mo_solve_114 : decode b_Mo_solve 114 = .ok (.iconst 1, 1) := by decide +kernel
theorem d_Mo_solve_115 : decode b_Mo_solve 115 = .ok (.goto 4, 3) := by decide +kernel
theorem d_Mo_solve_118 : decode b_Mo_solve 118 = .ok (.iconst 0, 1) := by decide +kernel
theorem d_Mo_solve_119 : decode b_Mo_solve 119 = .ok (.bastore, 1) := by decide +kernel
theorem d_Mo_solve_120 : decode b_Mo_solve 120 = .ok (.iinc 3 1, 3) := by decide +kernel
theorem d_Mo_solve_123 : decode b_Mo_solve 123 = .ok (.goto (-57), 3) := by decide +kernel
theorem d_Mo_solve_126 : decode b_Mo_solve 126 = .ok (.iinc 2 1, 3) := by decide +kernel
theorem d_Mo_solve_129 : decode b_Mo_solve 129 = .ok (.goto (-90), 3) := by decide +kernel
theorem d_Mo_solve_132 : decode b_Mo_solve 132 = .ok (.aload_n 0, 1) := by decide +kernel
theorem d_Mo_solve_133 : decode b_Mo_solve 133 = .ok (.iload_n 1, 1) := by decide +kernel
theorem d_Mo_solve_134 : decode b_Mo_solve 134 = .ok (.invokevirtual 173, 3) := by decide +kernel
theorem d_Mo_solve_137 : decode b_Mo_solve 137 = .ok (.ifCond .ne 5, 3) := by decide +kernel
theorem d_Mo_solve_140 : decode b_Mo_solve 140 = .ok (.iconst 0, 1) := by decide +kernel
theorem d_Mo_solve_141 : decode b_Mo_solve 141 = .ok (.ireturn, 1) := by decide +kernel
theorem d_Mo_solve_142 : decode b_Mo_solve 142 = .ok (.aload_n 0, 1) := by decide +kernel
theorem d_Mo_solve_143 : decode b_Mo_solve 143 = .ok (.iconst 1, 1) := by decide +kernel
theorem d_Mo_solve_144 : decode b_Mo_solve 144 = .ok (.putfield 169, 3) := by decide +kernel
theorem d_Mo_solve_147 : decode b_Mo_solve 147 = .ok (.iconst 0, 1) := by decide +kernel
theorem d_Mo_solve_148 : decode b_Mo_solve 148 = .ok (.istore_n 2, 1) := by decide +kernel
theorem d_Mo_solve_149 : decode b_Mo_solve 149 = .ok (.iload_n 2, 1) := by decide +kernel
theorem d_Mo_solve_150 : decode b_Mo_solve 150 = .ok (.iconst 4, 1) := by decide +kernel
theorem d_Mo_solve_151 : decode b_Mo_solve 151 = .ok (.if_icmp .ge 78, 3) := by decide +kernel
theorem d_Mo_solve_154 : decode b_Mo_solve 154 = .ok (.aload_n 0, 1) := by decide +kernel
theorem d_Mo_solve_155 : decode b_Mo_solve 155 = .ok (.getfield 57, 3) := by decide +kernel
theorem d_Mo_solve_158 : decode b_Mo_solve 158 = .ok (.iload_n 2, 1) := by decide +kernel
theorem d_Mo_solve_159 : decode b_Mo_solve 159 = .ok (.aload_n 0, 1) := by decide +kernel
theorem d_Mo_solve_160 : decode b_Mo_solve 160 = .ok (.getfield 81, 3) := by decide +kernel
theorem d_Mo_solve_163 : decode b_Mo_solve 163 = .ok (.iload_n 2, 1) := by decide +kernel
theorem d_Mo_solve_164 : decode b_Mo_solve 164 = .ok (.iaload, 1) := by decide +kernel
theorem d_Mo_solve_165 : decode b_Mo_solve 165 = .ok (.iastore, 1) := by decide +kernel
theorem d_Mo_solve_166 : decode b_Mo_solve 166 = .ok (.aload_n 0, 1) := by decide +kernel
theorem d_Mo_solve_167 : decode b_Mo_solve 167 = .ok (.getfield 60, 3) := by decide +kernel
theorem d_Mo_solve_170 : decode b_Mo_solve 170 = .ok (.iload_n 2, 1) := by decide +kernel
theorem d_Mo_solve_171 : decode b_Mo_solve 171 = .ok (.lconst 0, 1) := by decide +kernel
theorem d_Mo_solve_172 : decode b_Mo_solve 172 = .ok (.lastore, 1) := by decide +kernel
theorem d_Mo_solve_173 : decode b_Mo_solve 173 = .ok (.aload_n 0, 1) := by decide +kernel
theorem d_Mo_solve_174 : decode b_Mo_solve 174 = .ok (.getfield 45, 3) := by decide +kernel
theorem d_Mo_solve_177 : decode b_Mo_solve 177 = .ok (.iload_n 2, 1) := by decide +kernel
theorem d_Mo_solve_178 : decode b_Mo_solve 178 = .ok (.iaload, 1) := by decide +kernel
theorem d_Mo_solve_179 : decode b_Mo_solve 179 = .ok (.ifCond .ge 6, 3) := by decide +kernel
theorem d_Mo_solve_182 : decode b_Mo_solve 182 = .ok (.goto 41, 3) := by decide +kernel
theorem d_Mo_solve_185 : decode b_Mo_solve 185 = .ok (.aload_n 0, 1) := by decide +kernel
theorem d_Mo_solve_186 : decode b_Mo_solve 186 = .ok (.aload_n 0, 1) := by decide +kernel
theorem d_Mo_solve_187 : decode b_Mo_solve 187 = .ok (.getfield 45, 3) := by decide +kernel
theorem d_Mo_solve_190 : decode b_Mo_solve 190 = .ok (.iload_n 2, 1) := by decide +kernel
theorem d_Mo_solve_191 : decode b_Mo_solve 191 = .ok (.iaload, 1) := by decide +kernel
theorem d_Mo_solve_192 : decode b_Mo_solve 192 = .ok (.aload_n 0, 1) := by decide +kernel
theorem d_Mo_solve_193 : decode b_Mo_solve 193 = .ok (.getfield 57, 3) := by decide +kernel
theorem d_Mo_solve_196 : decode b_Mo_solve 196 = .ok (.iload_n 2, 1) := by decide +kernel
theorem d_Mo_solve_197 : decode b_Mo_solve 197 = .ok (.iaload, 1) := by decide +kernel
theorem d_Mo_solve_198 : decode b_Mo_solve 198 = .ok (.invokevirtual 154, 3) := by decide +kernel
theorem d_Mo_solve_201 : decode b_Mo_solve 201 = .ok (.aload_n 0, 1) := by decide +kernel
theorem d_Mo_solve_202 : decode b_Mo_solve 202 = .ok (.getfield 60, 3) := by decide +kernel
theorem d_Mo_solve_205 : decode b_Mo_solve 205 = .ok (.iload_n 2, 1) := by decide +kernel
theorem d_Mo_solve_206 : decode b_Mo_solve 206 = .ok (.aload_n 0, 1) := by decide +kernel
theorem d_Mo_solve_207 : decode b_Mo_solve 207 = .ok (.aload_n 0, 1) := by decide +kernel
theorem d_Mo_solve_208 : decode b_Mo_solve 208 = .ok (.getfield 45, 3) := by decide +kernel
theorem d_Mo_solve_211 : decode b_Mo_solve 211 = .ok (.iload_n 2, 1) := by decide +kernel
theorem d_Mo_solve_212 : decode b_Mo_solve 212 = .ok (.iaload, 1) := by decide +kernel
theorem d_Mo_solve_213 : decode b_Mo_solve 213 = .ok (.aload_n 0, 1) := by decide +kernel
theorem d_Mo_solve_214 : decode b_Mo_solve 214 = .ok (.getfield 57, 3) := by decide +kernel
theorem d_Mo_solve_217 : decode b_Mo_solve 217 = .ok (.iload_n 2, 1) := by decide +kernel
theorem d_Mo_solve_218 : decode b_Mo_solve 218 = .ok (.iaload, 1) := by decide +kernel
theorem d_Mo_solve_219 : decode b_Mo_solve 219 = .ok (.invokevirtual 158, 3) := by decide +kernel
theorem d_Mo_solve_222 : decode b_Mo_solve 222 = .ok (.lastore, 1) := by decide +kernel
theorem d_Mo_solve_223 : decode b_Mo_solve 223 = .ok (.iinc 2 1, 3) := by decide +kernel
theorem d_Mo_solve_226 : decode b_Mo_solve 226 = .ok (.goto (-77), 3) := by decide +kernel
theorem d_Mo_solve_229 : decode b_Mo_solve 229 = .ok (.iconst 1, 1) := by decide +kernel
theorem d_Mo_solve_230 : decode b_Mo_solve 230 = .ok (.ireturn, 1) := by decide +kernel
abbrev b_Mo_length : ByteArray := prog_13_method_38_code
def y_Mo_length : MethodName := ⟨"RegularSolverModel", "length", "(I)I"⟩
abbrev w0_Mo_length : List Cond := Cond.code y_Mo_length b_Mo_length 2 (some .int) :: gW
theorem cd_Mo_length : Cond.code y_Mo_length b_Mo_length 2 (some .int) ∈ gW := gm 1081 (by decide +kernel) (by decide +kernel)
theorem d_Mo_length_0 : decode b_Mo_length 0 = .ok (.aload_n 0, 1) := by decide +kernel
theorem d_Mo_length_1 : decode b_Mo_length 1 = .ok (.iconst 0, 1) := by decide +kernel
theorem d_Mo_length_2 : decode b_Mo_length 2 = .ok (.putfield 84, 3) := by decide +kernel
theorem d_Mo_length_5 : decode b_Mo_length 5 = .ok (.aload_n 0, 1) := by decide +kernel
theorem d_Mo_length_6 : decode b_Mo_length 6 = .ok (.iload_n 1, 1) := by decide +kernel
theorem d_Mo_length_7 : decode b_Mo_length 7 = .ok (.i2l, 1) := by decide +kernel
theorem d_Mo_length_8 : decode b_Mo_length 8 = .ok (.lconst 0, 1) := by decide +kernel
theorem d_Mo_length_9 : decode b_Mo_length 9 = .ok (.ldc2_w 148, 3) := by decide +kernel
theorem d_Mo_length_12 : decode b_Mo_length 12 = .ok (.invokestatic 91, 3) := by decide +kernel
theorem d_Mo_length_15 : decode b_Mo_length 15 = .ok (.ifCond .ne 7, 3) := by decide +kernel
theorem d_Mo_length_18 : decode b_Mo_length 18 = .ok (.iconst 1, 1) := by decide +kernel
theorem d_Mo_length_19 : decode b_Mo_length 19 = .ok (.goto 4, 3) := by decide +kernel
theorem d_Mo_length_22 : decode b_Mo_length 22 = .ok (.iconst 0, 1) := by decide +kernel
theorem d_Mo_length_23 : decode b_Mo_length 23 = .ok (.iconst 1, 1) := by decide +kernel
theorem d_Mo_length_24 : decode b_Mo_length 24 = .ok (.invokevirtual 124, 3) := by decide +kernel
theorem d_Mo_length_27 : decode b_Mo_length 27 = .ok (.ifCond .ne 23, 3) := by decide +kernel
theorem d_Mo_length_30 : decode b_Mo_length 30 = .ok (.aload_n 0, 1) := by decide +kernel
theorem d_Mo_length_31 : decode b_Mo_length 31 = .ok (.aload_n 0, 1) := by decide +kernel
theorem d_Mo_length_32 : decode b_Mo_length 32 = .ok (.getfield 169, 3) := by decide +kernel
theorem d_Mo_length_35 : decode b_Mo_length 35 = .ok (.ifCond .ne 7, 3) := by decide +kernel
theorem d_Mo_length_38 : decode b_Mo_length 38 = .ok (.iconst 1, 1) := by decide +kernel
theorem d_Mo_length_39 : decode b_Mo_length 39 = .ok (.goto 4, 3) := by decide +kernel
theorem d_Mo_length_42 : decode b_Mo_length 42 = .ok (.iconst 0, 1) := by decide +kernel
theorem d_Mo_length_43 : decode b_Mo_length 43 = .ok (.iconst 2, 1) := by decide +kernel
theorem d_Mo_length_44 : decode b_Mo_length 44 = .ok (.invokevirtual 124, 3) := by decide +kernel
theorem d_Mo_length_47 : decode b_Mo_length 47 = .ok (.ifCond .eq 5, 3) := by decide +kernel
theorem d_Mo_length_50 : decode b_Mo_length 50 = .ok (.iconst 0, 1) := by decide +kernel
theorem d_Mo_length_51 : decode b_Mo_length 51 = .ok (.ireturn, 1) := by decide +kernel
theorem d_Mo_length_52 : decode b_Mo_length 52 = .ok (.aload_n 0, 1) := by decide +kernel
theorem d_Mo_length_53 : decode b_Mo_length 53 = .ok (.getfield 57, 3) := by decide +kernel
theorem d_Mo_length_56 : decode b_Mo_length 56 = .ok (.iload_n 1, 1) := by decide +kernel
theorem d_Mo_length_57 : decode b_Mo_length 57 = .ok (.iaload, 1) := by decide +kernel
theorem d_Mo_length_58 : decode b_Mo_length 58 = .ok (.ireturn, 1) := by decide +kernel
abbrev b_Mo_word : ByteArray := prog_13_method_39_code
def y_Mo_word : MethodName := ⟨"RegularSolverModel", "word", "(I)J"⟩
abbrev w0_Mo_word : List Cond := Cond.code y_Mo_word b_Mo_word 2 (some .long) :: gW
theorem cd_Mo_word : Cond.code y_Mo_word b_Mo_word 2 (some .long) ∈ gW := gm 1085 (by decide +kernel) (by decide +kernel)
theorem d_Mo_word_0 : decode b_Mo_word 0 = .ok (.aload_n 0, 1) := by decide +kernel
theorem d_Mo_word_1 : decode b_Mo_word 1 = .ok (.iconst 0, 1) := by decide +kernel
theorem d_Mo_word_2 : decode b_Mo_word 2 = .ok (.putfield 84, 3) := by decide +kernel
theorem d_Mo_word_5 : decode b_Mo_word 5 = .ok (.aload_n 0, 1) := by decide +kernel
theorem d_Mo_word_6 : decode b_Mo_word 6 = .ok (.iload_n 1, 1) := by decide +kernel
theorem d_Mo_word_7 : decode b_Mo_word 7 = .ok (.i2l, 1) := by decide +kernel
theorem d_Mo_word_8 : decode b_Mo_word 8 = .ok (.lconst 0, 1) := by decide +kernel
theorem d_Mo_word_9 : decode b_Mo_word 9 = .ok (.ldc2_w 148, 3) := by decide +kernel
theorem d_Mo_word_12 : decode b_Mo_word 12 = .ok (.invokestatic 91, 3) := by decide +kernel
theorem d_Mo_word_15 : decode b_Mo_word 15 = .ok (.ifCond .ne 7, 3) := by decide +kernel
theorem d_Mo_word_18 : decode b_Mo_word 18 = .ok (.iconst 1, 1) := by decide +kernel
theorem d_Mo_word_19 : decode b_Mo_word 19 = .ok (.goto 4, 3) := by decide +kernel
theorem d_Mo_word_22 : decode b_Mo_word 22 = .ok (.iconst 0, 1) := by decide +kernel
theorem d_Mo_word_23 : decode b_Mo_word 23 = .ok (.iconst 1, 1) := by decide +kernel
theorem d_Mo_word_24 : decode b_Mo_word 24 = .ok (.invokevirtual 124, 3) := by decide +kernel
theorem d_Mo_word_27 : decode b_Mo_word 27 = .ok (.ifCond .ne 23, 3) := by decide +kernel
theorem d_Mo_word_30 : decode b_Mo_word 30 = .ok (.aload_n 0, 1) := by decide +kernel
theorem d_Mo_word_31 : decode b_Mo_word 31 = .ok (.aload_n 0, 1) := by decide +kernel
theorem d_Mo_word_32 : decode b_Mo_word 32 = .ok (.getfield 169, 3) := by decide +kernel
theorem d_Mo_word_35 : decode b_Mo_word 35 = .ok (.ifCond .ne 7, 3) := by decide +kernel
theorem d_Mo_word_38 : decode b_Mo_word 38 = .ok (.iconst 1, 1) := by decide +kernel
theorem d_Mo_word_39 : decode b_Mo_word 39 = .ok (.goto 4, 3) := by decide +kernel
theorem d_Mo_word_42 : decode b_Mo_word 42 = .ok (.iconst 0, 1) := by decide +kernel
theorem d_Mo_word_43 : decode b_Mo_word 43 = .ok (.iconst 2, 1) := by decide +kernel
theorem d_Mo_word_44 : decode b_Mo_word 44 = .ok (.invokevirtual 124, 3) := by decide +kernel
theorem d_Mo_word_47 : decode b_Mo_word 47 = .ok (.ifCond .eq 5, 3) := by decide +kernel
theorem d_Mo_word_50 : decode b_Mo_word 50 = .ok (.lconst 0, 1) := by decide +kernel
theorem d_Mo_word_51 : decode b_Mo_word 51 = .ok (.lreturn, 1) := by decide +kernel
theorem d_Mo_word_52 : decode b_Mo_word 52 = .ok (.aload_n 0, 1) := by decide +kernel
theorem d_Mo_word_53 : decode b_Mo_word 53 = .ok (.getfield 60, 3) := by decide +kernel
theorem d_Mo_word_56 : decode b_Mo_word 56 = .ok (.iload_n 1, 1) := by decide +kernel
theorem d_Mo_word_57 : decode b_Mo_word 57 = .ok (.laload, 1) := by decide +kernel
theorem d_Mo_word_58 : decode b_Mo_word 58 = .ok (.lreturn, 1) := by decide +kernel
theorem ml_Mo_173 : (Cond.methodLink "RegularSolverModel" 173 ({ cls := "RegularSolverModel", name := "found", desc := "(I)Z" } : MethodName)) ∈ gW := gm 1070 (by decide +kernel) (by decide +kernel)
theorem im_Mo_found : (Cond.instanceMethod ({ cls := "RegularSolverModel", name := "found", desc := "(I)Z" } : MethodName)) ∈ gW := gm 1072 (by decide +kernel) (by decide +kernel)
theorem se_Mo_found : (Cond.selects "RegularSolverModel" ({ cls := "RegularSolverModel", name := "found", desc := "(I)Z" } : MethodName) ({ cls := "RegularSolverModel", name := "found", desc := "(I)Z" } : MethodName)) ∈ gW := gs (by decide +kernel) (by decide +kernel)
theorem fl_Mo_57 : (Cond.fieldLink "RegularSolverModel" 57 "RegularSolverModel" "length" "[I") ∈ gW := gm 859 (by decide +kernel) (by decide +kernel)
theorem fl_Mo_60 : (Cond.fieldLink "RegularSolverModel" 60 "RegularSolverModel" "word" "[J") ∈ gW := gm 860 (by decide +kernel) (by decide +kernel)
section
variable {p : Program} {l : Launch} {e : Env} {R : Room} {s : State} {m : MethodId} {args : Array Value} {below : List Frame} {meth : Method} {c : Code} {H : Heap} {locs : List Loc} {cells slots : Nat} {Q : State → Prop} {A : Nat → Prop} {H0 : Heap}
variable {n : Nat} {D : va_G} {K : Nat → ClassId} {h : Nat} {a : Nat → Nat} {mErr : Int32} {mLanguages : Int32} {mBounds : Int32} {mSize : Nat → Int32} {mGoes : Nat → Int32} {mLast : Nat → Bool} {mLeft : Nat → Int32} {mNext : Nat → Int32} {mGroup : Nat → Int32} {mFresh : Nat → Int32} {mLeader : Nat → Int32} {mNumber : Nat → Int32} {mRight : Nat → Int64} {mEnds : Nat → Bool} {mWay : Int32} {mVariable : Nat → Int32} {mFactor : Nat → Int32} {mLeast : Nat → Int32} {mMost : Nat → Int32} {mLength : Nat → Int32} {mWord : Nat → Int64} {mKept : Bool} {mMany : Nat → Int64} {mMore : Nat → Int64} {mLeads : Nat → Int64} {mMet : Nat → Bool} {mTodo : Nat → Int32} {mMay : Nat → Bool} {mTries : Nat → Int32}
theorem pd_Mo_variable : y_Mo_variable.cls ≠ "java/lang/invoke/MethodHandle" ∧ y_Mo_variable.cls ≠ "java/lang/invoke/VarHandle" ∧ (parseMethodDescriptor y_Mo_variable.desc).map (fun d => d.parameters.length) = some 2 := by decide +kernel
def f_Mo_variable (n : Nat) (p0 : Int32) (p1 : Int32) (mLanguages : Int32) (mVariable : Nat → Int32) : Option (Int32 × (Nat → Int32)) :=
  (f_Mo_in n p0.toInt64 0 3).bind fun u1 =>
  if u1 = true then
    if p1 = (-1) then
      (f_Mo_fails n false 1 0).bind fun u7 =>
      if u7.1 = true then
        some (u7.2, mVariable)
      else
        ogd (gin p0 4) <|
        some (u7.2, upd mVariable p0.toNatClampNeg p1)
    else
      (f_Mo_isLanguage n p1 mLanguages).bind fun u10 =>
      if u10 = true then
        (f_Mo_fails n false 1 0).bind fun u12 =>
        if u12.1 = true then
          some (u12.2, mVariable)
        else
          ogd (gin p0 4) <|
          some (u12.2, upd mVariable p0.toNatClampNeg p1)
      else
        (f_Mo_fails n true 1 0).bind fun u15 =>
        if u15.1 = true then
          some (u15.2, mVariable)
        else
          ogd (gin p0 4) <|
          some (u15.2, upd mVariable p0.toNatClampNeg p1)
  else
    (f_Mo_fails n true 1 0).bind fun u3 =>
    if u3.1 = true then
      some (u3.2, mVariable)
    else
      ogd (gin p0 4) <|
      some (u3.2, upd mVariable p0.toNatClampNeg p1)
set_option maxHeartbeats 4000000 in
set_option maxRecDepth 100000 in
theorem w_Mo_variable  {p0 : Int32} {p1 : Int32}  (hx : p.tables.exec = Jvm.exec) (hb : c.code = b_Mo_variable) (hml : c.maxLocals = 3) (hts : ∀ w ∈ gW, w.before args s = true) (hown : s.vm.findClass "RegularSolverModel" = some m.cls) (hK : va_K D vwCl (tG K) s) (hRf : 2 ≤ R.frames) (hRl : 46 ≤ R.locals) (hRc : cells ≤ R.cells) (hRs : slots ≤ R.slots) (hA : ∀ q, H0.size ≤ q → A q) {out : Int32 × (Nat → Int32)} (Kr : ∀ (r : Int32 × (Nat → Int32)), out = r → ∀ (pc : Nat) (ls : Array Slot) (H : Heap) (locs : List Loc), decode b_Mo_variable pc = .ok (.return_, 1) → va_P D vwCl (moW K h a r.1 mLanguages mBounds mSize mGoes mLast mLeft mNext mGroup mFresh mLeader mNumber mRight mEnds mWay r.2 mFactor mLeast mMost mLength mWord mKept mMany mMore mLeads mMet mTodo mMay mTries) H → va_D A (moW K h a r.1 mLanguages mBounds mSize mGoes mLast mLeft mNext mGroup mFresh mLeader mNumber mRight mEnds mWay r.2 mFactor mLeast mMost mLength mWord mKept mMany mMore mLeads mMet mTodo mMay mTries) → va_S A H0 H locs → W p l e R s m args below meth c H locs cells slots Q (F0 m pc ls [])) (hf : f_Mo_variable n p0 p1 mLanguages mVariable = some out) (ls : Array Slot) (hP : va_P D vwCl (moW K h a mErr mLanguages mBounds mSize mGoes mLast mLeft mNext mGroup mFresh mLeader mNumber mRight mEnds mWay mVariable mFactor mLeast mMost mLength mWord mKept mMany mMore mLeads mMet mTodo mMay mTries) H) (hD : va_D A (moW K h a mErr mLanguages mBounds mSize mGoes mLast mLeft mNext mGroup mFresh mLeader mNumber mRight mEnds mWay mVariable mFactor mLeast mMost mLength mWord mKept mMany mMore mLeads mMet mTodo mMay mTries)) (hS : va_S A H0 H locs) (hl : lv_has ls 3 [(0, .ref h), (1, .int p0), (2, .int p1)]) : W p l e R s m args below meth c H locs cells slots Q (F0 m 0 ls []) := by
  unfold f_Mo_variable at hf
  refine lv_aload_n hx hb d_Mo_variable_0 rfl (lv_at hl 0 rfl) ?_
  refine lv_iconst (v := 0) hx hb d_Mo_variable_1 (by decide) ?_
  refine va_put (D := D) (ci := 0) (v := .int 0) (ty := .int) (C := R_Mo) (T := T_Mo) (N := 29) hx hb hts in_Mo t_Mo t_Mo_ok n_Mo hown hK hP hD hS 0 rfl rfl 0 (by decide) (hts _ fl_Mo_84) (fun _ h9 => h9) rfl (by decide +kernel) rfl rfl (Nat.le_of_ble_eq_true rfl) d_Mo_variable_2 (fun H locs hP hD hS => ?_)
  have hP : va_P D vwCl (moW K h a 0 mLanguages mBounds mSize mGoes mLast mLeft mNext mGroup mFresh mLeader mNumber mRight mEnds mWay mVariable mFactor mLeast mMost mLength mWord mKept mMany mMore mLeads mMet mTodo mMay mTries) H := hP
  have hD : va_D A (moW K h a 0 mLanguages mBounds mSize mGoes mLast mLeft mNext mGroup mFresh mLeader mNumber mRight mEnds mWay mVariable mFactor mLeast mMost mLength mWord mKept mMany mMore mLeads mMet mTodo mMay mTries) := hD
  refine lv_aload_n hx hb d_Mo_variable_5 rfl (lv_at hl 0 rfl) ?_
  refine lv_iload_n hx hb d_Mo_variable_6 rfl (lv_at hl 1 rfl) ?_
  refine lv_i2l (v := p0.toInt64) hx hb d_Mo_variable_7 rfl ?_
  refine lv_lconst (v := 0) hx hb d_Mo_variable_8 (by decide) ?_
  refine lv_ldc2 (v := 3) hx hb hown (hts (.constantLong "RegularSolverModel" 148 3) (by decide +kernel)) d_Mo_variable_9 ?_
  obtain ⟨u1, eu1, hf⟩ := obd hf
  refine p_call (W.runS (As := [.long p0.toInt64, .long 0, .long 3]) (rest := [.ref h]) ⟨hx, hb, hml, hown, hts⟩ (c_Mo_in l eu1) (gS 3 hts cd_Mo_in ml_Mo_91 st_Mo_in ini_Mo rfl rfl pd_Mo_in ⟨Nat.le_trans (Nat.le_of_ble_eq_true rfl) hRf, Nat.le_trans (Nat.le_of_ble_eq_true rfl) hRl⟩) ⟨pPre_blind, pPre_of hP hK⟩ rfl rfl hl.1 rfl (lv_room (Nat.le_of_ble_eq_true rfl)) d_Mo_variable_12 ⟨hRc, hRs⟩) ?_
  refine bz_eq (tgt := 31) hx hb d_Mo_variable_15 (by decide) (fun c2 => ?_) (fun c2 => ?_)
  · rw [if_neg c2] at hf
    refine lv_iconst (v := 1) hx hb d_Mo_variable_31 (by decide) ?_
    refine lv_goto (tgt := 36) hx hb d_Mo_variable_32 (by decide) ?_
    refine lv_iconst (v := 1) hx hb d_Mo_variable_36 (by decide) ?_
    obtain ⟨u3, eu3, hf⟩ := obd hf
    refine w_call (va_runV (As := [.int (bI true), .int 1]) (rest := []) ⟨hx, hb, hml, hown, hts⟩ (c_Mo_fails l H.size eu3) (gV 2 hts cd_Mo_fails ml_Mo_124 im_Mo_fails se_Mo_fails ini_Mo rfl rfl pd_Mo_fails ⟨Nat.le_trans (Nat.le_of_ble_eq_true rfl) hRf, Nat.le_trans (Nat.le_of_ble_eq_true rfl) hRl⟩) ⟨wPre_blind, va_recv hK hP (ci := 0) (q0 := 0) rfl rfl, wPre_of hP hK hD⟩ rfl rfl hl.1 rfl (lv_room (Nat.le_of_ble_eq_true rfl)) d_Mo_variable_37 ⟨hRc, hRs⟩) hD hS hA (fun H locs hP hD hS => ?_)
    have hP : va_P D vwCl (moW K h a u3.2 mLanguages mBounds mSize mGoes mLast mLeft mNext mGroup mFresh mLeader mNumber mRight mEnds mWay mVariable mFactor mLeast mMost mLength mWord mKept mMany mMore mLeads mMet mTodo mMay mTries) H := hP
    have hD : va_D A (moW K h a u3.2 mLanguages mBounds mSize mGoes mLast mLeft mNext mGroup mFresh mLeader mNumber mRight mEnds mWay mVariable mFactor mLeast mMost mLength mWord mKept mMany mMore mLeads mMet mTodo mMay mTries) := hD
    refine bz_ne (tgt := 50) hx hb d_Mo_variable_40 (by decide) (fun c4 => ?_) (fun c4 => ?_)
    · rw [if_pos c4] at hf
      exact Kr _ (Option.some.inj hf).symm _ _ _ _ d_Mo_variable_50 hP hD hS
    · rw [if_neg c4] at hf
      refine lv_aload_n hx hb d_Mo_variable_43 rfl (lv_at hl 0 rfl) ?_
      refine va_get (D := D) (ci := 0) (v := .ref (a 11)) (C := R_Mo) (T := T_Mo) (N := 29) hx hb hts in_Mo hown hK hP 0 rfl rfl 15 (by decide) (hts _ fl_Mo_45) (fun _ h9 => h9) rfl d_Mo_variable_44 ?_
      refine lv_iload_n hx hb d_Mo_variable_47 rfl (lv_at hl 1 rfl) ?_
      refine lv_iload_n hx hb d_Mo_variable_48 rfl (lv_at hl 2 rfl) ?_
      obtain ⟨g5, hf⟩ := ogi hf
      refine va_iast hx hb hK hP hD hS 12 0 rfl rfl (gin_in g5) d_Mo_variable_49 (fun H locs hP hD hS => ?_)
      have hP : va_P D vwCl (moW K h a u3.2 mLanguages mBounds mSize mGoes mLast mLeft mNext mGroup mFresh mLeader mNumber mRight mEnds mWay (upd mVariable p0.toNatClampNeg p1) mFactor mLeast mMost mLength mWord mKept mMany mMore mLeads mMet mTodo mMay mTries) H := hP
      have hD : va_D A (moW K h a u3.2 mLanguages mBounds mSize mGoes mLast mLeft mNext mGroup mFresh mLeader mNumber mRight mEnds mWay (upd mVariable p0.toNatClampNeg p1) mFactor mLeast mMost mLength mWord mKept mMany mMore mLeads mMet mTodo mMay mTries) := hD
      exact Kr _ (Option.some.inj hf).symm _ _ _ _ d_Mo_variable_50 hP hD hS
  · rw [if_pos c2] at hf
    refine lv_iload_n hx hb d_Mo_variable_18 rfl (lv_at hl 2 rfl) ?_
    refine lv_iconst (v := -1) hx hb d_Mo_variable_19 (by decide) ?_
    refine lv_icmp_eq (tgt := 35) hx hb d_Mo_variable_20 (by decide) (fun c6 => ?_) (fun c6 => ?_)
    · rw [if_pos c6] at hf
      refine lv_iconst (v := 0) hx hb d_Mo_variable_35 (by decide) ?_
      refine lv_iconst (v := 1) hx hb d_Mo_variable_36 (by decide) ?_
      obtain ⟨u7, eu7, hf⟩ := obd hf
      refine w_call (va_runV (As := [.int (bI false), .int 1]) (rest := []) ⟨hx, hb, hml, hown, hts⟩ (c_Mo_fails l H.size eu7) (gV 2 hts cd_Mo_fails ml_Mo_124 im_Mo_fails se_Mo_fails ini_Mo rfl rfl pd_Mo_fails ⟨Nat.le_trans (Nat.le_of_ble_eq_true rfl) hRf, Nat.le_trans (Nat.le_of_ble_eq_true rfl) hRl⟩) ⟨wPre_blind, va_recv hK hP (ci := 0) (q0 := 0) rfl rfl, wPre_of hP hK hD⟩ rfl rfl hl.1 rfl (lv_room (Nat.le_of_ble_eq_true rfl)) d_Mo_variable_37 ⟨hRc, hRs⟩) hD hS hA (fun H locs hP hD hS => ?_)
      have hP : va_P D vwCl (moW K h a u7.2 mLanguages mBounds mSize mGoes mLast mLeft mNext mGroup mFresh mLeader mNumber mRight mEnds mWay mVariable mFactor mLeast mMost mLength mWord mKept mMany mMore mLeads mMet mTodo mMay mTries) H := hP
      have hD : va_D A (moW K h a u7.2 mLanguages mBounds mSize mGoes mLast mLeft mNext mGroup mFresh mLeader mNumber mRight mEnds mWay mVariable mFactor mLeast mMost mLength mWord mKept mMany mMore mLeads mMet mTodo mMay mTries) := hD
      refine bz_ne (tgt := 50) hx hb d_Mo_variable_40 (by decide) (fun c8 => ?_) (fun c8 => ?_)
      · rw [if_pos c8] at hf
        exact Kr _ (Option.some.inj hf).symm _ _ _ _ d_Mo_variable_50 hP hD hS
      · rw [if_neg c8] at hf
        refine lv_aload_n hx hb d_Mo_variable_43 rfl (lv_at hl 0 rfl) ?_
        refine va_get (D := D) (ci := 0) (v := .ref (a 11)) (C := R_Mo) (T := T_Mo) (N := 29) hx hb hts in_Mo hown hK hP 0 rfl rfl 15 (by decide) (hts _ fl_Mo_45) (fun _ h9 => h9) rfl d_Mo_variable_44 ?_
        refine lv_iload_n hx hb d_Mo_variable_47 rfl (lv_at hl 1 rfl) ?_
        refine lv_iload_n hx hb d_Mo_variable_48 rfl (lv_at hl 2 rfl) ?_
        obtain ⟨g9, hf⟩ := ogi hf
        refine va_iast hx hb hK hP hD hS 12 0 rfl rfl (gin_in g9) d_Mo_variable_49 (fun H locs hP hD hS => ?_)
        have hP : va_P D vwCl (moW K h a u7.2 mLanguages mBounds mSize mGoes mLast mLeft mNext mGroup mFresh mLeader mNumber mRight mEnds mWay (upd mVariable p0.toNatClampNeg p1) mFactor mLeast mMost mLength mWord mKept mMany mMore mLeads mMet mTodo mMay mTries) H := hP
        have hD : va_D A (moW K h a u7.2 mLanguages mBounds mSize mGoes mLast mLeft mNext mGroup mFresh mLeader mNumber mRight mEnds mWay (upd mVariable p0.toNatClampNeg p1) mFactor mLeast mMost mLength mWord mKept mMany mMore mLeads mMet mTodo mMay mTries) := hD
        exact Kr _ (Option.some.inj hf).symm _ _ _ _ d_Mo_variable_50 hP hD hS
    · rw [if_neg c6] at hf
      refine lv_aload_n hx hb d_Mo_variable_23 rfl (lv_at hl 0 rfl) ?_
      refine lv_iload_n hx hb d_Mo_variable_24 rfl (lv_at hl 2 rfl) ?_
      obtain ⟨u10, eu10, hf⟩ := obd hf
      refine p_call (W.runV (As := [.int p1]) (rest := [.ref h]) ⟨hx, hb, hml, hown, hts⟩ (c_Mo_isLanguage l eu10) (gV 1 hts cd_Mo_isLanguage ml_Mo_138 im_Mo_isLanguage se_Mo_isLanguage ini_Mo rfl rfl pd_Mo_isLanguage ⟨Nat.le_trans (Nat.le_of_ble_eq_true rfl) hRf, Nat.le_trans (Nat.le_of_ble_eq_true rfl) hRl⟩) ⟨pPre_blind, va_recv hK hP (ci := 0) (q0 := 0) rfl rfl, pPre_of hP hK⟩ rfl rfl hl.1 rfl (lv_room (Nat.le_of_ble_eq_true rfl)) d_Mo_variable_25 ⟨hRc, hRs⟩) ?_
      refine bz_ne (tgt := 35) hx hb d_Mo_variable_28 (by decide) (fun c11 => ?_) (fun c11 => ?_)
      · rw [if_pos c11] at hf
        refine lv_iconst (v := 0) hx hb d_Mo_variable_35 (by decide) ?_
        refine lv_iconst (v := 1) hx hb d_Mo_variable_36 (by decide) ?_
        obtain ⟨u12, eu12, hf⟩ := obd hf
        refine w_call (va_runV (As := [.int (bI false), .int 1]) (rest := []) ⟨hx, hb, hml, hown, hts⟩ (c_Mo_fails l H.size eu12) (gV 2 hts cd_Mo_fails ml_Mo_124 im_Mo_fails se_Mo_fails ini_Mo rfl rfl pd_Mo_fails ⟨Nat.le_trans (Nat.le_of_ble_eq_true rfl) hRf, Nat.le_trans (Nat.le_of_ble_eq_true rfl) hRl⟩) ⟨wPre_blind, va_recv hK hP (ci := 0) (q0 := 0) rfl rfl, wPre_of hP hK hD⟩ rfl rfl hl.1 rfl (lv_room (Nat.le_of_ble_eq_true rfl)) d_Mo_variable_37 ⟨hRc, hRs⟩) hD hS hA (fun H locs hP hD hS => ?_)
        have hP : va_P D vwCl (moW K h a u12.2 mLanguages mBounds mSize mGoes mLast mLeft mNext mGroup mFresh mLeader mNumber mRight mEnds mWay mVariable mFactor mLeast mMost mLength mWord mKept mMany mMore mLeads mMet mTodo mMay mTries) H := hP
        have hD : va_D A (moW K h a u12.2 mLanguages mBounds mSize mGoes mLast mLeft mNext mGroup mFresh mLeader mNumber mRight mEnds mWay mVariable mFactor mLeast mMost mLength mWord mKept mMany mMore mLeads mMet mTodo mMay mTries) := hD
        refine bz_ne (tgt := 50) hx hb d_Mo_variable_40 (by decide) (fun c13 => ?_) (fun c13 => ?_)
        · rw [if_pos c13] at hf
          exact Kr _ (Option.some.inj hf).symm _ _ _ _ d_Mo_variable_50 hP hD hS
        · rw [if_neg c13] at hf
          refine lv_aload_n hx hb d_Mo_variable_43 rfl (lv_at hl 0 rfl) ?_
          refine va_get (D := D) (ci := 0) (v := .ref (a 11)) (C := R_Mo) (T := T_Mo) (N := 29) hx hb hts in_Mo hown hK hP 0 rfl rfl 15 (by decide) (hts _ fl_Mo_45) (fun _ h9 => h9) rfl d_Mo_variable_44 ?_
          refine lv_iload_n hx hb d_Mo_variable_47 rfl (lv_at hl 1 rfl) ?_
          refine lv_iload_n hx hb d_Mo_variable_48 rfl (lv_at hl 2 rfl) ?_
          obtain ⟨g14, hf⟩ := ogi hf
          refine va_iast hx hb hK hP hD hS 12 0 rfl rfl (gin_in g14) d_Mo_variable_49 (fun H locs hP hD hS => ?_)
          have hP : va_P D vwCl (moW K h a u12.2 mLanguages mBounds mSize mGoes mLast mLeft mNext mGroup mFresh mLeader mNumber mRight mEnds mWay (upd mVariable p0.toNatClampNeg p1) mFactor mLeast mMost mLength mWord mKept mMany mMore mLeads mMet mTodo mMay mTries) H := hP
          have hD : va_D A (moW K h a u12.2 mLanguages mBounds mSize mGoes mLast mLeft mNext mGroup mFresh mLeader mNumber mRight mEnds mWay (upd mVariable p0.toNatClampNeg p1) mFactor mLeast mMost mLength mWord mKept mMany mMore mLeads mMet mTodo mMay mTries) := hD
          exact Kr _ (Option.some.inj hf).symm _ _ _ _ d_Mo_variable_50 hP hD hS
      · rw [if_neg c11] at hf
        refine lv_iconst (v := 1) hx hb d_Mo_variable_31 (by decide) ?_
        refine lv_goto (tgt := 36) hx hb d_Mo_variable_32 (by decide) ?_
        refine lv_iconst (v := 1) hx hb d_Mo_variable_36 (by decide) ?_
        obtain ⟨u15, eu15, hf⟩ := obd hf
        refine w_call (va_runV (As := [.int (bI true), .int 1]) (rest := []) ⟨hx, hb, hml, hown, hts⟩ (c_Mo_fails l H.size eu15) (gV 2 hts cd_Mo_fails ml_Mo_124 im_Mo_fails se_Mo_fails ini_Mo rfl rfl pd_Mo_fails ⟨Nat.le_trans (Nat.le_of_ble_eq_true rfl) hRf, Nat.le_trans (Nat.le_of_ble_eq_true rfl) hRl⟩) ⟨wPre_blind, va_recv hK hP (ci := 0) (q0 := 0) rfl rfl, wPre_of hP hK hD⟩ rfl rfl hl.1 rfl (lv_room (Nat.le_of_ble_eq_true rfl)) d_Mo_variable_37 ⟨hRc, hRs⟩) hD hS hA (fun H locs hP hD hS => ?_)
        have hP : va_P D vwCl (moW K h a u15.2 mLanguages mBounds mSize mGoes mLast mLeft mNext mGroup mFresh mLeader mNumber mRight mEnds mWay mVariable mFactor mLeast mMost mLength mWord mKept mMany mMore mLeads mMet mTodo mMay mTries) H := hP
        have hD : va_D A (moW K h a u15.2 mLanguages mBounds mSize mGoes mLast mLeft mNext mGroup mFresh mLeader mNumber mRight mEnds mWay mVariable mFactor mLeast mMost mLength mWord mKept mMany mMore mLeads mMet mTodo mMay mTries) := hD
        refine bz_ne (tgt := 50) hx hb d_Mo_variable_40 (by decide) (fun c16 => ?_) (fun c16 => ?_)
        · rw [if_pos c16] at hf
          exact Kr _ (Option.some.inj hf).symm _ _ _ _ d_Mo_variable_50 hP hD hS
        · rw [if_neg c16] at hf
          refine lv_aload_n hx hb d_Mo_variable_43 rfl (lv_at hl 0 rfl) ?_
          refine va_get (D := D) (ci := 0) (v := .ref (a 11)) (C := R_Mo) (T := T_Mo) (N := 29) hx hb hts in_Mo hown hK hP 0 rfl rfl 15 (by decide) (hts _ fl_Mo_45) (fun _ h9 => h9) rfl d_Mo_variable_44 ?_
          refine lv_iload_n hx hb d_Mo_variable_47 rfl (lv_at hl 1 rfl) ?_
          refine lv_iload_n hx hb d_Mo_variable_48 rfl (lv_at hl 2 rfl) ?_
          obtain ⟨g17, hf⟩ := ogi hf
          refine va_iast hx hb hK hP hD hS 12 0 rfl rfl (gin_in g17) d_Mo_variable_49 (fun H locs hP hD hS => ?_)
          have hP : va_P D vwCl (moW K h a u15.2 mLanguages mBounds mSize mGoes mLast mLeft mNext mGroup mFresh mLeader mNumber mRight mEnds mWay (upd mVariable p0.toNatClampNeg p1) mFactor mLeast mMost mLength mWord mKept mMany mMore mLeads mMet mTodo mMay mTries) H := hP
          have hD : va_D A (moW K h a u15.2 mLanguages mBounds mSize mGoes mLast mLeft mNext mGroup mFresh mLeader mNumber mRight mEnds mWay (upd mVariable p0.toNatClampNeg p1) mFactor mLeast mMost mLength mWord mKept mMany mMore mLeads mMet mTodo mMay mTries) := hD
          exact Kr _ (Option.some.inj hf).symm _ _ _ _ d_Mo_variable_50 hP hD hS
set_option maxHeartbeats 4000000 in
set_option maxRecDepth 100000 in
theorem c_Mo_variable (l : Launch)  {p0 : Int32} {p1 : Int32}  {r : Int32 × (Nat → Int32)} (sz : Nat) (hf : f_Mo_variable n p0 p1 mLanguages mVariable = some r) : Met l y_Mo_variable w0_Mo_variable ({ frames := 2, cells := 0, slots := 0, locals := 46 }) (wPre D K [.ref h, .int p0, .int p1] (moW K h a mErr mLanguages mBounds mSize mGoes mLast mLeft mNext mGroup mFresh mLeader mNumber mRight mEnds mWay mVariable mFactor mLeast mMost mLength mWord mKept mMany mMore mLeads mMet mTodo mMay mTries) sz) (wPost D K none (moW K h a r.1 mLanguages mBounds mSize mGoes mLast mLeft mNext mGroup mFresh mLeader mNumber mRight mEnds mWay r.2 mFactor mLeast mMost mLength mWord mKept mMany mMore mLeads mMet mTodo mMay mTries) (va_A (moW K h a mErr mLanguages mBounds mSize mGoes mLast mLeft mNext mGroup mFresh mLeader mNumber mRight mEnds mWay mVariable mFactor mLeast mMost mLength mWord mKept mMany mMore mLeads mMet mTodo mMay mTries) sz)) 0 0 (va_A (moW K h a mErr mLanguages mBounds mSize mGoes mLast mLeft mNext mGroup mFresh mLeader mNumber mRight mEnds mWay mVariable mFactor mLeast mMost mLength mWord mKept mMany mMore mLeads mMet mTodo mMay mTries) sz) := by
  refine Met.ofW (cc := b_Mo_variable) (maxL := 3) (ret := none) (by decide) rfl ?_
  intro p e s m args below meth c s₁ B hml hv
  obtain ⟨rfl, hsz, hP, hK, hD0⟩ := hv
  subst hsz
  have hl := lv_entry [.ref h, .int p0, .int p1] (n := 3) (Nat.le_of_ble_eq_true rfl)
  rw [lg_entry_eq]
  generalize (lg_sl [.ref h, .int p0, .int p1] ++ List.replicate (3 - (lg_sl [.ref h, .int p0, .int p1]).length) Slot.unset).toArray = ls at hl ⊢
  refine w_Mo_variable (A := va_A (moW K h a mErr mLanguages mBounds mSize mGoes mLast mLeft mNext mGroup mFresh mLeader mNumber mRight mEnds mWay mVariable mFactor mLeast mMost mLength mWord mKept mMany mMore mLeads mMet mTodo mMay mTries) s.heap.size) (H0 := s.heap) B.exec B.bytes hml (fun w hw => atoms_spec (ws := w0_Mo_variable) B.pre w (List.mem_cons_of_mem _ hw)) (findClass_of_methodNamed B.named) hK (Nat.le_refl _) (Nat.le_refl _) (Nat.zero_le _) (Nat.zero_le _) (fun q h => Or.inr h) (fun r er pc ls H locs hd hP hD hS => ?_) hf ls hP (hD0.self (sz := s.heap.size)) va_S.rf hl
  subst er
  exact W.vret B.exec B.bytes B.returns (fun t ht hW => ⟨⟨rfl, by rw [ht]; exact hP, va_K.moved hW.alike hK, hD⟩, hS.F ht⟩) hS.2.2 hd (hlocks := B.notSynchronized)
theorem pd_Mo_bound : y_Mo_bound.cls ≠ "java/lang/invoke/MethodHandle" ∧ y_Mo_bound.cls ≠ "java/lang/invoke/VarHandle" ∧ (parseMethodDescriptor y_Mo_bound.desc).map (fun d => d.parameters.length) = some 6 := by decide +kernel
def f_Mo_bound (n : Nat) (p0 : Int32) (p1 : Int32) (p2 : Int32) (p3 : Int32) (p4 : Int32) (p5 : Int32) (mBounds : Int32) (mFactor : Nat → Int32) (mLeast : Nat → Int32) (mMost : Nat → Int32) : Option (Int32 × Int32 × Int32 × (Nat → Int32) × (Nat → Int32) × (Nat → Int32)) :=
  (f_Mo_in n p0.toInt64 (-100) 100).bind fun u1 =>
  if u1 = true then
    (f_Mo_in n p1.toInt64 (-100) 100).bind fun u22 =>
    if u22 = true then
      (f_Mo_in n p2.toInt64 (-100) 100).bind fun u43 =>
      if u43 = true then
        (f_Mo_in n p3.toInt64 (-100) 100).bind fun u64 =>
        if u64 = true then
          (f_Mo_fails n false 1 0).bind fun u66 =>
          if u66.1 = true then
            some (0, u66.2, mBounds, mFactor, mLeast, mMost)
          else
            if mBounds = 8 then
              (f_Mo_fails n true 2 u66.2).bind fun u77 =>
              if u77.1 = true then
                some (0, u77.2, mBounds, mFactor, mLeast, mMost)
              else
                ogd (gin (4 * mBounds) 32) <|
                ogd (gin ((4 * mBounds) + 1) 32) <|
                ogd (gin ((4 * mBounds) + 2) 32) <|
                ogd (gin ((4 * mBounds) + 3) 32) <|
                ogd (gin mBounds 8) <|
                ogd (gin mBounds 8) <|
                some (mBounds + 1, u77.2, mBounds + 1, upd (upd (upd (upd mFactor (4 * mBounds).toNatClampNeg p0) ((4 * mBounds) + 1).toNatClampNeg p1) ((4 * mBounds) + 2).toNatClampNeg p2) ((4 * mBounds) + 3).toNatClampNeg p3, upd mLeast mBounds.toNatClampNeg p4, upd mMost mBounds.toNatClampNeg p5)
            else
              (f_Mo_fails n false 2 u66.2).bind fun u69 =>
              if u69.1 = true then
                some (0, u69.2, mBounds, mFactor, mLeast, mMost)
              else
                ogd (gin (4 * mBounds) 32) <|
                ogd (gin ((4 * mBounds) + 1) 32) <|
                ogd (gin ((4 * mBounds) + 2) 32) <|
                ogd (gin ((4 * mBounds) + 3) 32) <|
                ogd (gin mBounds 8) <|
                ogd (gin mBounds 8) <|
                some (mBounds + 1, u69.2, mBounds + 1, upd (upd (upd (upd mFactor (4 * mBounds).toNatClampNeg p0) ((4 * mBounds) + 1).toNatClampNeg p1) ((4 * mBounds) + 2).toNatClampNeg p2) ((4 * mBounds) + 3).toNatClampNeg p3, upd mLeast mBounds.toNatClampNeg p4, upd mMost mBounds.toNatClampNeg p5)
        else
          (f_Mo_fails n true 1 0).bind fun u85 =>
          if u85.1 = true then
            some (0, u85.2, mBounds, mFactor, mLeast, mMost)
          else
            if mBounds = 8 then
              (f_Mo_fails n true 2 u85.2).bind fun u96 =>
              if u96.1 = true then
                some (0, u96.2, mBounds, mFactor, mLeast, mMost)
              else
                ogd (gin (4 * mBounds) 32) <|
                ogd (gin ((4 * mBounds) + 1) 32) <|
                ogd (gin ((4 * mBounds) + 2) 32) <|
                ogd (gin ((4 * mBounds) + 3) 32) <|
                ogd (gin mBounds 8) <|
                ogd (gin mBounds 8) <|
                some (mBounds + 1, u96.2, mBounds + 1, upd (upd (upd (upd mFactor (4 * mBounds).toNatClampNeg p0) ((4 * mBounds) + 1).toNatClampNeg p1) ((4 * mBounds) + 2).toNatClampNeg p2) ((4 * mBounds) + 3).toNatClampNeg p3, upd mLeast mBounds.toNatClampNeg p4, upd mMost mBounds.toNatClampNeg p5)
            else
              (f_Mo_fails n false 2 u85.2).bind fun u88 =>
              if u88.1 = true then
                some (0, u88.2, mBounds, mFactor, mLeast, mMost)
              else
                ogd (gin (4 * mBounds) 32) <|
                ogd (gin ((4 * mBounds) + 1) 32) <|
                ogd (gin ((4 * mBounds) + 2) 32) <|
                ogd (gin ((4 * mBounds) + 3) 32) <|
                ogd (gin mBounds 8) <|
                ogd (gin mBounds 8) <|
                some (mBounds + 1, u88.2, mBounds + 1, upd (upd (upd (upd mFactor (4 * mBounds).toNatClampNeg p0) ((4 * mBounds) + 1).toNatClampNeg p1) ((4 * mBounds) + 2).toNatClampNeg p2) ((4 * mBounds) + 3).toNatClampNeg p3, upd mLeast mBounds.toNatClampNeg p4, upd mMost mBounds.toNatClampNeg p5)
      else
        (f_Mo_fails n true 1 0).bind fun u45 =>
        if u45.1 = true then
          some (0, u45.2, mBounds, mFactor, mLeast, mMost)
        else
          if mBounds = 8 then
            (f_Mo_fails n true 2 u45.2).bind fun u56 =>
            if u56.1 = true then
              some (0, u56.2, mBounds, mFactor, mLeast, mMost)
            else
              ogd (gin (4 * mBounds) 32) <|
              ogd (gin ((4 * mBounds) + 1) 32) <|
              ogd (gin ((4 * mBounds) + 2) 32) <|
              ogd (gin ((4 * mBounds) + 3) 32) <|
              ogd (gin mBounds 8) <|
              ogd (gin mBounds 8) <|
              some (mBounds + 1, u56.2, mBounds + 1, upd (upd (upd (upd mFactor (4 * mBounds).toNatClampNeg p0) ((4 * mBounds) + 1).toNatClampNeg p1) ((4 * mBounds) + 2).toNatClampNeg p2) ((4 * mBounds) + 3).toNatClampNeg p3, upd mLeast mBounds.toNatClampNeg p4, upd mMost mBounds.toNatClampNeg p5)
          else
            (f_Mo_fails n false 2 u45.2).bind fun u48 =>
            if u48.1 = true then
              some (0, u48.2, mBounds, mFactor, mLeast, mMost)
            else
              ogd (gin (4 * mBounds) 32) <|
              ogd (gin ((4 * mBounds) + 1) 32) <|
              ogd (gin ((4 * mBounds) + 2) 32) <|
              ogd (gin ((4 * mBounds) + 3) 32) <|
              ogd (gin mBounds 8) <|
              ogd (gin mBounds 8) <|
              some (mBounds + 1, u48.2, mBounds + 1, upd (upd (upd (upd mFactor (4 * mBounds).toNatClampNeg p0) ((4 * mBounds) + 1).toNatClampNeg p1) ((4 * mBounds) + 2).toNatClampNeg p2) ((4 * mBounds) + 3).toNatClampNeg p3, upd mLeast mBounds.toNatClampNeg p4, upd mMost mBounds.toNatClampNeg p5)
    else
      (f_Mo_fails n true 1 0).bind fun u24 =>
      if u24.1 = true then
        some (0, u24.2, mBounds, mFactor, mLeast, mMost)
      else
        if mBounds = 8 then
          (f_Mo_fails n true 2 u24.2).bind fun u35 =>
          if u35.1 = true then
            some (0, u35.2, mBounds, mFactor, mLeast, mMost)
          else
            ogd (gin (4 * mBounds) 32) <|
            ogd (gin ((4 * mBounds) + 1) 32) <|
            ogd (gin ((4 * mBounds) + 2) 32) <|
            ogd (gin ((4 * mBounds) + 3) 32) <|
            ogd (gin mBounds 8) <|
            ogd (gin mBounds 8) <|
            some (mBounds + 1, u35.2, mBounds + 1, upd (upd (upd (upd mFactor (4 * mBounds).toNatClampNeg p0) ((4 * mBounds) + 1).toNatClampNeg p1) ((4 * mBounds) + 2).toNatClampNeg p2) ((4 * mBounds) + 3).toNatClampNeg p3, upd mLeast mBounds.toNatClampNeg p4, upd mMost mBounds.toNatClampNeg p5)
        else
          (f_Mo_fails n false 2 u24.2).bind fun u27 =>
          if u27.1 = true then
            some (0, u27.2, mBounds, mFactor, mLeast, mMost)
          else
            ogd (gin (4 * mBounds) 32) <|
            ogd (gin ((4 * mBounds) + 1) 32) <|
            ogd (gin ((4 * mBounds) + 2) 32) <|
            ogd (gin ((4 * mBounds) + 3) 32) <|
            ogd (gin mBounds 8) <|
            ogd (gin mBounds 8) <|
            some (mBounds + 1, u27.2, mBounds + 1, upd (upd (upd (upd mFactor (4 * mBounds).toNatClampNeg p0) ((4 * mBounds) + 1).toNatClampNeg p1) ((4 * mBounds) + 2).toNatClampNeg p2) ((4 * mBounds) + 3).toNatClampNeg p3, upd mLeast mBounds.toNatClampNeg p4, upd mMost mBounds.toNatClampNeg p5)
  else
    (f_Mo_fails n true 1 0).bind fun u3 =>
    if u3.1 = true then
      some (0, u3.2, mBounds, mFactor, mLeast, mMost)
    else
      if mBounds = 8 then
        (f_Mo_fails n true 2 u3.2).bind fun u14 =>
        if u14.1 = true then
          some (0, u14.2, mBounds, mFactor, mLeast, mMost)
        else
          ogd (gin (4 * mBounds) 32) <|
          ogd (gin ((4 * mBounds) + 1) 32) <|
          ogd (gin ((4 * mBounds) + 2) 32) <|
          ogd (gin ((4 * mBounds) + 3) 32) <|
          ogd (gin mBounds 8) <|
          ogd (gin mBounds 8) <|
          some (mBounds + 1, u14.2, mBounds + 1, upd (upd (upd (upd mFactor (4 * mBounds).toNatClampNeg p0) ((4 * mBounds) + 1).toNatClampNeg p1) ((4 * mBounds) + 2).toNatClampNeg p2) ((4 * mBounds) + 3).toNatClampNeg p3, upd mLeast mBounds.toNatClampNeg p4, upd mMost mBounds.toNatClampNeg p5)
      else
        (f_Mo_fails n false 2 u3.2).bind fun u6 =>
        if u6.1 = true then
          some (0, u6.2, mBounds, mFactor, mLeast, mMost)
        else
          ogd (gin (4 * mBounds) 32) <|
          ogd (gin ((4 * mBounds) + 1) 32) <|
          ogd (gin ((4 * mBounds) + 2) 32) <|
          ogd (gin ((4 * mBounds) + 3) 32) <|
          ogd (gin mBounds 8) <|
          ogd (gin mBounds 8) <|
          some (mBounds + 1, u6.2, mBounds + 1, upd (upd (upd (upd mFactor (4 * mBounds).toNatClampNeg p0) ((4 * mBounds) + 1).toNatClampNeg p1) ((4 * mBounds) + 2).toNatClampNeg p2) ((4 * mBounds) + 3).toNatClampNeg p3, upd mLeast mBounds.toNatClampNeg p4, upd mMost mBounds.toNatClampNeg p5)
set_option maxHeartbeats 4000000 in
set_option maxRecDepth 100000 in
theorem w_Mo_bound  {p0 : Int32} {p1 : Int32} {p2 : Int32} {p3 : Int32} {p4 : Int32} {p5 : Int32}  (hx : p.tables.exec = Jvm.exec) (hb : c.code = b_Mo_bound) (hml : c.maxLocals = 8) (hts : ∀ w ∈ gW, w.before args s = true) (hown : s.vm.findClass "RegularSolverModel" = some m.cls) (hK : va_K D vwCl (tG K) s) (hRf : 1 ≤ R.frames) (hRl : 25 ≤ R.locals) (hRc : cells ≤ R.cells) (hRs : slots ≤ R.slots) (hA : ∀ q, H0.size ≤ q → A q) {out : Int32 × Int32 × Int32 × (Nat → Int32) × (Nat → Int32) × (Nat → Int32)} (Kr : ∀ (r : Int32 × Int32 × Int32 × (Nat → Int32) × (Nat → Int32) × (Nat → Int32)), out = r → ∀ (pc : Nat) (ls : Array Slot) (H : Heap) (locs : List Loc), decode b_Mo_bound pc = .ok (.ireturn, 1) → va_P D vwCl (moW K h a r.2.1 mLanguages r.2.2.1 mSize mGoes mLast mLeft mNext mGroup mFresh mLeader mNumber mRight mEnds mWay mVariable r.2.2.2.1 r.2.2.2.2.1 r.2.2.2.2.2 mLength mWord mKept mMany mMore mLeads mMet mTodo mMay mTries) H → va_D A (moW K h a r.2.1 mLanguages r.2.2.1 mSize mGoes mLast mLeft mNext mGroup mFresh mLeader mNumber mRight mEnds mWay mVariable r.2.2.2.1 r.2.2.2.2.1 r.2.2.2.2.2 mLength mWord mKept mMany mMore mLeads mMet mTodo mMay mTries) → va_S A H0 H locs → W p l e R s m args below meth c H locs cells slots Q (F0 m pc ls [.int r.1])) (hf : f_Mo_bound n p0 p1 p2 p3 p4 p5 mBounds mFactor mLeast mMost = some out) (ls : Array Slot) (hP : va_P D vwCl (moW K h a mErr mLanguages mBounds mSize mGoes mLast mLeft mNext mGroup mFresh mLeader mNumber mRight mEnds mWay mVariable mFactor mLeast mMost mLength mWord mKept mMany mMore mLeads mMet mTodo mMay mTries) H) (hD : va_D A (moW K h a mErr mLanguages mBounds mSize mGoes mLast mLeft mNext mGroup mFresh mLeader mNumber mRight mEnds mWay mVariable mFactor mLeast mMost mLength mWord mKept mMany mMore mLeads mMet mTodo mMay mTries)) (hS : va_S A H0 H locs) (hl : lv_has ls 8 [(0, .ref h), (1, .int p0), (2, .int p1), (3, .int p2), (4, .int p3), (5, .int p4), (6, .int p5)]) : W p l e R s m args below meth c H locs cells slots Q (F0 m 0 ls []) := by
  unfold f_Mo_bound at hf
  refine lv_aload_n hx hb d_Mo_bound_0 rfl (lv_at hl 0 rfl) ?_
  refine lv_iconst (v := 0) hx hb d_Mo_bound_1 (by decide) ?_
  refine va_put (D := D) (ci := 0) (v := .int 0) (ty := .int) (C := R_Mo) (T := T_Mo) (N := 29) hx hb hts in_Mo t_Mo t_Mo_ok n_Mo hown hK hP hD hS 0 rfl rfl 0 (by decide) (hts _ fl_Mo_84) (fun _ h9 => h9) rfl (by decide +kernel) rfl rfl (Nat.le_of_ble_eq_true rfl) d_Mo_bound_2 (fun H locs hP hD hS => ?_)
  have hP : va_P D vwCl (moW K h a 0 mLanguages mBounds mSize mGoes mLast mLeft mNext mGroup mFresh mLeader mNumber mRight mEnds mWay mVariable mFactor mLeast mMost mLength mWord mKept mMany mMore mLeads mMet mTodo mMay mTries) H := hP
  have hD : va_D A (moW K h a 0 mLanguages mBounds mSize mGoes mLast mLeft mNext mGroup mFresh mLeader mNumber mRight mEnds mWay mVariable mFactor mLeast mMost mLength mWord mKept mMany mMore mLeads mMet mTodo mMay mTries) := hD
  refine lv_aload_n hx hb d_Mo_bound_5 rfl (lv_at hl 0 rfl) ?_
  refine lv_iload_n hx hb d_Mo_bound_6 rfl (lv_at hl 1 rfl) ?_
  refine lv_i2l (v := p0.toInt64) hx hb d_Mo_bound_7 rfl ?_
  refine lv_ldc2 (v := (-100)) hx hb hown (hts (.constantLong "RegularSolverModel" 162 (-100)) (by decide +kernel)) d_Mo_bound_8 ?_
  refine lv_ldc2 (v := 100) hx hb hown (hts (.constantLong "RegularSolverModel" 164 100) (by decide +kernel)) d_Mo_bound_11 ?_
  obtain ⟨u1, eu1, hf⟩ := obd hf
  refine p_call (W.runS (As := [.long p0.toInt64, .long (-100), .long 100]) (rest := [.ref h]) ⟨hx, hb, hml, hown, hts⟩ (c_Mo_in l eu1) (gS 3 hts cd_Mo_in ml_Mo_91 st_Mo_in ini_Mo rfl rfl pd_Mo_in ⟨Nat.le_trans (Nat.le_of_ble_eq_true rfl) hRf, Nat.le_trans (Nat.le_of_ble_eq_true rfl) hRl⟩) ⟨pPre_blind, pPre_of hP hK⟩ rfl rfl hl.1 rfl (lv_room (Nat.le_of_ble_eq_true rfl)) d_Mo_bound_14 ⟨hRc, hRs⟩) ?_
  refine bz_eq (tgt := 63) hx hb d_Mo_bound_17 (by decide) (fun c2 => ?_) (fun c2 => ?_)
  · rw [if_neg c2] at hf
    refine lv_iconst (v := 1) hx hb d_Mo_bound_63 (by decide) ?_
    refine lv_goto (tgt := 68) hx hb d_Mo_bound_64 (by decide) ?_
    refine lv_iconst (v := 1) hx hb d_Mo_bound_68 (by decide) ?_
    obtain ⟨u3, eu3, hf⟩ := obd hf
    refine w_call (va_runV (As := [.int (bI true), .int 1]) (rest := []) ⟨hx, hb, hml, hown, hts⟩ (c_Mo_fails l H.size eu3) (gV 2 hts cd_Mo_fails ml_Mo_124 im_Mo_fails se_Mo_fails ini_Mo rfl rfl pd_Mo_fails ⟨Nat.le_trans (Nat.le_of_ble_eq_true rfl) hRf, Nat.le_trans (Nat.le_of_ble_eq_true rfl) hRl⟩) ⟨wPre_blind, va_recv hK hP (ci := 0) (q0 := 0) rfl rfl, wPre_of hP hK hD⟩ rfl rfl hl.1 rfl (lv_room (Nat.le_of_ble_eq_true rfl)) d_Mo_bound_69 ⟨hRc, hRs⟩) hD hS hA (fun H locs hP hD hS => ?_)
    have hP : va_P D vwCl (moW K h a u3.2 mLanguages mBounds mSize mGoes mLast mLeft mNext mGroup mFresh mLeader mNumber mRight mEnds mWay mVariable mFactor mLeast mMost mLength mWord mKept mMany mMore mLeads mMet mTodo mMay mTries) H := hP
    have hD : va_D A (moW K h a u3.2 mLanguages mBounds mSize mGoes mLast mLeft mNext mGroup mFresh mLeader mNumber mRight mEnds mWay mVariable mFactor mLeast mMost mLength mWord mKept mMany mMore mLeads mMet mTodo mMay mTries) := hD
    refine bz_ne (tgt := 97) hx hb d_Mo_bound_72 (by decide) (fun c4 => ?_) (fun c4 => ?_)
    · rw [if_pos c4] at hf
      refine lv_iconst (v := 0) hx hb d_Mo_bound_97 (by decide) ?_
      exact Kr _ (Option.some.inj hf).symm _ _ _ _ d_Mo_bound_98 hP hD hS
    · rw [if_neg c4] at hf
      refine lv_aload_n hx hb d_Mo_bound_75 rfl (lv_at hl 0 rfl) ?_
      refine lv_aload_n hx hb d_Mo_bound_76 rfl (lv_at hl 0 rfl) ?_
      refine va_get (D := D) (ci := 0) (v := .int mBounds) (C := R_Mo) (T := T_Mo) (N := 29) hx hb hts in_Mo hown hK hP 0 rfl rfl 2 (by decide) (hts _ fl_Mo_166) (fun _ h9 => h9) rfl d_Mo_bound_77 ?_
      refine lv_bipush (v := 8) hx hb d_Mo_bound_80 (by decide) ?_
      refine lv_icmp_ne (tgt := 89) hx hb d_Mo_bound_82 (by decide) (fun c5 => ?_) (fun c5 => ?_)
      · rw [if_neg c5] at hf
        refine lv_iconst (v := 0) hx hb d_Mo_bound_89 (by decide) ?_
        refine lv_iconst (v := 2) hx hb d_Mo_bound_90 (by decide) ?_
        obtain ⟨u6, eu6, hf⟩ := obd hf
        refine w_call (va_runV (As := [.int (bI false), .int 2]) (rest := []) ⟨hx, hb, hml, hown, hts⟩ (c_Mo_fails l H.size eu6) (gV 2 hts cd_Mo_fails ml_Mo_124 im_Mo_fails se_Mo_fails ini_Mo rfl rfl pd_Mo_fails ⟨Nat.le_trans (Nat.le_of_ble_eq_true rfl) hRf, Nat.le_trans (Nat.le_of_ble_eq_true rfl) hRl⟩) ⟨wPre_blind, va_recv hK hP (ci := 0) (q0 := 0) rfl rfl, wPre_of hP hK hD⟩ rfl rfl hl.1 rfl (lv_room (Nat.le_of_ble_eq_true rfl)) d_Mo_bound_91 ⟨hRc, hRs⟩) hD hS hA (fun H locs hP hD hS => ?_)
        have hP : va_P D vwCl (moW K h a u6.2 mLanguages mBounds mSize mGoes mLast mLeft mNext mGroup mFresh mLeader mNumber mRight mEnds mWay mVariable mFactor mLeast mMost mLength mWord mKept mMany mMore mLeads mMet mTodo mMay mTries) H := hP
        have hD : va_D A (moW K h a u6.2 mLanguages mBounds mSize mGoes mLast mLeft mNext mGroup mFresh mLeader mNumber mRight mEnds mWay mVariable mFactor mLeast mMost mLength mWord mKept mMany mMore mLeads mMet mTodo mMay mTries) := hD
        refine bz_eq (tgt := 99) hx hb d_Mo_bound_94 (by decide) (fun c7 => ?_) (fun c7 => ?_)
        · rw [if_neg c7] at hf
          refine lv_iconst (v := 4) hx hb d_Mo_bound_99 (by decide) ?_
          refine lv_aload_n hx hb d_Mo_bound_100 rfl (lv_at hl 0 rfl) ?_
          refine va_get (D := D) (ci := 0) (v := .int mBounds) (C := R_Mo) (T := T_Mo) (N := 29) hx hb hts in_Mo hown hK hP 0 rfl rfl 2 (by decide) (hts _ fl_Mo_166) (fun _ h9 => h9) rfl d_Mo_bound_101 ?_
          refine lv_imul hx hb d_Mo_bound_104 ?_
          refine lv_istore (lv' := [(7, .int (4 * mBounds)), (0, .ref h), (1, .int p0), (2, .int p1), (3, .int p2), (4, .int p3), (5, .int p4), (6, .int p5)]) hx hb d_Mo_bound_105 hl (by decide) rfl (fun ls hl => ?_)
          refine lv_aload_n hx hb d_Mo_bound_107 rfl (lv_at hl 1 rfl) ?_
          refine va_get (D := D) (ci := 0) (v := .ref (a 12)) (C := R_Mo) (T := T_Mo) (N := 29) hx hb hts in_Mo hown hK hP 0 rfl rfl 16 (by decide) (hts _ fl_Mo_48) (fun _ h9 => h9) rfl d_Mo_bound_108 ?_
          refine lv_iload hx hb d_Mo_bound_111 (lv_at hl 0 rfl) ?_
          refine lv_iload_n hx hb d_Mo_bound_113 rfl (lv_at hl 2 rfl) ?_
          obtain ⟨g8, hf⟩ := ogi hf
          refine va_iast hx hb hK hP hD hS 13 0 rfl rfl (gin_in g8) d_Mo_bound_114 (fun H locs hP hD hS => ?_)
          have hP : va_P D vwCl (moW K h a u6.2 mLanguages mBounds mSize mGoes mLast mLeft mNext mGroup mFresh mLeader mNumber mRight mEnds mWay mVariable (upd mFactor (4 * mBounds).toNatClampNeg p0) mLeast mMost mLength mWord mKept mMany mMore mLeads mMet mTodo mMay mTries) H := hP
          have hD : va_D A (moW K h a u6.2 mLanguages mBounds mSize mGoes mLast mLeft mNext mGroup mFresh mLeader mNumber mRight mEnds mWay mVariable (upd mFactor (4 * mBounds).toNatClampNeg p0) mLeast mMost mLength mWord mKept mMany mMore mLeads mMet mTodo mMay mTries) := hD
          refine lv_aload_n hx hb d_Mo_bound_115 rfl (lv_at hl 1 rfl) ?_
          refine va_get (D := D) (ci := 0) (v := .ref (a 12)) (C := R_Mo) (T := T_Mo) (N := 29) hx hb hts in_Mo hown hK hP 0 rfl rfl 16 (by decide) (hts _ fl_Mo_48) (fun _ h9 => h9) rfl d_Mo_bound_116 ?_
          refine lv_iload hx hb d_Mo_bound_119 (lv_at hl 0 rfl) ?_
          refine lv_iconst (v := 1) hx hb d_Mo_bound_121 (by decide) ?_
          refine lv_iadd hx hb d_Mo_bound_122 ?_
          refine lv_iload_n hx hb d_Mo_bound_123 rfl (lv_at hl 3 rfl) ?_
          obtain ⟨g9, hf⟩ := ogi hf
          refine va_iast hx hb hK hP hD hS 13 0 rfl rfl (gin_in g9) d_Mo_bound_124 (fun H locs hP hD hS => ?_)
          have hP : va_P D vwCl (moW K h a u6.2 mLanguages mBounds mSize mGoes mLast mLeft mNext mGroup mFresh mLeader mNumber mRight mEnds mWay mVariable (upd (upd mFactor (4 * mBounds).toNatClampNeg p0) ((4 * mBounds) + 1).toNatClampNeg p1) mLeast mMost mLength mWord mKept mMany mMore mLeads mMet mTodo mMay mTries) H := hP
          have hD : va_D A (moW K h a u6.2 mLanguages mBounds mSize mGoes mLast mLeft mNext mGroup mFresh mLeader mNumber mRight mEnds mWay mVariable (upd (upd mFactor (4 * mBounds).toNatClampNeg p0) ((4 * mBounds) + 1).toNatClampNeg p1) mLeast mMost mLength mWord mKept mMany mMore mLeads mMet mTodo mMay mTries) := hD
          refine lv_aload_n hx hb d_Mo_bound_125 rfl (lv_at hl 1 rfl) ?_
          refine va_get (D := D) (ci := 0) (v := .ref (a 12)) (C := R_Mo) (T := T_Mo) (N := 29) hx hb hts in_Mo hown hK hP 0 rfl rfl 16 (by decide) (hts _ fl_Mo_48) (fun _ h9 => h9) rfl d_Mo_bound_126 ?_
          refine lv_iload hx hb d_Mo_bound_129 (lv_at hl 0 rfl) ?_
          refine lv_iconst (v := 2) hx hb d_Mo_bound_131 (by decide) ?_
          refine lv_iadd hx hb d_Mo_bound_132 ?_
          refine lv_iload_n hx hb d_Mo_bound_133 rfl (lv_at hl 4 rfl) ?_
          obtain ⟨g10, hf⟩ := ogi hf
          refine va_iast hx hb hK hP hD hS 13 0 rfl rfl (gin_in g10) d_Mo_bound_134 (fun H locs hP hD hS => ?_)
          have hP : va_P D vwCl (moW K h a u6.2 mLanguages mBounds mSize mGoes mLast mLeft mNext mGroup mFresh mLeader mNumber mRight mEnds mWay mVariable (upd (upd (upd mFactor (4 * mBounds).toNatClampNeg p0) ((4 * mBounds) + 1).toNatClampNeg p1) ((4 * mBounds) + 2).toNatClampNeg p2) mLeast mMost mLength mWord mKept mMany mMore mLeads mMet mTodo mMay mTries) H := hP
          have hD : va_D A (moW K h a u6.2 mLanguages mBounds mSize mGoes mLast mLeft mNext mGroup mFresh mLeader mNumber mRight mEnds mWay mVariable (upd (upd (upd mFactor (4 * mBounds).toNatClampNeg p0) ((4 * mBounds) + 1).toNatClampNeg p1) ((4 * mBounds) + 2).toNatClampNeg p2) mLeast mMost mLength mWord mKept mMany mMore mLeads mMet mTodo mMay mTries) := hD
          refine lv_aload_n hx hb d_Mo_bound_135 rfl (lv_at hl 1 rfl) ?_
          refine va_get (D := D) (ci := 0) (v := .ref (a 12)) (C := R_Mo) (T := T_Mo) (N := 29) hx hb hts in_Mo hown hK hP 0 rfl rfl 16 (by decide) (hts _ fl_Mo_48) (fun _ h9 => h9) rfl d_Mo_bound_136 ?_
          refine lv_iload hx hb d_Mo_bound_139 (lv_at hl 0 rfl) ?_
          refine lv_iconst (v := 3) hx hb d_Mo_bound_141 (by decide) ?_
          refine lv_iadd hx hb d_Mo_bound_142 ?_
          refine lv_iload hx hb d_Mo_bound_143 (lv_at hl 5 rfl) ?_
          obtain ⟨g11, hf⟩ := ogi hf
          refine va_iast hx hb hK hP hD hS 13 0 rfl rfl (gin_in g11) d_Mo_bound_145 (fun H locs hP hD hS => ?_)
          have hP : va_P D vwCl (moW K h a u6.2 mLanguages mBounds mSize mGoes mLast mLeft mNext mGroup mFresh mLeader mNumber mRight mEnds mWay mVariable (upd (upd (upd (upd mFactor (4 * mBounds).toNatClampNeg p0) ((4 * mBounds) + 1).toNatClampNeg p1) ((4 * mBounds) + 2).toNatClampNeg p2) ((4 * mBounds) + 3).toNatClampNeg p3) mLeast mMost mLength mWord mKept mMany mMore mLeads mMet mTodo mMay mTries) H := hP
          have hD : va_D A (moW K h a u6.2 mLanguages mBounds mSize mGoes mLast mLeft mNext mGroup mFresh mLeader mNumber mRight mEnds mWay mVariable (upd (upd (upd (upd mFactor (4 * mBounds).toNatClampNeg p0) ((4 * mBounds) + 1).toNatClampNeg p1) ((4 * mBounds) + 2).toNatClampNeg p2) ((4 * mBounds) + 3).toNatClampNeg p3) mLeast mMost mLength mWord mKept mMany mMore mLeads mMet mTodo mMay mTries) := hD
          refine lv_aload_n hx hb d_Mo_bound_146 rfl (lv_at hl 1 rfl) ?_
          refine va_get (D := D) (ci := 0) (v := .ref (a 13)) (C := R_Mo) (T := T_Mo) (N := 29) hx hb hts in_Mo hown hK hP 0 rfl rfl 17 (by decide) (hts _ fl_Mo_51) (fun _ h9 => h9) rfl d_Mo_bound_147 ?_
          refine lv_aload_n hx hb d_Mo_bound_150 rfl (lv_at hl 1 rfl) ?_
          refine va_get (D := D) (ci := 0) (v := .int mBounds) (C := R_Mo) (T := T_Mo) (N := 29) hx hb hts in_Mo hown hK hP 0 rfl rfl 2 (by decide) (hts _ fl_Mo_166) (fun _ h9 => h9) rfl d_Mo_bound_151 ?_
          refine lv_iload hx hb d_Mo_bound_154 (lv_at hl 6 rfl) ?_
          obtain ⟨g12, hf⟩ := ogi hf
          refine va_iast hx hb hK hP hD hS 14 0 rfl rfl (gin_in g12) d_Mo_bound_156 (fun H locs hP hD hS => ?_)
          have hP : va_P D vwCl (moW K h a u6.2 mLanguages mBounds mSize mGoes mLast mLeft mNext mGroup mFresh mLeader mNumber mRight mEnds mWay mVariable (upd (upd (upd (upd mFactor (4 * mBounds).toNatClampNeg p0) ((4 * mBounds) + 1).toNatClampNeg p1) ((4 * mBounds) + 2).toNatClampNeg p2) ((4 * mBounds) + 3).toNatClampNeg p3) (upd mLeast mBounds.toNatClampNeg p4) mMost mLength mWord mKept mMany mMore mLeads mMet mTodo mMay mTries) H := hP
          have hD : va_D A (moW K h a u6.2 mLanguages mBounds mSize mGoes mLast mLeft mNext mGroup mFresh mLeader mNumber mRight mEnds mWay mVariable (upd (upd (upd (upd mFactor (4 * mBounds).toNatClampNeg p0) ((4 * mBounds) + 1).toNatClampNeg p1) ((4 * mBounds) + 2).toNatClampNeg p2) ((4 * mBounds) + 3).toNatClampNeg p3) (upd mLeast mBounds.toNatClampNeg p4) mMost mLength mWord mKept mMany mMore mLeads mMet mTodo mMay mTries) := hD
          refine lv_aload_n hx hb d_Mo_bound_157 rfl (lv_at hl 1 rfl) ?_
          refine va_get (D := D) (ci := 0) (v := .ref (a 14)) (C := R_Mo) (T := T_Mo) (N := 29) hx hb hts in_Mo hown hK hP 0 rfl rfl 18 (by decide) (hts _ fl_Mo_54) (fun _ h9 => h9) rfl d_Mo_bound_158 ?_
          refine lv_aload_n hx hb d_Mo_bound_161 rfl (lv_at hl 1 rfl) ?_
          refine va_get (D := D) (ci := 0) (v := .int mBounds) (C := R_Mo) (T := T_Mo) (N := 29) hx hb hts in_Mo hown hK hP 0 rfl rfl 2 (by decide) (hts _ fl_Mo_166) (fun _ h9 => h9) rfl d_Mo_bound_162 ?_
          refine lv_iload hx hb d_Mo_bound_165 (lv_at hl 7 rfl) ?_
          obtain ⟨g13, hf⟩ := ogi hf
          refine va_iast hx hb hK hP hD hS 15 0 rfl rfl (gin_in g13) d_Mo_bound_167 (fun H locs hP hD hS => ?_)
          have hP : va_P D vwCl (moW K h a u6.2 mLanguages mBounds mSize mGoes mLast mLeft mNext mGroup mFresh mLeader mNumber mRight mEnds mWay mVariable (upd (upd (upd (upd mFactor (4 * mBounds).toNatClampNeg p0) ((4 * mBounds) + 1).toNatClampNeg p1) ((4 * mBounds) + 2).toNatClampNeg p2) ((4 * mBounds) + 3).toNatClampNeg p3) (upd mLeast mBounds.toNatClampNeg p4) (upd mMost mBounds.toNatClampNeg p5) mLength mWord mKept mMany mMore mLeads mMet mTodo mMay mTries) H := hP
          have hD : va_D A (moW K h a u6.2 mLanguages mBounds mSize mGoes mLast mLeft mNext mGroup mFresh mLeader mNumber mRight mEnds mWay mVariable (upd (upd (upd (upd mFactor (4 * mBounds).toNatClampNeg p0) ((4 * mBounds) + 1).toNatClampNeg p1) ((4 * mBounds) + 2).toNatClampNeg p2) ((4 * mBounds) + 3).toNatClampNeg p3) (upd mLeast mBounds.toNatClampNeg p4) (upd mMost mBounds.toNatClampNeg p5) mLength mWord mKept mMany mMore mLeads mMet mTodo mMay mTries) := hD
          refine lv_aload_n hx hb d_Mo_bound_168 rfl (lv_at hl 1 rfl) ?_
          refine lv_dup hx hb d_Mo_bound_169 rfl ?_
          refine va_get (D := D) (ci := 0) (v := .int mBounds) (C := R_Mo) (T := T_Mo) (N := 29) hx hb hts in_Mo hown hK hP 0 rfl rfl 2 (by decide) (hts _ fl_Mo_166) (fun _ h9 => h9) rfl d_Mo_bound_170 ?_
          refine lv_iconst (v := 1) hx hb d_Mo_bound_173 (by decide) ?_
          refine lv_iadd hx hb d_Mo_bound_174 ?_
          refine lv_dup_x1 hx hb d_Mo_bound_175 rfl rfl ?_
          refine va_put (D := D) (ci := 0) (v := .int (mBounds + 1)) (ty := .int) (C := R_Mo) (T := T_Mo) (N := 29) hx hb hts in_Mo t_Mo t_Mo_ok n_Mo hown hK hP hD hS 0 rfl rfl 2 (by decide) (hts _ fl_Mo_166) (fun _ h9 => h9) rfl (by decide +kernel) rfl rfl (Nat.le_of_ble_eq_true rfl) d_Mo_bound_176 (fun H locs hP hD hS => ?_)
          have hP : va_P D vwCl (moW K h a u6.2 mLanguages (mBounds + 1) mSize mGoes mLast mLeft mNext mGroup mFresh mLeader mNumber mRight mEnds mWay mVariable (upd (upd (upd (upd mFactor (4 * mBounds).toNatClampNeg p0) ((4 * mBounds) + 1).toNatClampNeg p1) ((4 * mBounds) + 2).toNatClampNeg p2) ((4 * mBounds) + 3).toNatClampNeg p3) (upd mLeast mBounds.toNatClampNeg p4) (upd mMost mBounds.toNatClampNeg p5) mLength mWord mKept mMany mMore mLeads mMet mTodo mMay mTries) H := hP
          have hD : va_D A (moW K h a u6.2 mLanguages (mBounds + 1) mSize mGoes mLast mLeft mNext mGroup mFresh mLeader mNumber mRight mEnds mWay mVariable (upd (upd (upd (upd mFactor (4 * mBounds).toNatClampNeg p0) ((4 * mBounds) + 1).toNatClampNeg p1) ((4 * mBounds) + 2).toNatClampNeg p2) ((4 * mBounds) + 3).toNatClampNeg p3) (upd mLeast mBounds.toNatClampNeg p4) (upd mMost mBounds.toNatClampNeg p5) mLength mWord mKept mMany mMore mLeads mMet mTodo mMay mTries) := hD
          exact Kr _ (Option.some.inj hf).symm _ _ _ _ d_Mo_bound_179 hP hD hS
        · rw [if_pos c7] at hf
          refine lv_iconst (v := 0) hx hb d_Mo_bound_97 (by decide) ?_
          exact Kr _ (Option.some.inj hf).symm _ _ _ _ d_Mo_bound_98 hP hD hS
      · rw [if_pos c5] at hf
        refine lv_iconst (v := 1) hx hb d_Mo_bound_85 (by decide) ?_
        refine lv_goto (tgt := 90) hx hb d_Mo_bound_86 (by decide) ?_
        refine lv_iconst (v := 2) hx hb d_Mo_bound_90 (by decide) ?_
        obtain ⟨u14, eu14, hf⟩ := obd hf
        refine w_call (va_runV (As := [.int (bI true), .int 2]) (rest := []) ⟨hx, hb, hml, hown, hts⟩ (c_Mo_fails l H.size eu14) (gV 2 hts cd_Mo_fails ml_Mo_124 im_Mo_fails se_Mo_fails ini_Mo rfl rfl pd_Mo_fails ⟨Nat.le_trans (Nat.le_of_ble_eq_true rfl) hRf, Nat.le_trans (Nat.le_of_ble_eq_true rfl) hRl⟩) ⟨wPre_blind, va_recv hK hP (ci := 0) (q0 := 0) rfl rfl, wPre_of hP hK hD⟩ rfl rfl hl.1 rfl (lv_room (Nat.le_of_ble_eq_true rfl)) d_Mo_bound_91 ⟨hRc, hRs⟩) hD hS hA (fun H locs hP hD hS => ?_)
        have hP : va_P D vwCl (moW K h a u14.2 mLanguages mBounds mSize mGoes mLast mLeft mNext mGroup mFresh mLeader mNumber mRight mEnds mWay mVariable mFactor mLeast mMost mLength mWord mKept mMany mMore mLeads mMet mTodo mMay mTries) H := hP
        have hD : va_D A (moW K h a u14.2 mLanguages mBounds mSize mGoes mLast mLeft mNext mGroup mFresh mLeader mNumber mRight mEnds mWay mVariable mFactor mLeast mMost mLength mWord mKept mMany mMore mLeads mMet mTodo mMay mTries) := hD
        refine bz_eq (tgt := 99) hx hb d_Mo_bound_94 (by decide) (fun c15 => ?_) (fun c15 => ?_)
        · rw [if_neg c15] at hf
          refine lv_iconst (v := 4) hx hb d_Mo_bound_99 (by decide) ?_
          refine lv_aload_n hx hb d_Mo_bound_100 rfl (lv_at hl 0 rfl) ?_
          refine va_get (D := D) (ci := 0) (v := .int mBounds) (C := R_Mo) (T := T_Mo) (N := 29) hx hb hts in_Mo hown hK hP 0 rfl rfl 2 (by decide) (hts _ fl_Mo_166) (fun _ h9 => h9) rfl d_Mo_bound_101 ?_
          refine lv_imul hx hb d_Mo_bound_104 ?_
          refine lv_istore (lv' := [(7, .int (4 * mBounds)), (0, .ref h), (1, .int p0), (2, .int p1), (3, .int p2), (4, .int p3), (5, .int p4), (6, .int p5)]) hx hb d_Mo_bound_105 hl (by decide) rfl (fun ls hl => ?_)
          refine lv_aload_n hx hb d_Mo_bound_107 rfl (lv_at hl 1 rfl) ?_
          refine va_get (D := D) (ci := 0) (v := .ref (a 12)) (C := R_Mo) (T := T_Mo) (N := 29) hx hb hts in_Mo hown hK hP 0 rfl rfl 16 (by decide) (hts _ fl_Mo_48) (fun _ h9 => h9) rfl d_Mo_bound_108 ?_
          refine lv_iload hx hb d_Mo_bound_111 (lv_at hl 0 rfl) ?_
          refine lv_iload_n hx hb d_Mo_bound_113 rfl (lv_at hl 2 rfl) ?_
          obtain ⟨g16, hf⟩ := ogi hf
          refine va_iast hx hb hK hP hD hS 13 0 rfl rfl (gin_in g16) d_Mo_bound_114 (fun H locs hP hD hS => ?_)
          have hP : va_P D vwCl (moW K h a u14.2 mLanguages mBounds mSize mGoes mLast mLeft mNext mGroup mFresh mLeader mNumber mRight mEnds mWay mVariable (upd mFactor (4 * mBounds).toNatClampNeg p0) mLeast mMost mLength mWord mKept mMany mMore mLeads mMet mTodo mMay mTries) H := hP
          have hD : va_D A (moW K h a u14.2 mLanguages mBounds mSize mGoes mLast mLeft mNext mGroup mFresh mLeader mNumber mRight mEnds mWay mVariable (upd mFactor (4 * mBounds).toNatClampNeg p0) mLeast mMost mLength mWord mKept mMany mMore mLeads mMet mTodo mMay mTries) := hD
          refine lv_aload_n hx hb d_Mo_bound_115 rfl (lv_at hl 1 rfl) ?_
          refine va_get (D := D) (ci := 0) (v := .ref (a 12)) (C := R_Mo) (T := T_Mo) (N := 29) hx hb hts in_Mo hown hK hP 0 rfl rfl 16 (by decide) (hts _ fl_Mo_48) (fun _ h9 => h9) rfl d_Mo_bound_116 ?_
          refine lv_iload hx hb d_Mo_bound_119 (lv_at hl 0 rfl) ?_
          refine lv_iconst (v := 1) hx hb d_Mo_bound_121 (by decide) ?_
          refine lv_iadd hx hb d_Mo_bound_122 ?_
          refine lv_iload_n hx hb d_Mo_bound_123 rfl (lv_at hl 3 rfl) ?_
          obtain ⟨g17, hf⟩ := ogi hf
          refine va_iast hx hb hK hP hD hS 13 0 rfl rfl (gin_in g17) d_Mo_bound_124 (fun H locs hP hD hS => ?_)
          have hP : va_P D vwCl (moW K h a u14.2 mLanguages mBounds mSize mGoes mLast mLeft mNext mGroup mFresh mLeader mNumber mRight mEnds mWay mVariable (upd (upd mFactor (4 * mBounds).toNatClampNeg p0) ((4 * mBounds) + 1).toNatClampNeg p1) mLeast mMost mLength mWord mKept mMany mMore mLeads mMet mTodo mMay mTries) H := hP
          have hD : va_D A (moW K h a u14.2 mLanguages mBounds mSize mGoes mLast mLeft mNext mGroup mFresh mLeader mNumber mRight mEnds mWay mVariable (upd (upd mFactor (4 * mBounds).toNatClampNeg p0) ((4 * mBounds) + 1).toNatClampNeg p1) mLeast mMost mLength mWord mKept mMany mMore mLeads mMet mTodo mMay mTries) := hD
          refine lv_aload_n hx hb d_Mo_bound_125 rfl (lv_at hl 1 rfl) ?_
          refine va_get (D := D) (ci := 0) (v := .ref (a 12)) (C := R_Mo) (T := T_Mo) (N := 29) hx hb hts in_Mo hown hK hP 0 rfl rfl 16 (by decide) (hts _ fl_Mo_48) (fun _ h9 => h9) rfl d_Mo_bound_126 ?_
          refine lv_iload hx hb d_Mo_bound_129 (lv_at hl 0 rfl) ?_
          refine lv_iconst (v := 2) hx hb d_Mo_bound_131 (by decide) ?_
          refine lv_iadd hx hb d_Mo_bound_132 ?_
          refine lv_iload_n hx hb d_Mo_bound_133 rfl (lv_at hl 4 rfl) ?_
          obtain ⟨g18, hf⟩ := ogi hf
          refine va_iast hx hb hK hP hD hS 13 0 rfl rfl (gin_in g18) d_Mo_bound_134 (fun H locs hP hD hS => ?_)
          have hP : va_P D vwCl (moW K h a u14.2 mLanguages mBounds mSize mGoes mLast mLeft mNext mGroup mFresh mLeader mNumber mRight mEnds mWay mVariable (upd (upd (upd mFactor (4 * mBounds).toNatClampNeg p0) ((4 * mBounds) + 1).toNatClampNeg p1) ((4 * mBounds) + 2).toNatClampNeg p2) mLeast mMost mLength mWord mKept mMany mMore mLeads mMet mTodo mMay mTries) H := hP
          have hD : va_D A (moW K h a u14.2 mLanguages mBounds mSize mGoes mLast mLeft mNext mGroup mFresh mLeader mNumber mRight mEnds mWay mVariable (upd (upd (upd mFactor (4 * mBounds).toNatClampNeg p0) ((4 * mBounds) + 1).toNatClampNeg p1) ((4 * mBounds) + 2).toNatClampNeg p2) mLeast mMost mLength mWord mKept mMany mMore mLeads mMet mTodo mMay mTries) := hD
          refine lv_aload_n hx hb d_Mo_bound_135 rfl (lv_at hl 1 rfl) ?_
          refine va_get (D := D) (ci := 0) (v := .ref (a 12)) (C := R_Mo) (T := T_Mo) (N := 29) hx hb hts in_Mo hown hK hP 0 rfl rfl 16 (by decide) (hts _ fl_Mo_48) (fun _ h9 => h9) rfl d_Mo_bound_136 ?_
          refine lv_iload hx hb d_Mo_bound_139 (lv_at hl 0 rfl) ?_
          refine lv_iconst (v := 3) hx hb d_Mo_bound_141 (by decide) ?_
          refine lv_iadd hx hb d_Mo_bound_142 ?_
          refine lv_iload hx hb d_Mo_bound_143 (lv_at hl 5 rfl) ?_
          obtain ⟨g19, hf⟩ := ogi hf
          refine va_iast hx hb hK hP hD hS 13 0 rfl rfl (gin_in g19) d_Mo_bound_145 (fun H locs hP hD hS => ?_)
          have hP : va_P D vwCl (moW K h a u14.2 mLanguages mBounds mSize mGoes mLast mLeft mNext mGroup mFresh mLeader mNumber mRight mEnds mWay mVariable (upd (upd (upd (upd mFactor (4 * mBounds).toNatClampNeg p0) ((4 * mBounds) + 1).toNatClampNeg p1) ((4 * mBounds) + 2).toNatClampNeg p2) ((4 * mBounds) + 3).toNatClampNeg p3) mLeast mMost mLength mWord mKept mMany mMore mLeads mMet mTodo mMay mTries) H := hP
          have hD : va_D A (moW K h a u14.2 mLanguages mBounds mSize mGoes mLast mLeft mNext mGroup mFresh mLeader mNumber mRight mEnds mWay mVariable (upd (upd (upd (upd mFactor (4 * mBounds).toNatClampNeg p0) ((4 * mBounds) + 1).toNatClampNeg p1) ((4 * mBounds) + 2).toNatClampNeg p2) ((4 * mBounds) + 3).toNatClampNeg p3) mLeast mMost mLength mWord mKept mMany mMore mLeads mMet mTodo mMay mTries) := hD
          refine lv_aload_n hx hb d_Mo_bound_146 rfl (lv_at hl 1 rfl) ?_
          refine va_get (D := D) (ci := 0) (v := .ref (a 13)) (C := R_Mo) (T := T_Mo) (N := 29) hx hb hts in_Mo hown hK hP 0 rfl rfl 17 (by decide) (hts _ fl_Mo_51) (fun _ h9 => h9) rfl d_Mo_bound_147 ?_
          refine lv_aload_n hx hb d_Mo_bound_150 rfl (lv_at hl 1 rfl) ?_
          refine va_get (D := D) (ci := 0) (v := .int mBounds) (C := R_Mo) (T := T_Mo) (N := 29) hx hb hts in_Mo hown hK hP 0 rfl rfl 2 (by decide) (hts _ fl_Mo_166) (fun _ h9 => h9) rfl d_Mo_bound_151 ?_
          refine lv_iload hx hb d_Mo_bound_154 (lv_at hl 6 rfl) ?_
          obtain ⟨g20, hf⟩ := ogi hf
          refine va_iast hx hb hK hP hD hS 14 0 rfl rfl (gin_in g20) d_Mo_bound_156 (fun H locs hP hD hS => ?_)
          have hP : va_P D vwCl (moW K h a u14.2 mLanguages mBounds mSize mGoes mLast mLeft mNext mGroup mFresh mLeader mNumber mRight mEnds mWay mVariable (upd (upd (upd (upd mFactor (4 * mBounds).toNatClampNeg p0) ((4 * mBounds) + 1).toNatClampNeg p1) ((4 * mBounds) + 2).toNatClampNeg p2) ((4 * mBounds) + 3).toNatClampNeg p3) (upd mLeast mBounds.toNatClampNeg p4) mMost mLength mWord mKept mMany mMore mLeads mMet mTodo mMay mTries) H := hP
          have hD : va_D A (moW K h a u14.2 mLanguages mBounds mSize mGoes mLast mLeft mNext mGroup mFresh mLeader mNumber mRight mEnds mWay mVariable (upd (upd (upd (upd mFactor (4 * mBounds).toNatClampNeg p0) ((4 * mBounds) + 1).toNatClampNeg p1) ((4 * mBounds) + 2).toNatClampNeg p2) ((4 * mBounds) + 3).toNatClampNeg p3) (upd mLeast mBounds.toNatClampNeg p4) mMost mLength mWord mKept mMany mMore mLeads mMet mTodo mMay mTries) := hD
          refine lv_aload_n hx hb d_Mo_bound_157 rfl (lv_at hl 1 rfl) ?_
          refine va_get (D := D) (ci := 0) (v := .ref (a 14)) (C := R_Mo) (T := T_Mo) (N := 29) hx hb hts in_Mo hown hK hP 0 rfl rfl 18 (by decide) (hts _ fl_Mo_54) (fun _ h9 => h9) rfl d_Mo_bound_158 ?_
          refine lv_aload_n hx hb d_Mo_bound_161 rfl (lv_at hl 1 rfl) ?_
          refine va_get (D := D) (ci := 0) (v := .int mBounds) (C := R_Mo) (T := T_Mo) (N := 29) hx hb hts in_Mo hown hK hP 0 rfl rfl 2 (by decide) (hts _ fl_Mo_166) (fun _ h9 => h9) rfl d_Mo_bound_162 ?_
          refine lv_iload hx hb d_Mo_bound_165 (lv_at hl 7 rfl) ?_
          obtain ⟨g21, hf⟩ := ogi hf
          refine va_iast hx hb hK hP hD hS 15 0 rfl rfl (gin_in g21) d_Mo_bound_167 (fun H locs hP hD hS => ?_)
          have hP : va_P D vwCl (moW K h a u14.2 mLanguages mBounds mSize mGoes mLast mLeft mNext mGroup mFresh mLeader mNumber mRight mEnds mWay mVariable (upd (upd (upd (upd mFactor (4 * mBounds).toNatClampNeg p0) ((4 * mBounds) + 1).toNatClampNeg p1) ((4 * mBounds) + 2).toNatClampNeg p2) ((4 * mBounds) + 3).toNatClampNeg p3) (upd mLeast mBounds.toNatClampNeg p4) (upd mMost mBounds.toNatClampNeg p5) mLength mWord mKept mMany mMore mLeads mMet mTodo mMay mTries) H := hP
          have hD : va_D A (moW K h a u14.2 mLanguages mBounds mSize mGoes mLast mLeft mNext mGroup mFresh mLeader mNumber mRight mEnds mWay mVariable (upd (upd (upd (upd mFactor (4 * mBounds).toNatClampNeg p0) ((4 * mBounds) + 1).toNatClampNeg p1) ((4 * mBounds) + 2).toNatClampNeg p2) ((4 * mBounds) + 3).toNatClampNeg p3) (upd mLeast mBounds.toNatClampNeg p4) (upd mMost mBounds.toNatClampNeg p5) mLength mWord mKept mMany mMore mLeads mMet mTodo mMay mTries) := hD
          refine lv_aload_n hx hb d_Mo_bound_168 rfl (lv_at hl 1 rfl) ?_
          refine lv_dup hx hb d_Mo_bound_169 rfl ?_
          refine va_get (D := D) (ci := 0) (v := .int mBounds) (C := R_Mo) (T := T_Mo) (N := 29) hx hb hts in_Mo hown hK hP 0 rfl rfl 2 (by decide) (hts _ fl_Mo_166) (fun _ h9 => h9) rfl d_Mo_bound_170 ?_
          refine lv_iconst (v := 1) hx hb d_Mo_bound_173 (by decide) ?_
          refine lv_iadd hx hb d_Mo_bound_174 ?_
          refine lv_dup_x1 hx hb d_Mo_bound_175 rfl rfl ?_
          refine va_put (D := D) (ci := 0) (v := .int (mBounds + 1)) (ty := .int) (C := R_Mo) (T := T_Mo) (N := 29) hx hb hts in_Mo t_Mo t_Mo_ok n_Mo hown hK hP hD hS 0 rfl rfl 2 (by decide) (hts _ fl_Mo_166) (fun _ h9 => h9) rfl (by decide +kernel) rfl rfl (Nat.le_of_ble_eq_true rfl) d_Mo_bound_176 (fun H locs hP hD hS => ?_)
          have hP : va_P D vwCl (moW K h a u14.2 mLanguages (mBounds + 1) mSize mGoes mLast mLeft mNext mGroup mFresh mLeader mNumber mRight mEnds mWay mVariable (upd (upd (upd (upd mFactor (4 * mBounds).toNatClampNeg p0) ((4 * mBounds) + 1).toNatClampNeg p1) ((4 * mBounds) + 2).toNatClampNeg p2) ((4 * mBounds) + 3).toNatClampNeg p3) (upd mLeast mBounds.toNatClampNeg p4) (upd mMost mBounds.toNatClampNeg p5) mLength mWord mKept mMany mMore mLeads mMet mTodo mMay mTries) H := hP
          have hD : va_D A (moW K h a u14.2 mLanguages (mBounds + 1) mSize mGoes mLast mLeft mNext mGroup mFresh mLeader mNumber mRight mEnds mWay mVariable (upd (upd (upd (upd mFactor (4 * mBounds).toNatClampNeg p0) ((4 * mBounds) + 1).toNatClampNeg p1) ((4 * mBounds) + 2).toNatClampNeg p2) ((4 * mBounds) + 3).toNatClampNeg p3) (upd mLeast mBounds.toNatClampNeg p4) (upd mMost mBounds.toNatClampNeg p5) mLength mWord mKept mMany mMore mLeads mMet mTodo mMay mTries) := hD
          exact Kr _ (Option.some.inj hf).symm _ _ _ _ d_Mo_bound_179 hP hD hS
        · rw [if_pos c15] at hf
          refine lv_iconst (v := 0) hx hb d_Mo_bound_97 (by decide) ?_
          exact Kr _ (Option.some.inj hf).symm _ _ _ _ d_Mo_bound_98 hP hD hS
  · rw [if_pos c2] at hf
    refine lv_iload_n hx hb d_Mo_bound_20 rfl (lv_at hl 2 rfl) ?_
    refine lv_i2l (v := p1.toInt64) hx hb d_Mo_bound_21 rfl ?_
    refine lv_ldc2 (v := (-100)) hx hb hown (hts (.constantLong "RegularSolverModel" 162 (-100)) (by decide +kernel)) d_Mo_bound_22 ?_
    refine lv_ldc2 (v := 100) hx hb hown (hts (.constantLong "RegularSolverModel" 164 100) (by decide +kernel)) d_Mo_bound_25 ?_
    obtain ⟨u22, eu22, hf⟩ := obd hf
    refine p_call (W.runS (As := [.long p1.toInt64, .long (-100), .long 100]) (rest := [.ref h]) ⟨hx, hb, hml, hown, hts⟩ (c_Mo_in l eu22) (gS 3 hts cd_Mo_in ml_Mo_91 st_Mo_in ini_Mo rfl rfl pd_Mo_in ⟨Nat.le_trans (Nat.le_of_ble_eq_true rfl) hRf, Nat.le_trans (Nat.le_of_ble_eq_true rfl) hRl⟩) ⟨pPre_blind, pPre_of hP hK⟩ rfl rfl hl.1 rfl (lv_room (Nat.le_of_ble_eq_true rfl)) d_Mo_bound_28 ⟨hRc, hRs⟩) ?_
    refine bz_eq (tgt := 63) hx hb d_Mo_bound_31 (by decide) (fun c23 => ?_) (fun c23 => ?_)
    · rw [if_neg c23] at hf
      refine lv_iconst (v := 1) hx hb d_Mo_bound_63 (by decide) ?_
      refine lv_goto (tgt := 68) hx hb d_Mo_bound_64 (by decide) ?_
      refine lv_iconst (v := 1) hx hb d_Mo_bound_68 (by decide) ?_
      obtain ⟨u24, eu24, hf⟩ := obd hf
      refine w_call (va_runV (As := [.int (bI true), .int 1]) (rest := []) ⟨hx, hb, hml, hown, hts⟩ (c_Mo_fails l H.size eu24) (gV 2 hts cd_Mo_fails ml_Mo_124 im_Mo_fails se_Mo_fails ini_Mo rfl rfl pd_Mo_fails ⟨Nat.le_trans (Nat.le_of_ble_eq_true rfl) hRf, Nat.le_trans (Nat.le_of_ble_eq_true rfl) hRl⟩) ⟨wPre_blind, va_recv hK hP (ci := 0) (q0 := 0) rfl rfl, wPre_of hP hK hD⟩ rfl rfl hl.1 rfl (lv_room (Nat.le_of_ble_eq_true rfl)) d_Mo_bound_69 ⟨hRc, hRs⟩) hD hS hA (fun H locs hP hD hS => ?_)
      have hP : va_P D vwCl (moW K h a u24.2 mLanguages mBounds mSize mGoes mLast mLeft mNext mGroup mFresh mLeader mNumber mRight mEnds mWay mVariable mFactor mLeast mMost mLength mWord mKept mMany mMore mLeads mMet mTodo mMay mTries) H := hP
      have hD : va_D A (moW K h a u24.2 mLanguages mBounds mSize mGoes mLast mLeft mNext mGroup mFresh mLeader mNumber mRight mEnds mWay mVariable mFactor mLeast mMost mLength mWord mKept mMany mMore mLeads mMet mTodo mMay mTries) := hD
      refine bz_ne (tgt := 97) hx hb d_Mo_bound_72 (by decide) (fun c25 => ?_) (fun c25 => ?_)
      · rw [if_pos c25] at hf
        refine lv_iconst (v := 0) hx hb d_Mo_bound_97 (by decide) ?_
        exact Kr _ (Option.some.inj hf).symm _ _ _ _ d_Mo_bound_98 hP hD hS
      · rw [if_neg c25] at hf
        refine lv_aload_n hx hb d_Mo_bound_75 rfl (lv_at hl 0 rfl) ?_
        refine lv_aload_n hx hb d_Mo_bound_76 rfl (lv_at hl 0 rfl) ?_
        refine va_get (D := D) (ci := 0) (v := .int mBounds) (C := R_Mo) (T := T_Mo) (N := 29) hx hb hts in_Mo hown hK hP 0 rfl rfl 2 (by decide) (hts _ fl_Mo_166) (fun _ h9 => h9) rfl d_Mo_bound_77 ?_
        refine lv_bipush (v := 8) hx hb d_Mo_bound_80 (by decide) ?_
        refine lv_icmp_ne (tgt := 89) hx hb d_Mo_bound_82 (by decide) (fun c26 => ?_) (fun c26 => ?_)
        · rw [if_neg c26] at hf
          refine lv_iconst (v := 0) hx hb d_Mo_bound_89 (by decide) ?_
          refine lv_iconst (v := 2) hx hb d_Mo_bound_90 (by decide) ?_
          obtain ⟨u27, eu27, hf⟩ := obd hf
          refine w_call (va_runV (As := [.int (bI false), .int 2]) (rest := []) ⟨hx, hb, hml, hown, hts⟩ (c_Mo_fails l H.size eu27) (gV 2 hts cd_Mo_fails ml_Mo_124 im_Mo_fails se_Mo_fails ini_Mo rfl rfl pd_Mo_fails ⟨Nat.le_trans (Nat.le_of_ble_eq_true rfl) hRf, Nat.le_trans (Nat.le_of_ble_eq_true rfl) hRl⟩) ⟨wPre_blind, va_recv hK hP (ci := 0) (q0 := 0) rfl rfl, wPre_of hP hK hD⟩ rfl rfl hl.1 rfl (lv_room (Nat.le_of_ble_eq_true rfl)) d_Mo_bound_91 ⟨hRc, hRs⟩) hD hS hA (fun H locs hP hD hS => ?_)
          have hP : va_P D vwCl (moW K h a u27.2 mLanguages mBounds mSize mGoes mLast mLeft mNext mGroup mFresh mLeader mNumber mRight mEnds mWay mVariable mFactor mLeast mMost mLength mWord mKept mMany mMore mLeads mMet mTodo mMay mTries) H := hP
          have hD : va_D A (moW K h a u27.2 mLanguages mBounds mSize mGoes mLast mLeft mNext mGroup mFresh mLeader mNumber mRight mEnds mWay mVariable mFactor mLeast mMost mLength mWord mKept mMany mMore mLeads mMet mTodo mMay mTries) := hD
          refine bz_eq (tgt := 99) hx hb d_Mo_bound_94 (by decide) (fun c28 => ?_) (fun c28 => ?_)
          · rw [if_neg c28] at hf
            refine lv_iconst (v := 4) hx hb d_Mo_bound_99 (by decide) ?_
            refine lv_aload_n hx hb d_Mo_bound_100 rfl (lv_at hl 0 rfl) ?_
            refine va_get (D := D) (ci := 0) (v := .int mBounds) (C := R_Mo) (T := T_Mo) (N := 29) hx hb hts in_Mo hown hK hP 0 rfl rfl 2 (by decide) (hts _ fl_Mo_166) (fun _ h9 => h9) rfl d_Mo_bound_101 ?_
            refine lv_imul hx hb d_Mo_bound_104 ?_
            refine lv_istore (lv' := [(7, .int (4 * mBounds)), (0, .ref h), (1, .int p0), (2, .int p1), (3, .int p2), (4, .int p3), (5, .int p4), (6, .int p5)]) hx hb d_Mo_bound_105 hl (by decide) rfl (fun ls hl => ?_)
            refine lv_aload_n hx hb d_Mo_bound_107 rfl (lv_at hl 1 rfl) ?_
            refine va_get (D := D) (ci := 0) (v := .ref (a 12)) (C := R_Mo) (T := T_Mo) (N := 29) hx hb hts in_Mo hown hK hP 0 rfl rfl 16 (by decide) (hts _ fl_Mo_48) (fun _ h9 => h9) rfl d_Mo_bound_108 ?_
            refine lv_iload hx hb d_Mo_bound_111 (lv_at hl 0 rfl) ?_
            refine lv_iload_n hx hb d_Mo_bound_113 rfl (lv_at hl 2 rfl) ?_
            obtain ⟨g29, hf⟩ := ogi hf
            refine va_iast hx hb hK hP hD hS 13 0 rfl rfl (gin_in g29) d_Mo_bound_114 (fun H locs hP hD hS => ?_)
            have hP : va_P D vwCl (moW K h a u27.2 mLanguages mBounds mSize mGoes mLast mLeft mNext mGroup mFresh mLeader mNumber mRight mEnds mWay mVariable (upd mFactor (4 * mBounds).toNatClampNeg p0) mLeast mMost mLength mWord mKept mMany mMore mLeads mMet mTodo mMay mTries) H := hP
            have hD : va_D A (moW K h a u27.2 mLanguages mBounds mSize mGoes mLast mLeft mNext mGroup mFresh mLeader mNumber mRight mEnds mWay mVariable (upd mFactor (4 * mBounds).toNatClampNeg p0) mLeast mMost mLength mWord mKept mMany mMore mLeads mMet mTodo mMay mTries) := hD
            refine lv_aload_n hx hb d_Mo_bound_115 rfl (lv_at hl 1 rfl) ?_
            refine va_get (D := D) (ci := 0) (v := .ref (a 12)) (C := R_Mo) (T := T_Mo) (N := 29) hx hb hts in_Mo hown hK hP 0 rfl rfl 16 (by decide) (hts _ fl_Mo_48) (fun _ h9 => h9) rfl d_Mo_bound_116 ?_
            refine lv_iload hx hb d_Mo_bound_119 (lv_at hl 0 rfl) ?_
            refine lv_iconst (v := 1) hx hb d_Mo_bound_121 (by decide) ?_
            refine lv_iadd hx hb d_Mo_bound_122 ?_
            refine lv_iload_n hx hb d_Mo_bound_123 rfl (lv_at hl 3 rfl) ?_
            obtain ⟨g30, hf⟩ := ogi hf
            refine va_iast hx hb hK hP hD hS 13 0 rfl rfl (gin_in g30) d_Mo_bound_124 (fun H locs hP hD hS => ?_)
            have hP : va_P D vwCl (moW K h a u27.2 mLanguages mBounds mSize mGoes mLast mLeft mNext mGroup mFresh mLeader mNumber mRight mEnds mWay mVariable (upd (upd mFactor (4 * mBounds).toNatClampNeg p0) ((4 * mBounds) + 1).toNatClampNeg p1) mLeast mMost mLength mWord mKept mMany mMore mLeads mMet mTodo mMay mTries) H := hP
            have hD : va_D A (moW K h a u27.2 mLanguages mBounds mSize mGoes mLast mLeft mNext mGroup mFresh mLeader mNumber mRight mEnds mWay mVariable (upd (upd mFactor (4 * mBounds).toNatClampNeg p0) ((4 * mBounds) + 1).toNatClampNeg p1) mLeast mMost mLength mWord mKept mMany mMore mLeads mMet mTodo mMay mTries) := hD
            refine lv_aload_n hx hb d_Mo_bound_125 rfl (lv_at hl 1 rfl) ?_
            refine va_get (D := D) (ci := 0) (v := .ref (a 12)) (C := R_Mo) (T := T_Mo) (N := 29) hx hb hts in_Mo hown hK hP 0 rfl rfl 16 (by decide) (hts _ fl_Mo_48) (fun _ h9 => h9) rfl d_Mo_bound_126 ?_
            refine lv_iload hx hb d_Mo_bound_129 (lv_at hl 0 rfl) ?_
            refine lv_iconst (v := 2) hx hb d_Mo_bound_131 (by decide) ?_
            refine lv_iadd hx hb d_Mo_bound_132 ?_
            refine lv_iload_n hx hb d_Mo_bound_133 rfl (lv_at hl 4 rfl) ?_
            obtain ⟨g31, hf⟩ := ogi hf
            refine va_iast hx hb hK hP hD hS 13 0 rfl rfl (gin_in g31) d_Mo_bound_134 (fun H locs hP hD hS => ?_)
            have hP : va_P D vwCl (moW K h a u27.2 mLanguages mBounds mSize mGoes mLast mLeft mNext mGroup mFresh mLeader mNumber mRight mEnds mWay mVariable (upd (upd (upd mFactor (4 * mBounds).toNatClampNeg p0) ((4 * mBounds) + 1).toNatClampNeg p1) ((4 * mBounds) + 2).toNatClampNeg p2) mLeast mMost mLength mWord mKept mMany mMore mLeads mMet mTodo mMay mTries) H := hP
            have hD : va_D A (moW K h a u27.2 mLanguages mBounds mSize mGoes mLast mLeft mNext mGroup mFresh mLeader mNumber mRight mEnds mWay mVariable (upd (upd (upd mFactor (4 * mBounds).toNatClampNeg p0) ((4 * mBounds) + 1).toNatClampNeg p1) ((4 * mBounds) + 2).toNatClampNeg p2) mLeast mMost mLength mWord mKept mMany mMore mLeads mMet mTodo mMay mTries) := hD
            refine lv_aload_n hx hb d_Mo_bound_135 rfl (lv_at hl 1 rfl) ?_
            refine va_get (D := D) (ci := 0) (v := .ref (a 12)) (C := R_Mo) (T := T_Mo) (N := 29) hx hb hts in_Mo hown hK hP 0 rfl rfl 16 (by decide) (hts _ fl_Mo_48) (fun _ h9 => h9) rfl d_Mo_bound_136 ?_
            refine lv_iload hx hb d_Mo_bound_139 (lv_at hl 0 rfl) ?_
            refine lv_iconst (v := 3) hx hb d_Mo_bound_141 (by decide) ?_
            refine lv_iadd hx hb d_Mo_bound_142 ?_
            refine lv_iload hx hb d_Mo_bound_143 (lv_at hl 5 rfl) ?_
            obtain ⟨g32, hf⟩ := ogi hf
            refine va_iast hx hb hK hP hD hS 13 0 rfl rfl (gin_in g32) d_Mo_bound_145 (fun H locs hP hD hS => ?_)
            have hP : va_P D vwCl (moW K h a u27.2 mLanguages mBounds mSize mGoes mLast mLeft mNext mGroup mFresh mLeader mNumber mRight mEnds mWay mVariable (upd (upd (upd (upd mFactor (4 * mBounds).toNatClampNeg p0) ((4 * mBounds) + 1).toNatClampNeg p1) ((4 * mBounds) + 2).toNatClampNeg p2) ((4 * mBounds) + 3).toNatClampNeg p3) mLeast mMost mLength mWord mKept mMany mMore mLeads mMet mTodo mMay mTries) H := hP
            have hD : va_D A (moW K h a u27.2 mLanguages mBounds mSize mGoes mLast mLeft mNext mGroup mFresh mLeader mNumber mRight mEnds mWay mVariable (upd (upd (upd (upd mFactor (4 * mBounds).toNatClampNeg p0) ((4 * mBounds) + 1).toNatClampNeg p1) ((4 * mBounds) + 2).toNatClampNeg p2) ((4 * mBounds) + 3).toNatClampNeg p3) mLeast mMost mLength mWord mKept mMany mMore mLeads mMet mTodo mMay mTries) := hD
            refine lv_aload_n hx hb d_Mo_bound_146 rfl (lv_at hl 1 rfl) ?_
            refine va_get (D := D) (ci := 0) (v := .ref (a 13)) (C := R_Mo) (T := T_Mo) (N := 29) hx hb hts in_Mo hown hK hP 0 rfl rfl 17 (by decide) (hts _ fl_Mo_51) (fun _ h9 => h9) rfl d_Mo_bound_147 ?_
            refine lv_aload_n hx hb d_Mo_bound_150 rfl (lv_at hl 1 rfl) ?_
            refine va_get (D := D) (ci := 0) (v := .int mBounds) (C := R_Mo) (T := T_Mo) (N := 29) hx hb hts in_Mo hown hK hP 0 rfl rfl 2 (by decide) (hts _ fl_Mo_166) (fun _ h9 => h9) rfl d_Mo_bound_151 ?_
            refine lv_iload hx hb d_Mo_bound_154 (lv_at hl 6 rfl) ?_
            obtain ⟨g33, hf⟩ := ogi hf
            refine va_iast hx hb hK hP hD hS 14 0 rfl rfl (gin_in g33) d_Mo_bound_156 (fun H locs hP hD hS => ?_)
            have hP : va_P D vwCl (moW K h a u27.2 mLanguages mBounds mSize mGoes mLast mLeft mNext mGroup mFresh mLeader mNumber mRight mEnds mWay mVariable (upd (upd (upd (upd mFactor (4 * mBounds).toNatClampNeg p0) ((4 * mBounds) + 1).toNatClampNeg p1) ((4 * mBounds) + 2).toNatClampNeg p2) ((4 * mBounds) + 3).toNatClampNeg p3) (upd mLeast mBounds.toNatClampNeg p4) mMost mLength mWord mKept mMany mMore mLeads mMet mTodo mMay mTries) H := hP
            have hD : va_D A (moW K h a u27.2 mLanguages mBounds mSize mGoes mLast mLeft mNext mGroup mFresh mLeader mNumber mRight mEnds mWay mVariable (upd (upd (upd (upd mFactor (4 * mBounds).toNatClampNeg p0) ((4 * mBounds) + 1).toNatClampNeg p1) ((4 * mBounds) + 2).toNatClampNeg p2) ((4 * mBounds) + 3).toNatClampNeg p3) (upd mLeast mBounds.toNatClampNeg p4) mMost mLength mWord mKept mMany mMore mLeads mMet mTodo mMay mTries) := hD
            refine lv_aload_n hx hb d_Mo_bound_157 rfl (lv_at hl 1 rfl) ?_
            refine va_get (D := D) (ci := 0) (v := .ref (a 14)) (C := R_Mo) (T := T_Mo) (N := 29) hx hb hts in_Mo hown hK hP 0 rfl rfl 18 (by decide) (hts _ fl_Mo_54) (fun _ h9 => h9) rfl d_Mo_bound_158 ?_
            refine lv_aload_n hx hb d_Mo_bound_161 rfl (lv_at hl 1 rfl) ?_
            refine va_get (D := D) (ci := 0) (v := .int mBounds) (C := R_Mo) (T := T_Mo) (N := 29) hx hb hts in_Mo hown hK hP 0 rfl rfl 2 (by decide) (hts _ fl_Mo_166) (fun _ h9 => h9) rfl d_Mo_bound_162 ?_
            refine lv_iload hx hb d_Mo_bound_165 (lv_at hl 7 rfl) ?_
            obtain ⟨g34, hf⟩ := ogi hf
            refine va_iast hx hb hK hP hD hS 15 0 rfl rfl (gin_in g34) d_Mo_bound_167 (fun H locs hP hD hS => ?_)
            have hP : va_P D vwCl (moW K h a u27.2 mLanguages mBounds mSize mGoes mLast mLeft mNext mGroup mFresh mLeader mNumber mRight mEnds mWay mVariable (upd (upd (upd (upd mFactor (4 * mBounds).toNatClampNeg p0) ((4 * mBounds) + 1).toNatClampNeg p1) ((4 * mBounds) + 2).toNatClampNeg p2) ((4 * mBounds) + 3).toNatClampNeg p3) (upd mLeast mBounds.toNatClampNeg p4) (upd mMost mBounds.toNatClampNeg p5) mLength mWord mKept mMany mMore mLeads mMet mTodo mMay mTries) H := hP
            have hD : va_D A (moW K h a u27.2 mLanguages mBounds mSize mGoes mLast mLeft mNext mGroup mFresh mLeader mNumber mRight mEnds mWay mVariable (upd (upd (upd (upd mFactor (4 * mBounds).toNatClampNeg p0) ((4 * mBounds) + 1).toNatClampNeg p1) ((4 * mBounds) + 2).toNatClampNeg p2) ((4 * mBounds) + 3).toNatClampNeg p3) (upd mLeast mBounds.toNatClampNeg p4) (upd mMost mBounds.toNatClampNeg p5) mLength mWord mKept mMany mMore mLeads mMet mTodo mMay mTries) := hD
            refine lv_aload_n hx hb d_Mo_bound_168 rfl (lv_at hl 1 rfl) ?_
            refine lv_dup hx hb d_Mo_bound_169 rfl ?_
            refine va_get (D := D) (ci := 0) (v := .int mBounds) (C := R_Mo) (T := T_Mo) (N := 29) hx hb hts in_Mo hown hK hP 0 rfl rfl 2 (by decide) (hts _ fl_Mo_166) (fun _ h9 => h9) rfl d_Mo_bound_170 ?_
            refine lv_iconst (v := 1) hx hb d_Mo_bound_173 (by decide) ?_
            refine lv_iadd hx hb d_Mo_bound_174 ?_
            refine lv_dup_x1 hx hb d_Mo_bound_175 rfl rfl ?_
            refine va_put (D := D) (ci := 0) (v := .int (mBounds + 1)) (ty := .int) (C := R_Mo) (T := T_Mo) (N := 29) hx hb hts in_Mo t_Mo t_Mo_ok n_Mo hown hK hP hD hS 0 rfl rfl 2 (by decide) (hts _ fl_Mo_166) (fun _ h9 => h9) rfl (by decide +kernel) rfl rfl (Nat.le_of_ble_eq_true rfl) d_Mo_bound_176 (fun H locs hP hD hS => ?_)
            have hP : va_P D vwCl (moW K h a u27.2 mLanguages (mBounds + 1) mSize mGoes mLast mLeft mNext mGroup mFresh mLeader mNumber mRight mEnds mWay mVariable (upd (upd (upd (upd mFactor (4 * mBounds).toNatClampNeg p0) ((4 * mBounds) + 1).toNatClampNeg p1) ((4 * mBounds) + 2).toNatClampNeg p2) ((4 * mBounds) + 3).toNatClampNeg p3) (upd mLeast mBounds.toNatClampNeg p4) (upd mMost mBounds.toNatClampNeg p5) mLength mWord mKept mMany mMore mLeads mMet mTodo mMay mTries) H := hP
            have hD : va_D A (moW K h a u27.2 mLanguages (mBounds + 1) mSize mGoes mLast mLeft mNext mGroup mFresh mLeader mNumber mRight mEnds mWay mVariable (upd (upd (upd (upd mFactor (4 * mBounds).toNatClampNeg p0) ((4 * mBounds) + 1).toNatClampNeg p1) ((4 * mBounds) + 2).toNatClampNeg p2) ((4 * mBounds) + 3).toNatClampNeg p3) (upd mLeast mBounds.toNatClampNeg p4) (upd mMost mBounds.toNatClampNeg p5) mLength mWord mKept mMany mMore mLeads mMet mTodo mMay mTries) := hD
            exact Kr _ (Option.some.inj hf).symm _ _ _ _ d_Mo_bound_179 hP hD hS
          · rw [if_pos c28] at hf
            refine lv_iconst (v := 0) hx hb d_Mo_bound_97 (by decide) ?_
            exact Kr _ (Option.some.inj hf).symm _ _ _ _ d_Mo_bound_98 hP hD hS
        · rw [if_pos c26] at hf
          refine lv_iconst (v := 1) hx hb d_Mo_bound_85 (by decide) ?_
          refine lv_goto (tgt := 90) hx hb d_Mo_bound_86 (by decide) ?_
          refine lv_iconst (v := 2) hx hb d_Mo_bound_90 (by decide) ?_
          obtain ⟨u35, eu35, hf⟩ := obd hf
          refine w_call (va_runV (As := [.int (bI true), .int 2]) (rest := []) ⟨hx, hb, hml, hown, hts⟩ (c_Mo_fails l H.size eu35) (gV 2 hts cd_Mo_fails ml_Mo_124 im_Mo_fails se_Mo_fails ini_Mo rfl rfl pd_Mo_fails ⟨Nat.le_trans (Nat.le_of_ble_eq_true rfl) hRf, Nat.le_trans (Nat.le_of_ble_eq_true rfl) hRl⟩) ⟨wPre_blind, va_recv hK hP (ci := 0) (q0 := 0) rfl rfl, wPre_of hP hK hD⟩ rfl rfl hl.1 rfl (lv_room (Nat.le_of_ble_eq_true rfl)) d_Mo_bound_91 ⟨hRc, hRs⟩) hD hS hA (fun H locs hP hD hS => ?_)
          have hP : va_P D vwCl (moW K h a u35.2 mLanguages mBounds mSize mGoes mLast mLeft mNext mGroup mFresh mLeader mNumber mRight mEnds mWay mVariable mFactor mLeast mMost mLength mWord mKept mMany mMore mLeads mMet mTodo mMay mTries) H := hP
          have hD : va_D A (moW K h a u35.2 mLanguages mBounds mSize mGoes mLast mLeft mNext mGroup mFresh mLeader mNumber mRight mEnds mWay mVariable mFactor mLeast mMost mLength mWord mKept mMany mMore mLeads mMet mTodo mMay mTries) := hD
          refine bz_eq (tgt := 99) hx hb d_Mo_bound_94 (by decide) (fun c36 => ?_) (fun c36 => ?_)
          · rw [if_neg c36] at hf
            refine lv_iconst (v := 4) hx hb d_Mo_bound_99 (by decide) ?_
            refine lv_aload_n hx hb d_Mo_bound_100 rfl (lv_at hl 0 rfl) ?_
            refine va_get (D := D) (ci := 0) (v := .int mBounds) (C := R_Mo) (T := T_Mo) (N := 29) hx hb hts in_Mo hown hK hP 0 rfl rfl 2 (by decide) (hts _ fl_Mo_166) (fun _ h9 => h9) rfl d_Mo_bound_101 ?_
            refine lv_imul hx hb d_Mo_bound_104 ?_
            refine lv_istore (lv' := [(7, .int (4 * mBounds)), (0, .ref h), (1, .int p0), (2, .int p1), (3, .int p2), (4, .int p3), (5, .int p4), (6, .int p5)]) hx hb d_Mo_bound_105 hl (by decide) rfl (fun ls hl => ?_)
            refine lv_aload_n hx hb d_Mo_bound_107 rfl (lv_at hl 1 rfl) ?_
            refine va_get (D := D) (ci := 0) (v := .ref (a 12)) (C := R_Mo) (T := T_Mo) (N := 29) hx hb hts in_Mo hown hK hP 0 rfl rfl 16 (by decide) (hts _ fl_Mo_48) (fun _ h9 => h9) rfl d_Mo_bound_108 ?_
            refine lv_iload hx hb d_Mo_bound_111 (lv_at hl 0 rfl) ?_
            refine lv_iload_n hx hb d_Mo_bound_113 rfl (lv_at hl 2 rfl) ?_
            obtain ⟨g37, hf⟩ := ogi hf
            refine va_iast hx hb hK hP hD hS 13 0 rfl rfl (gin_in g37) d_Mo_bound_114 (fun H locs hP hD hS => ?_)
            have hP : va_P D vwCl (moW K h a u35.2 mLanguages mBounds mSize mGoes mLast mLeft mNext mGroup mFresh mLeader mNumber mRight mEnds mWay mVariable (upd mFactor (4 * mBounds).toNatClampNeg p0) mLeast mMost mLength mWord mKept mMany mMore mLeads mMet mTodo mMay mTries) H := hP
            have hD : va_D A (moW K h a u35.2 mLanguages mBounds mSize mGoes mLast mLeft mNext mGroup mFresh mLeader mNumber mRight mEnds mWay mVariable (upd mFactor (4 * mBounds).toNatClampNeg p0) mLeast mMost mLength mWord mKept mMany mMore mLeads mMet mTodo mMay mTries) := hD
            refine lv_aload_n hx hb d_Mo_bound_115 rfl (lv_at hl 1 rfl) ?_
            refine va_get (D := D) (ci := 0) (v := .ref (a 12)) (C := R_Mo) (T := T_Mo) (N := 29) hx hb hts in_Mo hown hK hP 0 rfl rfl 16 (by decide) (hts _ fl_Mo_48) (fun _ h9 => h9) rfl d_Mo_bound_116 ?_
            refine lv_iload hx hb d_Mo_bound_119 (lv_at hl 0 rfl) ?_
            refine lv_iconst (v := 1) hx hb d_Mo_bound_121 (by decide) ?_
            refine lv_iadd hx hb d_Mo_bound_122 ?_
            refine lv_iload_n hx hb d_Mo_bound_123 rfl (lv_at hl 3 rfl) ?_
            obtain ⟨g38, hf⟩ := ogi hf
            refine va_iast hx hb hK hP hD hS 13 0 rfl rfl (gin_in g38) d_Mo_bound_124 (fun H locs hP hD hS => ?_)
            have hP : va_P D vwCl (moW K h a u35.2 mLanguages mBounds mSize mGoes mLast mLeft mNext mGroup mFresh mLeader mNumber mRight mEnds mWay mVariable (upd (upd mFactor (4 * mBounds).toNatClampNeg p0) ((4 * mBounds) + 1).toNatClampNeg p1) mLeast mMost mLength mWord mKept mMany mMore mLeads mMet mTodo mMay mTries) H := hP
            have hD : va_D A (moW K h a u35.2 mLanguages mBounds mSize mGoes mLast mLeft mNext mGroup mFresh mLeader mNumber mRight mEnds mWay mVariable (upd (upd mFactor (4 * mBounds).toNatClampNeg p0) ((4 * mBounds) + 1).toNatClampNeg p1) mLeast mMost mLength mWord mKept mMany mMore mLeads mMet mTodo mMay mTries) := hD
            refine lv_aload_n hx hb d_Mo_bound_125 rfl (lv_at hl 1 rfl) ?_
            refine va_get (D := D) (ci := 0) (v := .ref (a 12)) (C := R_Mo) (T := T_Mo) (N := 29) hx hb hts in_Mo hown hK hP 0 rfl rfl 16 (by decide) (hts _ fl_Mo_48) (fun _ h9 => h9) rfl d_Mo_bound_126 ?_
            refine lv_iload hx hb d_Mo_bound_129 (lv_at hl 0 rfl) ?_
            refine lv_iconst (v := 2) hx hb d_Mo_bound_131 (by decide) ?_
            refine lv_iadd hx hb d_Mo_bound_132 ?_
            refine lv_iload_n hx hb d_Mo_bound_133 rfl (lv_at hl 4 rfl) ?_
            obtain ⟨g39, hf⟩ := ogi hf
            refine va_iast hx hb hK hP hD hS 13 0 rfl rfl (gin_in g39) d_Mo_bound_134 (fun H locs hP hD hS => ?_)
            have hP : va_P D vwCl (moW K h a u35.2 mLanguages mBounds mSize mGoes mLast mLeft mNext mGroup mFresh mLeader mNumber mRight mEnds mWay mVariable (upd (upd (upd mFactor (4 * mBounds).toNatClampNeg p0) ((4 * mBounds) + 1).toNatClampNeg p1) ((4 * mBounds) + 2).toNatClampNeg p2) mLeast mMost mLength mWord mKept mMany mMore mLeads mMet mTodo mMay mTries) H := hP
            have hD : va_D A (moW K h a u35.2 mLanguages mBounds mSize mGoes mLast mLeft mNext mGroup mFresh mLeader mNumber mRight mEnds mWay mVariable (upd (upd (upd mFactor (4 * mBounds).toNatClampNeg p0) ((4 * mBounds) + 1).toNatClampNeg p1) ((4 * mBounds) + 2).toNatClampNeg p2) mLeast mMost mLength mWord mKept mMany mMore mLeads mMet mTodo mMay mTries) := hD
            refine lv_aload_n hx hb d_Mo_bound_135 rfl (lv_at hl 1 rfl) ?_
            refine va_get (D := D) (ci := 0) (v := .ref (a 12)) (C := R_Mo) (T := T_Mo) (N := 29) hx hb hts in_Mo hown hK hP 0 rfl rfl 16 (by decide) (hts _ fl_Mo_48) (fun _ h9 => h9) rfl d_Mo_bound_136 ?_
            refine lv_iload hx hb d_Mo_bound_139 (lv_at hl 0 rfl) ?_
            refine lv_iconst (v := 3) hx hb d_Mo_bound_141 (by decide) ?_
            refine lv_iadd hx hb d_Mo_bound_142 ?_
            refine lv_iload hx hb d_Mo_bound_143 (lv_at hl 5 rfl) ?_
            obtain ⟨g40, hf⟩ := ogi hf
            refine va_iast hx hb hK hP hD hS 13 0 rfl rfl (gin_in g40) d_Mo_bound_145 (fun H locs hP hD hS => ?_)
            have hP : va_P D vwCl (moW K h a u35.2 mLanguages mBounds mSize mGoes mLast mLeft mNext mGroup mFresh mLeader mNumber mRight mEnds mWay mVariable (upd (upd (upd (upd mFactor (4 * mBounds).toNatClampNeg p0) ((4 * mBounds) + 1).toNatClampNeg p1) ((4 * mBounds) + 2).toNatClampNeg p2) ((4 * mBounds) + 3).toNatClampNeg p3) mLeast mMost mLength mWord mKept mMany mMore mLeads mMet mTodo mMay mTries) H := hP
            have hD : va_D A (moW K h a u35.2 mLanguages mBounds mSize mGoes mLast mLeft mNext mGroup mFresh mLeader mNumber mRight mEnds mWay mVariable (upd (upd (upd (upd mFactor (4 * mBounds).toNatClampNeg p0) ((4 * mBounds) + 1).toNatClampNeg p1) ((4 * mBounds) + 2).toNatClampNeg p2) ((4 * mBounds) + 3).toNatClampNeg p3) mLeast mMost mLength mWord mKept mMany mMore mLeads mMet mTodo mMay mTries) := hD
            refine lv_aload_n hx hb d_Mo_bound_146 rfl (lv_at hl 1 rfl) ?_
            refine va_get (D := D) (ci := 0) (v := .ref (a 13)) (C := R_Mo) (T := T_Mo) (N := 29) hx hb hts in_Mo hown hK hP 0 rfl rfl 17 (by decide) (hts _ fl_Mo_51) (fun _ h9 => h9) rfl d_Mo_bound_147 ?_
            refine lv_aload_n hx hb d_Mo_bound_150 rfl (lv_at hl 1 rfl) ?_
            refine va_get (D := D) (ci := 0) (v := .int mBounds) (C := R_Mo) (T := T_Mo) (N := 29) hx hb hts in_Mo hown hK hP 0 rfl rfl 2 (by decide) (hts _ fl_Mo_166) (fun _ h9 => h9) rfl d_Mo_bound_151 ?_
            refine lv_iload hx hb d_Mo_bound_154 (lv_at hl 6 rfl) ?_
            obtain ⟨g41, hf⟩ := ogi hf
            refine va_iast hx hb hK hP hD hS 14 0 rfl rfl (gin_in g41) d_Mo_bound_156 (fun H locs hP hD hS => ?_)
            have hP : va_P D vwCl (moW K h a u35.2 mLanguages mBounds mSize mGoes mLast mLeft mNext mGroup mFresh mLeader mNumber mRight mEnds mWay mVariable (upd (upd (upd (upd mFactor (4 * mBounds).toNatClampNeg p0) ((4 * mBounds) + 1).toNatClampNeg p1) ((4 * mBounds) + 2).toNatClampNeg p2) ((4 * mBounds) + 3).toNatClampNeg p3) (upd mLeast mBounds.toNatClampNeg p4) mMost mLength mWord mKept mMany mMore mLeads mMet mTodo mMay mTries) H := hP
            have hD : va_D A (moW K h a u35.2 mLanguages mBounds mSize mGoes mLast mLeft mNext mGroup mFresh mLeader mNumber mRight mEnds mWay mVariable (upd (upd (upd (upd mFactor (4 * mBounds).toNatClampNeg p0) ((4 * mBounds) + 1).toNatClampNeg p1) ((4 * mBounds) + 2).toNatClampNeg p2) ((4 * mBounds) + 3).toNatClampNeg p3) (upd mLeast mBounds.toNatClampNeg p4) mMost mLength mWord mKept mMany mMore mLeads mMet mTodo mMay mTries) := hD
            refine lv_aload_n hx hb d_Mo_bound_157 rfl (lv_at hl 1 rfl) ?_
            refine va_get (D := D) (ci := 0) (v := .ref (a 14)) (C := R_Mo) (T := T_Mo) (N := 29) hx hb hts in_Mo hown hK hP 0 rfl rfl 18 (by decide) (hts _ fl_Mo_54) (fun _ h9 => h9) rfl d_Mo_bound_158 ?_
            refine lv_aload_n hx hb d_Mo_bound_161 rfl (lv_at hl 1 rfl) ?_
            refine va_get (D := D) (ci := 0) (v := .int mBounds) (C := R_Mo) (T := T_Mo) (N := 29) hx hb hts in_Mo hown hK hP 0 rfl rfl 2 (by decide) (hts _ fl_Mo_166) (fun _ h9 => h9) rfl d_Mo_bound_162 ?_
            refine lv_iload hx hb d_Mo_bound_165 (lv_at hl 7 rfl) ?_
            obtain ⟨g42, hf⟩ := ogi hf
            refine va_iast hx hb hK hP hD hS 15 0 rfl rfl (gin_in g42) d_Mo_bound_167 (fun H locs hP hD hS => ?_)
            have hP : va_P D vwCl (moW K h a u35.2 mLanguages mBounds mSize mGoes mLast mLeft mNext mGroup mFresh mLeader mNumber mRight mEnds mWay mVariable (upd (upd (upd (upd mFactor (4 * mBounds).toNatClampNeg p0) ((4 * mBounds) + 1).toNatClampNeg p1) ((4 * mBounds) + 2).toNatClampNeg p2) ((4 * mBounds) + 3).toNatClampNeg p3) (upd mLeast mBounds.toNatClampNeg p4) (upd mMost mBounds.toNatClampNeg p5) mLength mWord mKept mMany mMore mLeads mMet mTodo mMay mTries) H := hP
            have hD : va_D A (moW K h a u35.2 mLanguages mBounds mSize mGoes mLast mLeft mNext mGroup mFresh mLeader mNumber mRight mEnds mWay mVariable (upd (upd (upd (upd mFactor (4 * mBounds).toNatClampNeg p0) ((4 * mBounds) + 1).toNatClampNeg p1) ((4 * mBounds) + 2).toNatClampNeg p2) ((4 * mBounds) + 3).toNatClampNeg p3) (upd mLeast mBounds.toNatClampNeg p4) (upd mMost mBounds.toNatClampNeg p5) mLength mWord mKept mMany mMore mLeads mMet mTodo mMay mTries) := hD
            refine lv_aload_n hx hb d_Mo_bound_168 rfl (lv_at hl 1 rfl) ?_
            refine lv_dup hx hb d_Mo_bound_169 rfl ?_
            refine va_get (D := D) (ci := 0) (v := .int mBounds) (C := R_Mo) (T := T_Mo) (N := 29) hx hb hts in_Mo hown hK hP 0 rfl rfl 2 (by decide) (hts _ fl_Mo_166) (fun _ h9 => h9) rfl d_Mo_bound_170 ?_
            refine lv_iconst (v := 1) hx hb d_Mo_bound_173 (by decide) ?_
            refine lv_iadd hx hb d_Mo_bound_174 ?_
            refine lv_dup_x1 hx hb d_Mo_bound_175 rfl rfl ?_
            refine va_put (D := D) (ci := 0) (v := .int (mBounds + 1)) (ty := .int) (C := R_Mo) (T := T_Mo) (N := 29) hx hb hts in_Mo t_Mo t_Mo_ok n_Mo hown hK hP hD hS 0 rfl rfl 2 (by decide) (hts _ fl_Mo_166) (fun _ h9 => h9) rfl (by decide +kernel) rfl rfl (Nat.le_of_ble_eq_true rfl) d_Mo_bound_176 (fun H locs hP hD hS => ?_)
            have hP : va_P D vwCl (moW K h a u35.2 mLanguages (mBounds + 1) mSize mGoes mLast mLeft mNext mGroup mFresh mLeader mNumber mRight mEnds mWay mVariable (upd (upd (upd (upd mFactor (4 * mBounds).toNatClampNeg p0) ((4 * mBounds) + 1).toNatClampNeg p1) ((4 * mBounds) + 2).toNatClampNeg p2) ((4 * mBounds) + 3).toNatClampNeg p3) (upd mLeast mBounds.toNatClampNeg p4) (upd mMost mBounds.toNatClampNeg p5) mLength mWord mKept mMany mMore mLeads mMet mTodo mMay mTries) H := hP
            have hD : va_D A (moW K h a u35.2 mLanguages (mBounds + 1) mSize mGoes mLast mLeft mNext mGroup mFresh mLeader mNumber mRight mEnds mWay mVariable (upd (upd (upd (upd mFactor (4 * mBounds).toNatClampNeg p0) ((4 * mBounds) + 1).toNatClampNeg p1) ((4 * mBounds) + 2).toNatClampNeg p2) ((4 * mBounds) + 3).toNatClampNeg p3) (upd mLeast mBounds.toNatClampNeg p4) (upd mMost mBounds.toNatClampNeg p5) mLength mWord mKept mMany mMore mLeads mMet mTodo mMay mTries) := hD
            exact Kr _ (Option.some.inj hf).symm _ _ _ _ d_Mo_bound_179 hP hD hS
          · rw [if_pos c36] at hf
            refine lv_iconst (v := 0) hx hb d_Mo_bound_97 (by decide) ?_
            exact Kr _ (Option.some.inj hf).symm _ _ _ _ d_Mo_bound_98 hP hD hS
    · rw [if_pos c23] at hf
      refine lv_iload_n hx hb d_Mo_bound_34 rfl (lv_at hl 3 rfl) ?_
      refine lv_i2l (v := p2.toInt64) hx hb d_Mo_bound_35 rfl ?_
      refine lv_ldc2 (v := (-100)) hx hb hown (hts (.constantLong "RegularSolverModel" 162 (-100)) (by decide +kernel)) d_Mo_bound_36 ?_
      refine lv_ldc2 (v := 100) hx hb hown (hts (.constantLong "RegularSolverModel" 164 100) (by decide +kernel)) d_Mo_bound_39 ?_
      obtain ⟨u43, eu43, hf⟩ := obd hf
      refine p_call (W.runS (As := [.long p2.toInt64, .long (-100), .long 100]) (rest := [.ref h]) ⟨hx, hb, hml, hown, hts⟩ (c_Mo_in l eu43) (gS 3 hts cd_Mo_in ml_Mo_91 st_Mo_in ini_Mo rfl rfl pd_Mo_in ⟨Nat.le_trans (Nat.le_of_ble_eq_true rfl) hRf, Nat.le_trans (Nat.le_of_ble_eq_true rfl) hRl⟩) ⟨pPre_blind, pPre_of hP hK⟩ rfl rfl hl.1 rfl (lv_room (Nat.le_of_ble_eq_true rfl)) d_Mo_bound_42 ⟨hRc, hRs⟩) ?_
      refine bz_eq (tgt := 63) hx hb d_Mo_bound_45 (by decide) (fun c44 => ?_) (fun c44 => ?_)
      · rw [if_neg c44] at hf
        refine lv_iconst (v := 1) hx hb d_Mo_bound_63 (by decide) ?_
        refine lv_goto (tgt := 68) hx hb d_Mo_bound_64 (by decide) ?_
        refine lv_iconst (v := 1) hx hb d_Mo_bound_68 (by decide) ?_
        obtain ⟨u45, eu45, hf⟩ := obd hf
        refine w_call (va_runV (As := [.int (bI true), .int 1]) (rest := []) ⟨hx, hb, hml, hown, hts⟩ (c_Mo_fails l H.size eu45) (gV 2 hts cd_Mo_fails ml_Mo_124 im_Mo_fails se_Mo_fails ini_Mo rfl rfl pd_Mo_fails ⟨Nat.le_trans (Nat.le_of_ble_eq_true rfl) hRf, Nat.le_trans (Nat.le_of_ble_eq_true rfl) hRl⟩) ⟨wPre_blind, va_recv hK hP (ci := 0) (q0 := 0) rfl rfl, wPre_of hP hK hD⟩ rfl rfl hl.1 rfl (lv_room (Nat.le_of_ble_eq_true rfl)) d_Mo_bound_69 ⟨hRc, hRs⟩) hD hS hA (fun H locs hP hD hS => ?_)
        have hP : va_P D vwCl (moW K h a u45.2 mLanguages mBounds mSize mGoes mLast mLeft mNext mGroup mFresh mLeader mNumber mRight mEnds mWay mVariable mFactor mLeast mMost mLength mWord mKept mMany mMore mLeads mMet mTodo mMay mTries) H := hP
        have hD : va_D A (moW K h a u45.2 mLanguages mBounds mSize mGoes mLast mLeft mNext mGroup mFresh mLeader mNumber mRight mEnds mWay mVariable mFactor mLeast mMost mLength mWord mKept mMany mMore mLeads mMet mTodo mMay mTries) := hD
        refine bz_ne (tgt := 97) hx hb d_Mo_bound_72 (by decide) (fun c46 => ?_) (fun c46 => ?_)
        · rw [if_pos c46] at hf
          refine lv_iconst (v := 0) hx hb d_Mo_bound_97 (by decide) ?_
          exact Kr _ (Option.some.inj hf).symm _ _ _ _ d_Mo_bound_98 hP hD hS
        · rw [if_neg c46] at hf
          refine lv_aload_n hx hb d_Mo_bound_75 rfl (lv_at hl 0 rfl) ?_
          refine lv_aload_n hx hb d_Mo_bound_76 rfl (lv_at hl 0 rfl) ?_
          refine va_get (D := D) (ci := 0) (v := .int mBounds) (C := R_Mo) (T := T_Mo) (N := 29) hx hb hts in_Mo hown hK hP 0 rfl rfl 2 (by decide) (hts _ fl_Mo_166) (fun _ h9 => h9) rfl d_Mo_bound_77 ?_
          refine lv_bipush (v := 8) hx hb d_Mo_bound_80 (by decide) ?_
          refine lv_icmp_ne (tgt := 89) hx hb d_Mo_bound_82 (by decide) (fun c47 => ?_) (fun c47 => ?_)
          · rw [if_neg c47] at hf
            refine lv_iconst (v := 0) hx hb d_Mo_bound_89 (by decide) ?_
            refine lv_iconst (v := 2) hx hb d_Mo_bound_90 (by decide) ?_
            obtain ⟨u48, eu48, hf⟩ := obd hf
            refine w_call (va_runV (As := [.int (bI false), .int 2]) (rest := []) ⟨hx, hb, hml, hown, hts⟩ (c_Mo_fails l H.size eu48) (gV 2 hts cd_Mo_fails ml_Mo_124 im_Mo_fails se_Mo_fails ini_Mo rfl rfl pd_Mo_fails ⟨Nat.le_trans (Nat.le_of_ble_eq_true rfl) hRf, Nat.le_trans (Nat.le_of_ble_eq_true rfl) hRl⟩) ⟨wPre_blind, va_recv hK hP (ci := 0) (q0 := 0) rfl rfl, wPre_of hP hK hD⟩ rfl rfl hl.1 rfl (lv_room (Nat.le_of_ble_eq_true rfl)) d_Mo_bound_91 ⟨hRc, hRs⟩) hD hS hA (fun H locs hP hD hS => ?_)
            have hP : va_P D vwCl (moW K h a u48.2 mLanguages mBounds mSize mGoes mLast mLeft mNext mGroup mFresh mLeader mNumber mRight mEnds mWay mVariable mFactor mLeast mMost mLength mWord mKept mMany mMore mLeads mMet mTodo mMay mTries) H := hP
            have hD : va_D A (moW K h a u48.2 mLanguages mBounds mSize mGoes mLast mLeft mNext mGroup mFresh mLeader mNumber mRight mEnds mWay mVariable mFactor mLeast mMost mLength mWord mKept mMany mMore mLeads mMet mTodo mMay mTries) := hD
            refine bz_eq (tgt := 99) hx hb d_Mo_bound_94 (by decide) (fun c49 => ?_) (fun c49 => ?_)
            · rw [if_neg c49] at hf
              refine lv_iconst (v := 4) hx hb d_Mo_bound_99 (by decide) ?_
              refine lv_aload_n hx hb d_Mo_bound_100 rfl (lv_at hl 0 rfl) ?_
              refine va_get (D := D) (ci := 0) (v := .int mBounds) (C := R_Mo) (T := T_Mo) (N := 29) hx hb hts in_Mo hown hK hP 0 rfl rfl 2 (by decide) (hts _ fl_Mo_166) (fun _ h9 => h9) rfl d_Mo_bound_101 ?_
              refine lv_imul hx hb d_Mo_bound_104 ?_
              refine lv_istore (lv' := [(7, .int (4 * mBounds)), (0, .ref h), (1, .int p0), (2, .int p1), (3, .int p2), (4, .int p3), (5, .int p4), (6, .int p5)]) hx hb d_Mo_bound_105 hl (by decide) rfl (fun ls hl => ?_)
              refine lv_aload_n hx hb d_Mo_bound_107 rfl (lv_at hl 1 rfl) ?_
              refine va_get (D := D) (ci := 0) (v := .ref (a 12)) (C := R_Mo) (T := T_Mo) (N := 29) hx hb hts in_Mo hown hK hP 0 rfl rfl 16 (by decide) (hts _ fl_Mo_48) (fun _ h9 => h9) rfl d_Mo_bound_108 ?_
              refine lv_iload hx hb d_Mo_bound_111 (lv_at hl 0 rfl) ?_
              refine lv_iload_n hx hb d_Mo_bound_113 rfl (lv_at hl 2 rfl) ?_
              obtain ⟨g50, hf⟩ := ogi hf
              refine va_iast hx hb hK hP hD hS 13 0 rfl rfl (gin_in g50) d_Mo_bound_114 (fun H locs hP hD hS => ?_)
              have hP : va_P D vwCl (moW K h a u48.2 mLanguages mBounds mSize mGoes mLast mLeft mNext mGroup mFresh mLeader mNumber mRight mEnds mWay mVariable (upd mFactor (4 * mBounds).toNatClampNeg p0) mLeast mMost mLength mWord mKept mMany mMore mLeads mMet mTodo mMay mTries) H := hP
              have hD : va_D A (moW K h a u48.2 mLanguages mBounds mSize mGoes mLast mLeft mNext mGroup mFresh mLeader mNumber mRight mEnds mWay mVariable (upd mFactor (4 * mBounds).toNatClampNeg p0) mLeast mMost mLength mWord mKept mMany mMore mLeads mMet mTodo mMay mTries) := hD
              refine lv_aload_n hx hb d_Mo_bound_115 rfl (lv_at hl 1 rfl) ?_
              refine va_get (D := D) (ci := 0) (v := .ref (a 12)) (C := R_Mo) (T := T_Mo) (N := 29) hx hb hts in_Mo hown hK hP 0 rfl rfl 16 (by decide) (hts _ fl_Mo_48) (fun _ h9 => h9) rfl d_Mo_bound_116 ?_
              refine lv_iload hx hb d_Mo_bound_119 (lv_at hl 0 rfl) ?_
              refine lv_iconst (v := 1) hx hb d_Mo_bound_121 (by decide) ?_
              refine lv_iadd hx hb d_Mo_bound_122 ?_
              refine lv_iload_n hx hb d_Mo_bound_123 rfl (lv_at hl 3 rfl) ?_
              obtain ⟨g51, hf⟩ := ogi hf
              refine va_iast hx hb hK hP hD hS 13 0 rfl rfl (gin_in g51) d_Mo_bound_124 (fun H locs hP hD hS => ?_)
              have hP : va_P D vwCl (moW K h a u48.2 mLanguages mBounds mSize mGoes mLast mLeft mNext mGroup mFresh mLeader mNumber mRight mEnds mWay mVariable (upd (upd mFactor (4 * mBounds).toNatClampNeg p0) ((4 * mBounds) + 1).toNatClampNeg p1) mLeast mMost mLength mWord mKept mMany mMore mLeads mMet mTodo mMay mTries) H := hP
              have hD : va_D A (moW K h a u48.2 mLanguages mBounds mSize mGoes mLast mLeft mNext mGroup mFresh mLeader mNumber mRight mEnds mWay mVariable (upd (upd mFactor (4 * mBounds).toNatClampNeg p0) ((4 * mBounds) + 1).toNatClampNeg p1) mLeast mMost mLength mWord mKept mMany mMore mLeads mMet mTodo mMay mTries) := hD
              refine lv_aload_n hx hb d_Mo_bound_125 rfl (lv_at hl 1 rfl) ?_
              refine va_get (D := D) (ci := 0) (v := .ref (a 12)) (C := R_Mo) (T := T_Mo) (N := 29) hx hb hts in_Mo hown hK hP 0 rfl rfl 16 (by decide) (hts _ fl_Mo_48) (fun _ h9 => h9) rfl d_Mo_bound_126 ?_
              refine lv_iload hx hb d_Mo_bound_129 (lv_at hl 0 rfl) ?_
              refine lv_iconst (v := 2) hx hb d_Mo_bound_131 (by decide) ?_
              refine lv_iadd hx hb d_Mo_bound_132 ?_
              refine lv_iload_n hx hb d_Mo_bound_133 rfl (lv_at hl 4 rfl) ?_
              obtain ⟨g52, hf⟩ := ogi hf
              refine va_iast hx hb hK hP hD hS 13 0 rfl rfl (gin_in g52) d_Mo_bound_134 (fun H locs hP hD hS => ?_)
              have hP : va_P D vwCl (moW K h a u48.2 mLanguages mBounds mSize mGoes mLast mLeft mNext mGroup mFresh mLeader mNumber mRight mEnds mWay mVariable (upd (upd (upd mFactor (4 * mBounds).toNatClampNeg p0) ((4 * mBounds) + 1).toNatClampNeg p1) ((4 * mBounds) + 2).toNatClampNeg p2) mLeast mMost mLength mWord mKept mMany mMore mLeads mMet mTodo mMay mTries) H := hP
              have hD : va_D A (moW K h a u48.2 mLanguages mBounds mSize mGoes mLast mLeft mNext mGroup mFresh mLeader mNumber mRight mEnds mWay mVariable (upd (upd (upd mFactor (4 * mBounds).toNatClampNeg p0) ((4 * mBounds) + 1).toNatClampNeg p1) ((4 * mBounds) + 2).toNatClampNeg p2) mLeast mMost mLength mWord mKept mMany mMore mLeads mMet mTodo mMay mTries) := hD
              refine lv_aload_n hx hb d_Mo_bound_135 rfl (lv_at hl 1 rfl) ?_
              refine va_get (D := D) (ci := 0) (v := .ref (a 12)) (C := R_Mo) (T := T_Mo) (N := 29) hx hb hts in_Mo hown hK hP 0 rfl rfl 16 (by decide) (hts _ fl_Mo_48) (fun _ h9 => h9) rfl d_Mo_bound_136 ?_
              refine lv_iload hx hb d_Mo_bound_139 (lv_at hl 0 rfl) ?_
              refine lv_iconst (v := 3) hx hb d_Mo_bound_141 (by decide) ?_
              refine lv_iadd hx hb d_Mo_bound_142 ?_
              refine lv_iload hx hb d_Mo_bound_143 (lv_at hl 5 rfl) ?_
              obtain ⟨g53, hf⟩ := ogi hf
              refine va_iast hx hb hK hP hD hS 13 0 rfl rfl (gin_in g53) d_Mo_bound_145 (fun H locs hP hD hS => ?_)
              have hP : va_P D vwCl (moW K h a u48.2 mLanguages mBounds mSize mGoes mLast mLeft mNext mGroup mFresh mLeader mNumber mRight mEnds mWay mVariable (upd (upd (upd (upd mFactor (4 * mBounds).toNatClampNeg p0) ((4 * mBounds) + 1).toNatClampNeg p1) ((4 * mBounds) + 2).toNatClampNeg p2) ((4 * mBounds) + 3).toNatClampNeg p3) mLeast mMost mLength mWord mKept mMany mMore mLeads mMet mTodo mMay mTries) H := hP
              have hD : va_D A (moW K h a u48.2 mLanguages mBounds mSize mGoes mLast mLeft mNext mGroup mFresh mLeader mNumber mRight mEnds mWay mVariable (upd (upd (upd (upd mFactor (4 * mBounds).toNatClampNeg p0) ((4 * mBounds) + 1).toNatClampNeg p1) ((4 * mBounds) + 2).toNatClampNeg p2) ((4 * mBounds) + 3).toNatClampNeg p3) mLeast mMost mLength mWord mKept mMany mMore mLeads mMet mTodo mMay mTries) := hD
              refine lv_aload_n hx hb d_Mo_bound_146 rfl (lv_at hl 1 rfl) ?_
              refine va_get (D := D) (ci := 0) (v := .ref (a 13)) (C := R_Mo) (T := T_Mo) (N := 29) hx hb hts in_Mo hown hK hP 0 rfl rfl 17 (by decide) (hts _ fl_Mo_51) (fun _ h9 => h9) rfl d_Mo_bound_147 ?_
              refine lv_aload_n hx hb d_Mo_bound_150 rfl (lv_at hl 1 rfl) ?_
              refine va_get (D := D) (ci := 0) (v := .int mBounds) (C := R_Mo) (T := T_Mo) (N := 29) hx hb hts in_Mo hown hK hP 0 rfl rfl 2 (by decide) (hts _ fl_Mo_166) (fun _ h9 => h9) rfl d_Mo_bound_151 ?_
              refine lv_iload hx hb d_Mo_bound_154 (lv_at hl 6 rfl) ?_
              obtain ⟨g54, hf⟩ := ogi hf
              refine va_iast hx hb hK hP hD hS 14 0 rfl rfl (gin_in g54) d_Mo_bound_156 (fun H locs hP hD hS => ?_)
              have hP : va_P D vwCl (moW K h a u48.2 mLanguages mBounds mSize mGoes mLast mLeft mNext mGroup mFresh mLeader mNumber mRight mEnds mWay mVariable (upd (upd (upd (upd mFactor (4 * mBounds).toNatClampNeg p0) ((4 * mBounds) + 1).toNatClampNeg p1) ((4 * mBounds) + 2).toNatClampNeg p2) ((4 * mBounds) + 3).toNatClampNeg p3) (upd mLeast mBounds.toNatClampNeg p4) mMost mLength mWord mKept mMany mMore mLeads mMet mTodo mMay mTries) H := hP
              have hD : va_D A (moW K h a u48.2 mLanguages mBounds mSize mGoes mLast mLeft mNext mGroup mFresh mLeader mNumber mRight mEnds mWay mVariable (upd (upd (upd (upd mFactor (4 * mBounds).toNatClampNeg p0) ((4 * mBounds) + 1).toNatClampNeg p1) ((4 * mBounds) + 2).toNatClampNeg p2) ((4 * mBounds) + 3).toNatClampNeg p3) (upd mLeast mBounds.toNatClampNeg p4) mMost mLength mWord mKept mMany mMore mLeads mMet mTodo mMay mTries) := hD
              refine lv_aload_n hx hb d_Mo_bound_157 rfl (lv_at hl 1 rfl) ?_
              refine va_get (D := D) (ci := 0) (v := .ref (a 14)) (C := R_Mo) (T := T_Mo) (N := 29) hx hb hts in_Mo hown hK hP 0 rfl rfl 18 (by decide) (hts _ fl_Mo_54) (fun _ h9 => h9) rfl d_Mo_bound_158 ?_
              refine lv_aload_n hx hb d_Mo_bound_161 rfl (lv_at hl 1 rfl) ?_
              refine va_get (D := D) (ci := 0) (v := .int mBounds) (C := R_Mo) (T := T_Mo) (N := 29) hx hb hts in_Mo hown hK hP 0 rfl rfl 2 (by decide) (hts _ fl_Mo_166) (fun _ h9 => h9) rfl d_Mo_bound_162 ?_
              refine lv_iload hx hb d_Mo_bound_165 (lv_at hl 7 rfl) ?_
              obtain ⟨g55, hf⟩ := ogi hf
              refine va_iast hx hb hK hP hD hS 15 0 rfl rfl (gin_in g55) d_Mo_bound_167 (fun H locs hP hD hS => ?_)
              have hP : va_P D vwCl (moW K h a u48.2 mLanguages mBounds mSize mGoes mLast mLeft mNext mGroup mFresh mLeader mNumber mRight mEnds mWay mVariable (upd (upd (upd (upd mFactor (4 * mBounds).toNatClampNeg p0) ((4 * mBounds) + 1).toNatClampNeg p1) ((4 * mBounds) + 2).toNatClampNeg p2) ((4 * mBounds) + 3).toNatClampNeg p3) (upd mLeast mBounds.toNatClampNeg p4) (upd mMost mBounds.toNatClampNeg p5) mLength mWord mKept mMany mMore mLeads mMet mTodo mMay mTries) H := hP
              have hD : va_D A (moW K h a u48.2 mLanguages mBounds mSize mGoes mLast mLeft mNext mGroup mFresh mLeader mNumber mRight mEnds mWay mVariable (upd (upd (upd (upd mFactor (4 * mBounds).toNatClampNeg p0) ((4 * mBounds) + 1).toNatClampNeg p1) ((4 * mBounds) + 2).toNatClampNeg p2) ((4 * mBounds) + 3).toNatClampNeg p3) (upd mLeast mBounds.toNatClampNeg p4) (upd mMost mBounds.toNatClampNeg p5) mLength mWord mKept mMany mMore mLeads mMet mTodo mMay mTries) := hD
              refine lv_aload_n hx hb d_Mo_bound_168 rfl (lv_at hl 1 rfl) ?_
              refine lv_dup hx hb d_Mo_bound_169 rfl ?_
              refine va_get (D := D) (ci := 0) (v := .int mBounds) (C := R_Mo) (T := T_Mo) (N := 29) hx hb hts in_Mo hown hK hP 0 rfl rfl 2 (by decide) (hts _ fl_Mo_166) (fun _ h9 => h9) rfl d_Mo_bound_170 ?_
              refine lv_iconst (v := 1) hx hb d_Mo_bound_173 (by decide) ?_
              refine lv_iadd hx hb d_Mo_bound_174 ?_
              refine lv_dup_x1 hx hb d_Mo_bound_175 rfl rfl ?_
              refine va_put (D := D) (ci := 0) (v := .int (mBounds + 1)) (ty := .int) (C := R_Mo) (T := T_Mo) (N := 29) hx hb hts in_Mo t_Mo t_Mo_ok n_Mo hown hK hP hD hS 0 rfl rfl 2 (by decide) (hts _ fl_Mo_166) (fun _ h9 => h9) rfl (by decide +kernel) rfl rfl (Nat.le_of_ble_eq_true rfl) d_Mo_bound_176 (fun H locs hP hD hS => ?_)
              have hP : va_P D vwCl (moW K h a u48.2 mLanguages (mBounds + 1) mSize mGoes mLast mLeft mNext mGroup mFresh mLeader mNumber mRight mEnds mWay mVariable (upd (upd (upd (upd mFactor (4 * mBounds).toNatClampNeg p0) ((4 * mBounds) + 1).toNatClampNeg p1) ((4 * mBounds) + 2).toNatClampNeg p2) ((4 * mBounds) + 3).toNatClampNeg p3) (upd mLeast mBounds.toNatClampNeg p4) (upd mMost mBounds.toNatClampNeg p5) mLength mWord mKept mMany mMore mLeads mMet mTodo mMay mTries) H := hP
              have hD : va_D A (moW K h a u48.2 mLanguages (mBounds + 1) mSize mGoes mLast mLeft mNext mGroup mFresh mLeader mNumber mRight mEnds mWay mVariable (upd (upd (upd (upd mFactor (4 * mBounds).toNatClampNeg p0) ((4 * mBounds) + 1).toNatClampNeg p1) ((4 * mBounds) + 2).toNatClampNeg p2) ((4 * mBounds) + 3).toNatClampNeg p3) (upd mLeast mBounds.toNatClampNeg p4) (upd mMost mBounds.toNatClampNeg p5) mLength mWord mKept mMany mMore mLeads mMet mTodo mMay mTries) := hD
              exact Kr _ (Option.some.inj hf).symm _ _ _ _ d_Mo_bound_179 hP hD hS
            · rw [if_pos c49] at hf
              refine lv_iconst (v := 0) hx hb d_Mo_bound_97 (by decide) ?_
              exact Kr _ (Option.some.inj hf).symm _ _ _ _ d_Mo_bound_98 hP hD hS
          · rw [if_pos c47] at hf
            refine lv_iconst (v := 1) hx hb d_Mo_bound_85 (by decide) ?_
            refine lv_goto (tgt := 90) hx hb d_Mo_bound_86 (by decide) ?_
            refine lv_iconst (v := 2) hx hb d_Mo_bound_90 (by decide) ?_
            obtain ⟨u56, eu56, hf⟩ := obd hf
            refine w_call (va_runV (As := [.int (bI true), .int 2]) (rest := []) ⟨hx, hb, hml, hown, hts⟩ (c_Mo_fails l H.size eu56) (gV 2 hts cd_Mo_fails ml_Mo_124 im_Mo_fails se_Mo_fails ini_Mo rfl rfl pd_Mo_fails ⟨Nat.le_trans (Nat.le_of_ble_eq_true rfl) hRf, Nat.le_trans (Nat.le_of_ble_eq_true rfl) hRl⟩) ⟨wPre_blind, va_recv hK hP (ci := 0) (q0 := 0) rfl rfl, wPre_of hP hK hD⟩ rfl rfl hl.1 rfl (lv_room (Nat.le_of_ble_eq_true rfl)) d_Mo_bound_91 ⟨hRc, hRs⟩) hD hS hA (fun H locs hP hD hS => ?_)
            have hP : va_P D vwCl (moW K h a u56.2 mLanguages mBounds mSize mGoes mLast mLeft mNext mGroup mFresh mLeader mNumber mRight mEnds mWay mVariable mFactor mLeast mMost mLength mWord mKept mMany mMore mLeads mMet mTodo mMay mTries) H := hP
            have hD : va_D A (moW K h a u56.2 mLanguages mBounds mSize mGoes mLast mLeft mNext mGroup mFresh mLeader mNumber mRight mEnds mWay mVariable mFactor mLeast mMost mLength mWord mKept mMany mMore mLeads mMet mTodo mMay mTries) := hD
            refine bz_eq (tgt := 99) hx hb d_Mo_bound_94 (by decide) (fun c57 => ?_) (fun c57 => ?_)
            · rw [if_neg c57] at hf
              refine lv_iconst (v := 4) hx hb d_Mo_bound_99 (by decide) ?_
              refine lv_aload_n hx hb d_Mo_bound_100 rfl (lv_at hl 0 rfl) ?_
              refine va_get (D := D) (ci := 0) (v := .int mBounds) (C := R_Mo) (T := T_Mo) (N := 29) hx hb hts in_Mo hown hK hP 0 rfl rfl 2 (by decide) (hts _ fl_Mo_166) (fun _ h9 => h9) rfl d_Mo_bound_101 ?_
              refine lv_imul hx hb d_Mo_bound_104 ?_
              refine lv_istore (lv' := [(7, .int (4 * mBounds)), (0, .ref h), (1, .int p0), (2, .int p1), (3, .int p2), (4, .int p3), (5, .int p4), (6, .int p5)]) hx hb d_Mo_bound_105 hl (by decide) rfl (fun ls hl => ?_)
              refine lv_aload_n hx hb d_Mo_bound_107 rfl (lv_at hl 1 rfl) ?_
              refine va_get (D := D) (ci := 0) (v := .ref (a 12)) (C := R_Mo) (T := T_Mo) (N := 29) hx hb hts in_Mo hown hK hP 0 rfl rfl 16 (by decide) (hts _ fl_Mo_48) (fun _ h9 => h9) rfl d_Mo_bound_108 ?_
              refine lv_iload hx hb d_Mo_bound_111 (lv_at hl 0 rfl) ?_
              refine lv_iload_n hx hb d_Mo_bound_113 rfl (lv_at hl 2 rfl) ?_
              obtain ⟨g58, hf⟩ := ogi hf
              refine va_iast hx hb hK hP hD hS 13 0 rfl rfl (gin_in g58) d_Mo_bound_114 (fun H locs hP hD hS => ?_)
              have hP : va_P D vwCl (moW K h a u56.2 mLanguages mBounds mSize mGoes mLast mLeft mNext mGroup mFresh mLeader mNumber mRight mEnds mWay mVariable (upd mFactor (4 * mBounds).toNatClampNeg p0) mLeast mMost mLength mWord mKept mMany mMore mLeads mMet mTodo mMay mTries) H := hP
              have hD : va_D A (moW K h a u56.2 mLanguages mBounds mSize mGoes mLast mLeft mNext mGroup mFresh mLeader mNumber mRight mEnds mWay mVariable (upd mFactor (4 * mBounds).toNatClampNeg p0) mLeast mMost mLength mWord mKept mMany mMore mLeads mMet mTodo mMay mTries) := hD
              refine lv_aload_n hx hb d_Mo_bound_115 rfl (lv_at hl 1 rfl) ?_
              refine va_get (D := D) (ci := 0) (v := .ref (a 12)) (C := R_Mo) (T := T_Mo) (N := 29) hx hb hts in_Mo hown hK hP 0 rfl rfl 16 (by decide) (hts _ fl_Mo_48) (fun _ h9 => h9) rfl d_Mo_bound_116 ?_
              refine lv_iload hx hb d_Mo_bound_119 (lv_at hl 0 rfl) ?_
              refine lv_iconst (v := 1) hx hb d_Mo_bound_121 (by decide) ?_
              refine lv_iadd hx hb d_Mo_bound_122 ?_
              refine lv_iload_n hx hb d_Mo_bound_123 rfl (lv_at hl 3 rfl) ?_
              obtain ⟨g59, hf⟩ := ogi hf
              refine va_iast hx hb hK hP hD hS 13 0 rfl rfl (gin_in g59) d_Mo_bound_124 (fun H locs hP hD hS => ?_)
              have hP : va_P D vwCl (moW K h a u56.2 mLanguages mBounds mSize mGoes mLast mLeft mNext mGroup mFresh mLeader mNumber mRight mEnds mWay mVariable (upd (upd mFactor (4 * mBounds).toNatClampNeg p0) ((4 * mBounds) + 1).toNatClampNeg p1) mLeast mMost mLength mWord mKept mMany mMore mLeads mMet mTodo mMay mTries) H := hP
              have hD : va_D A (moW K h a u56.2 mLanguages mBounds mSize mGoes mLast mLeft mNext mGroup mFresh mLeader mNumber mRight mEnds mWay mVariable (upd (upd mFactor (4 * mBounds).toNatClampNeg p0) ((4 * mBounds) + 1).toNatClampNeg p1) mLeast mMost mLength mWord mKept mMany mMore mLeads mMet mTodo mMay mTries) := hD
              refine lv_aload_n hx hb d_Mo_bound_125 rfl (lv_at hl 1 rfl) ?_
              refine va_get (D := D) (ci := 0) (v := .ref (a 12)) (C := R_Mo) (T := T_Mo) (N := 29) hx hb hts in_Mo hown hK hP 0 rfl rfl 16 (by decide) (hts _ fl_Mo_48) (fun _ h9 => h9) rfl d_Mo_bound_126 ?_
              refine lv_iload hx hb d_Mo_bound_129 (lv_at hl 0 rfl) ?_
              refine lv_iconst (v := 2) hx hb d_Mo_bound_131 (by decide) ?_
              refine lv_iadd hx hb d_Mo_bound_132 ?_
              refine lv_iload_n hx hb d_Mo_bound_133 rfl (lv_at hl 4 rfl) ?_
              obtain ⟨g60, hf⟩ := ogi hf
              refine va_iast hx hb hK hP hD hS 13 0 rfl rfl (gin_in g60) d_Mo_bound_134 (fun H locs hP hD hS => ?_)
              have hP : va_P D vwCl (moW K h a u56.2 mLanguages mBounds mSize mGoes mLast mLeft mNext mGroup mFresh mLeader mNumber mRight mEnds mWay mVariable (upd (upd (upd mFactor (4 * mBounds).toNatClampNeg p0) ((4 * mBounds) + 1).toNatClampNeg p1) ((4 * mBounds) + 2).toNatClampNeg p2) mLeast mMost mLength mWord mKept mMany mMore mLeads mMet mTodo mMay mTries) H := hP
              have hD : va_D A (moW K h a u56.2 mLanguages mBounds mSize mGoes mLast mLeft mNext mGroup mFresh mLeader mNumber mRight mEnds mWay mVariable (upd (upd (upd mFactor (4 * mBounds).toNatClampNeg p0) ((4 * mBounds) + 1).toNatClampNeg p1) ((4 * mBounds) + 2).toNatClampNeg p2) mLeast mMost mLength mWord mKept mMany mMore mLeads mMet mTodo mMay mTries) := hD
              refine lv_aload_n hx hb d_Mo_bound_135 rfl (lv_at hl 1 rfl) ?_
              refine va_get (D := D) (ci := 0) (v := .ref (a 12)) (C := R_Mo) (T := T_Mo) (N := 29) hx hb hts in_Mo hown hK hP 0 rfl rfl 16 (by decide) (hts _ fl_Mo_48) (fun _ h9 => h9) rfl d_Mo_bound_136 ?_
              refine lv_iload hx hb d_Mo_bound_139 (lv_at hl 0 rfl) ?_
              refine lv_iconst (v := 3) hx hb d_Mo_bound_141 (by decide) ?_
              refine lv_iadd hx hb d_Mo_bound_142 ?_
              refine lv_iload hx hb d_Mo_bound_143 (lv_at hl 5 rfl) ?_
              obtain ⟨g61, hf⟩ := ogi hf
              refine va_iast hx hb hK hP hD hS 13 0 rfl rfl (gin_in g61) d_Mo_bound_145 (fun H locs hP hD hS => ?_)
              have hP : va_P D vwCl (moW K h a u56.2 mLanguages mBounds mSize mGoes mLast mLeft mNext mGroup mFresh mLeader mNumber mRight mEnds mWay mVariable (upd (upd (upd (upd mFactor (4 * mBounds).toNatClampNeg p0) ((4 * mBounds) + 1).toNatClampNeg p1) ((4 * mBounds) + 2).toNatClampNeg p2) ((4 * mBounds) + 3).toNatClampNeg p3) mLeast mMost mLength mWord mKept mMany mMore mLeads mMet mTodo mMay mTries) H := hP
              have hD : va_D A (moW K h a u56.2 mLanguages mBounds mSize mGoes mLast mLeft mNext mGroup mFresh mLeader mNumber mRight mEnds mWay mVariable (upd (upd (upd (upd mFactor (4 * mBounds).toNatClampNeg p0) ((4 * mBounds) + 1).toNatClampNeg p1) ((4 * mBounds) + 2).toNatClampNeg p2) ((4 * mBounds) + 3).toNatClampNeg p3) mLeast mMost mLength mWord mKept mMany mMore mLeads mMet mTodo mMay mTries) := hD
              refine lv_aload_n hx hb d_Mo_bound_146 rfl (lv_at hl 1 rfl) ?_
              refine va_get (D := D) (ci := 0) (v := .ref (a 13)) (C := R_Mo) (T := T_Mo) (N := 29) hx hb hts in_Mo hown hK hP 0 rfl rfl 17 (by decide) (hts _ fl_Mo_51) (fun _ h9 => h9) rfl d_Mo_bound_147 ?_
              refine lv_aload_n hx hb d_Mo_bound_150 rfl (lv_at hl 1 rfl) ?_
              refine va_get (D := D) (ci := 0) (v := .int mBounds) (C := R_Mo) (T := T_Mo) (N := 29) hx hb hts in_Mo hown hK hP 0 rfl rfl 2 (by decide) (hts _ fl_Mo_166) (fun _ h9 => h9) rfl d_Mo_bound_151 ?_
              refine lv_iload hx hb d_Mo_bound_154 (lv_at hl 6 rfl) ?_
              obtain ⟨g62, hf⟩ := ogi hf
              refine va_iast hx hb hK hP hD hS 14 0 rfl rfl (gin_in g62) d_Mo_bound_156 (fun H locs hP hD hS => ?_)
              have hP : va_P D vwCl (moW K h a u56.2 mLanguages mBounds mSize mGoes mLast mLeft mNext mGroup mFresh mLeader mNumber mRight mEnds mWay mVariable (upd (upd (upd (upd mFactor (4 * mBounds).toNatClampNeg p0) ((4 * mBounds) + 1).toNatClampNeg p1) ((4 * mBounds) + 2).toNatClampNeg p2) ((4 * mBounds) + 3).toNatClampNeg p3) (upd mLeast mBounds.toNatClampNeg p4) mMost mLength mWord mKept mMany mMore mLeads mMet mTodo mMay mTries) H := hP
              have hD : va_D A (moW K h a u56.2 mLanguages mBounds mSize mGoes mLast mLeft mNext mGroup mFresh mLeader mNumber mRight mEnds mWay mVariable (upd (upd (upd (upd mFactor (4 * mBounds).toNatClampNeg p0) ((4 * mBounds) + 1).toNatClampNeg p1) ((4 * mBounds) + 2).toNatClampNeg p2) ((4 * mBounds) + 3).toNatClampNeg p3) (upd mLeast mBounds.toNatClampNeg p4) mMost mLength mWord mKept mMany mMore mLeads mMet mTodo mMay mTries) := hD
              refine lv_aload_n hx hb d_Mo_bound_157 rfl (lv_at hl 1 rfl) ?_
              refine va_get (D := D) (ci := 0) (v := .ref (a 14)) (C := R_Mo) (T := T_Mo) (N := 29) hx hb hts in_Mo hown hK hP 0 rfl rfl 18 (by decide) (hts _ fl_Mo_54) (fun _ h9 => h9) rfl d_Mo_bound_158 ?_
              refine lv_aload_n hx hb d_Mo_bound_161 rfl (lv_at hl 1 rfl) ?_
              refine va_get (D := D) (ci := 0) (v := .int mBounds) (C := R_Mo) (T := T_Mo) (N := 29) hx hb hts in_Mo hown hK hP 0 rfl rfl 2 (by decide) (hts _ fl_Mo_166) (fun _ h9 => h9) rfl d_Mo_bound_162 ?_
              refine lv_iload hx hb d_Mo_bound_165 (lv_at hl 7 rfl) ?_
              obtain ⟨g63, hf⟩ := ogi hf
              refine va_iast hx hb hK hP hD hS 15 0 rfl rfl (gin_in g63) d_Mo_bound_167 (fun H locs hP hD hS => ?_)
              have hP : va_P D vwCl (moW K h a u56.2 mLanguages mBounds mSize mGoes mLast mLeft mNext mGroup mFresh mLeader mNumber mRight mEnds mWay mVariable (upd (upd (upd (upd mFactor (4 * mBounds).toNatClampNeg p0) ((4 * mBounds) + 1).toNatClampNeg p1) ((4 * mBounds) + 2).toNatClampNeg p2) ((4 * mBounds) + 3).toNatClampNeg p3) (upd mLeast mBounds.toNatClampNeg p4) (upd mMost mBounds.toNatClampNeg p5) mLength mWord mKept mMany mMore mLeads mMet mTodo mMay mTries) H := hP
              have hD : va_D A (moW K h a u56.2 mLanguages mBounds mSize mGoes mLast mLeft mNext mGroup mFresh mLeader mNumber mRight mEnds mWay mVariable (upd (upd (upd (upd mFactor (4 * mBounds).toNatClampNeg p0) ((4 * mBounds) + 1).toNatClampNeg p1) ((4 * mBounds) + 2).toNatClampNeg p2) ((4 * mBounds) + 3).toNatClampNeg p3) (upd mLeast mBounds.toNatClampNeg p4) (upd mMost mBounds.toNatClampNeg p5) mLength mWord mKept mMany mMore mLeads mMet mTodo mMay mTries) := hD
              refine lv_aload_n hx hb d_Mo_bound_168 rfl (lv_at hl 1 rfl) ?_
              refine lv_dup hx hb d_Mo_bound_169 rfl ?_
              refine va_get (D := D) (ci := 0) (v := .int mBounds) (C := R_Mo) (T := T_Mo) (N := 29) hx hb hts in_Mo hown hK hP 0 rfl rfl 2 (by decide) (hts _ fl_Mo_166) (fun _ h9 => h9) rfl d_Mo_bound_170 ?_
              refine lv_iconst (v := 1) hx hb d_Mo_bound_173 (by decide) ?_
              refine lv_iadd hx hb d_Mo_bound_174 ?_
              refine lv_dup_x1 hx hb d_Mo_bound_175 rfl rfl ?_
              refine va_put (D := D) (ci := 0) (v := .int (mBounds + 1)) (ty := .int) (C := R_Mo) (T := T_Mo) (N := 29) hx hb hts in_Mo t_Mo t_Mo_ok n_Mo hown hK hP hD hS 0 rfl rfl 2 (by decide) (hts _ fl_Mo_166) (fun _ h9 => h9) rfl (by decide +kernel) rfl rfl (Nat.le_of_ble_eq_true rfl) d_Mo_bound_176 (fun H locs hP hD hS => ?_)
              have hP : va_P D vwCl (moW K h a u56.2 mLanguages (mBounds + 1) mSize mGoes mLast mLeft mNext mGroup mFresh mLeader mNumber mRight mEnds mWay mVariable (upd (upd (upd (upd mFactor (4 * mBounds).toNatClampNeg p0) ((4 * mBounds) + 1).toNatClampNeg p1) ((4 * mBounds) + 2).toNatClampNeg p2) ((4 * mBounds) + 3).toNatClampNeg p3) (upd mLeast mBounds.toNatClampNeg p4) (upd mMost mBounds.toNatClampNeg p5) mLength mWord mKept mMany mMore mLeads mMet mTodo mMay mTries) H := hP
              have hD : va_D A (moW K h a u56.2 mLanguages (mBounds + 1) mSize mGoes mLast mLeft mNext mGroup mFresh mLeader mNumber mRight mEnds mWay mVariable (upd (upd (upd (upd mFactor (4 * mBounds).toNatClampNeg p0) ((4 * mBounds) + 1).toNatClampNeg p1) ((4 * mBounds) + 2).toNatClampNeg p2) ((4 * mBounds) + 3).toNatClampNeg p3) (upd mLeast mBounds.toNatClampNeg p4) (upd mMost mBounds.toNatClampNeg p5) mLength mWord mKept mMany mMore mLeads mMet mTodo mMay mTries) := hD
              exact Kr _ (Option.some.inj hf).symm _ _ _ _ d_Mo_bound_179 hP hD hS
            · rw [if_pos c57] at hf
              refine lv_iconst (v := 0) hx hb d_Mo_bound_97 (by decide) ?_
              exact Kr _ (Option.some.inj hf).symm _ _ _ _ d_Mo_bound_98 hP hD hS
      · rw [if_pos c44] at hf
        refine lv_iload hx hb d_Mo_bound_48 (lv_at hl 4 rfl) ?_
        refine lv_i2l (v := p3.toInt64) hx hb d_Mo_bound_50 rfl ?_
        refine lv_ldc2 (v := (-100)) hx hb hown (hts (.constantLong "RegularSolverModel" 162 (-100)) (by decide +kernel)) d_Mo_bound_51 ?_
        refine lv_ldc2 (v := 100) hx hb hown (hts (.constantLong "RegularSolverModel" 164 100) (by decide +kernel)) d_Mo_bound_54 ?_
        obtain ⟨u64, eu64, hf⟩ := obd hf
        refine p_call (W.runS (As := [.long p3.toInt64, .long (-100), .long 100]) (rest := [.ref h]) ⟨hx, hb, hml, hown, hts⟩ (c_Mo_in l eu64) (gS 3 hts cd_Mo_in ml_Mo_91 st_Mo_in ini_Mo rfl rfl pd_Mo_in ⟨Nat.le_trans (Nat.le_of_ble_eq_true rfl) hRf, Nat.le_trans (Nat.le_of_ble_eq_true rfl) hRl⟩) ⟨pPre_blind, pPre_of hP hK⟩ rfl rfl hl.1 rfl (lv_room (Nat.le_of_ble_eq_true rfl)) d_Mo_bound_57 ⟨hRc, hRs⟩) ?_
        refine bz_ne (tgt := 67) hx hb d_Mo_bound_60 (by decide) (fun c65 => ?_) (fun c65 => ?_)
        · rw [if_pos c65] at hf
          refine lv_iconst (v := 0) hx hb d_Mo_bound_67 (by decide) ?_
          refine lv_iconst (v := 1) hx hb d_Mo_bound_68 (by decide) ?_
          obtain ⟨u66, eu66, hf⟩ := obd hf
          refine w_call (va_runV (As := [.int (bI false), .int 1]) (rest := []) ⟨hx, hb, hml, hown, hts⟩ (c_Mo_fails l H.size eu66) (gV 2 hts cd_Mo_fails ml_Mo_124 im_Mo_fails se_Mo_fails ini_Mo rfl rfl pd_Mo_fails ⟨Nat.le_trans (Nat.le_of_ble_eq_true rfl) hRf, Nat.le_trans (Nat.le_of_ble_eq_true rfl) hRl⟩) ⟨wPre_blind, va_recv hK hP (ci := 0) (q0 := 0) rfl rfl, wPre_of hP hK hD⟩ rfl rfl hl.1 rfl (lv_room (Nat.le_of_ble_eq_true rfl)) d_Mo_bound_69 ⟨hRc, hRs⟩) hD hS hA (fun H locs hP hD hS => ?_)
          have hP : va_P D vwCl (moW K h a u66.2 mLanguages mBounds mSize mGoes mLast mLeft mNext mGroup mFresh mLeader mNumber mRight mEnds mWay mVariable mFactor mLeast mMost mLength mWord mKept mMany mMore mLeads mMet mTodo mMay mTries) H := hP
          have hD : va_D A (moW K h a u66.2 mLanguages mBounds mSize mGoes mLast mLeft mNext mGroup mFresh mLeader mNumber mRight mEnds mWay mVariable mFactor mLeast mMost mLength mWord mKept mMany mMore mLeads mMet mTodo mMay mTries) := hD
          refine bz_ne (tgt := 97) hx hb d_Mo_bound_72 (by decide) (fun c67 => ?_) (fun c67 => ?_)
          · rw [if_pos c67] at hf
            refine lv_iconst (v := 0) hx hb d_Mo_bound_97 (by decide) ?_
            exact Kr _ (Option.some.inj hf).symm _ _ _ _ d_Mo_bound_98 hP hD hS
          · rw [if_neg c67] at hf
            refine lv_aload_n hx hb d_Mo_bound_75 rfl (lv_at hl 0 rfl) ?_
            refine lv_aload_n hx hb d_Mo_bound_76 rfl (lv_at hl 0 rfl) ?_
            refine va_get (D := D) (ci := 0) (v := .int mBounds) (C := R_Mo) (T := T_Mo) (N := 29) hx hb hts in_Mo hown hK hP 0 rfl rfl 2 (by decide) (hts _ fl_Mo_166) (fun _ h9 => h9) rfl d_Mo_bound_77 ?_
            refine lv_bipush (v := 8) hx hb d_Mo_bound_80 (by decide) ?_
            refine lv_icmp_ne (tgt := 89) hx hb d_Mo_bound_82 (by decide) (fun c68 => ?_) (fun c68 => ?_)
            · rw [if_neg c68] at hf
              refine lv_iconst (v := 0) hx hb d_Mo_bound_89 (by decide) ?_
              refine lv_iconst (v := 2) hx hb d_Mo_bound_90 (by decide) ?_
              obtain ⟨u69, eu69, hf⟩ := obd hf
              refine w_call (va_runV (As := [.int (bI false), .int 2]) (rest := []) ⟨hx, hb, hml, hown, hts⟩ (c_Mo_fails l H.size eu69) (gV 2 hts cd_Mo_fails ml_Mo_124 im_Mo_fails se_Mo_fails ini_Mo rfl rfl pd_Mo_fails ⟨Nat.le_trans (Nat.le_of_ble_eq_true rfl) hRf, Nat.le_trans (Nat.le_of_ble_eq_true rfl) hRl⟩) ⟨wPre_blind, va_recv hK hP (ci := 0) (q0 := 0) rfl rfl, wPre_of hP hK hD⟩ rfl rfl hl.1 rfl (lv_room (Nat.le_of_ble_eq_true rfl)) d_Mo_bound_91 ⟨hRc, hRs⟩) hD hS hA (fun H locs hP hD hS => ?_)
              have hP : va_P D vwCl (moW K h a u69.2 mLanguages mBounds mSize mGoes mLast mLeft mNext mGroup mFresh mLeader mNumber mRight mEnds mWay mVariable mFactor mLeast mMost mLength mWord mKept mMany mMore mLeads mMet mTodo mMay mTries) H := hP
              have hD : va_D A (moW K h a u69.2 mLanguages mBounds mSize mGoes mLast mLeft mNext mGroup mFresh mLeader mNumber mRight mEnds mWay mVariable mFactor mLeast mMost mLength mWord mKept mMany mMore mLeads mMet mTodo mMay mTries) := hD
              refine bz_eq (tgt := 99) hx hb d_Mo_bound_94 (by decide) (fun c70 => ?_) (fun c70 => ?_)
              · rw [if_neg c70] at hf
                refine lv_iconst (v := 4) hx hb d_Mo_bound_99 (by decide) ?_
                refine lv_aload_n hx hb d_Mo_bound_100 rfl (lv_at hl 0 rfl) ?_
                refine va_get (D := D) (ci := 0) (v := .int mBounds) (C := R_Mo) (T := T_Mo) (N := 29) hx hb hts in_Mo hown hK hP 0 rfl rfl 2 (by decide) (hts _ fl_Mo_166) (fun _ h9 => h9) rfl d_Mo_bound_101 ?_
                refine lv_imul hx hb d_Mo_bound_104 ?_
                refine lv_istore (lv' := [(7, .int (4 * mBounds)), (0, .ref h), (1, .int p0), (2, .int p1), (3, .int p2), (4, .int p3), (5, .int p4), (6, .int p5)]) hx hb d_Mo_bound_105 hl (by decide) rfl (fun ls hl => ?_)
                refine lv_aload_n hx hb d_Mo_bound_107 rfl (lv_at hl 1 rfl) ?_
                refine va_get (D := D) (ci := 0) (v := .ref (a 12)) (C := R_Mo) (T := T_Mo) (N := 29) hx hb hts in_Mo hown hK hP 0 rfl rfl 16 (by decide) (hts _ fl_Mo_48) (fun _ h9 => h9) rfl d_Mo_bound_108 ?_
                refine lv_iload hx hb d_Mo_bound_111 (lv_at hl 0 rfl) ?_
                refine lv_iload_n hx hb d_Mo_bound_113 rfl (lv_at hl 2 rfl) ?_
                obtain ⟨g71, hf⟩ := ogi hf
                refine va_iast hx hb hK hP hD hS 13 0 rfl rfl (gin_in g71) d_Mo_bound_114 (fun H locs hP hD hS => ?_)
                have hP : va_P D vwCl (moW K h a u69.2 mLanguages mBounds mSize mGoes mLast mLeft mNext mGroup mFresh mLeader mNumber mRight mEnds mWay mVariable (upd mFactor (4 * mBounds).toNatClampNeg p0) mLeast mMost mLength mWord mKept mMany mMore mLeads mMet mTodo mMay mTries) H := hP
                have hD : va_D A (moW K h a u69.2 mLanguages mBounds mSize mGoes mLast mLeft mNext mGroup mFresh mLeader mNumber mRight mEnds mWay mVariable (upd mFactor (4 * mBounds).toNatClampNeg p0) mLeast mMost mLength mWord mKept mMany mMore mLeads mMet mTodo mMay mTries) := hD
                refine lv_aload_n hx hb d_Mo_bound_115 rfl (lv_at hl 1 rfl) ?_
                refine va_get (D := D) (ci := 0) (v := .ref (a 12)) (C := R_Mo) (T := T_Mo) (N := 29) hx hb hts in_Mo hown hK hP 0 rfl rfl 16 (by decide) (hts _ fl_Mo_48) (fun _ h9 => h9) rfl d_Mo_bound_116 ?_
                refine lv_iload hx hb d_Mo_bound_119 (lv_at hl 0 rfl) ?_
                refine lv_iconst (v := 1) hx hb d_Mo_bound_121 (by decide) ?_
                refine lv_iadd hx hb d_Mo_bound_122 ?_
                refine lv_iload_n hx hb d_Mo_bound_123 rfl (lv_at hl 3 rfl) ?_
                obtain ⟨g72, hf⟩ := ogi hf
                refine va_iast hx hb hK hP hD hS 13 0 rfl rfl (gin_in g72) d_Mo_bound_124 (fun H locs hP hD hS => ?_)
                have hP : va_P D vwCl (moW K h a u69.2 mLanguages mBounds mSize mGoes mLast mLeft mNext mGroup mFresh mLeader mNumber mRight mEnds mWay mVariable (upd (upd mFactor (4 * mBounds).toNatClampNeg p0) ((4 * mBounds) + 1).toNatClampNeg p1) mLeast mMost mLength mWord mKept mMany mMore mLeads mMet mTodo mMay mTries) H := hP
                have hD : va_D A (moW K h a u69.2 mLanguages mBounds mSize mGoes mLast mLeft mNext mGroup mFresh mLeader mNumber mRight mEnds mWay mVariable (upd (upd mFactor (4 * mBounds).toNatClampNeg p0) ((4 * mBounds) + 1).toNatClampNeg p1) mLeast mMost mLength mWord mKept mMany mMore mLeads mMet mTodo mMay mTries) := hD
                refine lv_aload_n hx hb d_Mo_bound_125 rfl (lv_at hl 1 rfl) ?_
                refine va_get (D := D) (ci := 0) (v := .ref (a 12)) (C := R_Mo) (T := T_Mo) (N := 29) hx hb hts in_Mo hown hK hP 0 rfl rfl 16 (by decide) (hts _ fl_Mo_48) (fun _ h9 => h9) rfl d_Mo_bound_126 ?_
                refine lv_iload hx hb d_Mo_bound_129 (lv_at hl 0 rfl) ?_
                refine lv_iconst (v := 2) hx hb d_Mo_bound_131 (by decide) ?_
                refine lv_iadd hx hb d_Mo_bound_132 ?_
                refine lv_iload_n hx hb d_Mo_bound_133 rfl (lv_at hl 4 rfl) ?_
                obtain ⟨g73, hf⟩ := ogi hf
                refine va_iast hx hb hK hP hD hS 13 0 rfl rfl (gin_in g73) d_Mo_bound_134 (fun H locs hP hD hS => ?_)
                have hP : va_P D vwCl (moW K h a u69.2 mLanguages mBounds mSize mGoes mLast mLeft mNext mGroup mFresh mLeader mNumber mRight mEnds mWay mVariable (upd (upd (upd mFactor (4 * mBounds).toNatClampNeg p0) ((4 * mBounds) + 1).toNatClampNeg p1) ((4 * mBounds) + 2).toNatClampNeg p2) mLeast mMost mLength mWord mKept mMany mMore mLeads mMet mTodo mMay mTries) H := hP
                have hD : va_D A (moW K h a u69.2 mLanguages mBounds mSize mGoes mLast mLeft mNext mGroup mFresh mLeader mNumber mRight mEnds mWay mVariable (upd (upd (upd mFactor (4 * mBounds).toNatClampNeg p0) ((4 * mBounds) + 1).toNatClampNeg p1) ((4 * mBounds) + 2).toNatClampNeg p2) mLeast mMost mLength mWord mKept mMany mMore mLeads mMet mTodo mMay mTries) := hD
                refine lv_aload_n hx hb d_Mo_bound_135 rfl (lv_at hl 1 rfl) ?_
                refine va_get (D := D) (ci := 0) (v := .ref (a 12)) (C := R_Mo) (T := T_Mo) (N := 29) hx hb hts in_Mo hown hK hP 0 rfl rfl 16 (by decide) (hts _ fl_Mo_48) (fun _ h9 => h9) rfl d_Mo_bound_136 ?_
                refine lv_iload hx hb d_Mo_bound_139 (lv_at hl 0 rfl) ?_
                refine lv_iconst (v := 3) hx hb d_Mo_bound_141 (by decide) ?_
                refine lv_iadd hx hb d_Mo_bound_142 ?_
                refine lv_iload hx hb d_Mo_bound_143 (lv_at hl 5 rfl) ?_
                obtain ⟨g74, hf⟩ := ogi hf
                refine va_iast hx hb hK hP hD hS 13 0 rfl rfl (gin_in g74) d_Mo_bound_145 (fun H locs hP hD hS => ?_)
                have hP : va_P D vwCl (moW K h a u69.2 mLanguages mBounds mSize mGoes mLast mLeft mNext mGroup mFresh mLeader mNumber mRight mEnds mWay mVariable (upd (upd (upd (upd mFactor (4 * mBounds).toNatClampNeg p0) ((4 * mBounds) + 1).toNatClampNeg p1) ((4 * mBounds) + 2).toNatClampNeg p2) ((4 * mBounds) + 3).toNatClampNeg p3) mLeast mMost mLength mWord mKept mMany mMore mLeads mMet mTodo mMay mTries) H := hP
                have hD : va_D A (moW K h a u69.2 mLanguages mBounds mSize mGoes mLast mLeft mNext mGroup mFresh mLeader mNumber mRight mEnds mWay mVariable (upd (upd (upd (upd mFactor (4 * mBounds).toNatClampNeg p0) ((4 * mBounds) + 1).toNatClampNeg p1) ((4 * mBounds) + 2).toNatClampNeg p2) ((4 * mBounds) + 3).toNatClampNeg p3) mLeast mMost mLength mWord mKept mMany mMore mLeads mMet mTodo mMay mTries) := hD
                refine lv_aload_n hx hb d_Mo_bound_146 rfl (lv_at hl 1 rfl) ?_
                refine va_get (D := D) (ci := 0) (v := .ref (a 13)) (C := R_Mo) (T := T_Mo) (N := 29) hx hb hts in_Mo hown hK hP 0 rfl rfl 17 (by decide) (hts _ fl_Mo_51) (fun _ h9 => h9) rfl d_Mo_bound_147 ?_
                refine lv_aload_n hx hb d_Mo_bound_150 rfl (lv_at hl 1 rfl) ?_
                refine va_get (D := D) (ci := 0) (v := .int mBounds) (C := R_Mo) (T := T_Mo) (N := 29) hx hb hts in_Mo hown hK hP 0 rfl rfl 2 (by decide) (hts _ fl_Mo_166) (fun _ h9 => h9) rfl d_Mo_bound_151 ?_
                refine lv_iload hx hb d_Mo_bound_154 (lv_at hl 6 rfl) ?_
                obtain ⟨g75, hf⟩ := ogi hf
                refine va_iast hx hb hK hP hD hS 14 0 rfl rfl (gin_in g75) d_Mo_bound_156 (fun H locs hP hD hS => ?_)
                have hP : va_P D vwCl (moW K h a u69.2 mLanguages mBounds mSize mGoes mLast mLeft mNext mGroup mFresh mLeader mNumber mRight mEnds mWay mVariable (upd (upd (upd (upd mFactor (4 * mBounds).toNatClampNeg p0) ((4 * mBounds) + 1).toNatClampNeg p1) ((4 * mBounds) + 2).toNatClampNeg p2) ((4 * mBounds) + 3).toNatClampNeg p3) (upd mLeast mBounds.toNatClampNeg p4) mMost mLength mWord mKept mMany mMore mLeads mMet mTodo mMay mTries) H := hP
                have hD : va_D A (moW K h a u69.2 mLanguages mBounds mSize mGoes mLast mLeft mNext mGroup mFresh mLeader mNumber mRight mEnds mWay mVariable (upd (upd (upd (upd mFactor (4 * mBounds).toNatClampNeg p0) ((4 * mBounds) + 1).toNatClampNeg p1) ((4 * mBounds) + 2).toNatClampNeg p2) ((4 * mBounds) + 3).toNatClampNeg p3) (upd mLeast mBounds.toNatClampNeg p4) mMost mLength mWord mKept mMany mMore mLeads mMet mTodo mMay mTries) := hD
                refine lv_aload_n hx hb d_Mo_bound_157 rfl (lv_at hl 1 rfl) ?_
                refine va_get (D := D) (ci := 0) (v := .ref (a 14)) (C := R_Mo) (T := T_Mo) (N := 29) hx hb hts in_Mo hown hK hP 0 rfl rfl 18 (by decide) (hts _ fl_Mo_54) (fun _ h9 => h9) rfl d_Mo_bound_158 ?_
                refine lv_aload_n hx hb d_Mo_bound_161 rfl (lv_at hl 1 rfl) ?_
                refine va_get (D := D) (ci := 0) (v := .int mBounds) (C := R_Mo) (T := T_Mo) (N := 29) hx hb hts in_Mo hown hK hP 0 rfl rfl 2 (by decide) (hts _ fl_Mo_166) (fun _ h9 => h9) rfl d_Mo_bound_162 ?_
                refine lv_iload hx hb d_Mo_bound_165 (lv_at hl 7 rfl) ?_
                obtain ⟨g76, hf⟩ := ogi hf
                refine va_iast hx hb hK hP hD hS 15 0 rfl rfl (gin_in g76) d_Mo_bound_167 (fun H locs hP hD hS => ?_)
                have hP : va_P D vwCl (moW K h a u69.2 mLanguages mBounds mSize mGoes mLast mLeft mNext mGroup mFresh mLeader mNumber mRight mEnds mWay mVariable (upd (upd (upd (upd mFactor (4 * mBounds).toNatClampNeg p0) ((4 * mBounds) + 1).toNatClampNeg p1) ((4 * mBounds) + 2).toNatClampNeg p2) ((4 * mBounds) + 3).toNatClampNeg p3) (upd mLeast mBounds.toNatClampNeg p4) (upd mMost mBounds.toNatClampNeg p5) mLength mWord mKept mMany mMore mLeads mMet mTodo mMay mTries) H := hP
                have hD : va_D A (moW K h a u69.2 mLanguages mBounds mSize mGoes mLast mLeft mNext mGroup mFresh mLeader mNumber mRight mEnds mWay mVariable (upd (upd (upd (upd mFactor (4 * mBounds).toNatClampNeg p0) ((4 * mBounds) + 1).toNatClampNeg p1) ((4 * mBounds) + 2).toNatClampNeg p2) ((4 * mBounds) + 3).toNatClampNeg p3) (upd mLeast mBounds.toNatClampNeg p4) (upd mMost mBounds.toNatClampNeg p5) mLength mWord mKept mMany mMore mLeads mMet mTodo mMay mTries) := hD
                refine lv_aload_n hx hb d_Mo_bound_168 rfl (lv_at hl 1 rfl) ?_
                refine lv_dup hx hb d_Mo_bound_169 rfl ?_
                refine va_get (D := D) (ci := 0) (v := .int mBounds) (C := R_Mo) (T := T_Mo) (N := 29) hx hb hts in_Mo hown hK hP 0 rfl rfl 2 (by decide) (hts _ fl_Mo_166) (fun _ h9 => h9) rfl d_Mo_bound_170 ?_
                refine lv_iconst (v := 1) hx hb d_Mo_bound_173 (by decide) ?_
                refine lv_iadd hx hb d_Mo_bound_174 ?_
                refine lv_dup_x1 hx hb d_Mo_bound_175 rfl rfl ?_
                refine va_put (D := D) (ci := 0) (v := .int (mBounds + 1)) (ty := .int) (C := R_Mo) (T := T_Mo) (N := 29) hx hb hts in_Mo t_Mo t_Mo_ok n_Mo hown hK hP hD hS 0 rfl rfl 2 (by decide) (hts _ fl_Mo_166) (fun _ h9 => h9) rfl (by decide +kernel) rfl rfl (Nat.le_of_ble_eq_true rfl) d_Mo_bound_176 (fun H locs hP hD hS => ?_)
                have hP : va_P D vwCl (moW K h a u69.2 mLanguages (mBounds + 1) mSize mGoes mLast mLeft mNext mGroup mFresh mLeader mNumber mRight mEnds mWay mVariable (upd (upd (upd (upd mFactor (4 * mBounds).toNatClampNeg p0) ((4 * mBounds) + 1).toNatClampNeg p1) ((4 * mBounds) + 2).toNatClampNeg p2) ((4 * mBounds) + 3).toNatClampNeg p3) (upd mLeast mBounds.toNatClampNeg p4) (upd mMost mBounds.toNatClampNeg p5) mLength mWord mKept mMany mMore mLeads mMet mTodo mMay mTries) H := hP
                have hD : va_D A (moW K h a u69.2 mLanguages (mBounds + 1) mSize mGoes mLast mLeft mNext mGroup mFresh mLeader mNumber mRight mEnds mWay mVariable (upd (upd (upd (upd mFactor (4 * mBounds).toNatClampNeg p0) ((4 * mBounds) + 1).toNatClampNeg p1) ((4 * mBounds) + 2).toNatClampNeg p2) ((4 * mBounds) + 3).toNatClampNeg p3) (upd mLeast mBounds.toNatClampNeg p4) (upd mMost mBounds.toNatClampNeg p5) mLength mWord mKept mMany mMore mLeads mMet mTodo mMay mTries) := hD
                exact Kr _ (Option.some.inj hf).symm _ _ _ _ d_Mo_bound_179 hP hD hS
              · rw [if_pos c70] at hf
                refine lv_iconst (v := 0) hx hb d_Mo_bound_97 (by decide) ?_
                exact Kr _ (Option.some.inj hf).symm _ _ _ _ d_Mo_bound_98 hP hD hS
            · rw [if_pos c68] at hf
              refine lv_iconst (v := 1) hx hb d_Mo_bound_85 (by decide) ?_
              refine lv_goto (tgt := 90) hx hb d_Mo_bound_86 (by decide) ?_
              refine lv_iconst (v := 2) hx hb d_Mo_bound_90 (by decide) ?_
              obtain ⟨u77, eu77, hf⟩ := obd hf
              refine w_call (va_runV (As := [.int (bI true), .int 2]) (rest := []) ⟨hx, hb, hml, hown, hts⟩ (c_Mo_fails l H.size eu77) (gV 2 hts cd_Mo_fails ml_Mo_124 im_Mo_fails se_Mo_fails ini_Mo rfl rfl pd_Mo_fails ⟨Nat.le_trans (Nat.le_of_ble_eq_true rfl) hRf, Nat.le_trans (Nat.le_of_ble_eq_true rfl) hRl⟩) ⟨wPre_blind, va_recv hK hP (ci := 0) (q0 := 0) rfl rfl, wPre_of hP hK hD⟩ rfl rfl hl.1 rfl (lv_room (Nat.le_of_ble_eq_true rfl)) d_Mo_bound_91 ⟨hRc, hRs⟩) hD hS hA (fun H locs hP hD hS => ?_)
              have hP : va_P D vwCl (moW K h a u77.2 mLanguages mBounds mSize mGoes mLast mLeft mNext mGroup mFresh mLeader mNumber mRight mEnds mWay mVariable mFactor mLeast mMost mLength mWord mKept mMany mMore mLeads mMet mTodo mMay mTries) H := hP
              have hD : va_D A (moW K h a u77.2 mLanguages mBounds mSize mGoes mLast mLeft mNext mGroup mFresh mLeader mNumber mRight mEnds mWay mVariable mFactor mLeast mMost mLength mWord mKept mMany mMore mLeads mMet mTodo mMay mTries) := hD
              refine bz_eq (tgt := 99) hx hb d_Mo_bound_94 (by decide) (fun c78 => ?_) (fun c78 => ?_)
              · rw [if_neg c78] at hf
                refine lv_iconst (v := 4) hx hb d_Mo_bound_99 (by decide) ?_
                refine lv_aload_n hx hb d_Mo_bound_100 rfl (lv_at hl 0 rfl) ?_
                refine va_get (D := D) (ci := 0) (v := .int mBounds) (C := R_Mo) (T := T_Mo) (N := 29) hx hb hts in_Mo hown hK hP 0 rfl rfl 2 (by decide) (hts _ fl_Mo_166) (fun _ h9 => h9) rfl d_Mo_bound_101 ?_
                refine lv_imul hx hb d_Mo_bound_104 ?_
                refine lv_istore (lv' := [(7, .int (4 * mBounds)), (0, .ref h), (1, .int p0), (2, .int p1), (3, .int p2), (4, .int p3), (5, .int p4), (6, .int p5)]) hx hb d_Mo_bound_105 hl (by decide) rfl (fun ls hl => ?_)
                refine lv_aload_n hx hb d_Mo_bound_107 rfl (lv_at hl 1 rfl) ?_
                refine va_get (D := D) (ci := 0) (v := .ref (a 12)) (C := R_Mo) (T := T_Mo) (N := 29) hx hb hts in_Mo hown hK hP 0 rfl rfl 16 (by decide) (hts _ fl_Mo_48) (fun _ h9 => h9) rfl d_Mo_bound_108 ?_
                refine lv_iload hx hb d_Mo_bound_111 (lv_at hl 0 rfl) ?_
                refine lv_iload_n hx hb d_Mo_bound_113 rfl (lv_at hl 2 rfl) ?_
                obtain ⟨g79, hf⟩ := ogi hf
                refine va_iast hx hb hK hP hD hS 13 0 rfl rfl (gin_in g79) d_Mo_bound_114 (fun H locs hP hD hS => ?_)
                have hP : va_P D vwCl (moW K h a u77.2 mLanguages mBounds mSize mGoes mLast mLeft mNext mGroup mFresh mLeader mNumber mRight mEnds mWay mVariable (upd mFactor (4 * mBounds).toNatClampNeg p0) mLeast mMost mLength mWord mKept mMany mMore mLeads mMet mTodo mMay mTries) H := hP
                have hD : va_D A (moW K h a u77.2 mLanguages mBounds mSize mGoes mLast mLeft mNext mGroup mFresh mLeader mNumber mRight mEnds mWay mVariable (upd mFactor (4 * mBounds).toNatClampNeg p0) mLeast mMost mLength mWord mKept mMany mMore mLeads mMet mTodo mMay mTries) := hD
                refine lv_aload_n hx hb d_Mo_bound_115 rfl (lv_at hl 1 rfl) ?_
                refine va_get (D := D) (ci := 0) (v := .ref (a 12)) (C := R_Mo) (T := T_Mo) (N := 29) hx hb hts in_Mo hown hK hP 0 rfl rfl 16 (by decide) (hts _ fl_Mo_48) (fun _ h9 => h9) rfl d_Mo_bound_116 ?_
                refine lv_iload hx hb d_Mo_bound_119 (lv_at hl 0 rfl) ?_
                refine lv_iconst (v := 1) hx hb d_Mo_bound_121 (by decide) ?_
                refine lv_iadd hx hb d_Mo_bound_122 ?_
                refine lv_iload_n hx hb d_Mo_bound_123 rfl (lv_at hl 3 rfl) ?_
                obtain ⟨g80, hf⟩ := ogi hf
                refine va_iast hx hb hK hP hD hS 13 0 rfl rfl (gin_in g80) d_Mo_bound_124 (fun H locs hP hD hS => ?_)
                have hP : va_P D vwCl (moW K h a u77.2 mLanguages mBounds mSize mGoes mLast mLeft mNext mGroup mFresh mLeader mNumber mRight mEnds mWay mVariable (upd (upd mFactor (4 * mBounds).toNatClampNeg p0) ((4 * mBounds) + 1).toNatClampNeg p1) mLeast mMost mLength mWord mKept mMany mMore mLeads mMet mTodo mMay mTries) H := hP
                have hD : va_D A (moW K h a u77.2 mLanguages mBounds mSize mGoes mLast mLeft mNext mGroup mFresh mLeader mNumber mRight mEnds mWay mVariable (upd (upd mFactor (4 * mBounds).toNatClampNeg p0) ((4 * mBounds) + 1).toNatClampNeg p1) mLeast mMost mLength mWord mKept mMany mMore mLeads mMet mTodo mMay mTries) := hD
                refine lv_aload_n hx hb d_Mo_bound_125 rfl (lv_at hl 1 rfl) ?_
                refine va_get (D := D) (ci := 0) (v := .ref (a 12)) (C := R_Mo) (T := T_Mo) (N := 29) hx hb hts in_Mo hown hK hP 0 rfl rfl 16 (by decide) (hts _ fl_Mo_48) (fun _ h9 => h9) rfl d_Mo_bound_126 ?_
                refine lv_iload hx hb d_Mo_bound_129 (lv_at hl 0 rfl) ?_
                refine lv_iconst (v := 2) hx hb d_Mo_bound_131 (by decide) ?_
                refine lv_iadd hx hb d_Mo_bound_132 ?_
                refine lv_iload_n hx hb d_Mo_bound_133 rfl (lv_at hl 4 rfl) ?_
                obtain ⟨g81, hf⟩ := ogi hf
                refine va_iast hx hb hK hP hD hS 13 0 rfl rfl (gin_in g81) d_Mo_bound_134 (fun H locs hP hD hS => ?_)
                have hP : va_P D vwCl (moW K h a u77.2 mLanguages mBounds mSize mGoes mLast mLeft mNext mGroup mFresh mLeader mNumber mRight mEnds mWay mVariable (upd (upd (upd mFactor (4 * mBounds).toNatClampNeg p0) ((4 * mBounds) + 1).toNatClampNeg p1) ((4 * mBounds) + 2).toNatClampNeg p2) mLeast mMost mLength mWord mKept mMany mMore mLeads mMet mTodo mMay mTries) H := hP
                have hD : va_D A (moW K h a u77.2 mLanguages mBounds mSize mGoes mLast mLeft mNext mGroup mFresh mLeader mNumber mRight mEnds mWay mVariable (upd (upd (upd mFactor (4 * mBounds).toNatClampNeg p0) ((4 * mBounds) + 1).toNatClampNeg p1) ((4 * mBounds) + 2).toNatClampNeg p2) mLeast mMost mLength mWord mKept mMany mMore mLeads mMet mTodo mMay mTries) := hD
                refine lv_aload_n hx hb d_Mo_bound_135 rfl (lv_at hl 1 rfl) ?_
                refine va_get (D := D) (ci := 0) (v := .ref (a 12)) (C := R_Mo) (T := T_Mo) (N := 29) hx hb hts in_Mo hown hK hP 0 rfl rfl 16 (by decide) (hts _ fl_Mo_48) (fun _ h9 => h9) rfl d_Mo_bound_136 ?_
                refine lv_iload hx hb d_Mo_bound_139 (lv_at hl 0 rfl) ?_
                refine lv_iconst (v := 3) hx hb d_Mo_bound_141 (by decide) ?_
                refine lv_iadd hx hb d_Mo_bound_142 ?_
                refine lv_iload hx hb d_Mo_bound_143 (lv_at hl 5 rfl) ?_
                obtain ⟨g82, hf⟩ := ogi hf
                refine va_iast hx hb hK hP hD hS 13 0 rfl rfl (gin_in g82) d_Mo_bound_145 (fun H locs hP hD hS => ?_)
                have hP : va_P D vwCl (moW K h a u77.2 mLanguages mBounds mSize mGoes mLast mLeft mNext mGroup mFresh mLeader mNumber mRight mEnds mWay mVariable (upd (upd (upd (upd mFactor (4 * mBounds).toNatClampNeg p0) ((4 * mBounds) + 1).toNatClampNeg p1) ((4 * mBounds) + 2).toNatClampNeg p2) ((4 * mBounds) + 3).toNatClampNeg p3) mLeast mMost mLength mWord mKept mMany mMore mLeads mMet mTodo mMay mTries) H := hP
                have hD : va_D A (moW K h a u77.2 mLanguages mBounds mSize mGoes mLast mLeft mNext mGroup mFresh mLeader mNumber mRight mEnds mWay mVariable (upd (upd (upd (upd mFactor (4 * mBounds).toNatClampNeg p0) ((4 * mBounds) + 1).toNatClampNeg p1) ((4 * mBounds) + 2).toNatClampNeg p2) ((4 * mBounds) + 3).toNatClampNeg p3) mLeast mMost mLength mWord mKept mMany mMore mLeads mMet mTodo mMay mTries) := hD
                refine lv_aload_n hx hb d_Mo_bound_146 rfl (lv_at hl 1 rfl) ?_
                refine va_get (D := D) (ci := 0) (v := .ref (a 13)) (C := R_Mo) (T := T_Mo) (N := 29) hx hb hts in_Mo hown hK hP 0 rfl rfl 17 (by decide) (hts _ fl_Mo_51) (fun _ h9 => h9) rfl d_Mo_bound_147 ?_
                refine lv_aload_n hx hb d_Mo_bound_150 rfl (lv_at hl 1 rfl) ?_
                refine va_get (D := D) (ci := 0) (v := .int mBounds) (C := R_Mo) (T := T_Mo) (N := 29) hx hb hts in_Mo hown hK hP 0 rfl rfl 2 (by decide) (hts _ fl_Mo_166) (fun _ h9 => h9) rfl d_Mo_bound_151 ?_
                refine lv_iload hx hb d_Mo_bound_154 (lv_at hl 6 rfl) ?_
                obtain ⟨g83, hf⟩ := ogi hf
                refine va_iast hx hb hK hP hD hS 14 0 rfl rfl (gin_in g83) d_Mo_bound_156 (fun H locs hP hD hS => ?_)
                have hP : va_P D vwCl (moW K h a u77.2 mLanguages mBounds mSize mGoes mLast mLeft mNext mGroup mFresh mLeader mNumber mRight mEnds mWay mVariable (upd (upd (upd (upd mFactor (4 * mBounds).toNatClampNeg p0) ((4 * mBounds) + 1).toNatClampNeg p1) ((4 * mBounds) + 2).toNatClampNeg p2) ((4 * mBounds) + 3).toNatClampNeg p3) (upd mLeast mBounds.toNatClampNeg p4) mMost mLength mWord mKept mMany mMore mLeads mMet mTodo mMay mTries) H := hP
                have hD : va_D A (moW K h a u77.2 mLanguages mBounds mSize mGoes mLast mLeft mNext mGroup mFresh mLeader mNumber mRight mEnds mWay mVariable (upd (upd (upd (upd mFactor (4 * mBounds).toNatClampNeg p0) ((4 * mBounds) + 1).toNatClampNeg p1) ((4 * mBounds) + 2).toNatClampNeg p2) ((4 * mBounds) + 3).toNatClampNeg p3) (upd mLeast mBounds.toNatClampNeg p4) mMost mLength mWord mKept mMany mMore mLeads mMet mTodo mMay mTries) := hD
                refine lv_aload_n hx hb d_Mo_bound_157 rfl (lv_at hl 1 rfl) ?_
                refine va_get (D := D) (ci := 0) (v := .ref (a 14)) (C := R_Mo) (T := T_Mo) (N := 29) hx hb hts in_Mo hown hK hP 0 rfl rfl 18 (by decide) (hts _ fl_Mo_54) (fun _ h9 => h9) rfl d_Mo_bound_158 ?_
                refine lv_aload_n hx hb d_Mo_bound_161 rfl (lv_at hl 1 rfl) ?_
                refine va_get (D := D) (ci := 0) (v := .int mBounds) (C := R_Mo) (T := T_Mo) (N := 29) hx hb hts in_Mo hown hK hP 0 rfl rfl 2 (by decide) (hts _ fl_Mo_166) (fun _ h9 => h9) rfl d_Mo_bound_162 ?_
                refine lv_iload hx hb d_Mo_bound_165 (lv_at hl 7 rfl) ?_
                obtain ⟨g84, hf⟩ := ogi hf
                refine va_iast hx hb hK hP hD hS 15 0 rfl rfl (gin_in g84) d_Mo_bound_167 (fun H locs hP hD hS => ?_)
                have hP : va_P D vwCl (moW K h a u77.2 mLanguages mBounds mSize mGoes mLast mLeft mNext mGroup mFresh mLeader mNumber mRight mEnds mWay mVariable (upd (upd (upd (upd mFactor (4 * mBounds).toNatClampNeg p0) ((4 * mBounds) + 1).toNatClampNeg p1) ((4 * mBounds) + 2).toNatClampNeg p2) ((4 * mBounds) + 3).toNatClampNeg p3) (upd mLeast mBounds.toNatClampNeg p4) (upd mMost mBounds.toNatClampNeg p5) mLength mWord mKept mMany mMore mLeads mMet mTodo mMay mTries) H := hP
                have hD : va_D A (moW K h a u77.2 mLanguages mBounds mSize mGoes mLast mLeft mNext mGroup mFresh mLeader mNumber mRight mEnds mWay mVariable (upd (upd (upd (upd mFactor (4 * mBounds).toNatClampNeg p0) ((4 * mBounds) + 1).toNatClampNeg p1) ((4 * mBounds) + 2).toNatClampNeg p2) ((4 * mBounds) + 3).toNatClampNeg p3) (upd mLeast mBounds.toNatClampNeg p4) (upd mMost mBounds.toNatClampNeg p5) mLength mWord mKept mMany mMore mLeads mMet mTodo mMay mTries) := hD
                refine lv_aload_n hx hb d_Mo_bound_168 rfl (lv_at hl 1 rfl) ?_
                refine lv_dup hx hb d_Mo_bound_169 rfl ?_
                refine va_get (D := D) (ci := 0) (v := .int mBounds) (C := R_Mo) (T := T_Mo) (N := 29) hx hb hts in_Mo hown hK hP 0 rfl rfl 2 (by decide) (hts _ fl_Mo_166) (fun _ h9 => h9) rfl d_Mo_bound_170 ?_
                refine lv_iconst (v := 1) hx hb d_Mo_bound_173 (by decide) ?_
                refine lv_iadd hx hb d_Mo_bound_174 ?_
                refine lv_dup_x1 hx hb d_Mo_bound_175 rfl rfl ?_
                refine va_put (D := D) (ci := 0) (v := .int (mBounds + 1)) (ty := .int) (C := R_Mo) (T := T_Mo) (N := 29) hx hb hts in_Mo t_Mo t_Mo_ok n_Mo hown hK hP hD hS 0 rfl rfl 2 (by decide) (hts _ fl_Mo_166) (fun _ h9 => h9) rfl (by decide +kernel) rfl rfl (Nat.le_of_ble_eq_true rfl) d_Mo_bound_176 (fun H locs hP hD hS => ?_)
                have hP : va_P D vwCl (moW K h a u77.2 mLanguages (mBounds + 1) mSize mGoes mLast mLeft mNext mGroup mFresh mLeader mNumber mRight mEnds mWay mVariable (upd (upd (upd (upd mFactor (4 * mBounds).toNatClampNeg p0) ((4 * mBounds) + 1).toNatClampNeg p1) ((4 * mBounds) + 2).toNatClampNeg p2) ((4 * mBounds) + 3).toNatClampNeg p3) (upd mLeast mBounds.toNatClampNeg p4) (upd mMost mBounds.toNatClampNeg p5) mLength mWord mKept mMany mMore mLeads mMet mTodo mMay mTries) H := hP
                have hD : va_D A (moW K h a u77.2 mLanguages (mBounds + 1) mSize mGoes mLast mLeft mNext mGroup mFresh mLeader mNumber mRight mEnds mWay mVariable (upd (upd (upd (upd mFactor (4 * mBounds).toNatClampNeg p0) ((4 * mBounds) + 1).toNatClampNeg p1) ((4 * mBounds) + 2).toNatClampNeg p2) ((4 * mBounds) + 3).toNatClampNeg p3) (upd mLeast mBounds.toNatClampNeg p4) (upd mMost mBounds.toNatClampNeg p5) mLength mWord mKept mMany mMore mLeads mMet mTodo mMay mTries) := hD
                exact Kr _ (Option.some.inj hf).symm _ _ _ _ d_Mo_bound_179 hP hD hS
              · rw [if_pos c78] at hf
                refine lv_iconst (v := 0) hx hb d_Mo_bound_97 (by decide) ?_
                exact Kr _ (Option.some.inj hf).symm _ _ _ _ d_Mo_bound_98 hP hD hS
        · rw [if_neg c65] at hf
          refine lv_iconst (v := 1) hx hb d_Mo_bound_63 (by decide) ?_
          refine lv_goto (tgt := 68) hx hb d_Mo_bound_64 (by decide) ?_
          refine lv_iconst (v := 1) hx hb d_Mo_bound_68 (by decide) ?_
          obtain ⟨u85, eu85, hf⟩ := obd hf
          refine w_call (va_runV (As := [.int (bI true), .int 1]) (rest := []) ⟨hx, hb, hml, hown, hts⟩ (c_Mo_fails l H.size eu85) (gV 2 hts cd_Mo_fails ml_Mo_124 im_Mo_fails se_Mo_fails ini_Mo rfl rfl pd_Mo_fails ⟨Nat.le_trans (Nat.le_of_ble_eq_true rfl) hRf, Nat.le_trans (Nat.le_of_ble_eq_true rfl) hRl⟩) ⟨wPre_blind, va_recv hK hP (ci := 0) (q0 := 0) rfl rfl, wPre_of hP hK hD⟩ rfl rfl hl.1 rfl (lv_room (Nat.le_of_ble_eq_true rfl)) d_Mo_bound_69 ⟨hRc, hRs⟩) hD hS hA (fun H locs hP hD hS => ?_)
          have hP : va_P D vwCl (moW K h a u85.2 mLanguages mBounds mSize mGoes mLast mLeft mNext mGroup mFresh mLeader mNumber mRight mEnds mWay mVariable mFactor mLeast mMost mLength mWord mKept mMany mMore mLeads mMet mTodo mMay mTries) H := hP
          have hD : va_D A (moW K h a u85.2 mLanguages mBounds mSize mGoes mLast mLeft mNext mGroup mFresh mLeader mNumber mRight mEnds mWay mVariable mFactor mLeast mMost mLength mWord mKept mMany mMore mLeads mMet mTodo mMay mTries) := hD
          refine bz_ne (tgt := 97) hx hb d_Mo_bound_72 (by decide) (fun c86 => ?_) (fun c86 => ?_)
          · rw [if_pos c86] at hf
            refine lv_iconst (v := 0) hx hb d_Mo_bound_97 (by decide) ?_
            exact Kr _ (Option.some.inj hf).symm _ _ _ _ d_Mo_bound_98 hP hD hS
          · rw [if_neg c86] at hf
            refine lv_aload_n hx hb d_Mo_bound_75 rfl (lv_at hl 0 rfl) ?_
            refine lv_aload_n hx hb d_Mo_bound_76 rfl (lv_at hl 0 rfl) ?_
            refine va_get (D := D) (ci := 0) (v := .int mBounds) (C := R_Mo) (T := T_Mo) (N := 29) hx hb hts in_Mo hown hK hP 0 rfl rfl 2 (by decide) (hts _ fl_Mo_166) (fun _ h9 => h9) rfl d_Mo_bound_77 ?_
            refine lv_bipush (v := 8) hx hb d_Mo_bound_80 (by decide) ?_
            refine lv_icmp_ne (tgt := 89) hx hb d_Mo_bound_82 (by decide) (fun c87 => ?_) (fun c87 => ?_)
            · rw [if_neg c87] at hf
              refine lv_iconst (v := 0) hx hb d_Mo_bound_89 (by decide) ?_
              refine lv_iconst (v := 2) hx hb d_Mo_bound_90 (by decide) ?_
              obtain ⟨u88, eu88, hf⟩ := obd hf
              refine w_call (va_runV (As := [.int (bI false), .int 2]) (rest := []) ⟨hx, hb, hml, hown, hts⟩ (c_Mo_fails l H.size eu88) (gV 2 hts cd_Mo_fails ml_Mo_124 im_Mo_fails se_Mo_fails ini_Mo rfl rfl pd_Mo_fails ⟨Nat.le_trans (Nat.le_of_ble_eq_true rfl) hRf, Nat.le_trans (Nat.le_of_ble_eq_true rfl) hRl⟩) ⟨wPre_blind, va_recv hK hP (ci := 0) (q0 := 0) rfl rfl, wPre_of hP hK hD⟩ rfl rfl hl.1 rfl (lv_room (Nat.le_of_ble_eq_true rfl)) d_Mo_bound_91 ⟨hRc, hRs⟩) hD hS hA (fun H locs hP hD hS => ?_)
              have hP : va_P D vwCl (moW K h a u88.2 mLanguages mBounds mSize mGoes mLast mLeft mNext mGroup mFresh mLeader mNumber mRight mEnds mWay mVariable mFactor mLeast mMost mLength mWord mKept mMany mMore mLeads mMet mTodo mMay mTries) H := hP
              have hD : va_D A (moW K h a u88.2 mLanguages mBounds mSize mGoes mLast mLeft mNext mGroup mFresh mLeader mNumber mRight mEnds mWay mVariable mFactor mLeast mMost mLength mWord mKept mMany mMore mLeads mMet mTodo mMay mTries) := hD
              refine bz_eq (tgt := 99) hx hb d_Mo_bound_94 (by decide) (fun c89 => ?_) (fun c89 => ?_)
              · rw [if_neg c89] at hf
                refine lv_iconst (v := 4) hx hb d_Mo_bound_99 (by decide) ?_
                refine lv_aload_n hx hb d_Mo_bound_100 rfl (lv_at hl 0 rfl) ?_
                refine va_get (D := D) (ci := 0) (v := .int mBounds) (C := R_Mo) (T := T_Mo) (N := 29) hx hb hts in_Mo hown hK hP 0 rfl rfl 2 (by decide) (hts _ fl_Mo_166) (fun _ h9 => h9) rfl d_Mo_bound_101 ?_
                refine lv_imul hx hb d_Mo_bound_104 ?_
                refine lv_istore (lv' := [(7, .int (4 * mBounds)), (0, .ref h), (1, .int p0), (2, .int p1), (3, .int p2), (4, .int p3), (5, .int p4), (6, .int p5)]) hx hb d_Mo_bound_105 hl (by decide) rfl (fun ls hl => ?_)
                refine lv_aload_n hx hb d_Mo_bound_107 rfl (lv_at hl 1 rfl) ?_
                refine va_get (D := D) (ci := 0) (v := .ref (a 12)) (C := R_Mo) (T := T_Mo) (N := 29) hx hb hts in_Mo hown hK hP 0 rfl rfl 16 (by decide) (hts _ fl_Mo_48) (fun _ h9 => h9) rfl d_Mo_bound_108 ?_
                refine lv_iload hx hb d_Mo_bound_111 (lv_at hl 0 rfl) ?_
                refine lv_iload_n hx hb d_Mo_bound_113 rfl (lv_at hl 2 rfl) ?_
                obtain ⟨g90, hf⟩ := ogi hf
                refine va_iast hx hb hK hP hD hS 13 0 rfl rfl (gin_in g90) d_Mo_bound_114 (fun H locs hP hD hS => ?_)
                have hP : va_P D vwCl (moW K h a u88.2 mLanguages mBounds mSize mGoes mLast mLeft mNext mGroup mFresh mLeader mNumber mRight mEnds mWay mVariable (upd mFactor (4 * mBounds).toNatClampNeg p0) mLeast mMost mLength mWord mKept mMany mMore mLeads mMet mTodo mMay mTries) H := hP
                have hD : va_D A (moW K h a u88.2 mLanguages mBounds mSize mGoes mLast mLeft mNext mGroup mFresh mLeader mNumber mRight mEnds mWay mVariable (upd mFactor (4 * mBounds).toNatClampNeg p0) mLeast mMost mLength mWord mKept mMany mMore mLeads mMet mTodo mMay mTries) := hD
                refine lv_aload_n hx hb d_Mo_bound_115 rfl (lv_at hl 1 rfl) ?_
                refine va_get (D := D) (ci := 0) (v := .ref (a 12)) (C := R_Mo) (T := T_Mo) (N := 29) hx hb hts in_Mo hown hK hP 0 rfl rfl 16 (by decide) (hts _ fl_Mo_48) (fun _ h9 => h9) rfl d_Mo_bound_116 ?_
                refine lv_iload hx hb d_Mo_bound_119 (lv_at hl 0 rfl) ?_
                refine lv_iconst (v := 1) hx hb d_Mo_bound_121 (by decide) ?_
                refine lv_iadd hx hb d_Mo_bound_122 ?_
                refine lv_iload_n hx hb d_Mo_bound_123 rfl (lv_at hl 3 rfl) ?_
                obtain ⟨g91, hf⟩ := ogi hf
                refine va_iast hx hb hK hP hD hS 13 0 rfl rfl (gin_in g91) d_Mo_bound_124 (fun H locs hP hD hS => ?_)
                have hP : va_P D vwCl (moW K h a u88.2 mLanguages mBounds mSize mGoes mLast mLeft mNext mGroup mFresh mLeader mNumber mRight mEnds mWay mVariable (upd (upd mFactor (4 * mBounds).toNatClampNeg p0) ((4 * mBounds) + 1).toNatClampNeg p1) mLeast mMost mLength mWord mKept mMany mMore mLeads mMet mTodo mMay mTries) H := hP
                have hD : va_D A (moW K h a u88.2 mLanguages mBounds mSize mGoes mLast mLeft mNext mGroup mFresh mLeader mNumber mRight mEnds mWay mVariable (upd (upd mFactor (4 * mBounds).toNatClampNeg p0) ((4 * mBounds) + 1).toNatClampNeg p1) mLeast mMost mLength mWord mKept mMany mMore mLeads mMet mTodo mMay mTries) := hD
                refine lv_aload_n hx hb d_Mo_bound_125 rfl (lv_at hl 1 rfl) ?_
                refine va_get (D := D) (ci := 0) (v := .ref (a 12)) (C := R_Mo) (T := T_Mo) (N := 29) hx hb hts in_Mo hown hK hP 0 rfl rfl 16 (by decide) (hts _ fl_Mo_48) (fun _ h9 => h9) rfl d_Mo_bound_126 ?_
                refine lv_iload hx hb d_Mo_bound_129 (lv_at hl 0 rfl) ?_
                refine lv_iconst (v := 2) hx hb d_Mo_bound_131 (by decide) ?_
                refine lv_iadd hx hb d_Mo_bound_132 ?_
                refine lv_iload_n hx hb d_Mo_bound_133 rfl (lv_at hl 4 rfl) ?_
                obtain ⟨g92, hf⟩ := ogi hf
                refine va_iast hx hb hK hP hD hS 13 0 rfl rfl (gin_in g92) d_Mo_bound_134 (fun H locs hP hD hS => ?_)
                have hP : va_P D vwCl (moW K h a u88.2 mLanguages mBounds mSize mGoes mLast mLeft mNext mGroup mFresh mLeader mNumber mRight mEnds mWay mVariable (upd (upd (upd mFactor (4 * mBounds).toNatClampNeg p0) ((4 * mBounds) + 1).toNatClampNeg p1) ((4 * mBounds) + 2).toNatClampNeg p2) mLeast mMost mLength mWord mKept mMany mMore mLeads mMet mTodo mMay mTries) H := hP
                have hD : va_D A (moW K h a u88.2 mLanguages mBounds mSize mGoes mLast mLeft mNext mGroup mFresh mLeader mNumber mRight mEnds mWay mVariable (upd (upd (upd mFactor (4 * mBounds).toNatClampNeg p0) ((4 * mBounds) + 1).toNatClampNeg p1) ((4 * mBounds) + 2).toNatClampNeg p2) mLeast mMost mLength mWord mKept mMany mMore mLeads mMet mTodo mMay mTries) := hD
                refine lv_aload_n hx hb d_Mo_bound_135 rfl (lv_at hl 1 rfl) ?_
                refine va_get (D := D) (ci := 0) (v := .ref (a 12)) (C := R_Mo) (T := T_Mo) (N := 29) hx hb hts in_Mo hown hK hP 0 rfl rfl 16 (by decide) (hts _ fl_Mo_48) (fun _ h9 => h9) rfl d_Mo_bound_136 ?_
                refine lv_iload hx hb d_Mo_bound_139 (lv_at hl 0 rfl) ?_
                refine lv_iconst (v := 3) hx hb d_Mo_bound_141 (by decide) ?_
                refine lv_iadd hx hb d_Mo_bound_142 ?_
                refine lv_iload hx hb d_Mo_bound_143 (lv_at hl 5 rfl) ?_
                obtain ⟨g93, hf⟩ := ogi hf
                refine va_iast hx hb hK hP hD hS 13 0 rfl rfl (gin_in g93) d_Mo_bound_145 (fun H locs hP hD hS => ?_)
                have hP : va_P D vwCl (moW K h a u88.2 mLanguages mBounds mSize mGoes mLast mLeft mNext mGroup mFresh mLeader mNumber mRight mEnds mWay mVariable (upd (upd (upd (upd mFactor (4 * mBounds).toNatClampNeg p0) ((4 * mBounds) + 1).toNatClampNeg p1) ((4 * mBounds) + 2).toNatClampNeg p2) ((4 * mBounds) + 3).toNatClampNeg p3) mLeast mMost mLength mWord mKept mMany mMore mLeads mMet mTodo mMay mTries) H := hP
                have hD : va_D A (moW K h a u88.2 mLanguages mBounds mSize mGoes mLast mLeft mNext mGroup mFresh mLeader mNumber mRight mEnds mWay mVariable (upd (upd (upd (upd mFactor (4 * mBounds).toNatClampNeg p0) ((4 * mBounds) + 1).toNatClampNeg p1) ((4 * mBounds) + 2).toNatClampNeg p2) ((4 * mBounds) + 3).toNatClampNeg p3) mLeast mMost mLength mWord mKept mMany mMore mLeads mMet mTodo mMay mTries) := hD
                refine lv_aload_n hx hb d_Mo_bound_146 rfl (lv_at hl 1 rfl) ?_
                refine va_get (D := D) (ci := 0) (v := .ref (a 13)) (C := R_Mo) (T := T_Mo) (N := 29) hx hb hts in_Mo hown hK hP 0 rfl rfl 17 (by decide) (hts _ fl_Mo_51) (fun _ h9 => h9) rfl d_Mo_bound_147 ?_
                refine lv_aload_n hx hb d_Mo_bound_150 rfl (lv_at hl 1 rfl) ?_
                refine va_get (D := D) (ci := 0) (v := .int mBounds) (C := R_Mo) (T := T_Mo) (N := 29) hx hb hts in_Mo hown hK hP 0 rfl rfl 2 (by decide) (hts _ fl_Mo_166) (fun _ h9 => h9) rfl d_Mo_bound_151 ?_
                refine lv_iload hx hb d_Mo_bound_154 (lv_at hl 6 rfl) ?_
                obtain ⟨g94, hf⟩ := ogi hf
                refine va_iast hx hb hK hP hD hS 14 0 rfl rfl (gin_in g94) d_Mo_bound_156 (fun H locs hP hD hS => ?_)
                have hP : va_P D vwCl (moW K h a u88.2 mLanguages mBounds mSize mGoes mLast mLeft mNext mGroup mFresh mLeader mNumber mRight mEnds mWay mVariable (upd (upd (upd (upd mFactor (4 * mBounds).toNatClampNeg p0) ((4 * mBounds) + 1).toNatClampNeg p1) ((4 * mBounds) + 2).toNatClampNeg p2) ((4 * mBounds) + 3).toNatClampNeg p3) (upd mLeast mBounds.toNatClampNeg p4) mMost mLength mWord mKept mMany mMore mLeads mMet mTodo mMay mTries) H := hP
                have hD : va_D A (moW K h a u88.2 mLanguages mBounds mSize mGoes mLast mLeft mNext mGroup mFresh mLeader mNumber mRight mEnds mWay mVariable (upd (upd (upd (upd mFactor (4 * mBounds).toNatClampNeg p0) ((4 * mBounds) + 1).toNatClampNeg p1) ((4 * mBounds) + 2).toNatClampNeg p2) ((4 * mBounds) + 3).toNatClampNeg p3) (upd mLeast mBounds.toNatClampNeg p4) mMost mLength mWord mKept mMany mMore mLeads mMet mTodo mMay mTries) := hD
                refine lv_aload_n hx hb d_Mo_bound_157 rfl (lv_at hl 1 rfl) ?_
                refine va_get (D := D) (ci := 0) (v := .ref (a 14)) (C := R_Mo) (T := T_Mo) (N := 29) hx hb hts in_Mo hown hK hP 0 rfl rfl 18 (by decide) (hts _ fl_Mo_54) (fun _ h9 => h9) rfl d_Mo_bound_158 ?_
                refine lv_aload_n hx hb d_Mo_bound_161 rfl (lv_at hl 1 rfl) ?_
                refine va_get (D := D) (ci := 0) (v := .int mBounds) (C := R_Mo) (T := T_Mo) (N := 29) hx hb hts in_Mo hown hK hP 0 rfl rfl 2 (by decide) (hts _ fl_Mo_166) (fun _ h9 => h9) rfl d_Mo_bound_162 ?_
                refine lv_iload hx hb d_Mo_bound_165 (lv_at hl 7 rfl) ?_
                obtain ⟨g95, hf⟩ := ogi hf
                refine va_iast hx hb hK hP hD hS 15 0 rfl rfl (gin_in g95) d_Mo_bound_167 (fun H locs hP hD hS => ?_)
                have hP : va_P D vwCl (moW K h a u88.2 mLanguages mBounds mSize mGoes mLast mLeft mNext mGroup mFresh mLeader mNumber mRight mEnds mWay mVariable (upd (upd (upd (upd mFactor (4 * mBounds).toNatClampNeg p0) ((4 * mBounds) + 1).toNatClampNeg p1) ((4 * mBounds) + 2).toNatClampNeg p2) ((4 * mBounds) + 3).toNatClampNeg p3) (upd mLeast mBounds.toNatClampNeg p4) (upd mMost mBounds.toNatClampNeg p5) mLength mWord mKept mMany mMore mLeads mMet mTodo mMay mTries) H := hP
                have hD : va_D A (moW K h a u88.2 mLanguages mBounds mSize mGoes mLast mLeft mNext mGroup mFresh mLeader mNumber mRight mEnds mWay mVariable (upd (upd (upd (upd mFactor (4 * mBounds).toNatClampNeg p0) ((4 * mBounds) + 1).toNatClampNeg p1) ((4 * mBounds) + 2).toNatClampNeg p2) ((4 * mBounds) + 3).toNatClampNeg p3) (upd mLeast mBounds.toNatClampNeg p4) (upd mMost mBounds.toNatClampNeg p5) mLength mWord mKept mMany mMore mLeads mMet mTodo mMay mTries) := hD
                refine lv_aload_n hx hb d_Mo_bound_168 rfl (lv_at hl 1 rfl) ?_
                refine lv_dup hx hb d_Mo_bound_169 rfl ?_
                refine va_get (D := D) (ci := 0) (v := .int mBounds) (C := R_Mo) (T := T_Mo) (N := 29) hx hb hts in_Mo hown hK hP 0 rfl rfl 2 (by decide) (hts _ fl_Mo_166) (fun _ h9 => h9) rfl d_Mo_bound_170 ?_
                refine lv_iconst (v := 1) hx hb d_Mo_bound_173 (by decide) ?_
                refine lv_iadd hx hb d_Mo_bound_174 ?_
                refine lv_dup_x1 hx hb d_Mo_bound_175 rfl rfl ?_
                refine va_put (D := D) (ci := 0) (v := .int (mBounds + 1)) (ty := .int) (C := R_Mo) (T := T_Mo) (N := 29) hx hb hts in_Mo t_Mo t_Mo_ok n_Mo hown hK hP hD hS 0 rfl rfl 2 (by decide) (hts _ fl_Mo_166) (fun _ h9 => h9) rfl (by decide +kernel) rfl rfl (Nat.le_of_ble_eq_true rfl) d_Mo_bound_176 (fun H locs hP hD hS => ?_)
                have hP : va_P D vwCl (moW K h a u88.2 mLanguages (mBounds + 1) mSize mGoes mLast mLeft mNext mGroup mFresh mLeader mNumber mRight mEnds mWay mVariable (upd (upd (upd (upd mFactor (4 * mBounds).toNatClampNeg p0) ((4 * mBounds) + 1).toNatClampNeg p1) ((4 * mBounds) + 2).toNatClampNeg p2) ((4 * mBounds) + 3).toNatClampNeg p3) (upd mLeast mBounds.toNatClampNeg p4) (upd mMost mBounds.toNatClampNeg p5) mLength mWord mKept mMany mMore mLeads mMet mTodo mMay mTries) H := hP
                have hD : va_D A (moW K h a u88.2 mLanguages (mBounds + 1) mSize mGoes mLast mLeft mNext mGroup mFresh mLeader mNumber mRight mEnds mWay mVariable (upd (upd (upd (upd mFactor (4 * mBounds).toNatClampNeg p0) ((4 * mBounds) + 1).toNatClampNeg p1) ((4 * mBounds) + 2).toNatClampNeg p2) ((4 * mBounds) + 3).toNatClampNeg p3) (upd mLeast mBounds.toNatClampNeg p4) (upd mMost mBounds.toNatClampNeg p5) mLength mWord mKept mMany mMore mLeads mMet mTodo mMay mTries) := hD
                exact Kr _ (Option.some.inj hf).symm _ _ _ _ d_Mo_bound_179 hP hD hS
              · rw [if_pos c89] at hf
                refine lv_iconst (v := 0) hx hb d_Mo_bound_97 (by decide) ?_
                exact Kr _ (Option.some.inj hf).symm _ _ _ _ d_Mo_bound_98 hP hD hS
            · rw [if_pos c87] at hf
              refine lv_iconst (v := 1) hx hb d_Mo_bound_85 (by decide) ?_
              refine lv_goto (tgt := 90) hx hb d_Mo_bound_86 (by decide) ?_
              refine lv_iconst (v := 2) hx hb d_Mo_bound_90 (by decide) ?_
              obtain ⟨u96, eu96, hf⟩ := obd hf
              refine w_call (va_runV (As := [.int (bI true), .int 2]) (rest := []) ⟨hx, hb, hml, hown, hts⟩ (c_Mo_fails l H.size eu96) (gV 2 hts cd_Mo_fails ml_Mo_124 im_Mo_fails se_Mo_fails ini_Mo rfl rfl pd_Mo_fails ⟨Nat.le_trans (Nat.le_of_ble_eq_true rfl) hRf, Nat.le_trans (Nat.le_of_ble_eq_true rfl) hRl⟩) ⟨wPre_blind, va_recv hK hP (ci := 0) (q0 := 0) rfl rfl, wPre_of hP hK hD⟩ rfl rfl hl.1 rfl (lv_room (Nat.le_of_ble_eq_true rfl)) d_Mo_bound_91 ⟨hRc, hRs⟩) hD hS hA (fun H locs hP hD hS => ?_)
              have hP : va_P D vwCl (moW K h a u96.2 mLanguages mBounds mSize mGoes mLast mLeft mNext mGroup mFresh mLeader mNumber mRight mEnds mWay mVariable mFactor mLeast mMost mLength mWord mKept mMany mMore mLeads mMet mTodo mMay mTries) H := hP
              have hD : va_D A (moW K h a u96.2 mLanguages mBounds mSize mGoes mLast mLeft mNext mGroup mFresh mLeader mNumber mRight mEnds mWay mVariable mFactor mLeast mMost mLength mWord mKept mMany mMore mLeads mMet mTodo mMay mTries) := hD
              refine bz_eq (tgt := 99) hx hb d_Mo_bound_94 (by decide) (fun c97 => ?_) (fun c97 => ?_)
              · rw [if_neg c97] at hf
                refine lv_iconst (v := 4) hx hb d_Mo_bound_99 (by decide) ?_
                refine lv_aload_n hx hb d_Mo_bound_100 rfl (lv_at hl 0 rfl) ?_
                refine va_get (D := D) (ci := 0) (v := .int mBounds) (C := R_Mo) (T := T_Mo) (N := 29) hx hb hts in_Mo hown hK hP 0 rfl rfl 2 (by decide) (hts _ fl_Mo_166) (fun _ h9 => h9) rfl d_Mo_bound_101 ?_
                refine lv_imul hx hb d_Mo_bound_104 ?_
                refine lv_istore (lv' := [(7, .int (4 * mBounds)), (0, .ref h), (1, .int p0), (2, .int p1), (3, .int p2), (4, .int p3), (5, .int p4), (6, .int p5)]) hx hb d_Mo_bound_105 hl (by decide) rfl (fun ls hl => ?_)
                refine lv_aload_n hx hb d_Mo_bound_107 rfl (lv_at hl 1 rfl) ?_
                refine va_get (D := D) (ci := 0) (v := .ref (a 12)) (C := R_Mo) (T := T_Mo) (N := 29) hx hb hts in_Mo hown hK hP 0 rfl rfl 16 (by decide) (hts _ fl_Mo_48) (fun _ h9 => h9) rfl d_Mo_bound_108 ?_
                refine lv_iload hx hb d_Mo_bound_111 (lv_at hl 0 rfl) ?_
                refine lv_iload_n hx hb d_Mo_bound_113 rfl (lv_at hl 2 rfl) ?_
                obtain ⟨g98, hf⟩ := ogi hf
                refine va_iast hx hb hK hP hD hS 13 0 rfl rfl (gin_in g98) d_Mo_bound_114 (fun H locs hP hD hS => ?_)
                have hP : va_P D vwCl (moW K h a u96.2 mLanguages mBounds mSize mGoes mLast mLeft mNext mGroup mFresh mLeader mNumber mRight mEnds mWay mVariable (upd mFactor (4 * mBounds).toNatClampNeg p0) mLeast mMost mLength mWord mKept mMany mMore mLeads mMet mTodo mMay mTries) H := hP
                have hD : va_D A (moW K h a u96.2 mLanguages mBounds mSize mGoes mLast mLeft mNext mGroup mFresh mLeader mNumber mRight mEnds mWay mVariable (upd mFactor (4 * mBounds).toNatClampNeg p0) mLeast mMost mLength mWord mKept mMany mMore mLeads mMet mTodo mMay mTries) := hD
                refine lv_aload_n hx hb d_Mo_bound_115 rfl (lv_at hl 1 rfl) ?_
                refine va_get (D := D) (ci := 0) (v := .ref (a 12)) (C := R_Mo) (T := T_Mo) (N := 29) hx hb hts in_Mo hown hK hP 0 rfl rfl 16 (by decide) (hts _ fl_Mo_48) (fun _ h9 => h9) rfl d_Mo_bound_116 ?_
                refine lv_iload hx hb d_Mo_bound_119 (lv_at hl 0 rfl) ?_
                refine lv_iconst (v := 1) hx hb d_Mo_bound_121 (by decide) ?_
                refine lv_iadd hx hb d_Mo_bound_122 ?_
                refine lv_iload_n hx hb d_Mo_bound_123 rfl (lv_at hl 3 rfl) ?_
                obtain ⟨g99, hf⟩ := ogi hf
                refine va_iast hx hb hK hP hD hS 13 0 rfl rfl (gin_in g99) d_Mo_bound_124 (fun H locs hP hD hS => ?_)
                have hP : va_P D vwCl (moW K h a u96.2 mLanguages mBounds mSize mGoes mLast mLeft mNext mGroup mFresh mLeader mNumber mRight mEnds mWay mVariable (upd (upd mFactor (4 * mBounds).toNatClampNeg p0) ((4 * mBounds) + 1).toNatClampNeg p1) mLeast mMost mLength mWord mKept mMany mMore mLeads mMet mTodo mMay mTries) H := hP
                have hD : va_D A (moW K h a u96.2 mLanguages mBounds mSize mGoes mLast mLeft mNext mGroup mFresh mLeader mNumber mRight mEnds mWay mVariable (upd (upd mFactor (4 * mBounds).toNatClampNeg p0) ((4 * mBounds) + 1).toNatClampNeg p1) mLeast mMost mLength mWord mKept mMany mMore mLeads mMet mTodo mMay mTries) := hD
                refine lv_aload_n hx hb d_Mo_bound_125 rfl (lv_at hl 1 rfl) ?_
                refine va_get (D := D) (ci := 0) (v := .ref (a 12)) (C := R_Mo) (T := T_Mo) (N := 29) hx hb hts in_Mo hown hK hP 0 rfl rfl 16 (by decide) (hts _ fl_Mo_48) (fun _ h9 => h9) rfl d_Mo_bound_126 ?_
                refine lv_iload hx hb d_Mo_bound_129 (lv_at hl 0 rfl) ?_
                refine lv_iconst (v := 2) hx hb d_Mo_bound_131 (by decide) ?_
                refine lv_iadd hx hb d_Mo_bound_132 ?_
                refine lv_iload_n hx hb d_Mo_bound_133 rfl (lv_at hl 4 rfl) ?_
                obtain ⟨g100, hf⟩ := ogi hf
                refine va_iast hx hb hK hP hD hS 13 0 rfl rfl (gin_in g100) d_Mo_bound_134 (fun H locs hP hD hS => ?_)
                have hP : va_P D vwCl (moW K h a u96.2 mLanguages mBounds mSize mGoes mLast mLeft mNext mGroup mFresh mLeader mNumber mRight mEnds mWay mVariable (upd (upd (upd mFactor (4 * mBounds).toNatClampNeg p0) ((4 * mBounds) + 1).toNatClampNeg p1) ((4 * mBounds) + 2).toNatClampNeg p2) mLeast mMost mLength mWord mKept mMany mMore mLeads mMet mTodo mMay mTries) H := hP
                have hD : va_D A (moW K h a u96.2 mLanguages mBounds mSize mGoes mLast mLeft mNext mGroup mFresh mLeader mNumber mRight mEnds mWay mVariable (upd (upd (upd mFactor (4 * mBounds).toNatClampNeg p0) ((4 * mBounds) + 1).toNatClampNeg p1) ((4 * mBounds) + 2).toNatClampNeg p2) mLeast mMost mLength mWord mKept mMany mMore mLeads mMet mTodo mMay mTries) := hD
                refine lv_aload_n hx hb d_Mo_bound_135 rfl (lv_at hl 1 rfl) ?_
                refine va_get (D := D) (ci := 0) (v := .ref (a 12)) (C := R_Mo) (T := T_Mo) (N := 29) hx hb hts in_Mo hown hK hP 0 rfl rfl 16 (by decide) (hts _ fl_Mo_48) (fun _ h9 => h9) rfl d_Mo_bound_136 ?_
                refine lv_iload hx hb d_Mo_bound_139 (lv_at hl 0 rfl) ?_
                refine lv_iconst (v := 3) hx hb d_Mo_bound_141 (by decide) ?_
                refine lv_iadd hx hb d_Mo_bound_142 ?_
                refine lv_iload hx hb d_Mo_bound_143 (lv_at hl 5 rfl) ?_
                obtain ⟨g101, hf⟩ := ogi hf
                refine va_iast hx hb hK hP hD hS 13 0 rfl rfl (gin_in g101) d_Mo_bound_145 (fun H locs hP hD hS => ?_)
                have hP : va_P D vwCl (moW K h a u96.2 mLanguages mBounds mSize mGoes mLast mLeft mNext mGroup mFresh mLeader mNumber mRight mEnds mWay mVariable (upd (upd (upd (upd mFactor (4 * mBounds).toNatClampNeg p0) ((4 * mBounds) + 1).toNatClampNeg p1) ((4 * mBounds) + 2).toNatClampNeg p2) ((4 * mBounds) + 3).toNatClampNeg p3) mLeast mMost mLength mWord mKept mMany mMore mLeads mMet mTodo mMay mTries) H := hP
                have hD : va_D A (moW K h a u96.2 mLanguages mBounds mSize mGoes mLast mLeft mNext mGroup mFresh mLeader mNumber mRight mEnds mWay mVariable (upd (upd (upd (upd mFactor (4 * mBounds).toNatClampNeg p0) ((4 * mBounds) + 1).toNatClampNeg p1) ((4 * mBounds) + 2).toNatClampNeg p2) ((4 * mBounds) + 3).toNatClampNeg p3) mLeast mMost mLength mWord mKept mMany mMore mLeads mMet mTodo mMay mTries) := hD
                refine lv_aload_n hx hb d_Mo_bound_146 rfl (lv_at hl 1 rfl) ?_
                refine va_get (D := D) (ci := 0) (v := .ref (a 13)) (C := R_Mo) (T := T_Mo) (N := 29) hx hb hts in_Mo hown hK hP 0 rfl rfl 17 (by decide) (hts _ fl_Mo_51) (fun _ h9 => h9) rfl d_Mo_bound_147 ?_
                refine lv_aload_n hx hb d_Mo_bound_150 rfl (lv_at hl 1 rfl) ?_
                refine va_get (D := D) (ci := 0) (v := .int mBounds) (C := R_Mo) (T := T_Mo) (N := 29) hx hb hts in_Mo hown hK hP 0 rfl rfl 2 (by decide) (hts _ fl_Mo_166) (fun _ h9 => h9) rfl d_Mo_bound_151 ?_
                refine lv_iload hx hb d_Mo_bound_154 (lv_at hl 6 rfl) ?_
                obtain ⟨g102, hf⟩ := ogi hf
                refine va_iast hx hb hK hP hD hS 14 0 rfl rfl (gin_in g102) d_Mo_bound_156 (fun H locs hP hD hS => ?_)
                have hP : va_P D vwCl (moW K h a u96.2 mLanguages mBounds mSize mGoes mLast mLeft mNext mGroup mFresh mLeader mNumber mRight mEnds mWay mVariable (upd (upd (upd (upd mFactor (4 * mBounds).toNatClampNeg p0) ((4 * mBounds) + 1).toNatClampNeg p1) ((4 * mBounds) + 2).toNatClampNeg p2) ((4 * mBounds) + 3).toNatClampNeg p3) (upd mLeast mBounds.toNatClampNeg p4) mMost mLength mWord mKept mMany mMore mLeads mMet mTodo mMay mTries) H := hP
                have hD : va_D A (moW K h a u96.2 mLanguages mBounds mSize mGoes mLast mLeft mNext mGroup mFresh mLeader mNumber mRight mEnds mWay mVariable (upd (upd (upd (upd mFactor (4 * mBounds).toNatClampNeg p0) ((4 * mBounds) + 1).toNatClampNeg p1) ((4 * mBounds) + 2).toNatClampNeg p2) ((4 * mBounds) + 3).toNatClampNeg p3) (upd mLeast mBounds.toNatClampNeg p4) mMost mLength mWord mKept mMany mMore mLeads mMet mTodo mMay mTries) := hD
                refine lv_aload_n hx hb d_Mo_bound_157 rfl (lv_at hl 1 rfl) ?_
                refine va_get (D := D) (ci := 0) (v := .ref (a 14)) (C := R_Mo) (T := T_Mo) (N := 29) hx hb hts in_Mo hown hK hP 0 rfl rfl 18 (by decide) (hts _ fl_Mo_54) (fun _ h9 => h9) rfl d_Mo_bound_158 ?_
                refine lv_aload_n hx hb d_Mo_bound_161 rfl (lv_at hl 1 rfl) ?_
                refine va_get (D := D) (ci := 0) (v := .int mBounds) (C := R_Mo) (T := T_Mo) (N := 29) hx hb hts in_Mo hown hK hP 0 rfl rfl 2 (by decide) (hts _ fl_Mo_166) (fun _ h9 => h9) rfl d_Mo_bound_162 ?_
                refine lv_iload hx hb d_Mo_bound_165 (lv_at hl 7 rfl) ?_
                obtain ⟨g103, hf⟩ := ogi hf
                refine va_iast hx hb hK hP hD hS 15 0 rfl rfl (gin_in g103) d_Mo_bound_167 (fun H locs hP hD hS => ?_)
                have hP : va_P D vwCl (moW K h a u96.2 mLanguages mBounds mSize mGoes mLast mLeft mNext mGroup mFresh mLeader mNumber mRight mEnds mWay mVariable (upd (upd (upd (upd mFactor (4 * mBounds).toNatClampNeg p0) ((4 * mBounds) + 1).toNatClampNeg p1) ((4 * mBounds) + 2).toNatClampNeg p2) ((4 * mBounds) + 3).toNatClampNeg p3) (upd mLeast mBounds.toNatClampNeg p4) (upd mMost mBounds.toNatClampNeg p5) mLength mWord mKept mMany mMore mLeads mMet mTodo mMay mTries) H := hP
                have hD : va_D A (moW K h a u96.2 mLanguages mBounds mSize mGoes mLast mLeft mNext mGroup mFresh mLeader mNumber mRight mEnds mWay mVariable (upd (upd (upd (upd mFactor (4 * mBounds).toNatClampNeg p0) ((4 * mBounds) + 1).toNatClampNeg p1) ((4 * mBounds) + 2).toNatClampNeg p2) ((4 * mBounds) + 3).toNatClampNeg p3) (upd mLeast mBounds.toNatClampNeg p4) (upd mMost mBounds.toNatClampNeg p5) mLength mWord mKept mMany mMore mLeads mMet mTodo mMay mTries) := hD
                refine lv_aload_n hx hb d_Mo_bound_168 rfl (lv_at hl 1 rfl) ?_
                refine lv_dup hx hb d_Mo_bound_169 rfl ?_
                refine va_get (D := D) (ci := 0) (v := .int mBounds) (C := R_Mo) (T := T_Mo) (N := 29) hx hb hts in_Mo hown hK hP 0 rfl rfl 2 (by decide) (hts _ fl_Mo_166) (fun _ h9 => h9) rfl d_Mo_bound_170 ?_
                refine lv_iconst (v := 1) hx hb d_Mo_bound_173 (by decide) ?_
                refine lv_iadd hx hb d_Mo_bound_174 ?_
                refine lv_dup_x1 hx hb d_Mo_bound_175 rfl rfl ?_
                refine va_put (D := D) (ci := 0) (v := .int (mBounds + 1)) (ty := .int) (C := R_Mo) (T := T_Mo) (N := 29) hx hb hts in_Mo t_Mo t_Mo_ok n_Mo hown hK hP hD hS 0 rfl rfl 2 (by decide) (hts _ fl_Mo_166) (fun _ h9 => h9) rfl (by decide +kernel) rfl rfl (Nat.le_of_ble_eq_true rfl) d_Mo_bound_176 (fun H locs hP hD hS => ?_)
                have hP : va_P D vwCl (moW K h a u96.2 mLanguages (mBounds + 1) mSize mGoes mLast mLeft mNext mGroup mFresh mLeader mNumber mRight mEnds mWay mVariable (upd (upd (upd (upd mFactor (4 * mBounds).toNatClampNeg p0) ((4 * mBounds) + 1).toNatClampNeg p1) ((4 * mBounds) + 2).toNatClampNeg p2) ((4 * mBounds) + 3).toNatClampNeg p3) (upd mLeast mBounds.toNatClampNeg p4) (upd mMost mBounds.toNatClampNeg p5) mLength mWord mKept mMany mMore mLeads mMet mTodo mMay mTries) H := hP
                have hD : va_D A (moW K h a u96.2 mLanguages (mBounds + 1) mSize mGoes mLast mLeft mNext mGroup mFresh mLeader mNumber mRight mEnds mWay mVariable (upd (upd (upd (upd mFactor (4 * mBounds).toNatClampNeg p0) ((4 * mBounds) + 1).toNatClampNeg p1) ((4 * mBounds) + 2).toNatClampNeg p2) ((4 * mBounds) + 3).toNatClampNeg p3) (upd mLeast mBounds.toNatClampNeg p4) (upd mMost mBounds.toNatClampNeg p5) mLength mWord mKept mMany mMore mLeads mMet mTodo mMay mTries) := hD
                exact Kr _ (Option.some.inj hf).symm _ _ _ _ d_Mo_bound_179 hP hD hS
              · rw [if_pos c97] at hf
                refine lv_iconst (v := 0) hx hb d_Mo_bound_97 (by decide) ?_
                exact Kr _ (Option.some.inj hf).symm _ _ _ _ d_Mo_bound_98 hP hD hS
set_option maxHeartbeats 4000000 in
set_option maxRecDepth 100000 in
theorem c_Mo_bound (l : Launch)  {p0 : Int32} {p1 : Int32} {p2 : Int32} {p3 : Int32} {p4 : Int32} {p5 : Int32}  {r : Int32 × Int32 × Int32 × (Nat → Int32) × (Nat → Int32) × (Nat → Int32)} (sz : Nat) (hf : f_Mo_bound n p0 p1 p2 p3 p4 p5 mBounds mFactor mLeast mMost = some r) : Met l y_Mo_bound w0_Mo_bound ({ frames := 1, cells := 0, slots := 0, locals := 25 }) (wPre D K [.ref h, .int p0, .int p1, .int p2, .int p3, .int p4, .int p5] (moW K h a mErr mLanguages mBounds mSize mGoes mLast mLeft mNext mGroup mFresh mLeader mNumber mRight mEnds mWay mVariable mFactor mLeast mMost mLength mWord mKept mMany mMore mLeads mMet mTodo mMay mTries) sz) (wPost D K (some (.int r.1)) (moW K h a r.2.1 mLanguages r.2.2.1 mSize mGoes mLast mLeft mNext mGroup mFresh mLeader mNumber mRight mEnds mWay mVariable r.2.2.2.1 r.2.2.2.2.1 r.2.2.2.2.2 mLength mWord mKept mMany mMore mLeads mMet mTodo mMay mTries) (va_A (moW K h a mErr mLanguages mBounds mSize mGoes mLast mLeft mNext mGroup mFresh mLeader mNumber mRight mEnds mWay mVariable mFactor mLeast mMost mLength mWord mKept mMany mMore mLeads mMet mTodo mMay mTries) sz)) 0 0 (va_A (moW K h a mErr mLanguages mBounds mSize mGoes mLast mLeft mNext mGroup mFresh mLeader mNumber mRight mEnds mWay mVariable mFactor mLeast mMost mLength mWord mKept mMany mMore mLeads mMet mTodo mMay mTries) sz) := by
  refine Met.ofW (cc := b_Mo_bound) (maxL := 8) (ret := (some .int)) (by decide) rfl ?_
  intro p e s m args below meth c s₁ B hml hv
  obtain ⟨rfl, hsz, hP, hK, hD0⟩ := hv
  subst hsz
  have hl := lv_entry [.ref h, .int p0, .int p1, .int p2, .int p3, .int p4, .int p5] (n := 8) (Nat.le_of_ble_eq_true rfl)
  rw [lg_entry_eq]
  generalize (lg_sl [.ref h, .int p0, .int p1, .int p2, .int p3, .int p4, .int p5] ++ List.replicate (8 - (lg_sl [.ref h, .int p0, .int p1, .int p2, .int p3, .int p4, .int p5]).length) Slot.unset).toArray = ls at hl ⊢
  refine w_Mo_bound (A := va_A (moW K h a mErr mLanguages mBounds mSize mGoes mLast mLeft mNext mGroup mFresh mLeader mNumber mRight mEnds mWay mVariable mFactor mLeast mMost mLength mWord mKept mMany mMore mLeads mMet mTodo mMay mTries) s.heap.size) (H0 := s.heap) B.exec B.bytes hml (fun w hw => atoms_spec (ws := w0_Mo_bound) B.pre w (List.mem_cons_of_mem _ hw)) (findClass_of_methodNamed B.named) hK (Nat.le_refl _) (Nat.le_refl _) (Nat.zero_le _) (Nat.zero_le _) (fun q h => Or.inr h) (fun r er pc ls H locs hd hP hD hS => ?_) hf ls hP (hD0.self (sz := s.heap.size)) va_S.rf hl
  subst er
  exact W.iret B.exec B.bytes B.returns (fun t ht hW => ⟨⟨rfl, by rw [ht]; exact hP, va_K.moved hW.alike hK, hD⟩, hS.F ht⟩) hS.2.2 hd (hlocks := B.notSynchronized)
theorem pd_Mo_solve : y_Mo_solve.cls ≠ "java/lang/invoke/MethodHandle" ∧ y_Mo_solve.cls ≠ "java/lang/invoke/VarHandle" ∧ (parseMethodDescriptor y_Mo_solve.desc).map (fun d => d.parameters.length) = some 1 := by decide +kernel
def f_Mo_solve_66 (n : Nat) (v2 : Int32) (v1 : Int32) (mVariable : Nat → Int32) (mLeads : Nat → Int64) : Nat → Int32 → (Nat → Bool) → Option (Int32 × (Nat → Bool))
  | 0, _, _ => none
  | k + 1, v3, mMay =>
    if v1 < v3 then
      some (v3, mMay)
    else
      ogd (gin v2 4) <|
      if 0 ≤ (mVariable v2.toNatClampNeg) then
        ogd (gin v3 32) <|
        if ((mLeads v3.toNatClampNeg) &&& 1) = 0 then
          ogd (gin ((4 * v3) + v2) 128) <|
          f_Mo_solve_66 n v2 v1 mVariable mLeads k (v3 + 1) (va_up mMay ((4 * v3) + v2).toNatClampNeg false)
        else
          ogd (gin ((4 * v3) + v2) 128) <|
          f_Mo_solve_66 n v2 v1 mVariable mLeads k (v3 + 1) (va_up mMay ((4 * v3) + v2).toNatClampNeg true)
      else
        if v3 = 0 then
          ogd (gin ((4 * v3) + v2) 128) <|
          f_Mo_solve_66 n v2 v1 mVariable mLeads k (v3 + 1) (va_up mMay ((4 * v3) + v2).toNatClampNeg true)
        else
          ogd (gin ((4 * v3) + v2) 128) <|
          f_Mo_solve_66 n v2 v1 mVariable mLeads k (v3 + 1) (va_up mMay ((4 * v3) + v2).toNatClampNeg false)
set_option maxHeartbeats 4000000 in
set_option maxRecDepth 100000 in
theorem w_Mo_solve_66  {v2 : Int32} {v1 : Int32} (hx : p.tables.exec = Jvm.exec) (hb : c.code = b_Mo_solve) (hml : c.maxLocals = 4) (hts : ∀ w ∈ gW, w.before args s = true) (hown : s.vm.findClass "RegularSolverModel" = some m.cls) (hK : va_K D vwCl (tG K) s) (hRf : 2 ≤ R.frames) (hRl : 50 ≤ R.locals) (hRc : cells ≤ R.cells) (hRs : slots ≤ R.slots) (hA : ∀ q, H0.size ≤ q → A q)  {out : Int32 × (Nat → Bool)} (Kx : ∀ (u : Int32 × (Nat → Bool)), out = u → ∀ (ls : Array Slot) (H : Heap) (locs : List Loc), va_P D vwCl (moW K h a mErr mLanguages mBounds mSize mGoes mLast mLeft mNext mGroup mFresh mLeader mNumber mRight mEnds mWay mVariable mFactor mLeast mMost mLength mWord mKept mMany mMore mLeads mMet mTodo u.2 mTries) H → va_D A (moW K h a mErr mLanguages mBounds mSize mGoes mLast mLeft mNext mGroup mFresh mLeader mNumber mRight mEnds mWay mVariable mFactor mLeast mMost mLength mWord mKept mMany mMore mLeads mMet mTodo u.2 mTries) → va_S A H0 H locs → lv_has ls 4 [(2, .int v2), (0, .ref h), (1, .int v1)] → W p l e R s m args below meth c H locs cells slots Q (F0 m 126 ls [])) :
    ∀ (k : Nat) (v3 : Int32) (mMay : Nat → Bool), f_Mo_solve_66 n v2 v1 mVariable mLeads k v3 mMay = some out → ∀ (ls : Array Slot) (H : Heap) (locs : List Loc), va_P D vwCl (moW K h a mErr mLanguages mBounds mSize mGoes mLast mLeft mNext mGroup mFresh mLeader mNumber mRight mEnds mWay mVariable mFactor mLeast mMost mLength mWord mKept mMany mMore mLeads mMet mTodo mMay mTries) H → va_D A (moW K h a mErr mLanguages mBounds mSize mGoes mLast mLeft mNext mGroup mFresh mLeader mNumber mRight mEnds mWay mVariable mFactor mLeast mMost mLength mWord mKept mMany mMore mLeads mMet mTodo mMay mTries) → va_S A H0 H locs → lv_has ls 4 [(3, .int v3), (2, .int v2), (0, .ref h), (1, .int v1)] → W p l e R s m args below meth c H locs cells slots Q (F0 m 66 ls []) := by
  intro k
  induction k with
  | zero => intro _ _ hf; exact nomatch (show none = some out from hf)
  | succ k ih =>
    intro v3 mMay hf ls H locs hP hD hS hl
    rw [f_Mo_solve_66] at hf
    refine lv_iload_n hx hb d_Mo_solve_66 rfl (lv_at hl 0 rfl) ?_
    refine lv_iload_n hx hb d_Mo_solve_67 rfl (lv_at hl 3 rfl) ?_
    refine lv_icmp_gt (tgt := 126) hx hb d_Mo_solve_68 (by decide) (fun c25 => ?_) (fun c25 => ?_)
    · rw [if_pos c25] at hf
      exact Kx _ (Option.some.inj hf).symm _ _ _ hP hD hS (show lv_has ls 4 [(2, .int v2), (0, .ref h), (1, .int v1)] from lv_sub hl [1, 2, 3] rfl)
    · rw [if_neg c25] at hf
      refine lv_aload_n hx hb d_Mo_solve_71 rfl (lv_at hl 2 rfl) ?_
      refine va_get (D := D) (ci := 0) (v := .ref (a 22)) (C := R_Mo) (T := T_Mo) (N := 29) hx hb hts in_Mo hown hK hP 0 rfl rfl 27 (by decide) (hts _ fl_Mo_78) (fun _ h9 => h9) rfl d_Mo_solve_72 ?_
      refine lv_iconst (v := 4) hx hb d_Mo_solve_75 (by decide) ?_
      refine lv_iload_n hx hb d_Mo_solve_76 rfl (lv_at hl 0 rfl) ?_
      refine lv_imul hx hb d_Mo_solve_77 ?_
      refine lv_iload_n hx hb d_Mo_solve_78 rfl (lv_at hl 1 rfl) ?_
      refine lv_iadd hx hb d_Mo_solve_79 ?_
      refine lv_aload_n hx hb d_Mo_solve_80 rfl (lv_at hl 2 rfl) ?_
      refine va_get (D := D) (ci := 0) (v := .ref (a 11)) (C := R_Mo) (T := T_Mo) (N := 29) hx hb hts in_Mo hown hK hP 0 rfl rfl 15 (by decide) (hts _ fl_Mo_45) (fun _ h9 => h9) rfl d_Mo_solve_81 ?_
      refine lv_iload_n hx hb d_Mo_solve_84 rfl (lv_at hl 1 rfl) ?_
      obtain ⟨g26, hf⟩ := ogi hf
      refine va_iald hx hb hK hP 12 0 rfl rfl (gin_in g26) d_Mo_solve_85 ?_
      refine lv_if_ge (tgt := 101) hx hb d_Mo_solve_86 (by decide) (fun c27 => ?_) (fun c27 => ?_)
      · rw [if_pos c27] at hf
        refine lv_aload_n hx hb d_Mo_solve_101 rfl (lv_at hl 2 rfl) ?_
        refine va_get (D := D) (ci := 0) (v := .ref (a 19)) (C := R_Mo) (T := T_Mo) (N := 29) hx hb hts in_Mo hown hK hP 0 rfl rfl 24 (by decide) (hts _ fl_Mo_69) (fun _ h9 => h9) rfl d_Mo_solve_102 ?_
        refine lv_iload_n hx hb d_Mo_solve_105 rfl (lv_at hl 0 rfl) ?_
        obtain ⟨g28, hf⟩ := ogi hf
        refine va_lald hx hb hK hP 20 1 rfl rfl (gin_in g28) d_Mo_solve_106 ?_
        refine lv_lconst (v := 1) hx hb d_Mo_solve_107 (by decide) ?_
        refine lv_land hx hb d_Mo_solve_108 ?_
        refine lv_lconst (v := 0) hx hb d_Mo_solve_109 (by decide) ?_
        refine W.lcmp hx hb d_Mo_solve_110 ?_
        refine lc_eq (tgt := 118) hx hb d_Mo_solve_111 (by decide) (fun c29 => ?_) (fun c29 => ?_)
        · rw [if_pos c29] at hf
          refine lv_iconst (v := 0) hx hb d_Mo_solve_118 (by decide) ?_
          obtain ⟨g30, hf⟩ := ogi hf
          refine bz_ast (b := false) hx hb hK hP hD hS 23 2 rfl rfl (gin_in g30) d_Mo_solve_119 (fun H locs hP hD hS => ?_)
          have hP : va_P D vwCl (moW K h a mErr mLanguages mBounds mSize mGoes mLast mLeft mNext mGroup mFresh mLeader mNumber mRight mEnds mWay mVariable mFactor mLeast mMost mLength mWord mKept mMany mMore mLeads mMet mTodo (va_up mMay ((4 * v3) + v2).toNatClampNeg false) mTries) H := hP
          have hD : va_D A (moW K h a mErr mLanguages mBounds mSize mGoes mLast mLeft mNext mGroup mFresh mLeader mNumber mRight mEnds mWay mVariable mFactor mLeast mMost mLength mWord mKept mMany mMore mLeads mMet mTodo (va_up mMay ((4 * v3) + v2).toNatClampNeg false) mTries) := hD
          refine lv_iinc (v := v3 + 1) (lv' := [(3, .int (v3 + 1)), (2, .int v2), (0, .ref h), (1, .int v1)]) hx hb d_Mo_solve_120 hl (k := 0) rfl (by first | rfl | (congr 1)) (by decide) rfl (fun ls hl => ?_)
          refine lv_goto (tgt := 66) hx hb d_Mo_solve_123 (by decide) ?_
          exact ih _ _ hf _ _ _ hP hD hS (show lv_has ls 4 [(3, .int (v3 + 1)), (2, .int v2), (0, .ref h), (1, .int v1)] from lv_sub hl [0, 1, 2, 3] rfl)
        · rw [if_neg c29] at hf
          refine lv_iconst (v := 1) hx hb d_Mo_solve_114 (by decide) ?_
          refine lv_goto (tgt := 119) hx hb d_Mo_solve_115 (by decide) ?_
          obtain ⟨g31, hf⟩ := ogi hf
          refine bz_ast (b := true) hx hb hK hP hD hS 23 2 rfl rfl (gin_in g31) d_Mo_solve_119 (fun H locs hP hD hS => ?_)
          have hP : va_P D vwCl (moW K h a mErr mLanguages mBounds mSize mGoes mLast mLeft mNext mGroup mFresh mLeader mNumber mRight mEnds mWay mVariable mFactor mLeast mMost mLength mWord mKept mMany mMore mLeads mMet mTodo (va_up mMay ((4 * v3) + v2).toNatClampNeg true) mTries) H := hP
          have hD : va_D A (moW K h a mErr mLanguages mBounds mSize mGoes mLast mLeft mNext mGroup mFresh mLeader mNumber mRight mEnds mWay mVariable mFactor mLeast mMost mLength mWord mKept mMany mMore mLeads mMet mTodo (va_up mMay ((4 * v3) + v2).toNatClampNeg true) mTries) := hD
          refine lv_iinc (v := v3 + 1) (lv' := [(3, .int (v3 + 1)), (2, .int v2), (0, .ref h), (1, .int v1)]) hx hb d_Mo_solve_120 hl (k := 0) rfl (by first | rfl | (congr 1)) (by decide) rfl (fun ls hl => ?_)
          refine lv_goto (tgt := 66) hx hb d_Mo_solve_123 (by decide) ?_
          exact ih _ _ hf _ _ _ hP hD hS (show lv_has ls 4 [(3, .int (v3 + 1)), (2, .int v2), (0, .ref h), (1, .int v1)] from lv_sub hl [0, 1, 2, 3] rfl)
      · rw [if_neg c27] at hf
        refine lv_iload_n hx hb d_Mo_solve_89 rfl (lv_at hl 0 rfl) ?_
        refine lv_if_ne (tgt := 97) hx hb d_Mo_solve_90 (by decide) (fun c32 => ?_) (fun c32 => ?_)
        · rw [if_neg c32] at hf
          refine lv_iconst (v := 0) hx hb d_Mo_solve_97 (by decide) ?_
          refine lv_goto (tgt := 119) hx hb d_Mo_solve_98 (by decide) ?_
          obtain ⟨g33, hf⟩ := ogi hf
          refine bz_ast (b := false) hx hb hK hP hD hS 23 2 rfl rfl (gin_in g33) d_Mo_solve_119 (fun H locs hP hD hS => ?_)
          have hP : va_P D vwCl (moW K h a mErr mLanguages mBounds mSize mGoes mLast mLeft mNext mGroup mFresh mLeader mNumber mRight mEnds mWay mVariable mFactor mLeast mMost mLength mWord mKept mMany mMore mLeads mMet mTodo (va_up mMay ((4 * v3) + v2).toNatClampNeg false) mTries) H := hP
          have hD : va_D A (moW K h a mErr mLanguages mBounds mSize mGoes mLast mLeft mNext mGroup mFresh mLeader mNumber mRight mEnds mWay mVariable mFactor mLeast mMost mLength mWord mKept mMany mMore mLeads mMet mTodo (va_up mMay ((4 * v3) + v2).toNatClampNeg false) mTries) := hD
          refine lv_iinc (v := v3 + 1) (lv' := [(3, .int (v3 + 1)), (2, .int v2), (0, .ref h), (1, .int v1)]) hx hb d_Mo_solve_120 hl (k := 0) rfl (by first | rfl | (congr 1)) (by decide) rfl (fun ls hl => ?_)
          refine lv_goto (tgt := 66) hx hb d_Mo_solve_123 (by decide) ?_
          exact ih _ _ hf _ _ _ hP hD hS (show lv_has ls 4 [(3, .int (v3 + 1)), (2, .int v2), (0, .ref h), (1, .int v1)] from lv_sub hl [0, 1, 2, 3] rfl)
        · rw [if_pos c32] at hf
          refine lv_iconst (v := 1) hx hb d_Mo_solve_93 (by decide) ?_
          refine lv_goto (tgt := 119) hx hb d_Mo_solve_94 (by decide) ?_
          obtain ⟨g34, hf⟩ := ogi hf
          refine bz_ast (b := true) hx hb hK hP hD hS 23 2 rfl rfl (gin_in g34) d_Mo_solve_119 (fun H locs hP hD hS => ?_)
          have hP : va_P D vwCl (moW K h a mErr mLanguages mBounds mSize mGoes mLast mLeft mNext mGroup mFresh mLeader mNumber mRight mEnds mWay mVariable mFactor mLeast mMost mLength mWord mKept mMany mMore mLeads mMet mTodo (va_up mMay ((4 * v3) + v2).toNatClampNeg true) mTries) H := hP
          have hD : va_D A (moW K h a mErr mLanguages mBounds mSize mGoes mLast mLeft mNext mGroup mFresh mLeader mNumber mRight mEnds mWay mVariable mFactor mLeast mMost mLength mWord mKept mMany mMore mLeads mMet mTodo (va_up mMay ((4 * v3) + v2).toNatClampNeg true) mTries) := hD
          refine lv_iinc (v := v3 + 1) (lv' := [(3, .int (v3 + 1)), (2, .int v2), (0, .ref h), (1, .int v1)]) hx hb d_Mo_solve_120 hl (k := 0) rfl (by first | rfl | (congr 1)) (by decide) rfl (fun ls hl => ?_)
          refine lv_goto (tgt := 66) hx hb d_Mo_solve_123 (by decide) ?_
          exact ih _ _ hf _ _ _ hP hD hS (show lv_has ls 4 [(3, .int (v3 + 1)), (2, .int v2), (0, .ref h), (1, .int v1)] from lv_sub hl [0, 1, 2, 3] rfl)
def f_Mo_solve_39 (n : Nat) (v1 : Int32) (mSize : Nat → Int32) (mGoes : Nat → Int32) (mLast : Nat → Bool) (mVariable : Nat → Int32) : Nat → Int32 → (Nat → Int64) → (Nat → Bool) → Option (Int32 × (Nat → Int64) × (Nat → Bool))
  | 0, _, _, _ => none
  | k + 1, v2, mLeads, mMay =>
    if 4 ≤ v2 then
      some (v2, mLeads, mMay)
    else
      ogd (gin v2 4) <|
      if (mVariable v2.toNatClampNeg) < 0 then
        (f_Mo_solve_66 n v2 v1 mVariable mLeads n 0 mMay).bind fun u35 =>
        f_Mo_solve_39 n v1 mSize mGoes mLast mVariable k (v2 + 1) mLeads u35.2
      else
        ogd (gin v2 4) <|
        (f_Mo_lead n (mVariable v2.toNatClampNeg) v1 mSize mGoes mLast mLeads).bind fun u37 =>
        (f_Mo_solve_66 n v2 v1 mVariable u37 n 0 mMay).bind fun u38 =>
        f_Mo_solve_39 n v1 mSize mGoes mLast mVariable k (v2 + 1) u37 u38.2
set_option maxHeartbeats 4000000 in
set_option maxRecDepth 100000 in
theorem w_Mo_solve_39  {v1 : Int32} (hx : p.tables.exec = Jvm.exec) (hb : c.code = b_Mo_solve) (hml : c.maxLocals = 4) (hts : ∀ w ∈ gW, w.before args s = true) (hown : s.vm.findClass "RegularSolverModel" = some m.cls) (hK : va_K D vwCl (tG K) s) (hRf : 2 ≤ R.frames) (hRl : 50 ≤ R.locals) (hRc : cells ≤ R.cells) (hRs : slots ≤ R.slots) (hA : ∀ q, H0.size ≤ q → A q)  {out : Int32 × (Nat → Int64) × (Nat → Bool)} (Kx : ∀ (u : Int32 × (Nat → Int64) × (Nat → Bool)), out = u → ∀ (ls : Array Slot) (H : Heap) (locs : List Loc), va_P D vwCl (moW K h a mErr mLanguages mBounds mSize mGoes mLast mLeft mNext mGroup mFresh mLeader mNumber mRight mEnds mWay mVariable mFactor mLeast mMost mLength mWord mKept mMany mMore u.2.1 mMet mTodo u.2.2 mTries) H → va_D A (moW K h a mErr mLanguages mBounds mSize mGoes mLast mLeft mNext mGroup mFresh mLeader mNumber mRight mEnds mWay mVariable mFactor mLeast mMost mLength mWord mKept mMany mMore u.2.1 mMet mTodo u.2.2 mTries) → va_S A H0 H locs → lv_has ls 4 [(0, .ref h), (1, .int v1)] → W p l e R s m args below meth c H locs cells slots Q (F0 m 132 ls [])) :
    ∀ (k : Nat) (v2 : Int32) (mLeads : Nat → Int64) (mMay : Nat → Bool), f_Mo_solve_39 n v1 mSize mGoes mLast mVariable k v2 mLeads mMay = some out → ∀ (ls : Array Slot) (H : Heap) (locs : List Loc), va_P D vwCl (moW K h a mErr mLanguages mBounds mSize mGoes mLast mLeft mNext mGroup mFresh mLeader mNumber mRight mEnds mWay mVariable mFactor mLeast mMost mLength mWord mKept mMany mMore mLeads mMet mTodo mMay mTries) H → va_D A (moW K h a mErr mLanguages mBounds mSize mGoes mLast mLeft mNext mGroup mFresh mLeader mNumber mRight mEnds mWay mVariable mFactor mLeast mMost mLength mWord mKept mMany mMore mLeads mMet mTodo mMay mTries) → va_S A H0 H locs → lv_has ls 4 [(2, .int v2), (0, .ref h), (1, .int v1)] → W p l e R s m args below meth c H locs cells slots Q (F0 m 39 ls []) := by
  intro k
  induction k with
  | zero => intro _ _ _ hf; exact nomatch (show none = some out from hf)
  | succ k ih =>
    intro v2 mLeads mMay hf ls H locs hP hD hS hl
    rw [f_Mo_solve_39] at hf
    refine lv_iload_n hx hb d_Mo_solve_39 rfl (lv_at hl 0 rfl) ?_
    refine lv_iconst (v := 4) hx hb d_Mo_solve_40 (by decide) ?_
    refine lv_icmp_ge (tgt := 132) hx hb d_Mo_solve_41 (by decide) (fun c22 => ?_) (fun c22 => ?_)
    · rw [if_pos c22] at hf
      exact Kx _ (Option.some.inj hf).symm _ _ _ hP hD hS (show lv_has ls 4 [(0, .ref h), (1, .int v1)] from lv_sub hl [1, 2] rfl)
    · rw [if_neg c22] at hf
      refine lv_aload_n hx hb d_Mo_solve_44 rfl (lv_at hl 1 rfl) ?_
      refine va_get (D := D) (ci := 0) (v := .ref (a 11)) (C := R_Mo) (T := T_Mo) (N := 29) hx hb hts in_Mo hown hK hP 0 rfl rfl 15 (by decide) (hts _ fl_Mo_45) (fun _ h9 => h9) rfl d_Mo_solve_45 ?_
      refine lv_iload_n hx hb d_Mo_solve_48 rfl (lv_at hl 0 rfl) ?_
      obtain ⟨g23, hf⟩ := ogi hf
      refine va_iald hx hb hK hP 12 0 rfl rfl (gin_in g23) d_Mo_solve_49 ?_
      refine lv_if_lt (tgt := 64) hx hb d_Mo_solve_50 (by decide) (fun c24 => ?_) (fun c24 => ?_)
      · rw [if_pos c24] at hf
        refine lv_iconst (v := 0) hx hb d_Mo_solve_64 (by decide) ?_
        refine lv_istore_n (lv' := [(3, .int 0), (2, .int v2), (0, .ref h), (1, .int v1)]) hx hb d_Mo_solve_65 rfl hl (by decide) rfl (fun ls hl => ?_)
        obtain ⟨u35, eu35, hf⟩ := obd hf
        refine w_Mo_solve_66 hx hb hml hts hown hK hRf hRl hRc hRs hA  (fun u35q eu ls H locs hP hD hS hl => ?_) _ _ _ eu35 _ _ _ hP hD hS (show lv_has ls 4 [(3, .int 0), (2, .int v2), (0, .ref h), (1, .int v1)] from lv_sub hl [0, 1, 2, 3] rfl)
        subst eu
        refine lv_iinc (v := v2 + 1) (lv' := [(2, .int (v2 + 1)), (0, .ref h), (1, .int v1)]) hx hb d_Mo_solve_126 hl (k := 0) rfl (by first | rfl | (congr 1)) (by decide) rfl (fun ls hl => ?_)
        refine lv_goto (tgt := 39) hx hb d_Mo_solve_129 (by decide) ?_
        exact ih _ _ _ hf _ _ _ hP hD hS (show lv_has ls 4 [(2, .int (v2 + 1)), (0, .ref h), (1, .int v1)] from lv_sub hl [0, 1, 2] rfl)
      · rw [if_neg c24] at hf
        refine lv_aload_n hx hb d_Mo_solve_53 rfl (lv_at hl 1 rfl) ?_
        refine lv_aload_n hx hb d_Mo_solve_54 rfl (lv_at hl 1 rfl) ?_
        refine va_get (D := D) (ci := 0) (v := .ref (a 11)) (C := R_Mo) (T := T_Mo) (N := 29) hx hb hts in_Mo hown hK hP 0 rfl rfl 15 (by decide) (hts _ fl_Mo_45) (fun _ h9 => h9) rfl d_Mo_solve_55 ?_
        refine lv_iload_n hx hb d_Mo_solve_58 rfl (lv_at hl 0 rfl) ?_
        obtain ⟨g36, hf⟩ := ogi hf
        refine va_iald hx hb hK hP 12 0 rfl rfl (gin_in g36) d_Mo_solve_59 ?_
        refine lv_iload_n hx hb d_Mo_solve_60 rfl (lv_at hl 2 rfl) ?_
        obtain ⟨u37, eu37, hf⟩ := obd hf
        refine w_call (va_runV (As := [.int (mVariable v2.toNatClampNeg), .int v1]) (rest := []) ⟨hx, hb, hml, hown, hts⟩ (c_Mo_lead l H.size eu37) (gV 2 hts cd_Mo_lead ml_Mo_154 im_Mo_lead se_Mo_lead ini_Mo rfl rfl pd_Mo_lead ⟨Nat.le_trans (Nat.le_of_ble_eq_true rfl) hRf, Nat.le_trans (Nat.le_of_ble_eq_true rfl) hRl⟩) ⟨wPre_blind, va_recv hK hP (ci := 0) (q0 := 0) rfl rfl, wPre_of hP hK hD⟩ rfl rfl hl.1 rfl (lv_room (Nat.le_of_ble_eq_true rfl)) d_Mo_solve_61 ⟨hRc, hRs⟩) hD hS hA (fun H locs hP hD hS => ?_)
        have hP : va_P D vwCl (moW K h a mErr mLanguages mBounds mSize mGoes mLast mLeft mNext mGroup mFresh mLeader mNumber mRight mEnds mWay mVariable mFactor mLeast mMost mLength mWord mKept mMany mMore u37 mMet mTodo mMay mTries) H := hP
        have hD : va_D A (moW K h a mErr mLanguages mBounds mSize mGoes mLast mLeft mNext mGroup mFresh mLeader mNumber mRight mEnds mWay mVariable mFactor mLeast mMost mLength mWord mKept mMany mMore u37 mMet mTodo mMay mTries) := hD
        refine lv_iconst (v := 0) hx hb d_Mo_solve_64 (by decide) ?_
        refine lv_istore_n (lv' := [(3, .int 0), (2, .int v2), (0, .ref h), (1, .int v1)]) hx hb d_Mo_solve_65 rfl hl (by decide) rfl (fun ls hl => ?_)
        obtain ⟨u38, eu38, hf⟩ := obd hf
        refine w_Mo_solve_66 hx hb hml hts hown hK hRf hRl hRc hRs hA  (fun u38q eu ls H locs hP hD hS hl => ?_) _ _ _ eu38 _ _ _ hP hD hS (show lv_has ls 4 [(3, .int 0), (2, .int v2), (0, .ref h), (1, .int v1)] from lv_sub hl [0, 1, 2, 3] rfl)
        subst eu
        refine lv_iinc (v := v2 + 1) (lv' := [(2, .int (v2 + 1)), (0, .ref h), (1, .int v1)]) hx hb d_Mo_solve_126 hl (k := 0) rfl (by first | rfl | (congr 1)) (by decide) rfl (fun ls hl => ?_)
        refine lv_goto (tgt := 39) hx hb d_Mo_solve_129 (by decide) ?_
        exact ih _ _ _ hf _ _ _ hP hD hS (show lv_has ls 4 [(2, .int (v2 + 1)), (0, .ref h), (1, .int v1)] from lv_sub hl [0, 1, 2] rfl)
def f_Mo_solve_149 (n : Nat) (mSize : Nat → Int32) (mGoes : Nat → Int32) (mLast : Nat → Bool) (mVariable : Nat → Int32) (mTries : Nat → Int32) : Nat → Int32 → (Nat → Int32) → (Nat → Int64) → (Nat → Int64) → Option (Int32 × (Nat → Int32) × (Nat → Int64) × (Nat → Int64))
  | 0, _, _, _, _ => none
  | k + 1, v2, mLength, mWord, mLeads =>
    if 4 ≤ v2 then
      some (v2, mLength, mWord, mLeads)
    else
      ogd (gin v2 4) <|
      ogd (gin v2 4) <|
      ogd (gin v2 4) <|
      ogd (gin v2 4) <|
      if 0 ≤ (mVariable v2.toNatClampNeg) then
        ogd (gin v2 4) <|
        ogd (gin v2 4) <|
        (f_Mo_lead n (mVariable v2.toNatClampNeg) ((upd mLength v2.toNatClampNeg (mTries v2.toNatClampNeg)) v2.toNatClampNeg) mSize mGoes mLast mLeads).bind fun u63 =>
        ogd (gin v2 4) <|
        ogd (gin v2 4) <|
        (f_Mo_firstWord n (mVariable v2.toNatClampNeg) ((upd mLength v2.toNatClampNeg (mTries v2.toNatClampNeg)) v2.toNatClampNeg) mGoes u63).bind fun u66 =>
        ogd (gin v2 4) <|
        f_Mo_solve_149 n mSize mGoes mLast mVariable mTries k (v2 + 1) (upd mLength v2.toNatClampNeg (mTries v2.toNatClampNeg)) (vp_updL (vp_updL mWord v2.toNatClampNeg 0) v2.toNatClampNeg u66) u63
      else
        f_Mo_solve_149 n mSize mGoes mLast mVariable mTries k (v2 + 1) (upd mLength v2.toNatClampNeg (mTries v2.toNatClampNeg)) (vp_updL mWord v2.toNatClampNeg 0) mLeads
set_option maxHeartbeats 4000000 in
set_option maxRecDepth 100000 in
theorem w_Mo_solve_149   (hx : p.tables.exec = Jvm.exec) (hb : c.code = b_Mo_solve) (hml : c.maxLocals = 4) (hts : ∀ w ∈ gW, w.before args s = true) (hown : s.vm.findClass "RegularSolverModel" = some m.cls) (hK : va_K D vwCl (tG K) s) (hRf : 2 ≤ R.frames) (hRl : 50 ≤ R.locals) (hRc : cells ≤ R.cells) (hRs : slots ≤ R.slots) (hA : ∀ q, H0.size ≤ q → A q)  {out : Int32 × (Nat → Int32) × (Nat → Int64) × (Nat → Int64)} (Kx : ∀ (u : Int32 × (Nat → Int32) × (Nat → Int64) × (Nat → Int64)), out = u → ∀ (ls : Array Slot) (H : Heap) (locs : List Loc), va_P D vwCl (moW K h a mErr mLanguages mBounds mSize mGoes mLast mLeft mNext mGroup mFresh mLeader mNumber mRight mEnds mWay mVariable mFactor mLeast mMost u.2.1 u.2.2.1 mKept mMany mMore u.2.2.2 mMet mTodo mMay mTries) H → va_D A (moW K h a mErr mLanguages mBounds mSize mGoes mLast mLeft mNext mGroup mFresh mLeader mNumber mRight mEnds mWay mVariable mFactor mLeast mMost u.2.1 u.2.2.1 mKept mMany mMore u.2.2.2 mMet mTodo mMay mTries) → va_S A H0 H locs → lv_has ls 4 [] → W p l e R s m args below meth c H locs cells slots Q (F0 m 229 ls [])) :
    ∀ (k : Nat) (v2 : Int32) (mLength : Nat → Int32) (mWord : Nat → Int64) (mLeads : Nat → Int64), f_Mo_solve_149 n mSize mGoes mLast mVariable mTries k v2 mLength mWord mLeads = some out → ∀ (ls : Array Slot) (H : Heap) (locs : List Loc), va_P D vwCl (moW K h a mErr mLanguages mBounds mSize mGoes mLast mLeft mNext mGroup mFresh mLeader mNumber mRight mEnds mWay mVariable mFactor mLeast mMost mLength mWord mKept mMany mMore mLeads mMet mTodo mMay mTries) H → va_D A (moW K h a mErr mLanguages mBounds mSize mGoes mLast mLeft mNext mGroup mFresh mLeader mNumber mRight mEnds mWay mVariable mFactor mLeast mMost mLength mWord mKept mMany mMore mLeads mMet mTodo mMay mTries) → va_S A H0 H locs → lv_has ls 4 [(2, .int v2), (0, .ref h)] → W p l e R s m args below meth c H locs cells slots Q (F0 m 149 ls []) := by
  intro k
  induction k with
  | zero => intro _ _ _ _ hf; exact nomatch (show none = some out from hf)
  | succ k ih =>
    intro v2 mLength mWord mLeads hf ls H locs hP hD hS hl
    rw [f_Mo_solve_149] at hf
    refine lv_iload_n hx hb d_Mo_solve_149 rfl (lv_at hl 0 rfl) ?_
    refine lv_iconst (v := 4) hx hb d_Mo_solve_150 (by decide) ?_
    refine lv_icmp_ge (tgt := 229) hx hb d_Mo_solve_151 (by decide) (fun c55 => ?_) (fun c55 => ?_)
    · rw [if_pos c55] at hf
      exact Kx _ (Option.some.inj hf).symm _ _ _ hP hD hS (show lv_has ls 4 [] from lv_sub hl [] rfl)
    · rw [if_neg c55] at hf
      refine lv_aload_n hx hb d_Mo_solve_154 rfl (lv_at hl 1 rfl) ?_
      refine va_get (D := D) (ci := 0) (v := .ref (a 15)) (C := R_Mo) (T := T_Mo) (N := 29) hx hb hts in_Mo hown hK hP 0 rfl rfl 19 (by decide) (hts _ fl_Mo_57) (fun _ h9 => h9) rfl d_Mo_solve_155 ?_
      refine lv_iload_n hx hb d_Mo_solve_158 rfl (lv_at hl 0 rfl) ?_
      refine lv_aload_n hx hb d_Mo_solve_159 rfl (lv_at hl 1 rfl) ?_
      refine va_get (D := D) (ci := 0) (v := .ref (a 23)) (C := R_Mo) (T := T_Mo) (N := 29) hx hb hts in_Mo hown hK hP 0 rfl rfl 28 (by decide) (hts _ fl_Mo_81) (fun _ h9 => h9) rfl d_Mo_solve_160 ?_
      refine lv_iload_n hx hb d_Mo_solve_163 rfl (lv_at hl 0 rfl) ?_
      obtain ⟨g56, hf⟩ := ogi hf
      refine va_iald hx hb hK hP 24 0 rfl rfl (gin_in g56) d_Mo_solve_164 ?_
      obtain ⟨g57, hf⟩ := ogi hf
      refine va_iast hx hb hK hP hD hS 16 0 rfl rfl (gin_in g57) d_Mo_solve_165 (fun H locs hP hD hS => ?_)
      have hP : va_P D vwCl (moW K h a mErr mLanguages mBounds mSize mGoes mLast mLeft mNext mGroup mFresh mLeader mNumber mRight mEnds mWay mVariable mFactor mLeast mMost (upd mLength v2.toNatClampNeg (mTries v2.toNatClampNeg)) mWord mKept mMany mMore mLeads mMet mTodo mMay mTries) H := hP
      have hD : va_D A (moW K h a mErr mLanguages mBounds mSize mGoes mLast mLeft mNext mGroup mFresh mLeader mNumber mRight mEnds mWay mVariable mFactor mLeast mMost (upd mLength v2.toNatClampNeg (mTries v2.toNatClampNeg)) mWord mKept mMany mMore mLeads mMet mTodo mMay mTries) := hD
      refine lv_aload_n hx hb d_Mo_solve_166 rfl (lv_at hl 1 rfl) ?_
      refine va_get (D := D) (ci := 0) (v := .ref (a 16)) (C := R_Mo) (T := T_Mo) (N := 29) hx hb hts in_Mo hown hK hP 0 rfl rfl 20 (by decide) (hts _ fl_Mo_60) (fun _ h9 => h9) rfl d_Mo_solve_167 ?_
      refine lv_iload_n hx hb d_Mo_solve_170 rfl (lv_at hl 0 rfl) ?_
      refine lv_lconst (v := 0) hx hb d_Mo_solve_171 (by decide) ?_
      obtain ⟨g58, hf⟩ := ogi hf
      refine va_last hx hb hK hP hD hS 17 1 rfl rfl (gin_in g58) d_Mo_solve_172 (fun H locs hP hD hS => ?_)
      have hP : va_P D vwCl (moW K h a mErr mLanguages mBounds mSize mGoes mLast mLeft mNext mGroup mFresh mLeader mNumber mRight mEnds mWay mVariable mFactor mLeast mMost (upd mLength v2.toNatClampNeg (mTries v2.toNatClampNeg)) (vp_updL mWord v2.toNatClampNeg 0) mKept mMany mMore mLeads mMet mTodo mMay mTries) H := hP
      have hD : va_D A (moW K h a mErr mLanguages mBounds mSize mGoes mLast mLeft mNext mGroup mFresh mLeader mNumber mRight mEnds mWay mVariable mFactor mLeast mMost (upd mLength v2.toNatClampNeg (mTries v2.toNatClampNeg)) (vp_updL mWord v2.toNatClampNeg 0) mKept mMany mMore mLeads mMet mTodo mMay mTries) := hD
      refine lv_aload_n hx hb d_Mo_solve_173 rfl (lv_at hl 1 rfl) ?_
      refine va_get (D := D) (ci := 0) (v := .ref (a 11)) (C := R_Mo) (T := T_Mo) (N := 29) hx hb hts in_Mo hown hK hP 0 rfl rfl 15 (by decide) (hts _ fl_Mo_45) (fun _ h9 => h9) rfl d_Mo_solve_174 ?_
      refine lv_iload_n hx hb d_Mo_solve_177 rfl (lv_at hl 0 rfl) ?_
      obtain ⟨g59, hf⟩ := ogi hf
      refine va_iald hx hb hK hP 12 0 rfl rfl (gin_in g59) d_Mo_solve_178 ?_
      refine lv_if_ge (tgt := 185) hx hb d_Mo_solve_179 (by decide) (fun c60 => ?_) (fun c60 => ?_)
      · rw [if_pos c60] at hf
        refine lv_aload_n hx hb d_Mo_solve_185 rfl (lv_at hl 1 rfl) ?_
        refine lv_aload_n hx hb d_Mo_solve_186 rfl (lv_at hl 1 rfl) ?_
        refine va_get (D := D) (ci := 0) (v := .ref (a 11)) (C := R_Mo) (T := T_Mo) (N := 29) hx hb hts in_Mo hown hK hP 0 rfl rfl 15 (by decide) (hts _ fl_Mo_45) (fun _ h9 => h9) rfl d_Mo_solve_187 ?_
        refine lv_iload_n hx hb d_Mo_solve_190 rfl (lv_at hl 0 rfl) ?_
        obtain ⟨g61, hf⟩ := ogi hf
        refine va_iald hx hb hK hP 12 0 rfl rfl (gin_in g61) d_Mo_solve_191 ?_
        refine lv_aload_n hx hb d_Mo_solve_192 rfl (lv_at hl 1 rfl) ?_
        refine va_get (D := D) (ci := 0) (v := .ref (a 15)) (C := R_Mo) (T := T_Mo) (N := 29) hx hb hts in_Mo hown hK hP 0 rfl rfl 19 (by decide) (hts _ fl_Mo_57) (fun _ h9 => h9) rfl d_Mo_solve_193 ?_
        refine lv_iload_n hx hb d_Mo_solve_196 rfl (lv_at hl 0 rfl) ?_
        obtain ⟨g62, hf⟩ := ogi hf
        refine va_iald hx hb hK hP 16 0 rfl rfl (gin_in g62) d_Mo_solve_197 ?_
        obtain ⟨u63, eu63, hf⟩ := obd hf
        refine w_call (va_runV (As := [.int (mVariable v2.toNatClampNeg), .int ((upd mLength v2.toNatClampNeg (mTries v2.toNatClampNeg)) v2.toNatClampNeg)]) (rest := []) ⟨hx, hb, hml, hown, hts⟩ (c_Mo_lead l H.size eu63) (gV 2 hts cd_Mo_lead ml_Mo_154 im_Mo_lead se_Mo_lead ini_Mo rfl rfl pd_Mo_lead ⟨Nat.le_trans (Nat.le_of_ble_eq_true rfl) hRf, Nat.le_trans (Nat.le_of_ble_eq_true rfl) hRl⟩) ⟨wPre_blind, va_recv hK hP (ci := 0) (q0 := 0) rfl rfl, wPre_of hP hK hD⟩ rfl rfl hl.1 rfl (lv_room (Nat.le_of_ble_eq_true rfl)) d_Mo_solve_198 ⟨hRc, hRs⟩) hD hS hA (fun H locs hP hD hS => ?_)
        have hP : va_P D vwCl (moW K h a mErr mLanguages mBounds mSize mGoes mLast mLeft mNext mGroup mFresh mLeader mNumber mRight mEnds mWay mVariable mFactor mLeast mMost (upd mLength v2.toNatClampNeg (mTries v2.toNatClampNeg)) (vp_updL mWord v2.toNatClampNeg 0) mKept mMany mMore u63 mMet mTodo mMay mTries) H := hP
        have hD : va_D A (moW K h a mErr mLanguages mBounds mSize mGoes mLast mLeft mNext mGroup mFresh mLeader mNumber mRight mEnds mWay mVariable mFactor mLeast mMost (upd mLength v2.toNatClampNeg (mTries v2.toNatClampNeg)) (vp_updL mWord v2.toNatClampNeg 0) mKept mMany mMore u63 mMet mTodo mMay mTries) := hD
        refine lv_aload_n hx hb d_Mo_solve_201 rfl (lv_at hl 1 rfl) ?_
        refine va_get (D := D) (ci := 0) (v := .ref (a 16)) (C := R_Mo) (T := T_Mo) (N := 29) hx hb hts in_Mo hown hK hP 0 rfl rfl 20 (by decide) (hts _ fl_Mo_60) (fun _ h9 => h9) rfl d_Mo_solve_202 ?_
        refine lv_iload_n hx hb d_Mo_solve_205 rfl (lv_at hl 0 rfl) ?_
        refine lv_aload_n hx hb d_Mo_solve_206 rfl (lv_at hl 1 rfl) ?_
        refine lv_aload_n hx hb d_Mo_solve_207 rfl (lv_at hl 1 rfl) ?_
        refine va_get (D := D) (ci := 0) (v := .ref (a 11)) (C := R_Mo) (T := T_Mo) (N := 29) hx hb hts in_Mo hown hK hP 0 rfl rfl 15 (by decide) (hts _ fl_Mo_45) (fun _ h9 => h9) rfl d_Mo_solve_208 ?_
        refine lv_iload_n hx hb d_Mo_solve_211 rfl (lv_at hl 0 rfl) ?_
        obtain ⟨g64, hf⟩ := ogi hf
        refine va_iald hx hb hK hP 12 0 rfl rfl (gin_in g64) d_Mo_solve_212 ?_
        refine lv_aload_n hx hb d_Mo_solve_213 rfl (lv_at hl 1 rfl) ?_
        refine va_get (D := D) (ci := 0) (v := .ref (a 15)) (C := R_Mo) (T := T_Mo) (N := 29) hx hb hts in_Mo hown hK hP 0 rfl rfl 19 (by decide) (hts _ fl_Mo_57) (fun _ h9 => h9) rfl d_Mo_solve_214 ?_
        refine lv_iload_n hx hb d_Mo_solve_217 rfl (lv_at hl 0 rfl) ?_
        obtain ⟨g65, hf⟩ := ogi hf
        refine va_iald hx hb hK hP 16 0 rfl rfl (gin_in g65) d_Mo_solve_218 ?_
        obtain ⟨u66, eu66, hf⟩ := obd hf
        refine p_call (W.runV (As := [.int (mVariable v2.toNatClampNeg), .int ((upd mLength v2.toNatClampNeg (mTries v2.toNatClampNeg)) v2.toNatClampNeg)]) (rest := [.int v2, .ref (a 16)]) ⟨hx, hb, hml, hown, hts⟩ (c_Mo_firstWord l eu66) (gV 2 hts cd_Mo_firstWord ml_Mo_158 im_Mo_firstWord se_Mo_firstWord ini_Mo rfl rfl pd_Mo_firstWord ⟨Nat.le_trans (Nat.le_of_ble_eq_true rfl) hRf, Nat.le_trans (Nat.le_of_ble_eq_true rfl) hRl⟩) ⟨pPre_blind, va_recv hK hP (ci := 0) (q0 := 0) rfl rfl, pPre_of hP hK⟩ rfl rfl hl.1 rfl (lv_room (Nat.le_of_ble_eq_true rfl)) d_Mo_solve_219 ⟨hRc, hRs⟩) ?_
        obtain ⟨g67, hf⟩ := ogi hf
        refine va_last hx hb hK hP hD hS 17 1 rfl rfl (gin_in g67) d_Mo_solve_222 (fun H locs hP hD hS => ?_)
        have hP : va_P D vwCl (moW K h a mErr mLanguages mBounds mSize mGoes mLast mLeft mNext mGroup mFresh mLeader mNumber mRight mEnds mWay mVariable mFactor mLeast mMost (upd mLength v2.toNatClampNeg (mTries v2.toNatClampNeg)) (vp_updL (vp_updL mWord v2.toNatClampNeg 0) v2.toNatClampNeg u66) mKept mMany mMore u63 mMet mTodo mMay mTries) H := hP
        have hD : va_D A (moW K h a mErr mLanguages mBounds mSize mGoes mLast mLeft mNext mGroup mFresh mLeader mNumber mRight mEnds mWay mVariable mFactor mLeast mMost (upd mLength v2.toNatClampNeg (mTries v2.toNatClampNeg)) (vp_updL (vp_updL mWord v2.toNatClampNeg 0) v2.toNatClampNeg u66) mKept mMany mMore u63 mMet mTodo mMay mTries) := hD
        refine lv_iinc (v := v2 + 1) (lv' := [(2, .int (v2 + 1)), (0, .ref h)]) hx hb d_Mo_solve_223 hl (k := 0) rfl (by first | rfl | (congr 1)) (by decide) rfl (fun ls hl => ?_)
        refine lv_goto (tgt := 149) hx hb d_Mo_solve_226 (by decide) ?_
        exact ih _ _ _ _ hf _ _ _ hP hD hS (show lv_has ls 4 [(2, .int (v2 + 1)), (0, .ref h)] from lv_sub hl [0, 1] rfl)
      · rw [if_neg c60] at hf
        refine lv_goto (tgt := 223) hx hb d_Mo_solve_182 (by decide) ?_
        refine lv_iinc (v := v2 + 1) (lv' := [(2, .int (v2 + 1)), (0, .ref h)]) hx hb d_Mo_solve_223 hl (k := 0) rfl (by first | rfl | (congr 1)) (by decide) rfl (fun ls hl => ?_)
        refine lv_goto (tgt := 149) hx hb d_Mo_solve_226 (by decide) ?_
        exact ih _ _ _ _ hf _ _ _ hP hD hS (show lv_has ls 4 [(2, .int (v2 + 1)), (0, .ref h)] from lv_sub hl [0, 1] rfl)
def f_Mo_solve (n : Nat) (p0 : Int32) (mBounds : Int32) (mSize : Nat → Int32) (mGoes : Nat → Int32) (mLast : Nat → Bool) (mVariable : Nat → Int32) (mFactor : Nat → Int32) (mLeast : Nat → Int32) (mMost : Nat → Int32) (mLength : Nat → Int32) (mWord : Nat → Int64) (mKept : Bool) (mLeads : Nat → Int64) (mMay : Nat → Bool) (mTries : Nat → Int32) : Option (Bool × Int32 × (Nat → Int32) × (Nat → Int64) × Bool × (Nat → Int64) × (Nat → Bool) × (Nat → Int32)) :=
  (f_Mo_in n p0.toInt64 0 31).bind fun u1 =>
  if u1 = true then
    (f_Mo_fails n false 1 0).bind fun u3 =>
    if u3.1 = true then
      some (false, u3.2, mLength, mWord, mKept, mLeads, mMay, mTries)
    else
      (f_Mo_solve_39 n p0 mSize mGoes mLast mVariable n 0 mLeads mMay).bind fun u39 =>
      (f_Mo_found n p0 mBounds mFactor mLeast mMost u39.2.2 mTries).bind fun u40 =>
      if u40.1 = true then
        (f_Mo_solve_149 n mSize mGoes mLast mVariable u40.2 n 0 mLength mWord u39.2.1).bind fun u68 =>
        some (true, u3.2, u68.2.1, u68.2.2.1, true, u68.2.2.2, u39.2.2, u40.2)
      else
        some (false, u3.2, mLength, mWord, false, u39.2.1, u39.2.2, u40.2)
  else
    (f_Mo_fails n true 1 0).bind fun u69 =>
    if u69.1 = true then
      some (false, u69.2, mLength, mWord, mKept, mLeads, mMay, mTries)
    else
      (f_Mo_solve_39 n p0 mSize mGoes mLast mVariable n 0 mLeads mMay).bind fun u71 =>
      (f_Mo_found n p0 mBounds mFactor mLeast mMost u71.2.2 mTries).bind fun u72 =>
      if u72.1 = true then
        (f_Mo_solve_149 n mSize mGoes mLast mVariable u72.2 n 0 mLength mWord u71.2.1).bind fun u74 =>
        some (true, u69.2, u74.2.1, u74.2.2.1, true, u74.2.2.2, u71.2.2, u72.2)
      else
        some (false, u69.2, mLength, mWord, false, u71.2.1, u71.2.2, u72.2)
set_option maxHeartbeats 4000000 in
set_option maxRecDepth 100000 in
theorem w_Mo_solve  {p0 : Int32}  (hx : p.tables.exec = Jvm.exec) (hb : c.code = b_Mo_solve) (hml : c.maxLocals = 4) (hts : ∀ w ∈ gW, w.before args s = true) (hown : s.vm.findClass "RegularSolverModel" = some m.cls) (hK : va_K D vwCl (tG K) s) (hRf : 2 ≤ R.frames) (hRl : 50 ≤ R.locals) (hRc : cells ≤ R.cells) (hRs : slots ≤ R.slots) (hA : ∀ q, H0.size ≤ q → A q) {out : Bool × Int32 × (Nat → Int32) × (Nat → Int64) × Bool × (Nat → Int64) × (Nat → Bool) × (Nat → Int32)} (Kr : ∀ (r : Bool × Int32 × (Nat → Int32) × (Nat → Int64) × Bool × (Nat → Int64) × (Nat → Bool) × (Nat → Int32)), out = r → ∀ (pc : Nat) (ls : Array Slot) (H : Heap) (locs : List Loc), decode b_Mo_solve pc = .ok (.ireturn, 1) → va_P D vwCl (moW K h a r.2.1 mLanguages mBounds mSize mGoes mLast mLeft mNext mGroup mFresh mLeader mNumber mRight mEnds mWay mVariable mFactor mLeast mMost r.2.2.1 r.2.2.2.1 r.2.2.2.2.1 mMany mMore r.2.2.2.2.2.1 mMet mTodo r.2.2.2.2.2.2.1 r.2.2.2.2.2.2.2) H → va_D A (moW K h a r.2.1 mLanguages mBounds mSize mGoes mLast mLeft mNext mGroup mFresh mLeader mNumber mRight mEnds mWay mVariable mFactor mLeast mMost r.2.2.1 r.2.2.2.1 r.2.2.2.2.1 mMany mMore r.2.2.2.2.2.1 mMet mTodo r.2.2.2.2.2.2.1 r.2.2.2.2.2.2.2) → va_S A H0 H locs → W p l e R s m args below meth c H locs cells slots Q (F0 m pc ls [.int (bI r.1)])) (hf : f_Mo_solve n p0 mBounds mSize mGoes mLast mVariable mFactor mLeast mMost mLength mWord mKept mLeads mMay mTries = some out) (ls : Array Slot) (hP : va_P D vwCl (moW K h a mErr mLanguages mBounds mSize mGoes mLast mLeft mNext mGroup mFresh mLeader mNumber mRight mEnds mWay mVariable mFactor mLeast mMost mLength mWord mKept mMany mMore mLeads mMet mTodo mMay mTries) H) (hD : va_D A (moW K h a mErr mLanguages mBounds mSize mGoes mLast mLeft mNext mGroup mFresh mLeader mNumber mRight mEnds mWay mVariable mFactor mLeast mMost mLength mWord mKept mMany mMore mLeads mMet mTodo mMay mTries)) (hS : va_S A H0 H locs) (hl : lv_has ls 4 [(0, .ref h), (1, .int p0)]) : W p l e R s m args below meth c H locs cells slots Q (F0 m 0 ls []) := by
  unfold f_Mo_solve at hf
  refine lv_aload_n hx hb d_Mo_solve_0 rfl (lv_at hl 0 rfl) ?_
  refine lv_iconst (v := 0) hx hb d_Mo_solve_1 (by decide) ?_
  refine va_put (D := D) (ci := 0) (v := .int 0) (ty := .int) (C := R_Mo) (T := T_Mo) (N := 29) hx hb hts in_Mo t_Mo t_Mo_ok n_Mo hown hK hP hD hS 0 rfl rfl 0 (by decide) (hts _ fl_Mo_84) (fun _ h9 => h9) rfl (by decide +kernel) rfl rfl (Nat.le_of_ble_eq_true rfl) d_Mo_solve_2 (fun H locs hP hD hS => ?_)
  have hP : va_P D vwCl (moW K h a 0 mLanguages mBounds mSize mGoes mLast mLeft mNext mGroup mFresh mLeader mNumber mRight mEnds mWay mVariable mFactor mLeast mMost mLength mWord mKept mMany mMore mLeads mMet mTodo mMay mTries) H := hP
  have hD : va_D A (moW K h a 0 mLanguages mBounds mSize mGoes mLast mLeft mNext mGroup mFresh mLeader mNumber mRight mEnds mWay mVariable mFactor mLeast mMost mLength mWord mKept mMany mMore mLeads mMet mTodo mMay mTries) := hD
  refine lv_aload_n hx hb d_Mo_solve_5 rfl (lv_at hl 0 rfl) ?_
  refine lv_iload_n hx hb d_Mo_solve_6 rfl (lv_at hl 1 rfl) ?_
  refine lv_i2l (v := p0.toInt64) hx hb d_Mo_solve_7 rfl ?_
  refine lv_lconst (v := 0) hx hb d_Mo_solve_8 (by decide) ?_
  refine lv_ldc2 (v := 31) hx hb hown (hts (.constantLong "RegularSolverModel" 150 31) (by decide +kernel)) d_Mo_solve_9 ?_
  obtain ⟨u1, eu1, hf⟩ := obd hf
  refine p_call (W.runS (As := [.long p0.toInt64, .long 0, .long 31]) (rest := [.ref h]) ⟨hx, hb, hml, hown, hts⟩ (c_Mo_in l eu1) (gS 3 hts cd_Mo_in ml_Mo_91 st_Mo_in ini_Mo rfl rfl pd_Mo_in ⟨Nat.le_trans (Nat.le_of_ble_eq_true rfl) hRf, Nat.le_trans (Nat.le_of_ble_eq_true rfl) hRl⟩) ⟨pPre_blind, pPre_of hP hK⟩ rfl rfl hl.1 rfl (lv_room (Nat.le_of_ble_eq_true rfl)) d_Mo_solve_12 ⟨hRc, hRs⟩) ?_
  refine bz_ne (tgt := 22) hx hb d_Mo_solve_15 (by decide) (fun c2 => ?_) (fun c2 => ?_)
  · rw [if_pos c2] at hf
    refine lv_iconst (v := 0) hx hb d_Mo_solve_22 (by decide) ?_
    refine lv_iconst (v := 1) hx hb d_Mo_solve_23 (by decide) ?_
    obtain ⟨u3, eu3, hf⟩ := obd hf
    refine w_call (va_runV (As := [.int (bI false), .int 1]) (rest := []) ⟨hx, hb, hml, hown, hts⟩ (c_Mo_fails l H.size eu3) (gV 2 hts cd_Mo_fails ml_Mo_124 im_Mo_fails se_Mo_fails ini_Mo rfl rfl pd_Mo_fails ⟨Nat.le_trans (Nat.le_of_ble_eq_true rfl) hRf, Nat.le_trans (Nat.le_of_ble_eq_true rfl) hRl⟩) ⟨wPre_blind, va_recv hK hP (ci := 0) (q0 := 0) rfl rfl, wPre_of hP hK hD⟩ rfl rfl hl.1 rfl (lv_room (Nat.le_of_ble_eq_true rfl)) d_Mo_solve_24 ⟨hRc, hRs⟩) hD hS hA (fun H locs hP hD hS => ?_)
    have hP : va_P D vwCl (moW K h a u3.2 mLanguages mBounds mSize mGoes mLast mLeft mNext mGroup mFresh mLeader mNumber mRight mEnds mWay mVariable mFactor mLeast mMost mLength mWord mKept mMany mMore mLeads mMet mTodo mMay mTries) H := hP
    have hD : va_D A (moW K h a u3.2 mLanguages mBounds mSize mGoes mLast mLeft mNext mGroup mFresh mLeader mNumber mRight mEnds mWay mVariable mFactor mLeast mMost mLength mWord mKept mMany mMore mLeads mMet mTodo mMay mTries) := hD
    refine bz_eq (tgt := 32) hx hb d_Mo_solve_27 (by decide) (fun c4 => ?_) (fun c4 => ?_)
    · rw [if_neg c4] at hf
      refine lv_aload_n hx hb d_Mo_solve_32 rfl (lv_at hl 0 rfl) ?_
      refine lv_iconst (v := 0) hx hb d_Mo_solve_33 (by decide) ?_
      refine va_put (D := D) (ci := 0) (v := .int (bI false)) (ty := .boolean) (C := R_Mo) (T := T_Mo) (N := 29) hx hb hts in_Mo t_Mo t_Mo_ok n_Mo hown hK hP hD hS 0 rfl rfl 21 (by decide) (hts _ fl_Mo_169) (fun _ h9 => h9) rfl (by decide +kernel) (bI_nar _) (bI_fit _) (Nat.le_of_ble_eq_true rfl) d_Mo_solve_34 (fun H locs hP hD hS => ?_)
      have hP : va_P D vwCl (moW K h a u3.2 mLanguages mBounds mSize mGoes mLast mLeft mNext mGroup mFresh mLeader mNumber mRight mEnds mWay mVariable mFactor mLeast mMost mLength mWord false mMany mMore mLeads mMet mTodo mMay mTries) H := hP
      have hD : va_D A (moW K h a u3.2 mLanguages mBounds mSize mGoes mLast mLeft mNext mGroup mFresh mLeader mNumber mRight mEnds mWay mVariable mFactor mLeast mMost mLength mWord false mMany mMore mLeads mMet mTodo mMay mTries) := hD
      refine lv_iconst (v := 0) hx hb d_Mo_solve_37 (by decide) ?_
      refine lv_istore_n (lv' := [(2, .int 0), (0, .ref h), (1, .int p0)]) hx hb d_Mo_solve_38 rfl hl (by decide) rfl (fun ls hl => ?_)
      obtain ⟨u39, eu39, hf⟩ := obd hf
      refine w_Mo_solve_39 hx hb hml hts hown hK hRf hRl hRc hRs hA  (fun u39q eu ls H locs hP hD hS hl => ?_) _ _ _ _ eu39 _ _ _ hP hD hS (show lv_has ls 4 [(2, .int 0), (0, .ref h), (1, .int p0)] from lv_sub hl [0, 1, 2] rfl)
      subst eu
      refine lv_aload_n hx hb d_Mo_solve_132 rfl (lv_at hl 0 rfl) ?_
      refine lv_iload_n hx hb d_Mo_solve_133 rfl (lv_at hl 1 rfl) ?_
      obtain ⟨u40, eu40, hf⟩ := obd hf
      refine w_call (va_runV (As := [.int p0]) (rest := []) ⟨hx, hb, hml, hown, hts⟩ (c_Mo_found l H.size eu40) (gV 1 hts cd_Mo_found ml_Mo_173 im_Mo_found se_Mo_found ini_Mo rfl rfl pd_Mo_found ⟨Nat.le_trans (Nat.le_of_ble_eq_true rfl) hRf, Nat.le_trans (Nat.le_of_ble_eq_true rfl) hRl⟩) ⟨wPre_blind, va_recv hK hP (ci := 0) (q0 := 0) rfl rfl, wPre_of hP hK hD⟩ rfl rfl hl.1 rfl (lv_room (Nat.le_of_ble_eq_true rfl)) d_Mo_solve_134 ⟨hRc, hRs⟩) hD hS hA (fun H locs hP hD hS => ?_)
      have hP : va_P D vwCl (moW K h a u3.2 mLanguages mBounds mSize mGoes mLast mLeft mNext mGroup mFresh mLeader mNumber mRight mEnds mWay mVariable mFactor mLeast mMost mLength mWord false mMany mMore u39.2.1 mMet mTodo u39.2.2 u40.2) H := hP
      have hD : va_D A (moW K h a u3.2 mLanguages mBounds mSize mGoes mLast mLeft mNext mGroup mFresh mLeader mNumber mRight mEnds mWay mVariable mFactor mLeast mMost mLength mWord false mMany mMore u39.2.1 mMet mTodo u39.2.2 u40.2) := hD
      refine bz_ne (tgt := 142) hx hb d_Mo_solve_137 (by decide) (fun c41 => ?_) (fun c41 => ?_)
      · rw [if_pos c41] at hf
        refine lv_aload_n hx hb d_Mo_solve_142 rfl (lv_at hl 0 rfl) ?_
        refine lv_iconst (v := 1) hx hb d_Mo_solve_143 (by decide) ?_
        refine va_put (D := D) (ci := 0) (v := .int (bI true)) (ty := .boolean) (C := R_Mo) (T := T_Mo) (N := 29) hx hb hts in_Mo t_Mo t_Mo_ok n_Mo hown hK hP hD hS 0 rfl rfl 21 (by decide) (hts _ fl_Mo_169) (fun _ h9 => h9) rfl (by decide +kernel) (bI_nar _) (bI_fit _) (Nat.le_of_ble_eq_true rfl) d_Mo_solve_144 (fun H locs hP hD hS => ?_)
        have hP : va_P D vwCl (moW K h a u3.2 mLanguages mBounds mSize mGoes mLast mLeft mNext mGroup mFresh mLeader mNumber mRight mEnds mWay mVariable mFactor mLeast mMost mLength mWord true mMany mMore u39.2.1 mMet mTodo u39.2.2 u40.2) H := hP
        have hD : va_D A (moW K h a u3.2 mLanguages mBounds mSize mGoes mLast mLeft mNext mGroup mFresh mLeader mNumber mRight mEnds mWay mVariable mFactor mLeast mMost mLength mWord true mMany mMore u39.2.1 mMet mTodo u39.2.2 u40.2) := hD
        refine lv_iconst (v := 0) hx hb d_Mo_solve_147 (by decide) ?_
        refine lv_istore_n (lv' := [(2, .int 0), (0, .ref h), (1, .int p0)]) hx hb d_Mo_solve_148 rfl hl (by decide) rfl (fun ls hl => ?_)
        obtain ⟨u68, eu68, hf⟩ := obd hf
        refine w_Mo_solve_149 hx hb hml hts hown hK hRf hRl hRc hRs hA  (fun u68q eu ls H locs hP hD hS hl => ?_) _ _ _ _ _ eu68 _ _ _ hP hD hS (show lv_has ls 4 [(2, .int 0), (0, .ref h)] from lv_sub hl [0, 1] rfl)
        subst eu
        refine lv_iconst (v := 1) hx hb d_Mo_solve_229 (by decide) ?_
        exact Kr _ (Option.some.inj hf).symm _ _ _ _ d_Mo_solve_230 hP hD hS
      · rw [if_neg c41] at hf
        refine lv_iconst (v := 0) hx hb d_Mo_solve_140 (by decide) ?_
        exact Kr _ (Option.some.inj hf).symm _ _ _ _ d_Mo_solve_141 hP hD hS
    · rw [if_pos c4] at hf
      refine lv_iconst (v := 0) hx hb d_Mo_solve_30 (by decide) ?_
      exact Kr _ (Option.some.inj hf).symm _ _ _ _ d_Mo_solve_31 hP hD hS
  · rw [if_neg c2] at hf
    refine lv_iconst (v := 1) hx hb d_Mo_solve_18 (by decide) ?_
    refine lv_goto (tgt := 23) hx hb d_Mo_solve_19 (by decide) ?_
    refine lv_iconst (v := 1) hx hb d_Mo_solve_23 (by decide) ?_
    obtain ⟨u69, eu69, hf⟩ := obd hf
    refine w_call (va_runV (As := [.int (bI true), .int 1]) (rest := []) ⟨hx, hb, hml, hown, hts⟩ (c_Mo_fails l H.size eu69) (gV 2 hts cd_Mo_fails ml_Mo_124 im_Mo_fails se_Mo_fails ini_Mo rfl rfl pd_Mo_fails ⟨Nat.le_trans (Nat.le_of_ble_eq_true rfl) hRf, Nat.le_trans (Nat.le_of_ble_eq_true rfl) hRl⟩) ⟨wPre_blind, va_recv hK hP (ci := 0) (q0 := 0) rfl rfl, wPre_of hP hK hD⟩ rfl rfl hl.1 rfl (lv_room (Nat.le_of_ble_eq_true rfl)) d_Mo_solve_24 ⟨hRc, hRs⟩) hD hS hA (fun H locs hP hD hS => ?_)
    have hP : va_P D vwCl (moW K h a u69.2 mLanguages mBounds mSize mGoes mLast mLeft mNext mGroup mFresh mLeader mNumber mRight mEnds mWay mVariable mFactor mLeast mMost mLength mWord mKept mMany mMore mLeads mMet mTodo mMay mTries) H := hP
    have hD : va_D A (moW K h a u69.2 mLanguages mBounds mSize mGoes mLast mLeft mNext mGroup mFresh mLeader mNumber mRight mEnds mWay mVariable mFactor mLeast mMost mLength mWord mKept mMany mMore mLeads mMet mTodo mMay mTries) := hD
    refine bz_eq (tgt := 32) hx hb d_Mo_solve_27 (by decide) (fun c70 => ?_) (fun c70 => ?_)
    · rw [if_neg c70] at hf
      refine lv_aload_n hx hb d_Mo_solve_32 rfl (lv_at hl 0 rfl) ?_
      refine lv_iconst (v := 0) hx hb d_Mo_solve_33 (by decide) ?_
      refine va_put (D := D) (ci := 0) (v := .int (bI false)) (ty := .boolean) (C := R_Mo) (T := T_Mo) (N := 29) hx hb hts in_Mo t_Mo t_Mo_ok n_Mo hown hK hP hD hS 0 rfl rfl 21 (by decide) (hts _ fl_Mo_169) (fun _ h9 => h9) rfl (by decide +kernel) (bI_nar _) (bI_fit _) (Nat.le_of_ble_eq_true rfl) d_Mo_solve_34 (fun H locs hP hD hS => ?_)
      have hP : va_P D vwCl (moW K h a u69.2 mLanguages mBounds mSize mGoes mLast mLeft mNext mGroup mFresh mLeader mNumber mRight mEnds mWay mVariable mFactor mLeast mMost mLength mWord false mMany mMore mLeads mMet mTodo mMay mTries) H := hP
      have hD : va_D A (moW K h a u69.2 mLanguages mBounds mSize mGoes mLast mLeft mNext mGroup mFresh mLeader mNumber mRight mEnds mWay mVariable mFactor mLeast mMost mLength mWord false mMany mMore mLeads mMet mTodo mMay mTries) := hD
      refine lv_iconst (v := 0) hx hb d_Mo_solve_37 (by decide) ?_
      refine lv_istore_n (lv' := [(2, .int 0), (0, .ref h), (1, .int p0)]) hx hb d_Mo_solve_38 rfl hl (by decide) rfl (fun ls hl => ?_)
      obtain ⟨u71, eu71, hf⟩ := obd hf
      refine w_Mo_solve_39 hx hb hml hts hown hK hRf hRl hRc hRs hA  (fun u71q eu ls H locs hP hD hS hl => ?_) _ _ _ _ eu71 _ _ _ hP hD hS (show lv_has ls 4 [(2, .int 0), (0, .ref h), (1, .int p0)] from lv_sub hl [0, 1, 2] rfl)
      subst eu
      refine lv_aload_n hx hb d_Mo_solve_132 rfl (lv_at hl 0 rfl) ?_
      refine lv_iload_n hx hb d_Mo_solve_133 rfl (lv_at hl 1 rfl) ?_
      obtain ⟨u72, eu72, hf⟩ := obd hf
      refine w_call (va_runV (As := [.int p0]) (rest := []) ⟨hx, hb, hml, hown, hts⟩ (c_Mo_found l H.size eu72) (gV 1 hts cd_Mo_found ml_Mo_173 im_Mo_found se_Mo_found ini_Mo rfl rfl pd_Mo_found ⟨Nat.le_trans (Nat.le_of_ble_eq_true rfl) hRf, Nat.le_trans (Nat.le_of_ble_eq_true rfl) hRl⟩) ⟨wPre_blind, va_recv hK hP (ci := 0) (q0 := 0) rfl rfl, wPre_of hP hK hD⟩ rfl rfl hl.1 rfl (lv_room (Nat.le_of_ble_eq_true rfl)) d_Mo_solve_134 ⟨hRc, hRs⟩) hD hS hA (fun H locs hP hD hS => ?_)
      have hP : va_P D vwCl (moW K h a u69.2 mLanguages mBounds mSize mGoes mLast mLeft mNext mGroup mFresh mLeader mNumber mRight mEnds mWay mVariable mFactor mLeast mMost mLength mWord false mMany mMore u71.2.1 mMet mTodo u71.2.2 u72.2) H := hP
      have hD : va_D A (moW K h a u69.2 mLanguages mBounds mSize mGoes mLast mLeft mNext mGroup mFresh mLeader mNumber mRight mEnds mWay mVariable mFactor mLeast mMost mLength mWord false mMany mMore u71.2.1 mMet mTodo u71.2.2 u72.2) := hD
      refine bz_ne (tgt := 142) hx hb d_Mo_solve_137 (by decide) (fun c73 => ?_) (fun c73 => ?_)
      · rw [if_pos c73] at hf
        refine lv_aload_n hx hb d_Mo_solve_142 rfl (lv_at hl 0 rfl) ?_
        refine lv_iconst (v := 1) hx hb d_Mo_solve_143 (by decide) ?_
        refine va_put (D := D) (ci := 0) (v := .int (bI true)) (ty := .boolean) (C := R_Mo) (T := T_Mo) (N := 29) hx hb hts in_Mo t_Mo t_Mo_ok n_Mo hown hK hP hD hS 0 rfl rfl 21 (by decide) (hts _ fl_Mo_169) (fun _ h9 => h9) rfl (by decide +kernel) (bI_nar _) (bI_fit _) (Nat.le_of_ble_eq_true rfl) d_Mo_solve_144 (fun H locs hP hD hS => ?_)
        have hP : va_P D vwCl (moW K h a u69.2 mLanguages mBounds mSize mGoes mLast mLeft mNext mGroup mFresh mLeader mNumber mRight mEnds mWay mVariable mFactor mLeast mMost mLength mWord true mMany mMore u71.2.1 mMet mTodo u71.2.2 u72.2) H := hP
        have hD : va_D A (moW K h a u69.2 mLanguages mBounds mSize mGoes mLast mLeft mNext mGroup mFresh mLeader mNumber mRight mEnds mWay mVariable mFactor mLeast mMost mLength mWord true mMany mMore u71.2.1 mMet mTodo u71.2.2 u72.2) := hD
        refine lv_iconst (v := 0) hx hb d_Mo_solve_147 (by decide) ?_
        refine lv_istore_n (lv' := [(2, .int 0), (0, .ref h), (1, .int p0)]) hx hb d_Mo_solve_148 rfl hl (by decide) rfl (fun ls hl => ?_)
        obtain ⟨u74, eu74, hf⟩ := obd hf
        refine w_Mo_solve_149 hx hb hml hts hown hK hRf hRl hRc hRs hA  (fun u74q eu ls H locs hP hD hS hl => ?_) _ _ _ _ _ eu74 _ _ _ hP hD hS (show lv_has ls 4 [(2, .int 0), (0, .ref h)] from lv_sub hl [0, 1] rfl)
        subst eu
        refine lv_iconst (v := 1) hx hb d_Mo_solve_229 (by decide) ?_
        exact Kr _ (Option.some.inj hf).symm _ _ _ _ d_Mo_solve_230 hP hD hS
      · rw [if_neg c73] at hf
        refine lv_iconst (v := 0) hx hb d_Mo_solve_140 (by decide) ?_
        exact Kr _ (Option.some.inj hf).symm _ _ _ _ d_Mo_solve_141 hP hD hS
    · rw [if_pos c70] at hf
      refine lv_iconst (v := 0) hx hb d_Mo_solve_30 (by decide) ?_
      exact Kr _ (Option.some.inj hf).symm _ _ _ _ d_Mo_solve_31 hP hD hS
set_option maxHeartbeats 4000000 in
set_option maxRecDepth 100000 in
theorem c_Mo_solve (l : Launch)  {p0 : Int32}  {r : Bool × Int32 × (Nat → Int32) × (Nat → Int64) × Bool × (Nat → Int64) × (Nat → Bool) × (Nat → Int32)} (sz : Nat) (hf : f_Mo_solve n p0 mBounds mSize mGoes mLast mVariable mFactor mLeast mMost mLength mWord mKept mLeads mMay mTries = some r) : Met l y_Mo_solve w0_Mo_solve ({ frames := 2, cells := 0, slots := 0, locals := 50 }) (wPre D K [.ref h, .int p0] (moW K h a mErr mLanguages mBounds mSize mGoes mLast mLeft mNext mGroup mFresh mLeader mNumber mRight mEnds mWay mVariable mFactor mLeast mMost mLength mWord mKept mMany mMore mLeads mMet mTodo mMay mTries) sz) (wPost D K (some (.int (bI r.1))) (moW K h a r.2.1 mLanguages mBounds mSize mGoes mLast mLeft mNext mGroup mFresh mLeader mNumber mRight mEnds mWay mVariable mFactor mLeast mMost r.2.2.1 r.2.2.2.1 r.2.2.2.2.1 mMany mMore r.2.2.2.2.2.1 mMet mTodo r.2.2.2.2.2.2.1 r.2.2.2.2.2.2.2) (va_A (moW K h a mErr mLanguages mBounds mSize mGoes mLast mLeft mNext mGroup mFresh mLeader mNumber mRight mEnds mWay mVariable mFactor mLeast mMost mLength mWord mKept mMany mMore mLeads mMet mTodo mMay mTries) sz)) 0 0 (va_A (moW K h a mErr mLanguages mBounds mSize mGoes mLast mLeft mNext mGroup mFresh mLeader mNumber mRight mEnds mWay mVariable mFactor mLeast mMost mLength mWord mKept mMany mMore mLeads mMet mTodo mMay mTries) sz) := by
  refine Met.ofW (cc := b_Mo_solve) (maxL := 4) (ret := (some .boolean)) (by decide) rfl ?_
  intro p e s m args below meth c s₁ B hml hv
  obtain ⟨rfl, hsz, hP, hK, hD0⟩ := hv
  subst hsz
  have hl := lv_entry [.ref h, .int p0] (n := 4) (Nat.le_of_ble_eq_true rfl)
  rw [lg_entry_eq]
  generalize (lg_sl [.ref h, .int p0] ++ List.replicate (4 - (lg_sl [.ref h, .int p0]).length) Slot.unset).toArray = ls at hl ⊢
  refine w_Mo_solve (A := va_A (moW K h a mErr mLanguages mBounds mSize mGoes mLast mLeft mNext mGroup mFresh mLeader mNumber mRight mEnds mWay mVariable mFactor mLeast mMost mLength mWord mKept mMany mMore mLeads mMet mTodo mMay mTries) s.heap.size) (H0 := s.heap) B.exec B.bytes hml (fun w hw => atoms_spec (ws := w0_Mo_solve) B.pre w (List.mem_cons_of_mem _ hw)) (findClass_of_methodNamed B.named) hK (Nat.le_refl _) (Nat.le_refl _) (Nat.zero_le _) (Nat.zero_le _) (fun q h => Or.inr h) (fun r er pc ls H locs hd hP hD hS => ?_) hf ls hP (hD0.self (sz := s.heap.size)) va_S.rf hl
  subst er
  exact W.zret B.exec B.bytes B.returns (bI_nar _) (fun t ht hW => ⟨⟨rfl, by rw [ht]; exact hP, va_K.moved hW.alike hK, hD⟩, hS.F ht⟩) hS.2.2 hd (hlocks := B.notSynchronized)
theorem pd_Mo_length : y_Mo_length.cls ≠ "java/lang/invoke/MethodHandle" ∧ y_Mo_length.cls ≠ "java/lang/invoke/VarHandle" ∧ (parseMethodDescriptor y_Mo_length.desc).map (fun d => d.parameters.length) = some 1 := by decide +kernel
def f_Mo_length (n : Nat) (p0 : Int32) (mLength : Nat → Int32) (mKept : Bool) : Option (Int32 × Int32) :=
  (f_Mo_in n p0.toInt64 0 3).bind fun u1 =>
  if u1 = true then
    (f_Mo_fails n false 1 0).bind fun u3 =>
    if u3.1 = true then
      some (0, u3.2)
    else
      if mKept = true then
        (f_Mo_fails n false 2 u3.2).bind fun u6 =>
        if u6.1 = true then
          some (0, u6.2)
        else
          ogd (gin p0 4) <|
          some (mLength p0.toNatClampNeg, u6.2)
      else
        (f_Mo_fails n true 2 u3.2).bind fun u9 =>
        if u9.1 = true then
          some (0, u9.2)
        else
          ogd (gin p0 4) <|
          some (mLength p0.toNatClampNeg, u9.2)
  else
    (f_Mo_fails n true 1 0).bind fun u12 =>
    if u12.1 = true then
      some (0, u12.2)
    else
      if mKept = true then
        (f_Mo_fails n false 2 u12.2).bind fun u15 =>
        if u15.1 = true then
          some (0, u15.2)
        else
          ogd (gin p0 4) <|
          some (mLength p0.toNatClampNeg, u15.2)
      else
        (f_Mo_fails n true 2 u12.2).bind fun u18 =>
        if u18.1 = true then
          some (0, u18.2)
        else
          ogd (gin p0 4) <|
          some (mLength p0.toNatClampNeg, u18.2)
set_option maxHeartbeats 4000000 in
set_option maxRecDepth 100000 in
theorem w_Mo_length  {p0 : Int32}  (hx : p.tables.exec = Jvm.exec) (hb : c.code = b_Mo_length) (hml : c.maxLocals = 2) (hts : ∀ w ∈ gW, w.before args s = true) (hown : s.vm.findClass "RegularSolverModel" = some m.cls) (hK : va_K D vwCl (tG K) s) (hRf : 1 ≤ R.frames) (hRl : 25 ≤ R.locals) (hRc : cells ≤ R.cells) (hRs : slots ≤ R.slots) (hA : ∀ q, H0.size ≤ q → A q) {out : Int32 × Int32} (Kr : ∀ (r : Int32 × Int32), out = r → ∀ (pc : Nat) (ls : Array Slot) (H : Heap) (locs : List Loc), decode b_Mo_length pc = .ok (.ireturn, 1) → va_P D vwCl (moW K h a r.2 mLanguages mBounds mSize mGoes mLast mLeft mNext mGroup mFresh mLeader mNumber mRight mEnds mWay mVariable mFactor mLeast mMost mLength mWord mKept mMany mMore mLeads mMet mTodo mMay mTries) H → va_D A (moW K h a r.2 mLanguages mBounds mSize mGoes mLast mLeft mNext mGroup mFresh mLeader mNumber mRight mEnds mWay mVariable mFactor mLeast mMost mLength mWord mKept mMany mMore mLeads mMet mTodo mMay mTries) → va_S A H0 H locs → W p l e R s m args below meth c H locs cells slots Q (F0 m pc ls [.int r.1])) (hf : f_Mo_length n p0 mLength mKept = some out) (ls : Array Slot) (hP : va_P D vwCl (moW K h a mErr mLanguages mBounds mSize mGoes mLast mLeft mNext mGroup mFresh mLeader mNumber mRight mEnds mWay mVariable mFactor mLeast mMost mLength mWord mKept mMany mMore mLeads mMet mTodo mMay mTries) H) (hD : va_D A (moW K h a mErr mLanguages mBounds mSize mGoes mLast mLeft mNext mGroup mFresh mLeader mNumber mRight mEnds mWay mVariable mFactor mLeast mMost mLength mWord mKept mMany mMore mLeads mMet mTodo mMay mTries)) (hS : va_S A H0 H locs) (hl : lv_has ls 2 [(0, .ref h), (1, .int p0)]) : W p l e R s m args below meth c H locs cells slots Q (F0 m 0 ls []) := by
  unfold f_Mo_length at hf
  refine lv_aload_n hx hb d_Mo_length_0 rfl (lv_at hl 0 rfl) ?_
  refine lv_iconst (v := 0) hx hb d_Mo_length_1 (by decide) ?_
  refine va_put (D := D) (ci := 0) (v := .int 0) (ty := .int) (C := R_Mo) (T := T_Mo) (N := 29) hx hb hts in_Mo t_Mo t_Mo_ok n_Mo hown hK hP hD hS 0 rfl rfl 0 (by decide) (hts _ fl_Mo_84) (fun _ h9 => h9) rfl (by decide +kernel) rfl rfl (Nat.le_of_ble_eq_true rfl) d_Mo_length_2 (fun H locs hP hD hS => ?_)
  have hP : va_P D vwCl (moW K h a 0 mLanguages mBounds mSize mGoes mLast mLeft mNext mGroup mFresh mLeader mNumber mRight mEnds mWay mVariable mFactor mLeast mMost mLength mWord mKept mMany mMore mLeads mMet mTodo mMay mTries) H := hP
  have hD : va_D A (moW K h a 0 mLanguages mBounds mSize mGoes mLast mLeft mNext mGroup mFresh mLeader mNumber mRight mEnds mWay mVariable mFactor mLeast mMost mLength mWord mKept mMany mMore mLeads mMet mTodo mMay mTries) := hD
  refine lv_aload_n hx hb d_Mo_length_5 rfl (lv_at hl 0 rfl) ?_
  refine lv_iload_n hx hb d_Mo_length_6 rfl (lv_at hl 1 rfl) ?_
  refine lv_i2l (v := p0.toInt64) hx hb d_Mo_length_7 rfl ?_
  refine lv_lconst (v := 0) hx hb d_Mo_length_8 (by decide) ?_
  refine lv_ldc2 (v := 3) hx hb hown (hts (.constantLong "RegularSolverModel" 148 3) (by decide +kernel)) d_Mo_length_9 ?_
  obtain ⟨u1, eu1, hf⟩ := obd hf
  refine p_call (W.runS (As := [.long p0.toInt64, .long 0, .long 3]) (rest := [.ref h]) ⟨hx, hb, hml, hown, hts⟩ (c_Mo_in l eu1) (gS 3 hts cd_Mo_in ml_Mo_91 st_Mo_in ini_Mo rfl rfl pd_Mo_in ⟨Nat.le_trans (Nat.le_of_ble_eq_true rfl) hRf, Nat.le_trans (Nat.le_of_ble_eq_true rfl) hRl⟩) ⟨pPre_blind, pPre_of hP hK⟩ rfl rfl hl.1 rfl (lv_room (Nat.le_of_ble_eq_true rfl)) d_Mo_length_12 ⟨hRc, hRs⟩) ?_
  refine bz_ne (tgt := 22) hx hb d_Mo_length_15 (by decide) (fun c2 => ?_) (fun c2 => ?_)
  · rw [if_pos c2] at hf
    refine lv_iconst (v := 0) hx hb d_Mo_length_22 (by decide) ?_
    refine lv_iconst (v := 1) hx hb d_Mo_length_23 (by decide) ?_
    obtain ⟨u3, eu3, hf⟩ := obd hf
    refine w_call (va_runV (As := [.int (bI false), .int 1]) (rest := []) ⟨hx, hb, hml, hown, hts⟩ (c_Mo_fails l H.size eu3) (gV 2 hts cd_Mo_fails ml_Mo_124 im_Mo_fails se_Mo_fails ini_Mo rfl rfl pd_Mo_fails ⟨Nat.le_trans (Nat.le_of_ble_eq_true rfl) hRf, Nat.le_trans (Nat.le_of_ble_eq_true rfl) hRl⟩) ⟨wPre_blind, va_recv hK hP (ci := 0) (q0 := 0) rfl rfl, wPre_of hP hK hD⟩ rfl rfl hl.1 rfl (lv_room (Nat.le_of_ble_eq_true rfl)) d_Mo_length_24 ⟨hRc, hRs⟩) hD hS hA (fun H locs hP hD hS => ?_)
    have hP : va_P D vwCl (moW K h a u3.2 mLanguages mBounds mSize mGoes mLast mLeft mNext mGroup mFresh mLeader mNumber mRight mEnds mWay mVariable mFactor mLeast mMost mLength mWord mKept mMany mMore mLeads mMet mTodo mMay mTries) H := hP
    have hD : va_D A (moW K h a u3.2 mLanguages mBounds mSize mGoes mLast mLeft mNext mGroup mFresh mLeader mNumber mRight mEnds mWay mVariable mFactor mLeast mMost mLength mWord mKept mMany mMore mLeads mMet mTodo mMay mTries) := hD
    refine bz_ne (tgt := 50) hx hb d_Mo_length_27 (by decide) (fun c4 => ?_) (fun c4 => ?_)
    · rw [if_pos c4] at hf
      refine lv_iconst (v := 0) hx hb d_Mo_length_50 (by decide) ?_
      exact Kr _ (Option.some.inj hf).symm _ _ _ _ d_Mo_length_51 hP hD hS
    · rw [if_neg c4] at hf
      refine lv_aload_n hx hb d_Mo_length_30 rfl (lv_at hl 0 rfl) ?_
      refine lv_aload_n hx hb d_Mo_length_31 rfl (lv_at hl 0 rfl) ?_
      refine va_get (D := D) (ci := 0) (v := .int (bI mKept)) (C := R_Mo) (T := T_Mo) (N := 29) hx hb hts in_Mo hown hK hP 0 rfl rfl 21 (by decide) (hts _ fl_Mo_169) (fun _ h9 => h9) rfl d_Mo_length_32 ?_
      refine bz_ne (tgt := 42) hx hb d_Mo_length_35 (by decide) (fun c5 => ?_) (fun c5 => ?_)
      · rw [if_pos c5] at hf
        refine lv_iconst (v := 0) hx hb d_Mo_length_42 (by decide) ?_
        refine lv_iconst (v := 2) hx hb d_Mo_length_43 (by decide) ?_
        obtain ⟨u6, eu6, hf⟩ := obd hf
        refine w_call (va_runV (As := [.int (bI false), .int 2]) (rest := []) ⟨hx, hb, hml, hown, hts⟩ (c_Mo_fails l H.size eu6) (gV 2 hts cd_Mo_fails ml_Mo_124 im_Mo_fails se_Mo_fails ini_Mo rfl rfl pd_Mo_fails ⟨Nat.le_trans (Nat.le_of_ble_eq_true rfl) hRf, Nat.le_trans (Nat.le_of_ble_eq_true rfl) hRl⟩) ⟨wPre_blind, va_recv hK hP (ci := 0) (q0 := 0) rfl rfl, wPre_of hP hK hD⟩ rfl rfl hl.1 rfl (lv_room (Nat.le_of_ble_eq_true rfl)) d_Mo_length_44 ⟨hRc, hRs⟩) hD hS hA (fun H locs hP hD hS => ?_)
        have hP : va_P D vwCl (moW K h a u6.2 mLanguages mBounds mSize mGoes mLast mLeft mNext mGroup mFresh mLeader mNumber mRight mEnds mWay mVariable mFactor mLeast mMost mLength mWord mKept mMany mMore mLeads mMet mTodo mMay mTries) H := hP
        have hD : va_D A (moW K h a u6.2 mLanguages mBounds mSize mGoes mLast mLeft mNext mGroup mFresh mLeader mNumber mRight mEnds mWay mVariable mFactor mLeast mMost mLength mWord mKept mMany mMore mLeads mMet mTodo mMay mTries) := hD
        refine bz_eq (tgt := 52) hx hb d_Mo_length_47 (by decide) (fun c7 => ?_) (fun c7 => ?_)
        · rw [if_neg c7] at hf
          refine lv_aload_n hx hb d_Mo_length_52 rfl (lv_at hl 0 rfl) ?_
          refine va_get (D := D) (ci := 0) (v := .ref (a 15)) (C := R_Mo) (T := T_Mo) (N := 29) hx hb hts in_Mo hown hK hP 0 rfl rfl 19 (by decide) (hts _ fl_Mo_57) (fun _ h9 => h9) rfl d_Mo_length_53 ?_
          refine lv_iload_n hx hb d_Mo_length_56 rfl (lv_at hl 1 rfl) ?_
          obtain ⟨g8, hf⟩ := ogi hf
          refine va_iald hx hb hK hP 16 0 rfl rfl (gin_in g8) d_Mo_length_57 ?_
          exact Kr _ (Option.some.inj hf).symm _ _ _ _ d_Mo_length_58 hP hD hS
        · rw [if_pos c7] at hf
          refine lv_iconst (v := 0) hx hb d_Mo_length_50 (by decide) ?_
          exact Kr _ (Option.some.inj hf).symm _ _ _ _ d_Mo_length_51 hP hD hS
      · rw [if_neg c5] at hf
        refine lv_iconst (v := 1) hx hb d_Mo_length_38 (by decide) ?_
        refine lv_goto (tgt := 43) hx hb d_Mo_length_39 (by decide) ?_
        refine lv_iconst (v := 2) hx hb d_Mo_length_43 (by decide) ?_
        obtain ⟨u9, eu9, hf⟩ := obd hf
        refine w_call (va_runV (As := [.int (bI true), .int 2]) (rest := []) ⟨hx, hb, hml, hown, hts⟩ (c_Mo_fails l H.size eu9) (gV 2 hts cd_Mo_fails ml_Mo_124 im_Mo_fails se_Mo_fails ini_Mo rfl rfl pd_Mo_fails ⟨Nat.le_trans (Nat.le_of_ble_eq_true rfl) hRf, Nat.le_trans (Nat.le_of_ble_eq_true rfl) hRl⟩) ⟨wPre_blind, va_recv hK hP (ci := 0) (q0 := 0) rfl rfl, wPre_of hP hK hD⟩ rfl rfl hl.1 rfl (lv_room (Nat.le_of_ble_eq_true rfl)) d_Mo_length_44 ⟨hRc, hRs⟩) hD hS hA (fun H locs hP hD hS => ?_)
        have hP : va_P D vwCl (moW K h a u9.2 mLanguages mBounds mSize mGoes mLast mLeft mNext mGroup mFresh mLeader mNumber mRight mEnds mWay mVariable mFactor mLeast mMost mLength mWord mKept mMany mMore mLeads mMet mTodo mMay mTries) H := hP
        have hD : va_D A (moW K h a u9.2 mLanguages mBounds mSize mGoes mLast mLeft mNext mGroup mFresh mLeader mNumber mRight mEnds mWay mVariable mFactor mLeast mMost mLength mWord mKept mMany mMore mLeads mMet mTodo mMay mTries) := hD
        refine bz_eq (tgt := 52) hx hb d_Mo_length_47 (by decide) (fun c10 => ?_) (fun c10 => ?_)
        · rw [if_neg c10] at hf
          refine lv_aload_n hx hb d_Mo_length_52 rfl (lv_at hl 0 rfl) ?_
          refine va_get (D := D) (ci := 0) (v := .ref (a 15)) (C := R_Mo) (T := T_Mo) (N := 29) hx hb hts in_Mo hown hK hP 0 rfl rfl 19 (by decide) (hts _ fl_Mo_57) (fun _ h9 => h9) rfl d_Mo_length_53 ?_
          refine lv_iload_n hx hb d_Mo_length_56 rfl (lv_at hl 1 rfl) ?_
          obtain ⟨g11, hf⟩ := ogi hf
          refine va_iald hx hb hK hP 16 0 rfl rfl (gin_in g11) d_Mo_length_57 ?_
          exact Kr _ (Option.some.inj hf).symm _ _ _ _ d_Mo_length_58 hP hD hS
        · rw [if_pos c10] at hf
          refine lv_iconst (v := 0) hx hb d_Mo_length_50 (by decide) ?_
          exact Kr _ (Option.some.inj hf).symm _ _ _ _ d_Mo_length_51 hP hD hS
  · rw [if_neg c2] at hf
    refine lv_iconst (v := 1) hx hb d_Mo_length_18 (by decide) ?_
    refine lv_goto (tgt := 23) hx hb d_Mo_length_19 (by decide) ?_
    refine lv_iconst (v := 1) hx hb d_Mo_length_23 (by decide) ?_
    obtain ⟨u12, eu12, hf⟩ := obd hf
    refine w_call (va_runV (As := [.int (bI true), .int 1]) (rest := []) ⟨hx, hb, hml, hown, hts⟩ (c_Mo_fails l H.size eu12) (gV 2 hts cd_Mo_fails ml_Mo_124 im_Mo_fails se_Mo_fails ini_Mo rfl rfl pd_Mo_fails ⟨Nat.le_trans (Nat.le_of_ble_eq_true rfl) hRf, Nat.le_trans (Nat.le_of_ble_eq_true rfl) hRl⟩) ⟨wPre_blind, va_recv hK hP (ci := 0) (q0 := 0) rfl rfl, wPre_of hP hK hD⟩ rfl rfl hl.1 rfl (lv_room (Nat.le_of_ble_eq_true rfl)) d_Mo_length_24 ⟨hRc, hRs⟩) hD hS hA (fun H locs hP hD hS => ?_)
    have hP : va_P D vwCl (moW K h a u12.2 mLanguages mBounds mSize mGoes mLast mLeft mNext mGroup mFresh mLeader mNumber mRight mEnds mWay mVariable mFactor mLeast mMost mLength mWord mKept mMany mMore mLeads mMet mTodo mMay mTries) H := hP
    have hD : va_D A (moW K h a u12.2 mLanguages mBounds mSize mGoes mLast mLeft mNext mGroup mFresh mLeader mNumber mRight mEnds mWay mVariable mFactor mLeast mMost mLength mWord mKept mMany mMore mLeads mMet mTodo mMay mTries) := hD
    refine bz_ne (tgt := 50) hx hb d_Mo_length_27 (by decide) (fun c13 => ?_) (fun c13 => ?_)
    · rw [if_pos c13] at hf
      refine lv_iconst (v := 0) hx hb d_Mo_length_50 (by decide) ?_
      exact Kr _ (Option.some.inj hf).symm _ _ _ _ d_Mo_length_51 hP hD hS
    · rw [if_neg c13] at hf
      refine lv_aload_n hx hb d_Mo_length_30 rfl (lv_at hl 0 rfl) ?_
      refine lv_aload_n hx hb d_Mo_length_31 rfl (lv_at hl 0 rfl) ?_
      refine va_get (D := D) (ci := 0) (v := .int (bI mKept)) (C := R_Mo) (T := T_Mo) (N := 29) hx hb hts in_Mo hown hK hP 0 rfl rfl 21 (by decide) (hts _ fl_Mo_169) (fun _ h9 => h9) rfl d_Mo_length_32 ?_
      refine bz_ne (tgt := 42) hx hb d_Mo_length_35 (by decide) (fun c14 => ?_) (fun c14 => ?_)
      · rw [if_pos c14] at hf
        refine lv_iconst (v := 0) hx hb d_Mo_length_42 (by decide) ?_
        refine lv_iconst (v := 2) hx hb d_Mo_length_43 (by decide) ?_
        obtain ⟨u15, eu15, hf⟩ := obd hf
        refine w_call (va_runV (As := [.int (bI false), .int 2]) (rest := []) ⟨hx, hb, hml, hown, hts⟩ (c_Mo_fails l H.size eu15) (gV 2 hts cd_Mo_fails ml_Mo_124 im_Mo_fails se_Mo_fails ini_Mo rfl rfl pd_Mo_fails ⟨Nat.le_trans (Nat.le_of_ble_eq_true rfl) hRf, Nat.le_trans (Nat.le_of_ble_eq_true rfl) hRl⟩) ⟨wPre_blind, va_recv hK hP (ci := 0) (q0 := 0) rfl rfl, wPre_of hP hK hD⟩ rfl rfl hl.1 rfl (lv_room (Nat.le_of_ble_eq_true rfl)) d_Mo_length_44 ⟨hRc, hRs⟩) hD hS hA (fun H locs hP hD hS => ?_)
        have hP : va_P D vwCl (moW K h a u15.2 mLanguages mBounds mSize mGoes mLast mLeft mNext mGroup mFresh mLeader mNumber mRight mEnds mWay mVariable mFactor mLeast mMost mLength mWord mKept mMany mMore mLeads mMet mTodo mMay mTries) H := hP
        have hD : va_D A (moW K h a u15.2 mLanguages mBounds mSize mGoes mLast mLeft mNext mGroup mFresh mLeader mNumber mRight mEnds mWay mVariable mFactor mLeast mMost mLength mWord mKept mMany mMore mLeads mMet mTodo mMay mTries) := hD
        refine bz_eq (tgt := 52) hx hb d_Mo_length_47 (by decide) (fun c16 => ?_) (fun c16 => ?_)
        · rw [if_neg c16] at hf
          refine lv_aload_n hx hb d_Mo_length_52 rfl (lv_at hl 0 rfl) ?_
          refine va_get (D := D) (ci := 0) (v := .ref (a 15)) (C := R_Mo) (T := T_Mo) (N := 29) hx hb hts in_Mo hown hK hP 0 rfl rfl 19 (by decide) (hts _ fl_Mo_57) (fun _ h9 => h9) rfl d_Mo_length_53 ?_
          refine lv_iload_n hx hb d_Mo_length_56 rfl (lv_at hl 1 rfl) ?_
          obtain ⟨g17, hf⟩ := ogi hf
          refine va_iald hx hb hK hP 16 0 rfl rfl (gin_in g17) d_Mo_length_57 ?_
          exact Kr _ (Option.some.inj hf).symm _ _ _ _ d_Mo_length_58 hP hD hS
        · rw [if_pos c16] at hf
          refine lv_iconst (v := 0) hx hb d_Mo_length_50 (by decide) ?_
          exact Kr _ (Option.some.inj hf).symm _ _ _ _ d_Mo_length_51 hP hD hS
      · rw [if_neg c14] at hf
        refine lv_iconst (v := 1) hx hb d_Mo_length_38 (by decide) ?_
        refine lv_goto (tgt := 43) hx hb d_Mo_length_39 (by decide) ?_
        refine lv_iconst (v := 2) hx hb d_Mo_length_43 (by decide) ?_
        obtain ⟨u18, eu18, hf⟩ := obd hf
        refine w_call (va_runV (As := [.int (bI true), .int 2]) (rest := []) ⟨hx, hb, hml, hown, hts⟩ (c_Mo_fails l H.size eu18) (gV 2 hts cd_Mo_fails ml_Mo_124 im_Mo_fails se_Mo_fails ini_Mo rfl rfl pd_Mo_fails ⟨Nat.le_trans (Nat.le_of_ble_eq_true rfl) hRf, Nat.le_trans (Nat.le_of_ble_eq_true rfl) hRl⟩) ⟨wPre_blind, va_recv hK hP (ci := 0) (q0 := 0) rfl rfl, wPre_of hP hK hD⟩ rfl rfl hl.1 rfl (lv_room (Nat.le_of_ble_eq_true rfl)) d_Mo_length_44 ⟨hRc, hRs⟩) hD hS hA (fun H locs hP hD hS => ?_)
        have hP : va_P D vwCl (moW K h a u18.2 mLanguages mBounds mSize mGoes mLast mLeft mNext mGroup mFresh mLeader mNumber mRight mEnds mWay mVariable mFactor mLeast mMost mLength mWord mKept mMany mMore mLeads mMet mTodo mMay mTries) H := hP
        have hD : va_D A (moW K h a u18.2 mLanguages mBounds mSize mGoes mLast mLeft mNext mGroup mFresh mLeader mNumber mRight mEnds mWay mVariable mFactor mLeast mMost mLength mWord mKept mMany mMore mLeads mMet mTodo mMay mTries) := hD
        refine bz_eq (tgt := 52) hx hb d_Mo_length_47 (by decide) (fun c19 => ?_) (fun c19 => ?_)
        · rw [if_neg c19] at hf
          refine lv_aload_n hx hb d_Mo_length_52 rfl (lv_at hl 0 rfl) ?_
          refine va_get (D := D) (ci := 0) (v := .ref (a 15)) (C := R_Mo) (T := T_Mo) (N := 29) hx hb hts in_Mo hown hK hP 0 rfl rfl 19 (by decide) (hts _ fl_Mo_57) (fun _ h9 => h9) rfl d_Mo_length_53 ?_
          refine lv_iload_n hx hb d_Mo_length_56 rfl (lv_at hl 1 rfl) ?_
          obtain ⟨g20, hf⟩ := ogi hf
          refine va_iald hx hb hK hP 16 0 rfl rfl (gin_in g20) d_Mo_length_57 ?_
          exact Kr _ (Option.some.inj hf).symm _ _ _ _ d_Mo_length_58 hP hD hS
        · rw [if_pos c19] at hf
          refine lv_iconst (v := 0) hx hb d_Mo_length_50 (by decide) ?_
          exact Kr _ (Option.some.inj hf).symm _ _ _ _ d_Mo_length_51 hP hD hS
set_option maxHeartbeats 4000000 in
set_option maxRecDepth 100000 in
theorem c_Mo_length (l : Launch)  {p0 : Int32}  {r : Int32 × Int32} (sz : Nat) (hf : f_Mo_length n p0 mLength mKept = some r) : Met l y_Mo_length w0_Mo_length ({ frames := 1, cells := 0, slots := 0, locals := 25 }) (wPre D K [.ref h, .int p0] (moW K h a mErr mLanguages mBounds mSize mGoes mLast mLeft mNext mGroup mFresh mLeader mNumber mRight mEnds mWay mVariable mFactor mLeast mMost mLength mWord mKept mMany mMore mLeads mMet mTodo mMay mTries) sz) (wPost D K (some (.int r.1)) (moW K h a r.2 mLanguages mBounds mSize mGoes mLast mLeft mNext mGroup mFresh mLeader mNumber mRight mEnds mWay mVariable mFactor mLeast mMost mLength mWord mKept mMany mMore mLeads mMet mTodo mMay mTries) (va_A (moW K h a mErr mLanguages mBounds mSize mGoes mLast mLeft mNext mGroup mFresh mLeader mNumber mRight mEnds mWay mVariable mFactor mLeast mMost mLength mWord mKept mMany mMore mLeads mMet mTodo mMay mTries) sz)) 0 0 (va_A (moW K h a mErr mLanguages mBounds mSize mGoes mLast mLeft mNext mGroup mFresh mLeader mNumber mRight mEnds mWay mVariable mFactor mLeast mMost mLength mWord mKept mMany mMore mLeads mMet mTodo mMay mTries) sz) := by
  refine Met.ofW (cc := b_Mo_length) (maxL := 2) (ret := (some .int)) (by decide) rfl ?_
  intro p e s m args below meth c s₁ B hml hv
  obtain ⟨rfl, hsz, hP, hK, hD0⟩ := hv
  subst hsz
  have hl := lv_entry [.ref h, .int p0] (n := 2) (Nat.le_of_ble_eq_true rfl)
  rw [lg_entry_eq]
  generalize (lg_sl [.ref h, .int p0] ++ List.replicate (2 - (lg_sl [.ref h, .int p0]).length) Slot.unset).toArray = ls at hl ⊢
  refine w_Mo_length (A := va_A (moW K h a mErr mLanguages mBounds mSize mGoes mLast mLeft mNext mGroup mFresh mLeader mNumber mRight mEnds mWay mVariable mFactor mLeast mMost mLength mWord mKept mMany mMore mLeads mMet mTodo mMay mTries) s.heap.size) (H0 := s.heap) B.exec B.bytes hml (fun w hw => atoms_spec (ws := w0_Mo_length) B.pre w (List.mem_cons_of_mem _ hw)) (findClass_of_methodNamed B.named) hK (Nat.le_refl _) (Nat.le_refl _) (Nat.zero_le _) (Nat.zero_le _) (fun q h => Or.inr h) (fun r er pc ls H locs hd hP hD hS => ?_) hf ls hP (hD0.self (sz := s.heap.size)) va_S.rf hl
  subst er
  exact W.iret B.exec B.bytes B.returns (fun t ht hW => ⟨⟨rfl, by rw [ht]; exact hP, va_K.moved hW.alike hK, hD⟩, hS.F ht⟩) hS.2.2 hd (hlocks := B.notSynchronized)
theorem pd_Mo_word : y_Mo_word.cls ≠ "java/lang/invoke/MethodHandle" ∧ y_Mo_word.cls ≠ "java/lang/invoke/VarHandle" ∧ (parseMethodDescriptor y_Mo_word.desc).map (fun d => d.parameters.length) = some 1 := by decide +kernel
def f_Mo_word (n : Nat) (p0 : Int32) (mWord : Nat → Int64) (mKept : Bool) : Option (Int64 × Int32) :=
  (f_Mo_in n p0.toInt64 0 3).bind fun u1 =>
  if u1 = true then
    (f_Mo_fails n false 1 0).bind fun u3 =>
    if u3.1 = true then
      some (0, u3.2)
    else
      if mKept = true then
        (f_Mo_fails n false 2 u3.2).bind fun u6 =>
        if u6.1 = true then
          some (0, u6.2)
        else
          ogd (gin p0 4) <|
          some (mWord p0.toNatClampNeg, u6.2)
      else
        (f_Mo_fails n true 2 u3.2).bind fun u9 =>
        if u9.1 = true then
          some (0, u9.2)
        else
          ogd (gin p0 4) <|
          some (mWord p0.toNatClampNeg, u9.2)
  else
    (f_Mo_fails n true 1 0).bind fun u12 =>
    if u12.1 = true then
      some (0, u12.2)
    else
      if mKept = true then
        (f_Mo_fails n false 2 u12.2).bind fun u15 =>
        if u15.1 = true then
          some (0, u15.2)
        else
          ogd (gin p0 4) <|
          some (mWord p0.toNatClampNeg, u15.2)
      else
        (f_Mo_fails n true 2 u12.2).bind fun u18 =>
        if u18.1 = true then
          some (0, u18.2)
        else
          ogd (gin p0 4) <|
          some (mWord p0.toNatClampNeg, u18.2)
set_option maxHeartbeats 4000000 in
set_option maxRecDepth 100000 in
theorem w_Mo_word  {p0 : Int32}  (hx : p.tables.exec = Jvm.exec) (hb : c.code = b_Mo_word) (hml : c.maxLocals = 2) (hts : ∀ w ∈ gW, w.before args s = true) (hown : s.vm.findClass "RegularSolverModel" = some m.cls) (hK : va_K D vwCl (tG K) s) (hRf : 1 ≤ R.frames) (hRl : 25 ≤ R.locals) (hRc : cells ≤ R.cells) (hRs : slots ≤ R.slots) (hA : ∀ q, H0.size ≤ q → A q) {out : Int64 × Int32} (Kr : ∀ (r : Int64 × Int32), out = r → ∀ (pc : Nat) (ls : Array Slot) (H : Heap) (locs : List Loc), decode b_Mo_word pc = .ok (.lreturn, 1) → va_P D vwCl (moW K h a r.2 mLanguages mBounds mSize mGoes mLast mLeft mNext mGroup mFresh mLeader mNumber mRight mEnds mWay mVariable mFactor mLeast mMost mLength mWord mKept mMany mMore mLeads mMet mTodo mMay mTries) H → va_D A (moW K h a r.2 mLanguages mBounds mSize mGoes mLast mLeft mNext mGroup mFresh mLeader mNumber mRight mEnds mWay mVariable mFactor mLeast mMost mLength mWord mKept mMany mMore mLeads mMet mTodo mMay mTries) → va_S A H0 H locs → W p l e R s m args below meth c H locs cells slots Q (F0 m pc ls [.long r.1])) (hf : f_Mo_word n p0 mWord mKept = some out) (ls : Array Slot) (hP : va_P D vwCl (moW K h a mErr mLanguages mBounds mSize mGoes mLast mLeft mNext mGroup mFresh mLeader mNumber mRight mEnds mWay mVariable mFactor mLeast mMost mLength mWord mKept mMany mMore mLeads mMet mTodo mMay mTries) H) (hD : va_D A (moW K h a mErr mLanguages mBounds mSize mGoes mLast mLeft mNext mGroup mFresh mLeader mNumber mRight mEnds mWay mVariable mFactor mLeast mMost mLength mWord mKept mMany mMore mLeads mMet mTodo mMay mTries)) (hS : va_S A H0 H locs) (hl : lv_has ls 2 [(0, .ref h), (1, .int p0)]) : W p l e R s m args below meth c H locs cells slots Q (F0 m 0 ls []) := by
  unfold f_Mo_word at hf
  refine lv_aload_n hx hb d_Mo_word_0 rfl (lv_at hl 0 rfl) ?_
  refine lv_iconst (v := 0) hx hb d_Mo_word_1 (by decide) ?_
  refine va_put (D := D) (ci := 0) (v := .int 0) (ty := .int) (C := R_Mo) (T := T_Mo) (N := 29) hx hb hts in_Mo t_Mo t_Mo_ok n_Mo hown hK hP hD hS 0 rfl rfl 0 (by decide) (hts _ fl_Mo_84) (fun _ h9 => h9) rfl (by decide +kernel) rfl rfl (Nat.le_of_ble_eq_true rfl) d_Mo_word_2 (fun H locs hP hD hS => ?_)
  have hP : va_P D vwCl (moW K h a 0 mLanguages mBounds mSize mGoes mLast mLeft mNext mGroup mFresh mLeader mNumber mRight mEnds mWay mVariable mFactor mLeast mMost mLength mWord mKept mMany mMore mLeads mMet mTodo mMay mTries) H := hP
  have hD : va_D A (moW K h a 0 mLanguages mBounds mSize mGoes mLast mLeft mNext mGroup mFresh mLeader mNumber mRight mEnds mWay mVariable mFactor mLeast mMost mLength mWord mKept mMany mMore mLeads mMet mTodo mMay mTries) := hD
  refine lv_aload_n hx hb d_Mo_word_5 rfl (lv_at hl 0 rfl) ?_
  refine lv_iload_n hx hb d_Mo_word_6 rfl (lv_at hl 1 rfl) ?_
  refine lv_i2l (v := p0.toInt64) hx hb d_Mo_word_7 rfl ?_
  refine lv_lconst (v := 0) hx hb d_Mo_word_8 (by decide) ?_
  refine lv_ldc2 (v := 3) hx hb hown (hts (.constantLong "RegularSolverModel" 148 3) (by decide +kernel)) d_Mo_word_9 ?_
  obtain ⟨u1, eu1, hf⟩ := obd hf
  refine p_call (W.runS (As := [.long p0.toInt64, .long 0, .long 3]) (rest := [.ref h]) ⟨hx, hb, hml, hown, hts⟩ (c_Mo_in l eu1) (gS 3 hts cd_Mo_in ml_Mo_91 st_Mo_in ini_Mo rfl rfl pd_Mo_in ⟨Nat.le_trans (Nat.le_of_ble_eq_true rfl) hRf, Nat.le_trans (Nat.le_of_ble_eq_true rfl) hRl⟩) ⟨pPre_blind, pPre_of hP hK⟩ rfl rfl hl.1 rfl (lv_room (Nat.le_of_ble_eq_true rfl)) d_Mo_word_12 ⟨hRc, hRs⟩) ?_
  refine bz_ne (tgt := 22) hx hb d_Mo_word_15 (by decide) (fun c2 => ?_) (fun c2 => ?_)
  · rw [if_pos c2] at hf
    refine lv_iconst (v := 0) hx hb d_Mo_word_22 (by decide) ?_
    refine lv_iconst (v := 1) hx hb d_Mo_word_23 (by decide) ?_
    obtain ⟨u3, eu3, hf⟩ := obd hf
    refine w_call (va_runV (As := [.int (bI false), .int 1]) (rest := []) ⟨hx, hb, hml, hown, hts⟩ (c_Mo_fails l H.size eu3) (gV 2 hts cd_Mo_fails ml_Mo_124 im_Mo_fails se_Mo_fails ini_Mo rfl rfl pd_Mo_fails ⟨Nat.le_trans (Nat.le_of_ble_eq_true rfl) hRf, Nat.le_trans (Nat.le_of_ble_eq_true rfl) hRl⟩) ⟨wPre_blind, va_recv hK hP (ci := 0) (q0 := 0) rfl rfl, wPre_of hP hK hD⟩ rfl rfl hl.1 rfl (lv_room (Nat.le_of_ble_eq_true rfl)) d_Mo_word_24 ⟨hRc, hRs⟩) hD hS hA (fun H locs hP hD hS => ?_)
    have hP : va_P D vwCl (moW K h a u3.2 mLanguages mBounds mSize mGoes mLast mLeft mNext mGroup mFresh mLeader mNumber mRight mEnds mWay mVariable mFactor mLeast mMost mLength mWord mKept mMany mMore mLeads mMet mTodo mMay mTries) H := hP
    have hD : va_D A (moW K h a u3.2 mLanguages mBounds mSize mGoes mLast mLeft mNext mGroup mFresh mLeader mNumber mRight mEnds mWay mVariable mFactor mLeast mMost mLength mWord mKept mMany mMore mLeads mMet mTodo mMay mTries) := hD
    refine bz_ne (tgt := 50) hx hb d_Mo_word_27 (by decide) (fun c4 => ?_) (fun c4 => ?_)
    · rw [if_pos c4] at hf
      refine lv_lconst (v := 0) hx hb d_Mo_word_50 (by decide) ?_
      exact Kr _ (Option.some.inj hf).symm _ _ _ _ d_Mo_word_51 hP hD hS
    · rw [if_neg c4] at hf
      refine lv_aload_n hx hb d_Mo_word_30 rfl (lv_at hl 0 rfl) ?_
      refine lv_aload_n hx hb d_Mo_word_31 rfl (lv_at hl 0 rfl) ?_
      refine va_get (D := D) (ci := 0) (v := .int (bI mKept)) (C := R_Mo) (T := T_Mo) (N := 29) hx hb hts in_Mo hown hK hP 0 rfl rfl 21 (by decide) (hts _ fl_Mo_169) (fun _ h9 => h9) rfl d_Mo_word_32 ?_
      refine bz_ne (tgt := 42) hx hb d_Mo_word_35 (by decide) (fun c5 => ?_) (fun c5 => ?_)
      · rw [if_pos c5] at hf
        refine lv_iconst (v := 0) hx hb d_Mo_word_42 (by decide) ?_
        refine lv_iconst (v := 2) hx hb d_Mo_word_43 (by decide) ?_
        obtain ⟨u6, eu6, hf⟩ := obd hf
        refine w_call (va_runV (As := [.int (bI false), .int 2]) (rest := []) ⟨hx, hb, hml, hown, hts⟩ (c_Mo_fails l H.size eu6) (gV 2 hts cd_Mo_fails ml_Mo_124 im_Mo_fails se_Mo_fails ini_Mo rfl rfl pd_Mo_fails ⟨Nat.le_trans (Nat.le_of_ble_eq_true rfl) hRf, Nat.le_trans (Nat.le_of_ble_eq_true rfl) hRl⟩) ⟨wPre_blind, va_recv hK hP (ci := 0) (q0 := 0) rfl rfl, wPre_of hP hK hD⟩ rfl rfl hl.1 rfl (lv_room (Nat.le_of_ble_eq_true rfl)) d_Mo_word_44 ⟨hRc, hRs⟩) hD hS hA (fun H locs hP hD hS => ?_)
        have hP : va_P D vwCl (moW K h a u6.2 mLanguages mBounds mSize mGoes mLast mLeft mNext mGroup mFresh mLeader mNumber mRight mEnds mWay mVariable mFactor mLeast mMost mLength mWord mKept mMany mMore mLeads mMet mTodo mMay mTries) H := hP
        have hD : va_D A (moW K h a u6.2 mLanguages mBounds mSize mGoes mLast mLeft mNext mGroup mFresh mLeader mNumber mRight mEnds mWay mVariable mFactor mLeast mMost mLength mWord mKept mMany mMore mLeads mMet mTodo mMay mTries) := hD
        refine bz_eq (tgt := 52) hx hb d_Mo_word_47 (by decide) (fun c7 => ?_) (fun c7 => ?_)
        · rw [if_neg c7] at hf
          refine lv_aload_n hx hb d_Mo_word_52 rfl (lv_at hl 0 rfl) ?_
          refine va_get (D := D) (ci := 0) (v := .ref (a 16)) (C := R_Mo) (T := T_Mo) (N := 29) hx hb hts in_Mo hown hK hP 0 rfl rfl 20 (by decide) (hts _ fl_Mo_60) (fun _ h9 => h9) rfl d_Mo_word_53 ?_
          refine lv_iload_n hx hb d_Mo_word_56 rfl (lv_at hl 1 rfl) ?_
          obtain ⟨g8, hf⟩ := ogi hf
          refine va_lald hx hb hK hP 17 1 rfl rfl (gin_in g8) d_Mo_word_57 ?_
          exact Kr _ (Option.some.inj hf).symm _ _ _ _ d_Mo_word_58 hP hD hS
        · rw [if_pos c7] at hf
          refine lv_lconst (v := 0) hx hb d_Mo_word_50 (by decide) ?_
          exact Kr _ (Option.some.inj hf).symm _ _ _ _ d_Mo_word_51 hP hD hS
      · rw [if_neg c5] at hf
        refine lv_iconst (v := 1) hx hb d_Mo_word_38 (by decide) ?_
        refine lv_goto (tgt := 43) hx hb d_Mo_word_39 (by decide) ?_
        refine lv_iconst (v := 2) hx hb d_Mo_word_43 (by decide) ?_
        obtain ⟨u9, eu9, hf⟩ := obd hf
        refine w_call (va_runV (As := [.int (bI true), .int 2]) (rest := []) ⟨hx, hb, hml, hown, hts⟩ (c_Mo_fails l H.size eu9) (gV 2 hts cd_Mo_fails ml_Mo_124 im_Mo_fails se_Mo_fails ini_Mo rfl rfl pd_Mo_fails ⟨Nat.le_trans (Nat.le_of_ble_eq_true rfl) hRf, Nat.le_trans (Nat.le_of_ble_eq_true rfl) hRl⟩) ⟨wPre_blind, va_recv hK hP (ci := 0) (q0 := 0) rfl rfl, wPre_of hP hK hD⟩ rfl rfl hl.1 rfl (lv_room (Nat.le_of_ble_eq_true rfl)) d_Mo_word_44 ⟨hRc, hRs⟩) hD hS hA (fun H locs hP hD hS => ?_)
        have hP : va_P D vwCl (moW K h a u9.2 mLanguages mBounds mSize mGoes mLast mLeft mNext mGroup mFresh mLeader mNumber mRight mEnds mWay mVariable mFactor mLeast mMost mLength mWord mKept mMany mMore mLeads mMet mTodo mMay mTries) H := hP
        have hD : va_D A (moW K h a u9.2 mLanguages mBounds mSize mGoes mLast mLeft mNext mGroup mFresh mLeader mNumber mRight mEnds mWay mVariable mFactor mLeast mMost mLength mWord mKept mMany mMore mLeads mMet mTodo mMay mTries) := hD
        refine bz_eq (tgt := 52) hx hb d_Mo_word_47 (by decide) (fun c10 => ?_) (fun c10 => ?_)
        · rw [if_neg c10] at hf
          refine lv_aload_n hx hb d_Mo_word_52 rfl (lv_at hl 0 rfl) ?_
          refine va_get (D := D) (ci := 0) (v := .ref (a 16)) (C := R_Mo) (T := T_Mo) (N := 29) hx hb hts in_Mo hown hK hP 0 rfl rfl 20 (by decide) (hts _ fl_Mo_60) (fun _ h9 => h9) rfl d_Mo_word_53 ?_
          refine lv_iload_n hx hb d_Mo_word_56 rfl (lv_at hl 1 rfl) ?_
          obtain ⟨g11, hf⟩ := ogi hf
          refine va_lald hx hb hK hP 17 1 rfl rfl (gin_in g11) d_Mo_word_57 ?_
          exact Kr _ (Option.some.inj hf).symm _ _ _ _ d_Mo_word_58 hP hD hS
        · rw [if_pos c10] at hf
          refine lv_lconst (v := 0) hx hb d_Mo_word_50 (by decide) ?_
          exact Kr _ (Option.some.inj hf).symm _ _ _ _ d_Mo_word_51 hP hD hS
  · rw [if_neg c2] at hf
    refine lv_iconst (v := 1) hx hb d_Mo_word_18 (by decide) ?_
    refine lv_goto (tgt := 23) hx hb d_Mo_word_19 (by decide) ?_
    refine lv_iconst (v := 1) hx hb d_Mo_word_23 (by decide) ?_
    obtain ⟨u12, eu12, hf⟩ := obd hf
    refine w_call (va_runV (As := [.int (bI true), .int 1]) (rest := []) ⟨hx, hb, hml, hown, hts⟩ (c_Mo_fails l H.size eu12) (gV 2 hts cd_Mo_fails ml_Mo_124 im_Mo_fails se_Mo_fails ini_Mo rfl rfl pd_Mo_fails ⟨Nat.le_trans (Nat.le_of_ble_eq_true rfl) hRf, Nat.le_trans (Nat.le_of_ble_eq_true rfl) hRl⟩) ⟨wPre_blind, va_recv hK hP (ci := 0) (q0 := 0) rfl rfl, wPre_of hP hK hD⟩ rfl rfl hl.1 rfl (lv_room (Nat.le_of_ble_eq_true rfl)) d_Mo_word_24 ⟨hRc, hRs⟩) hD hS hA (fun H locs hP hD hS => ?_)
    have hP : va_P D vwCl (moW K h a u12.2 mLanguages mBounds mSize mGoes mLast mLeft mNext mGroup mFresh mLeader mNumber mRight mEnds mWay mVariable mFactor mLeast mMost mLength mWord mKept mMany mMore mLeads mMet mTodo mMay mTries) H := hP
    have hD : va_D A (moW K h a u12.2 mLanguages mBounds mSize mGoes mLast mLeft mNext mGroup mFresh mLeader mNumber mRight mEnds mWay mVariable mFactor mLeast mMost mLength mWord mKept mMany mMore mLeads mMet mTodo mMay mTries) := hD
    refine bz_ne (tgt := 50) hx hb d_Mo_word_27 (by decide) (fun c13 => ?_) (fun c13 => ?_)
    · rw [if_pos c13] at hf
      refine lv_lconst (v := 0) hx hb d_Mo_word_50 (by decide) ?_
      exact Kr _ (Option.some.inj hf).symm _ _ _ _ d_Mo_word_51 hP hD hS
    · rw [if_neg c13] at hf
      refine lv_aload_n hx hb d_Mo_word_30 rfl (lv_at hl 0 rfl) ?_
      refine lv_aload_n hx hb d_Mo_word_31 rfl (lv_at hl 0 rfl) ?_
      refine va_get (D := D) (ci := 0) (v := .int (bI mKept)) (C := R_Mo) (T := T_Mo) (N := 29) hx hb hts in_Mo hown hK hP 0 rfl rfl 21 (by decide) (hts _ fl_Mo_169) (fun _ h9 => h9) rfl d_Mo_word_32 ?_
      refine bz_ne (tgt := 42) hx hb d_Mo_word_35 (by decide) (fun c14 => ?_) (fun c14 => ?_)
      · rw [if_pos c14] at hf
        refine lv_iconst (v := 0) hx hb d_Mo_word_42 (by decide) ?_
        refine lv_iconst (v := 2) hx hb d_Mo_word_43 (by decide) ?_
        obtain ⟨u15, eu15, hf⟩ := obd hf
        refine w_call (va_runV (As := [.int (bI false), .int 2]) (rest := []) ⟨hx, hb, hml, hown, hts⟩ (c_Mo_fails l H.size eu15) (gV 2 hts cd_Mo_fails ml_Mo_124 im_Mo_fails se_Mo_fails ini_Mo rfl rfl pd_Mo_fails ⟨Nat.le_trans (Nat.le_of_ble_eq_true rfl) hRf, Nat.le_trans (Nat.le_of_ble_eq_true rfl) hRl⟩) ⟨wPre_blind, va_recv hK hP (ci := 0) (q0 := 0) rfl rfl, wPre_of hP hK hD⟩ rfl rfl hl.1 rfl (lv_room (Nat.le_of_ble_eq_true rfl)) d_Mo_word_44 ⟨hRc, hRs⟩) hD hS hA (fun H locs hP hD hS => ?_)
        have hP : va_P D vwCl (moW K h a u15.2 mLanguages mBounds mSize mGoes mLast mLeft mNext mGroup mFresh mLeader mNumber mRight mEnds mWay mVariable mFactor mLeast mMost mLength mWord mKept mMany mMore mLeads mMet mTodo mMay mTries) H := hP
        have hD : va_D A (moW K h a u15.2 mLanguages mBounds mSize mGoes mLast mLeft mNext mGroup mFresh mLeader mNumber mRight mEnds mWay mVariable mFactor mLeast mMost mLength mWord mKept mMany mMore mLeads mMet mTodo mMay mTries) := hD
        refine bz_eq (tgt := 52) hx hb d_Mo_word_47 (by decide) (fun c16 => ?_) (fun c16 => ?_)
        · rw [if_neg c16] at hf
          refine lv_aload_n hx hb d_Mo_word_52 rfl (lv_at hl 0 rfl) ?_
          refine va_get (D := D) (ci := 0) (v := .ref (a 16)) (C := R_Mo) (T := T_Mo) (N := 29) hx hb hts in_Mo hown hK hP 0 rfl rfl 20 (by decide) (hts _ fl_Mo_60) (fun _ h9 => h9) rfl d_Mo_word_53 ?_
          refine lv_iload_n hx hb d_Mo_word_56 rfl (lv_at hl 1 rfl) ?_
          obtain ⟨g17, hf⟩ := ogi hf
          refine va_lald hx hb hK hP 17 1 rfl rfl (gin_in g17) d_Mo_word_57 ?_
          exact Kr _ (Option.some.inj hf).symm _ _ _ _ d_Mo_word_58 hP hD hS
        · rw [if_pos c16] at hf
          refine lv_lconst (v := 0) hx hb d_Mo_word_50 (by decide) ?_
          exact Kr _ (Option.some.inj hf).symm _ _ _ _ d_Mo_word_51 hP hD hS
      · rw [if_neg c14] at hf
        refine lv_iconst (v := 1) hx hb d_Mo_word_38 (by decide) ?_
        refine lv_goto (tgt := 43) hx hb d_Mo_word_39 (by decide) ?_
        refine lv_iconst (v := 2) hx hb d_Mo_word_43 (by decide) ?_
        obtain ⟨u18, eu18, hf⟩ := obd hf
        refine w_call (va_runV (As := [.int (bI true), .int 2]) (rest := []) ⟨hx, hb, hml, hown, hts⟩ (c_Mo_fails l H.size eu18) (gV 2 hts cd_Mo_fails ml_Mo_124 im_Mo_fails se_Mo_fails ini_Mo rfl rfl pd_Mo_fails ⟨Nat.le_trans (Nat.le_of_ble_eq_true rfl) hRf, Nat.le_trans (Nat.le_of_ble_eq_true rfl) hRl⟩) ⟨wPre_blind, va_recv hK hP (ci := 0) (q0 := 0) rfl rfl, wPre_of hP hK hD⟩ rfl rfl hl.1 rfl (lv_room (Nat.le_of_ble_eq_true rfl)) d_Mo_word_44 ⟨hRc, hRs⟩) hD hS hA (fun H locs hP hD hS => ?_)
        have hP : va_P D vwCl (moW K h a u18.2 mLanguages mBounds mSize mGoes mLast mLeft mNext mGroup mFresh mLeader mNumber mRight mEnds mWay mVariable mFactor mLeast mMost mLength mWord mKept mMany mMore mLeads mMet mTodo mMay mTries) H := hP
        have hD : va_D A (moW K h a u18.2 mLanguages mBounds mSize mGoes mLast mLeft mNext mGroup mFresh mLeader mNumber mRight mEnds mWay mVariable mFactor mLeast mMost mLength mWord mKept mMany mMore mLeads mMet mTodo mMay mTries) := hD
        refine bz_eq (tgt := 52) hx hb d_Mo_word_47 (by decide) (fun c19 => ?_) (fun c19 => ?_)
        · rw [if_neg c19] at hf
          refine lv_aload_n hx hb d_Mo_word_52 rfl (lv_at hl 0 rfl) ?_
          refine va_get (D := D) (ci := 0) (v := .ref (a 16)) (C := R_Mo) (T := T_Mo) (N := 29) hx hb hts in_Mo hown hK hP 0 rfl rfl 20 (by decide) (hts _ fl_Mo_60) (fun _ h9 => h9) rfl d_Mo_word_53 ?_
          refine lv_iload_n hx hb d_Mo_word_56 rfl (lv_at hl 1 rfl) ?_
          obtain ⟨g20, hf⟩ := ogi hf
          refine va_lald hx hb hK hP 17 1 rfl rfl (gin_in g20) d_Mo_word_57 ?_
          exact Kr _ (Option.some.inj hf).symm _ _ _ _ d_Mo_word_58 hP hD hS
        · rw [if_pos c19] at hf
          refine lv_lconst (v := 0) hx hb d_Mo_word_50 (by decide) ?_
          exact Kr _ (Option.some.inj hf).symm _ _ _ _ d_Mo_word_51 hP hD hS
set_option maxHeartbeats 4000000 in
set_option maxRecDepth 100000 in
theorem c_Mo_word (l : Launch)  {p0 : Int32}  {r : Int64 × Int32} (sz : Nat) (hf : f_Mo_word n p0 mWord mKept = some r) : Met l y_Mo_word w0_Mo_word ({ frames := 1, cells := 0, slots := 0, locals := 25 }) (wPre D K [.ref h, .int p0] (moW K h a mErr mLanguages mBounds mSize mGoes mLast mLeft mNext mGroup mFresh mLeader mNumber mRight mEnds mWay mVariable mFactor mLeast mMost mLength mWord mKept mMany mMore mLeads mMet mTodo mMay mTries) sz) (wPost D K (some (.long r.1)) (moW K h a r.2 mLanguages mBounds mSize mGoes mLast mLeft mNext mGroup mFresh mLeader mNumber mRight mEnds mWay mVariable mFactor mLeast mMost mLength mWord mKept mMany mMore mLeads mMet mTodo mMay mTries) (va_A (moW K h a mErr mLanguages mBounds mSize mGoes mLast mLeft mNext mGroup mFresh mLeader mNumber mRight mEnds mWay mVariable mFactor mLeast mMost mLength mWord mKept mMany mMore mLeads mMet mTodo mMay mTries) sz)) 0 0 (va_A (moW K h a mErr mLanguages mBounds mSize mGoes mLast mLeft mNext mGroup mFresh mLeader mNumber mRight mEnds mWay mVariable mFactor mLeast mMost mLength mWord mKept mMany mMore mLeads mMet mTodo mMay mTries) sz) := by
  refine Met.ofW (cc := b_Mo_word) (maxL := 2) (ret := (some .long)) (by decide) rfl ?_
  intro p e s m args below meth c s₁ B hml hv
  obtain ⟨rfl, hsz, hP, hK, hD0⟩ := hv
  subst hsz
  have hl := lv_entry [.ref h, .int p0] (n := 2) (Nat.le_of_ble_eq_true rfl)
  rw [lg_entry_eq]
  generalize (lg_sl [.ref h, .int p0] ++ List.replicate (2 - (lg_sl [.ref h, .int p0]).length) Slot.unset).toArray = ls at hl ⊢
  refine w_Mo_word (A := va_A (moW K h a mErr mLanguages mBounds mSize mGoes mLast mLeft mNext mGroup mFresh mLeader mNumber mRight mEnds mWay mVariable mFactor mLeast mMost mLength mWord mKept mMany mMore mLeads mMet mTodo mMay mTries) s.heap.size) (H0 := s.heap) B.exec B.bytes hml (fun w hw => atoms_spec (ws := w0_Mo_word) B.pre w (List.mem_cons_of_mem _ hw)) (findClass_of_methodNamed B.named) hK (Nat.le_refl _) (Nat.le_refl _) (Nat.zero_le _) (Nat.zero_le _) (fun q h => Or.inr h) (fun r er pc ls H locs hd hP hD hS => ?_) hf ls hP (hD0.self (sz := s.heap.size)) va_S.rf hl
  subst er
  exact W.lret B.exec B.bytes B.returns (fun t ht hW => ⟨⟨rfl, by rw [ht]; exact hP, va_K.moved hW.alike hK, hD⟩, hS.F ht⟩) hS.2.2 hd (hlocks := B.notSynchronized)
end
