abbrev b_Mo_fails : ByteArray := prog_13_method_4_code
def y_Mo_fails : MethodName := ⟨"RegularSolverModel", "fails", "(ZI)Z"⟩
abbrev w0_Mo_fails : List Cond := Cond.code y_Mo_fails b_Mo_fails 3 (some .boolean) :: gW
theorem cd_Mo_fails : Cond.code y_Mo_fails b_Mo_fails 3 (some .boolean) ∈ gW := gm 944 (by decide +kernel) (by decide +kernel)
theorem d_Mo_fails_0 : decode b_Mo_fails 0 = .ok (.iload_n 1, 1) := by decide +kernel
theorem d_Mo_fails_1 : decode b_Mo_fails 1 = .ok (.ifCond .eq 15, 3) := by decide +kernel
theorem d_Mo_fails_4 : decode b_Mo_fails 4 = .ok (.aload_n 0, 1) := by decide +kernel
theorem d_Mo_fails_5 : decode b_Mo_fails 5 = .ok (.getfield 84, 3) := by decide +kernel
theorem d_Mo_fails_8 : decode b_Mo_fails 8 = .ok (.ifCond .ne 8, 3) := by decide +kernel
theorem d_Mo_fails_11 : decode b_Mo_fails 11 = .ok (.aload_n 0, 1) := by decide +kernel
theorem d_Mo_fails_12 : decode b_Mo_fails 12 = .ok (.iload_n 2, 1) := by decide +kernel
theorem d_Mo_fails_13 : decode b_Mo_fails 13 = .ok (.putfield 84, 3) := by decide +kernel
theorem d_Mo_fails_16 : decode b_Mo_fails 16 = .ok (.aload_n 0, 1) := by decide +kernel
theorem d_Mo_fails_17 : decode b_Mo_fails 17 = .ok (.getfield 84, 3) := by decide +kernel
theorem d_Mo_fails_20 : decode b_Mo_fails 20 = .ok (.ifCond .eq 7, 3) := by decide +kernel
theorem d_Mo_fails_23 : decode b_Mo_fails 23 = .ok (.iconst 1, 1) := by decide +kernel
theorem d_Mo_fails_24 : decode b_Mo_fails 24 = .ok (.goto 4, 3) := by decide +kernel
theorem d_Mo_fails_27 : decode b_Mo_fails 27 = .ok (.iconst 0, 1) := by decide +kernel
theorem d_Mo_fails_28 : decode b_Mo_fails 28 = .ok (.ireturn, 1) := by decide +kernel
abbrev b_Mo_come : ByteArray := prog_13_method_8_code
def y_Mo_come : MethodName := ⟨"RegularSolverModel", "come", "(IJZ)I"⟩
abbrev w0_Mo_come : List Cond := Cond.code y_Mo_come b_Mo_come 6 (some .int) :: gW
theorem cd_Mo_come : Cond.code y_Mo_come b_Mo_come 6 (some .int) ∈ gW := gm 992 (by decide +kernel) (by decide +kernel)
theorem d_Mo_come_0 : decode b_Mo_come 0 = .ok (.iconst 0, 1) := by decide +kernel
theorem d_Mo_come_1 : decode b_Mo_come 1 = .ok (.istore 5, 2) := by decide +kernel
theorem d_Mo_come_3 : decode b_Mo_come 3 = .ok (.iload 5, 2) := by decide +kernel
theorem d_Mo_come_5 : decode b_Mo_come 5 = .ok (.aload_n 0, 1) := by decide +kernel
theorem d_Mo_come_6 : decode b_Mo_come 6 = .ok (.getfield 95, 3) := by decide +kernel
theorem d_Mo_come_9 : decode b_Mo_come 9 = .ok (.if_icmp .ge 35, 3) := by decide +kernel
theorem d_Mo_come_12 : decode b_Mo_come 12 = .ok (.aload_n 0, 1) := by decide +kernel
theorem d_Mo_come_13 : decode b_Mo_come 13 = .ok (.getfield 20, 3) := by decide +kernel
theorem d_Mo_come_16 : decode b_Mo_come 16 = .ok (.iload 5, 2) := by decide +kernel
theorem d_Mo_come_18 : decode b_Mo_come 18 = .ok (.iaload, 1) := by decide +kernel
theorem d_Mo_come_19 : decode b_Mo_come 19 = .ok (.iload_n 1, 1) := by decide +kernel
theorem d_Mo_come_20 : decode b_Mo_come 20 = .ok (.if_icmp .ne 18, 3) := by decide +kernel
theorem d_Mo_come_23 : decode b_Mo_come 23 = .ok (.aload_n 0, 1) := by decide +kernel
theorem d_Mo_come_24 : decode b_Mo_come 24 = .ok (.getfield 38, 3) := by decide +kernel
theorem d_Mo_come_27 : decode b_Mo_come 27 = .ok (.iload 5, 2) := by decide +kernel
theorem d_Mo_come_29 : decode b_Mo_come 29 = .ok (.laload, 1) := by decide +kernel
theorem d_Mo_come_30 : decode b_Mo_come 30 = .ok (.lload_n 2, 1) := by decide +kernel
theorem d_Mo_come_31 : decode b_Mo_come 31 = .ok (.lcmp, 1) := by decide +kernel
theorem d_Mo_come_32 : decode b_Mo_come 32 = .ok (.ifCond .ne 6, 3) := by decide +kernel
theorem d_Mo_come_35 : decode b_Mo_come 35 = .ok (.iload 5, 2) := by decide +kernel
theorem d_Mo_come_37 : decode b_Mo_come 37 = .ok (.ireturn, 1) := by decide +kernel
theorem d_Mo_come_38 : decode b_Mo_come 38 = .ok (.iinc 5 1, 3) := by decide +kernel
theorem d_Mo_come_41 : decode b_Mo_come 41 = .ok (.goto (-38), 3) := by decide +kernel
theorem d_Mo_come_44 : decode b_Mo_come 44 = .ok (.aload_n 0, 1) := by decide +kernel
theorem d_Mo_come_45 : decode b_Mo_come 45 = .ok (.getfield 95, 3) := by decide +kernel
theorem d_Mo_come_48 : decode b_Mo_come 48 = .ok (.sipush 800, 3) := by decide +kernel
theorem d_Mo_come_51 : decode b_Mo_come 51 = .ok (.if_icmp .ne 5, 3) := by decide +kernel
theorem d_Mo_come_54 : decode b_Mo_come 54 = .ok (.iconst (-1), 1) := by decide +kernel
theorem d_Mo_come_55 : decode b_Mo_come 55 = .ok (.ireturn, 1) := by decide +kernel
theorem d_Mo_come_56 : decode b_Mo_come 56 = .ok (.aload_n 0, 1) := by decide +kernel
theorem d_Mo_come_57 : decode b_Mo_come 57 = .ok (.getfield 20, 3) := by decide +kernel
theorem d_Mo_come_60 : decode b_Mo_come 60 = .ok (.aload_n 0, 1) := by decide +kernel
theorem d_Mo_come_61 : decode b_Mo_come 61 = .ok (.getfield 95, 3) := by decide +kernel
theorem d_Mo_come_64 : decode b_Mo_come 64 = .ok (.iload_n 1, 1) := by decide +kernel
theorem d_Mo_come_65 : decode b_Mo_come 65 = .ok (.iastore, 1) := by decide +kernel
theorem d_Mo_come_66 : decode b_Mo_come 66 = .ok (.aload_n 0, 1) := by decide +kernel
theorem d_Mo_come_67 : decode b_Mo_come 67 = .ok (.getfield 38, 3) := by decide +kernel
theorem d_Mo_come_70 : decode b_Mo_come 70 = .ok (.aload_n 0, 1) := by decide +kernel
theorem d_Mo_come_71 : decode b_Mo_come 71 = .ok (.getfield 95, 3) := by decide +kernel
theorem d_Mo_come_74 : decode b_Mo_come 74 = .ok (.lload_n 2, 1) := by decide +kernel
theorem d_Mo_come_75 : decode b_Mo_come 75 = .ok (.lastore, 1) := by decide +kernel
theorem d_Mo_come_76 : decode b_Mo_come 76 = .ok (.aload_n 0, 1) := by decide +kernel
theorem d_Mo_come_77 : decode b_Mo_come 77 = .ok (.getfield 42, 3) := by decide +kernel
theorem d_Mo_come_80 : decode b_Mo_come 80 = .ok (.aload_n 0, 1) := by decide +kernel
theorem d_Mo_come_81 : decode b_Mo_come 81 = .ok (.getfield 95, 3) := by decide +kernel
theorem d_Mo_come_84 : decode b_Mo_come 84 = .ok (.iload 4, 2) := by decide +kernel
theorem d_Mo_come_86 : decode b_Mo_come 86 = .ok (.bastore, 1) := by decide +kernel
theorem d_Mo_come_87 : decode b_Mo_come 87 = .ok (.aload_n 0, 1) := by decide +kernel
theorem d_Mo_come_88 : decode b_Mo_come 88 = .ok (.dup, 1) := by decide +kernel
theorem d_Mo_come_89 : decode b_Mo_come 89 = .ok (.getfield 95, 3) := by decide +kernel
theorem d_Mo_come_92 : decode b_Mo_come 92 = .ok (.dup_x1, 1) := by decide +kernel
theorem d_Mo_come_93 : decode b_Mo_come 93 = .ok (.iconst 1, 1) := by decide +kernel
theorem d_Mo_come_94 : decode b_Mo_come 94 = .ok (.iadd, 1) := by decide +kernel
theorem d_Mo_come_95 : decode b_Mo_come 95 = .ok (.putfield 95, 3) := by decide +kernel
theorem d_Mo_come_98 : decode b_Mo_come 98 = .ok (.ireturn, 1) := by decide +kernel
abbrev b_Mo_full : ByteArray := prog_13_method_15_code
def y_Mo_full : MethodName := ⟨"RegularSolverModel", "full", "(I)Z"⟩
abbrev w0_Mo_full : List Cond := Cond.code y_Mo_full b_Mo_full 2 (some .boolean) :: gW
theorem cd_Mo_full : Cond.code y_Mo_full b_Mo_full 2 (some .boolean) ∈ gW := gm 948 (by decide +kernel) (by decide +kernel)
theorem d_Mo_full_0 : decode b_Mo_full 0 = .ok (.aload_n 0, 1) := by decide +kernel
theorem d_Mo_full_1 : decode b_Mo_full 1 = .ok (.aload_n 0, 1) := by decide +kernel
theorem d_Mo_full_2 : decode b_Mo_full 2 = .ok (.getfield 88, 3) := by decide +kernel
theorem d_Mo_full_5 : decode b_Mo_full 5 = .ok (.bipush 60, 2) := by decide +kernel
theorem d_Mo_full_7 : decode b_Mo_full 7 = .ok (.if_icmp .ne 7, 3) := by decide +kernel
theorem d_Mo_full_10 : decode b_Mo_full 10 = .ok (.iconst 1, 1) := by decide +kernel
theorem d_Mo_full_11 : decode b_Mo_full 11 = .ok (.goto 4, 3) := by decide +kernel
theorem d_Mo_full_14 : decode b_Mo_full 14 = .ok (.iconst 0, 1) := by decide +kernel
theorem d_Mo_full_15 : decode b_Mo_full 15 = .ok (.iload_n 1, 1) := by decide +kernel
theorem d_Mo_full_16 : decode b_Mo_full 16 = .ok (.invokevirtual 124, 3) := by decide +kernel
theorem d_Mo_full_19 : decode b_Mo_full 19 = .ok (.ireturn, 1) := by decide +kernel
abbrev b_Mo_lead : ByteArray := prog_13_method_27_code
def y_Mo_lead : MethodName := ⟨"RegularSolverModel", "lead", "(II)V"⟩
abbrev w0_Mo_lead : List Cond := Cond.code y_Mo_lead b_Mo_lead 7 none :: gW
theorem cd_Mo_lead : Cond.code y_Mo_lead b_Mo_lead 7 none ∈ gW := gm 1039 (by decide +kernel) (by decide +kernel)
theorem d_Mo_lead_0 : decode b_Mo_lead 0 = .ok (.iconst 0, 1) := by decide +kernel
theorem d_Mo_lead_1 : decode b_Mo_lead 1 = .ok (.istore_n 3, 1) := by decide +kernel
theorem d_Mo_lead_2 : decode b_Mo_lead 2 = .ok (.iload_n 3, 1) := by decide +kernel
theorem d_Mo_lead_3 : decode b_Mo_lead 3 = .ok (.iload_n 2, 1) := by decide +kernel
theorem d_Mo_lead_4 : decode b_Mo_lead 4 = .ok (.if_icmp .gt 129, 3) := by decide +kernel
theorem d_Mo_lead_7 : decode b_Mo_lead 7 = .ok (.aload_n 0, 1) := by decide +kernel
theorem d_Mo_lead_8 : decode b_Mo_lead 8 = .ok (.getfield 69, 3) := by decide +kernel
theorem d_Mo_lead_11 : decode b_Mo_lead 11 = .ok (.iload_n 3, 1) := by decide +kernel
theorem d_Mo_lead_12 : decode b_Mo_lead 12 = .ok (.lconst 0, 1) := by decide +kernel
theorem d_Mo_lead_13 : decode b_Mo_lead 13 = .ok (.lastore, 1) := by decide +kernel
theorem d_Mo_lead_14 : decode b_Mo_lead 14 = .ok (.iconst 0, 1) := by decide +kernel
theorem d_Mo_lead_15 : decode b_Mo_lead 15 = .ok (.istore 4, 2) := by decide +kernel
theorem d_Mo_lead_17 : decode b_Mo_lead 17 = .ok (.iload 4, 2) := by decide +kernel
theorem d_Mo_lead_19 : decode b_Mo_lead 19 = .ok (.aload_n 0, 1) := by decide +kernel
theorem d_Mo_lead_20 : decode b_Mo_lead 20 = .ok (.getfield 9, 3) := by decide +kernel
theorem d_Mo_lead_23 : decode b_Mo_lead 23 = .ok (.iload_n 1, 1) := by decide +kernel
theorem d_Mo_lead_24 : decode b_Mo_lead 24 = .ok (.iaload, 1) := by decide +kernel
theorem d_Mo_lead_25 : decode b_Mo_lead 25 = .ok (.if_icmp .ge 102, 3) := by decide +kernel
theorem d_Mo_lead_28 : decode b_Mo_lead 28 = .ok (.iload_n 3, 1) := by decide +kernel
theorem d_Mo_lead_29 : decode b_Mo_lead 29 = .ok (.ifCond .ne 17, 3) := by decide +kernel
theorem d_Mo_lead_32 : decode b_Mo_lead 32 = .ok (.aload_n 0, 1) := by decide +kernel
theorem d_Mo_lead_33 : decode b_Mo_lead 33 = .ok (.iload_n 1, 1) := by decide +kernel
theorem d_Mo_lead_34 : decode b_Mo_lead 34 = .ok (.iload 4, 2) := by decide +kernel
theorem d_Mo_lead_36 : decode b_Mo_lead 36 = .ok (.invokevirtual 102, 3) := by decide +kernel
theorem d_Mo_lead_39 : decode b_Mo_lead 39 = .ok (.ifCond .eq 7, 3) := by decide +kernel
theorem d_Mo_lead_42 : decode b_Mo_lead 42 = .ok (.iconst 1, 1) := by decide +kernel
theorem d_Mo_lead_43 : decode b_Mo_lead 43 = .ok (.goto 4, 3) := by decide +kernel
theorem d_Mo_lead_46 : decode b_Mo_lead 46 = .ok (.iconst 0, 1) := by decide +kernel
theorem d_Mo_lead_47 : decode b_Mo_lead 47 = .ok (.istore 5, 2) := by decide +kernel
theorem d_Mo_lead_49 : decode b_Mo_lead 49 = .ok (.iconst 0, 1) := by decide +kernel
theorem d_Mo_lead_50 : decode b_Mo_lead 50 = .ok (.istore 6, 2) := by decide +kernel
theorem d_Mo_lead_52 : decode b_Mo_lead 52 = .ok (.iload 6, 2) := by decide +kernel
theorem d_Mo_lead_54 : decode b_Mo_lead 54 = .ok (.iconst 4, 1) := by decide +kernel
theorem d_Mo_lead_55 : decode b_Mo_lead 55 = .ok (.if_icmp .ge 48, 3) := by decide +kernel
theorem d_Mo_lead_58 : decode b_Mo_lead 58 = .ok (.iload_n 3, 1) := by decide +kernel
theorem d_Mo_lead_59 : decode b_Mo_lead 59 = .ok (.ifCond .le 44, 3) := by decide +kernel
theorem d_Mo_lead_62 : decode b_Mo_lead 62 = .ok (.iload 5, 2) := by decide +kernel
theorem d_Mo_lead_64 : decode b_Mo_lead 64 = .ok (.aload_n 0, 1) := by decide +kernel
theorem d_Mo_lead_65 : decode b_Mo_lead 65 = .ok (.getfield 69, 3) := by decide +kernel
theorem d_Mo_lead_68 : decode b_Mo_lead 68 = .ok (.iload_n 3, 1) := by decide +kernel
theorem d_Mo_lead_69 : decode b_Mo_lead 69 = .ok (.iconst 1, 1) := by decide +kernel
theorem d_Mo_lead_70 : decode b_Mo_lead 70 = .ok (.isub, 1) := by decide +kernel
theorem d_Mo_lead_71 : decode b_Mo_lead 71 = .ok (.laload, 1) := by decide +kernel
theorem d_Mo_lead_72 : decode b_Mo_lead 72 = .ok (.aload_n 0, 1) := by decide +kernel
theorem d_Mo_lead_73 : decode b_Mo_lead 73 = .ok (.iload_n 1, 1) := by decide +kernel
theorem d_Mo_lead_74 : decode b_Mo_lead 74 = .ok (.iload 4, 2) := by decide +kernel
theorem d_Mo_lead_76 : decode b_Mo_lead 76 = .ok (.iload 6, 2) := by decide +kernel
theorem d_Mo_lead_78 : decode b_Mo_lead 78 = .ok (.invokevirtual 98, 3) := by decide +kernel
theorem d_Mo_lead_81 : decode b_Mo_lead 81 = .ok (.lshr, 1) := by decide +kernel
theorem d_Mo_lead_82 : decode b_Mo_lead 82 = .ok (.lconst 1, 1) := by decide +kernel
theorem d_Mo_lead_83 : decode b_Mo_lead 83 = .ok (.land, 1) := by decide +kernel
theorem d_Mo_lead_84 : decode b_Mo_lead 84 = .ok (.lconst 0, 1) := by decide +kernel
theorem d_Mo_lead_85 : decode b_Mo_lead 85 = .ok (.lcmp, 1) := by decide +kernel
theorem d_Mo_lead_86 : decode b_Mo_lead 86 = .ok (.ifCond .eq 7, 3) := by decide +kernel
theorem d_Mo_lead_89 : decode b_Mo_lead 89 = .ok (.iconst 1, 1) := by decide +kernel
theorem d_Mo_lead_90 : decode b_Mo_lead 90 = .ok (.goto 4, 3) := by decide +kernel
theorem d_Mo_lead_93 : decode b_Mo_lead 93 = .ok (.iconst 0, 1) := by decide +kernel
theorem d_Mo_lead_94 : decode b_Mo_lead 94 = .ok (.ior, 1) := by decide +kernel
theorem d_Mo_lead_95 : decode b_Mo_lead 95 = .ok (.istore 5, 2) := by decide +kernel
theorem d_Mo_lead_97 : decode b_Mo_lead 97 = .ok (.iinc 6 1, 3) := by decide +kernel
theorem d_Mo_lead_100 : decode b_Mo_lead 100 = .ok (.goto (-48), 3) := by decide +kernel
theorem d_Mo_lead_103 : decode b_Mo_lead 103 = .ok (.iload 5, 2) := by decide +kernel
theorem d_Mo_lead_105 : decode b_Mo_lead 105 = .ok (.ifCond .eq 16, 3) := by decide +kernel
theorem d_Mo_lead_108 : decode b_Mo_lead 108 = .ok (.aload_n 0, 1) := by decide +kernel
theorem d_Mo_lead_109 : decode b_Mo_lead 109 = .ok (.getfield 69, 3) := by decide +kernel
theorem d_Mo_lead_112 : decode b_Mo_lead 112 = .ok (.iload_n 3, 1) := by decide +kernel
theorem d_Mo_lead_113 : decode b_Mo_lead 113 = .ok (.dup2, 1) := by decide +kernel
theorem d_Mo_lead_114 : decode b_Mo_lead 114 = .ok (.laload, 1) := by decide +kernel
theorem d_Mo_lead_115 : decode b_Mo_lead 115 = .ok (.lconst 1, 1) := by decide +kernel
theorem d_Mo_lead_116 : decode b_Mo_lead 116 = .ok (.iload 4, 2) := by decide +kernel
theorem d_Mo_lead_118 : decode b_Mo_lead 118 = .ok (.lshl, 1) := by decide +kernel
theorem d_Mo_lead_119 : decode b_Mo_lead 119 = .ok (.lor, 1) := by decide +kernel
theorem d_Mo_lead_120 : decode b_Mo_lead 120 = .ok (.lastore, 1) := by decide +kernel
theorem d_Mo_lead_121 : decode b_Mo_lead 121 = .ok (.iinc 4 1, 3) := by decide +kernel
theorem d_Mo_lead_124 : decode b_Mo_lead 124 = .ok (.goto (-107), 3) := by decide +kernel
theorem d_Mo_lead_127 : decode b_Mo_lead 127 = .ok (.iinc 3 1, 3) := by decide +kernel
theorem d_Mo_lead_130 : decode b_Mo_lead 130 = .ok (.goto (-128), 3) := by decide +kernel
theorem d_Mo_lead_133 : decode b_Mo_lead 133 = .ok (.return_, 1) := by decide +kernel
abbrev b_Mo_clear : ByteArray := prog_13_method_34_code
def y_Mo_clear : MethodName := ⟨"RegularSolverModel", "clear", "()V"⟩
abbrev w0_Mo_clear : List Cond := Cond.code y_Mo_clear b_Mo_clear 2 none :: gW
theorem cd_Mo_clear : Cond.code y_Mo_clear b_Mo_clear 2 none ∈ gW := gm 1065 (by decide +kernel) (by decide +kernel)
theorem d_Mo_clear_0 : decode b_Mo_clear 0 = .ok (.aload_n 0, 1) := by decide +kernel
theorem d_Mo_clear_1 : decode b_Mo_clear 1 = .ok (.iconst 0, 1) := by decide +kernel
theorem d_Mo_clear_2 : decode b_Mo_clear 2 = .ok (.putfield 84, 3) := by decide +kernel
theorem d_Mo_clear_5 : decode b_Mo_clear 5 = .ok (.aload_n 0, 1) := by decide +kernel
theorem d_Mo_clear_6 : decode b_Mo_clear 6 = .ok (.iconst 0, 1) := by decide +kernel
theorem d_Mo_clear_7 : decode b_Mo_clear 7 = .ok (.putfield 166, 3) := by decide +kernel
theorem d_Mo_clear_10 : decode b_Mo_clear 10 = .ok (.aload_n 0, 1) := by decide +kernel
theorem d_Mo_clear_11 : decode b_Mo_clear 11 = .ok (.iconst 0, 1) := by decide +kernel
theorem d_Mo_clear_12 : decode b_Mo_clear 12 = .ok (.putfield 169, 3) := by decide +kernel
theorem d_Mo_clear_15 : decode b_Mo_clear 15 = .ok (.iconst 0, 1) := by decide +kernel
theorem d_Mo_clear_16 : decode b_Mo_clear 16 = .ok (.istore_n 1, 1) := by decide +kernel
theorem d_Mo_clear_17 : decode b_Mo_clear 17 = .ok (.iload_n 1, 1) := by decide +kernel
theorem d_Mo_clear_18 : decode b_Mo_clear 18 = .ok (.iconst 4, 1) := by decide +kernel
theorem d_Mo_clear_19 : decode b_Mo_clear 19 = .ok (.if_icmp .ge 16, 3) := by decide +kernel
theorem d_Mo_clear_22 : decode b_Mo_clear 22 = .ok (.aload_n 0, 1) := by decide +kernel
theorem d_Mo_clear_23 : decode b_Mo_clear 23 = .ok (.getfield 45, 3) := by decide +kernel
theorem d_Mo_clear_26 : decode b_Mo_clear 26 = .ok (.iload_n 1, 1) := by decide +kernel
theorem d_Mo_clear_27 : decode b_Mo_clear 27 = .ok (.iconst (-1), 1) := by decide +kernel
theorem d_Mo_clear_28 : decode b_Mo_clear 28 = .ok (.iastore, 1) := by decide +kernel
theorem d_Mo_clear_29 : decode b_Mo_clear 29 = .ok (.iinc 1 1, 3) := by decide +kernel
theorem d_Mo_clear_32 : decode b_Mo_clear 32 = .ok (.goto (-15), 3) := by decide +kernel
theorem d_Mo_clear_35 : decode b_Mo_clear 35 = .ok (.return_, 1) := by decide +kernel
abbrev b_Mo_found : ByteArray := prog_13_method_37_code
def y_Mo_found : MethodName := ⟨"RegularSolverModel", "found", "(I)Z"⟩
abbrev w0_Mo_found : List Cond := Cond.code y_Mo_found b_Mo_found 2 (some .boolean) :: gW
theorem cd_Mo_found : Cond.code y_Mo_found b_Mo_found 2 (some .boolean) ∈ gW := gm 1073 (by decide +kernel) (by decide +kernel)
theorem d_Mo_found_0 : decode b_Mo_found 0 = .ok (.aload_n 0, 1) := by decide +kernel
theorem d_Mo_found_1 : decode b_Mo_found 1 = .ok (.getfield 81, 3) := by decide +kernel
theorem d_Mo_found_4 : decode b_Mo_found 4 = .ok (.iconst 0, 1) := by decide +kernel
theorem d_Mo_found_5 : decode b_Mo_found 5 = .ok (.iconst 0, 1) := by decide +kernel
theorem d_Mo_found_6 : decode b_Mo_found 6 = .ok (.iastore, 1) := by decide +kernel
theorem d_Mo_found_7 : decode b_Mo_found 7 = .ok (.aload_n 0, 1) := by decide +kernel
theorem d_Mo_found_8 : decode b_Mo_found 8 = .ok (.getfield 81, 3) := by decide +kernel
theorem d_Mo_found_11 : decode b_Mo_found 11 = .ok (.iconst 0, 1) := by decide +kernel
theorem d_Mo_found_12 : decode b_Mo_found 12 = .ok (.iaload, 1) := by decide +kernel
theorem d_Mo_found_13 : decode b_Mo_found 13 = .ok (.iload_n 1, 1) := by decide +kernel
theorem d_Mo_found_14 : decode b_Mo_found 14 = .ok (.if_icmp .gt 194, 3) := by decide +kernel
theorem d_Mo_found_17 : decode b_Mo_found 17 = .ok (.aload_n 0, 1) := by decide +kernel
theorem d_Mo_found_18 : decode b_Mo_found 18 = .ok (.getfield 78, 3) := by decide +kernel
theorem d_Mo_found_21 : decode b_Mo_found 21 = .ok (.iconst 4, 1) := by decide +kernel
theorem d_Mo_found_22 : decode b_Mo_found 22 = .ok (.aload_n 0, 1) := by decide +kernel
theorem d_Mo_found_23 : decode b_Mo_found 23 = .ok (.getfield 81, 3) := by decide +kernel
theorem d_Mo_found_26 : decode b_Mo_found 26 = .ok (.iconst 0, 1) := by decide +kernel
theorem d_Mo_found_27 : decode b_Mo_found 27 = .ok (.iaload, 1) := by decide +kernel
theorem d_Mo_found_28 : decode b_Mo_found 28 = .ok (.imul, 1) := by decide +kernel
theorem d_Mo_found_29 : decode b_Mo_found 29 = .ok (.baload, 1) := by decide +kernel
theorem d_Mo_found_30 : decode b_Mo_found 30 = .ok (.ifCond .ne 6, 3) := by decide +kernel
theorem d_Mo_found_33 : decode b_Mo_found 33 = .ok (.goto 162, 3) := by decide +kernel
theorem d_Mo_found_36 : decode b_Mo_found 36 = .ok (.aload_n 0, 1) := by decide +kernel
theorem d_Mo_found_37 : decode b_Mo_found 37 = .ok (.getfield 81, 3) := by decide +kernel
theorem d_Mo_found_40 : decode b_Mo_found 40 = .ok (.iconst 1, 1) := by decide +kernel
theorem d_Mo_found_41 : decode b_Mo_found 41 = .ok (.iconst 0, 1) := by decide +kernel
theorem d_Mo_found_42 : decode b_Mo_found 42 = .ok (.iastore, 1) := by decide +kernel
theorem d_Mo_found_43 : decode b_Mo_found 43 = .ok (.aload_n 0, 1) := by decide +kernel
theorem d_Mo_found_44 : decode b_Mo_found 44 = .ok (.getfield 81, 3) := by decide +kernel
theorem d_Mo_found_47 : decode b_Mo_found 47 = .ok (.iconst 1, 1) := by decide +kernel
theorem d_Mo_found_48 : decode b_Mo_found 48 = .ok (.iaload, 1) := by decide +kernel
theorem d_Mo_found_49 : decode b_Mo_found 49 = .ok (.iload_n 1, 1) := by decide +kernel
theorem d_Mo_found_50 : decode b_Mo_found 50 = .ok (.if_icmp .gt 145, 3) := by decide +kernel
theorem d_Mo_found_53 : decode b_Mo_found 53 = .ok (.aload_n 0, 1) := by decide +kernel
theorem d_Mo_found_54 : decode b_Mo_found 54 = .ok (.getfield 78, 3) := by decide +kernel
theorem d_Mo_found_57 : decode b_Mo_found 57 = .ok (.iconst 4, 1) := by decide +kernel
theorem d_Mo_found_58 : decode b_Mo_found 58 = .ok (.aload_n 0, 1) := by decide +kernel
theorem d_Mo_found_59 : decode b_Mo_found 59 = .ok (.getfield 81, 3) := by decide +kernel
theorem d_Mo_found_62 : decode b_Mo_found 62 = .ok (.iconst 1, 1) := by decide +kernel
theorem d_Mo_found_63 : decode b_Mo_found 63 = .ok (.iaload, 1) := by decide +kernel
theorem d_Mo_found_64 : decode b_Mo_found 64 = .ok (.imul, 1) := by decide +kernel
theorem d_Mo_found_65 : decode b_Mo_found 65 = .ok (.iconst 1, 1) := by decide +kernel
theorem d_Mo_found_66 : decode b_Mo_found 66 = .ok (.iadd, 1) := by decide +kernel
theorem d_Mo_found_67 : decode b_Mo_found 67 = .ok (.baload, 1) := by decide +kernel
theorem d_Mo_found_68 : decode b_Mo_found 68 = .ok (.ifCond .ne 6, 3) := by decide +kernel
theorem d_Mo_found_71 : decode b_Mo_found 71 = .ok (.goto 111, 3) := by decide +kernel
theorem d_Mo_found_74 : decode b_Mo_found 74 = .ok (.aload_n 0, 1) := by decide +kernel
theorem d_Mo_found_75 : decode b_Mo_found 75 = .ok (.getfield 81, 3) := by decide +kernel
theorem d_Mo_found_78 : decode b_Mo_found 78 = .ok (.iconst 2, 1) := by decide +kernel
theorem d_Mo_found_79 : decode b_Mo_found 79 = .ok (.iconst 0, 1) := by decide +kernel
theorem d_Mo_found_80 : decode b_Mo_found 80 = .ok (.iastore, 1) := by decide +kernel
theorem d_Mo_found_81 : decode b_Mo_found 81 = .ok (.aload_n 0, 1) := by decide +kernel
theorem d_Mo_found_82 : decode b_Mo_found 82 = .ok (.getfield 81, 3) := by decide +kernel
theorem d_Mo_found_85 : decode b_Mo_found 85 = .ok (.iconst 2, 1) := by decide +kernel
theorem d_Mo_found_86 : decode b_Mo_found 86 = .ok (.iaload, 1) := by decide +kernel
theorem d_Mo_found_87 : decode b_Mo_found 87 = .ok (.iload_n 1, 1) := by decide +kernel
theorem d_Mo_found_88 : decode b_Mo_found 88 = .ok (.if_icmp .gt 94, 3) := by decide +kernel
theorem d_Mo_found_91 : decode b_Mo_found 91 = .ok (.aload_n 0, 1) := by decide +kernel
theorem d_Mo_found_92 : decode b_Mo_found 92 = .ok (.getfield 78, 3) := by decide +kernel
theorem d_Mo_found_95 : decode b_Mo_found 95 = .ok (.iconst 4, 1) := by decide +kernel
theorem d_Mo_found_96 : decode b_Mo_found 96 = .ok (.aload_n 0, 1) := by decide +kernel
theorem d_Mo_found_97 : decode b_Mo_found 97 = .ok (.getfield 81, 3) := by decide +kernel
theorem d_Mo_found_100 : decode b_Mo_found 100 = .ok (.iconst 2, 1) := by decide +kernel
theorem d_Mo_found_101 : decode b_Mo_found 101 = .ok (.iaload, 1) := by decide +kernel
theorem d_Mo_found_102 : decode b_Mo_found 102 = .ok (.imul, 1) := by decide +kernel
theorem d_Mo_found_103 : decode b_Mo_found 103 = .ok (.iconst 2, 1) := by decide +kernel
theorem d_Mo_found_104 : decode b_Mo_found 104 = .ok (.iadd, 1) := by decide +kernel
theorem d_Mo_found_105 : decode b_Mo_found 105 = .ok (.baload, 1) := by decide +kernel
theorem d_Mo_found_106 : decode b_Mo_found 106 = .ok (.ifCond .ne 6, 3) := by decide +kernel
theorem d_Mo_found_109 : decode b_Mo_found 109 = .ok (.goto 60, 3) := by decide +kernel
theorem d_Mo_found_112 : decode b_Mo_found 112 = .ok (.aload_n 0, 1) := by decide +kernel
theorem d_Mo_found_113 : decode b_Mo_found 113 = .ok (.getfield 81, 3) := by decide +kernel
theorem d_Mo_found_116 : decode b_Mo_found 116 = .ok (.iconst 3, 1) := by decide +kernel
theorem d_Mo_found_117 : decode b_Mo_found 117 = .ok (.iconst 0, 1) := by decide +kernel
theorem d_Mo_found_118 : decode b_Mo_found 118 = .ok (.iastore, 1) := by decide +kernel
theorem d_Mo_found_119 : decode b_Mo_found 119 = .ok (.aload_n 0, 1) := by decide +kernel
theorem d_Mo_found_120 : decode b_Mo_found 120 = .ok (.getfield 81, 3) := by decide +kernel
theorem d_Mo_found_123 : decode b_Mo_found 123 = .ok (.iconst 3, 1) := by decide +kernel
theorem d_Mo_found_124 : decode b_Mo_found 124 = .ok (.iaload, 1) := by decide +kernel
theorem d_Mo_found_125 : decode b_Mo_found 125 = .ok (.iload_n 1, 1) := by decide +kernel
theorem d_Mo_found_126 : decode b_Mo_found 126 = .ok (.if_icmp .gt 43, 3) := by decide +kernel
theorem d_Mo_found_129 : decode b_Mo_found 129 = .ok (.aload_n 0, 1) := by decide +kernel
theorem d_Mo_found_130 : decode b_Mo_found 130 = .ok (.getfield 78, 3) := by decide +kernel
theorem d_Mo_found_133 : decode b_Mo_found 133 = .ok (.iconst 4, 1) := by decide +kernel
theorem d_Mo_found_134 : decode b_Mo_found 134 = .ok (.aload_n 0, 1) := by decide +kernel
theorem d_Mo_found_135 : decode b_Mo_found 135 = .ok (.getfield 81, 3) := by decide +kernel
theorem d_Mo_found_138 : decode b_Mo_found 138 = .ok (.iconst 3, 1) := by decide +kernel
theorem d_Mo_found_139 : decode b_Mo_found 139 = .ok (.iaload, 1) := by decide +kernel
theorem d_Mo_found_140 : decode b_Mo_found 140 = .ok (.imul, 1) := by decide +kernel
theorem d_Mo_found_141 : decode b_Mo_found 141 = .ok (.iconst 3, 1) := by decide +kernel
theorem d_Mo_found_142 : decode b_Mo_found 142 = .ok (.iadd, 1) := by decide +kernel
theorem d_Mo_found_143 : decode b_Mo_found 143 = .ok (.baload, 1) := by decide +kernel
theorem d_Mo_found_144 : decode b_Mo_found 144 = .ok (.ifCond .eq 12, 3) := by decide +kernel
theorem d_Mo_found_147 : decode b_Mo_found 147 = .ok (.aload_n 0, 1) := by decide +kernel
theorem d_Mo_found_148 : decode b_Mo_found 148 = .ok (.invokevirtual 176, 3) := by decide +kernel
theorem d_Mo_found_151 : decode b_Mo_found 151 = .ok (.ifCond .eq 5, 3) := by decide +kernel
theorem d_Mo_found_154 : decode b_Mo_found 154 = .ok (.iconst 1, 1) := by decide +kernel
theorem d_Mo_found_155 : decode b_Mo_found 155 = .ok (.ireturn, 1) := by decide +kernel
theorem d_Mo_found_156 : decode b_Mo_found 156 = .ok (.aload_n 0, 1) := by decide +kernel
theorem d_Mo_found_157 : decode b_Mo_found 157 = .ok (.getfield 81, 3) := by decide +kernel
theorem d_Mo_found_160 : decode b_Mo_found 160 = .ok (.iconst 3, 1) := by decide +kernel
theorem d_Mo_found_161 : decode b_Mo_found 161 = .ok (.dup2, 1) := by decide +kernel
theorem d_Mo_found_162 : decode b_Mo_found 162 = .ok (.iaload, 1) := by decide +kernel
theorem d_Mo_found_163 : decode b_Mo_found 163 = .ok (.iconst 1, 1) := by decide +kernel
theorem d_Mo_found_164 : decode b_Mo_found 164 = .ok (.iadd, 1) := by decide +kernel
theorem d_Mo_found_165 : decode b_Mo_found 165 = .ok (.iastore, 1) := by decide +kernel
theorem d_Mo_found_166 : decode b_Mo_found 166 = .ok (.goto (-47), 3) := by decide +kernel
theorem d_Mo_found_169 : decode b_Mo_found 169 = .ok (.aload_n 0, 1) := by decide +kernel
theorem d_Mo_found_170 : decode b_Mo_found 170 = .ok (.getfield 81, 3) := by decide +kernel
theorem d_Mo_found_173 : decode b_Mo_found 173 = .ok (.iconst 2, 1) := by decide +kernel
theorem d_Mo_found_174 : decode b_Mo_found 174 = .ok (.dup2, 1) := by decide +kernel
theorem d_Mo_found_175 : decode b_Mo_found 175 = .ok (.iaload, 1) := by decide +kernel
theorem d_Mo_found_176 : decode b_Mo_found 176 = .ok (.iconst 1, 1) := by decide +kernel
theorem d_Mo_found_177 : decode b_Mo_found 177 = .ok (.iadd, 1) := by decide +kernel
theorem d_Mo_found_178 : decode b_Mo_found 178 = .ok (.iastore, 1) := by decide +kernel
theorem d_Mo_found_179 : decode b_Mo_found 179 = .ok (.goto (-98), 3) := by decide +kernel
theorem d_Mo_found_182 : decode b_Mo_found 182 = .ok (.aload_n 0, 1) := by decide +kernel
theorem d_Mo_found_183 : decode b_Mo_found 183 = .ok (.getfield 81, 3) := by decide +kernel
theorem d_Mo_found_186 : decode b_Mo_found 186 = .ok (.iconst 1, 1) := by decide +kernel
theorem d_Mo_found_187 : decode b_Mo_found 187 = .ok (.dup2, 1) := by decide +kernel
theorem d_Mo_found_188 : decode b_Mo_found 188 = .ok (.iaload, 1) := by decide +kernel
theorem d_Mo_found_189 : decode b_Mo_found 189 = .ok (.iconst 1, 1) := by decide +kernel
theorem d_Mo_found_190 : decode b_Mo_found 190 = .ok (.iadd, 1) := by decide +kernel
theorem d_Mo_found_191 : decode b_Mo_found 191 = .ok (.iastore, 1) := by decide +kernel
theorem d_Mo_found_192 : decode b_Mo_found 192 = .ok (.goto (-149), 3) := by decide +kernel
theorem d_Mo_found_195 : decode b_Mo_found 195 = .ok (.aload_n 0, 1) := by decide +kernel
theorem d_Mo_found_196 : decode b_Mo_found 196 = .ok (.getfield 81, 3) := by decide +kernel
theorem d_Mo_found_199 : decode b_Mo_found 199 = .ok (.iconst 0, 1) := by decide +kernel
theorem d_Mo_found_200 : decode b_Mo_found 200 = .ok (.dup2, 1) := by decide +kernel
theorem d_Mo_found_201 : decode b_Mo_found 201 = .ok (.iaload, 1) := by decide +kernel
theorem d_Mo_found_202 : decode b_Mo_found 202 = .ok (.iconst 1, 1) := by decide +kernel
theorem d_Mo_found_203 : decode b_Mo_found 203 = .ok (.iadd, 1) := by decide +kernel
theorem d_Mo_found_204 : decode b_Mo_found 204 = .ok (.iastore, 1) := by decide +kernel
theorem d_Mo_found_205 : decode b_Mo_found 205 = .ok (.goto (-198), 3) := by decide +kernel
theorem d_Mo_found_208 : decode b_Mo_found 208 = .ok (.iconst 0, 1) := by decide +kernel
theorem d_Mo_found_209 : decode b_Mo_found 209 = .ok (.ireturn, 1) := by decide +kernel
theorem fl_Mo_95 : (Cond.fieldLink "RegularSolverModel" 95 "RegularSolverModel" "way" "I") ∈ gW := gm 854 (by decide +kernel) (by decide +kernel)
theorem fl_Mo_20 : (Cond.fieldLink "RegularSolverModel" 20 "RegularSolverModel" "left" "[I") ∈ gW := gm 846 (by decide +kernel) (by decide +kernel)
theorem fl_Mo_38 : (Cond.fieldLink "RegularSolverModel" 38 "RegularSolverModel" "right" "[J") ∈ gW := gm 852 (by decide +kernel) (by decide +kernel)
theorem fl_Mo_42 : (Cond.fieldLink "RegularSolverModel" 42 "RegularSolverModel" "ends" "[Z") ∈ gW := gm 853 (by decide +kernel) (by decide +kernel)
theorem ml_Mo_124 : (Cond.methodLink "RegularSolverModel" 124 ({ cls := "RegularSolverModel", name := "fails", desc := "(ZI)Z" } : MethodName)) ∈ gW := gm 941 (by decide +kernel) (by decide +kernel)
theorem im_Mo_fails : (Cond.instanceMethod ({ cls := "RegularSolverModel", name := "fails", desc := "(ZI)Z" } : MethodName)) ∈ gW := gm 943 (by decide +kernel) (by decide +kernel)
theorem se_Mo_fails : (Cond.selects "RegularSolverModel" ({ cls := "RegularSolverModel", name := "fails", desc := "(ZI)Z" } : MethodName) ({ cls := "RegularSolverModel", name := "fails", desc := "(ZI)Z" } : MethodName)) ∈ gW := gs (by decide +kernel) (by decide +kernel)
theorem fl_Mo_169 : (Cond.fieldLink "RegularSolverModel" 169 "RegularSolverModel" "kept" "Z") ∈ gW := gm 861 (by decide +kernel) (by decide +kernel)
theorem fl_Mo_45 : (Cond.fieldLink "RegularSolverModel" 45 "RegularSolverModel" "variable" "[I") ∈ gW := gm 855 (by decide +kernel) (by decide +kernel)
theorem fl_Mo_78 : (Cond.fieldLink "RegularSolverModel" 78 "RegularSolverModel" "may" "[Z") ∈ gW := gm 867 (by decide +kernel) (by decide +kernel)
theorem ml_Mo_176 : (Cond.methodLink "RegularSolverModel" 176 ({ cls := "RegularSolverModel", name := "holds", desc := "()Z" } : MethodName)) ∈ gW := gm 1074 (by decide +kernel) (by decide +kernel)
theorem im_Mo_holds : (Cond.instanceMethod ({ cls := "RegularSolverModel", name := "holds", desc := "()Z" } : MethodName)) ∈ gW := gm 1076 (by decide +kernel) (by decide +kernel)
theorem se_Mo_holds : (Cond.selects "RegularSolverModel" ({ cls := "RegularSolverModel", name := "holds", desc := "()Z" } : MethodName) ({ cls := "RegularSolverModel", name := "holds", desc := "()Z" } : MethodName)) ∈ gW := gs (by decide +kernel) (by decide +kernel)
section
variable {p : Program} {l : Launch} {e : Env} {R : Room} {s : State} {m : MethodId} {args : Array Value} {below : List Frame} {meth : Method} {c : Code} {H : Heap} {locs : List Loc} {cells slots : Nat} {Q : State → Prop} {A : Nat → Prop} {H0 : Heap}
variable {n : Nat} {D : va_G} {K : Nat → ClassId} {h : Nat} {a : Nat → Nat} {mErr : Int32} {mLanguages : Int32} {mBounds : Int32} {mSize : Nat → Int32} {mGoes : Nat → Int32} {mLast : Nat → Bool} {mLeft : Nat → Int32} {mNext : Nat → Int32} {mGroup : Nat → Int32} {mFresh : Nat → Int32} {mLeader : Nat → Int32} {mNumber : Nat → Int32} {mRight : Nat → Int64} {mEnds : Nat → Bool} {mWay : Int32} {mVariable : Nat → Int32} {mFactor : Nat → Int32} {mLeast : Nat → Int32} {mMost : Nat → Int32} {mLength : Nat → Int32} {mWord : Nat → Int64} {mKept : Bool} {mMany : Nat → Int64} {mMore : Nat → Int64} {mLeads : Nat → Int64} {mMet : Nat → Bool} {mTodo : Nat → Int32} {mMay : Nat → Bool} {mTries : Nat → Int32}
theorem pd_Mo_fails : y_Mo_fails.cls ≠ "java/lang/invoke/MethodHandle" ∧ y_Mo_fails.cls ≠ "java/lang/invoke/VarHandle" ∧ (parseMethodDescriptor y_Mo_fails.desc).map (fun d => d.parameters.length) = some 2 := by decide +kernel
def f_Mo_fails (n : Nat) (p0 : Bool) (p1 : Int32) (mErr : Int32) : Option (Bool × Int32) :=
  if p0 = true then
    if mErr = 0 then
      if p1 = 0 then
        some (false, p1)
      else
        some (true, p1)
    else
      if mErr = 0 then
        some (false, mErr)
      else
        some (true, mErr)
  else
    if mErr = 0 then
      some (false, mErr)
    else
      some (true, mErr)
set_option maxHeartbeats 4000000 in
set_option maxRecDepth 100000 in
theorem w_Mo_fails  {p0 : Bool} {p1 : Int32}  (hx : p.tables.exec = Jvm.exec) (hb : c.code = b_Mo_fails) (hml : c.maxLocals = 3) (hts : ∀ w ∈ gW, w.before args s = true) (hown : s.vm.findClass "RegularSolverModel" = some m.cls) (hK : va_K D vwCl (tG K) s) (hRf : 0 ≤ R.frames) (hRl : 0 ≤ R.locals) (hRc : cells ≤ R.cells) (hRs : slots ≤ R.slots) (hA : ∀ q, H0.size ≤ q → A q) {out : Bool × Int32} (Kr : ∀ (r : Bool × Int32), out = r → ∀ (pc : Nat) (ls : Array Slot) (H : Heap) (locs : List Loc), decode b_Mo_fails pc = .ok (.ireturn, 1) → va_P D vwCl (moW K h a r.2 mLanguages mBounds mSize mGoes mLast mLeft mNext mGroup mFresh mLeader mNumber mRight mEnds mWay mVariable mFactor mLeast mMost mLength mWord mKept mMany mMore mLeads mMet mTodo mMay mTries) H → va_D A (moW K h a r.2 mLanguages mBounds mSize mGoes mLast mLeft mNext mGroup mFresh mLeader mNumber mRight mEnds mWay mVariable mFactor mLeast mMost mLength mWord mKept mMany mMore mLeads mMet mTodo mMay mTries) → va_S A H0 H locs → W p l e R s m args below meth c H locs cells slots Q (F0 m pc ls [.int (bI r.1)])) (hf : f_Mo_fails n p0 p1 mErr = some out) (ls : Array Slot) (hP : va_P D vwCl (moW K h a mErr mLanguages mBounds mSize mGoes mLast mLeft mNext mGroup mFresh mLeader mNumber mRight mEnds mWay mVariable mFactor mLeast mMost mLength mWord mKept mMany mMore mLeads mMet mTodo mMay mTries) H) (hD : va_D A (moW K h a mErr mLanguages mBounds mSize mGoes mLast mLeft mNext mGroup mFresh mLeader mNumber mRight mEnds mWay mVariable mFactor mLeast mMost mLength mWord mKept mMany mMore mLeads mMet mTodo mMay mTries)) (hS : va_S A H0 H locs) (hl : lv_has ls 3 [(0, .ref h), (1, .int (bI p0)), (2, .int p1)]) : W p l e R s m args below meth c H locs cells slots Q (F0 m 0 ls []) := by
  unfold f_Mo_fails at hf
  refine lv_iload_n hx hb d_Mo_fails_0 rfl (lv_at hl 1 rfl) ?_
  refine bz_eq (tgt := 16) hx hb d_Mo_fails_1 (by decide) (fun c1 => ?_) (fun c1 => ?_)
  · rw [if_neg c1] at hf
    refine lv_aload_n hx hb d_Mo_fails_16 rfl (lv_at hl 0 rfl) ?_
    refine va_get (D := D) (ci := 0) (v := .int mErr) (C := R_Mo) (T := T_Mo) (N := 29) hx hb hts in_Mo hown hK hP 0 rfl rfl 0 (by decide) (hts _ fl_Mo_84) (fun _ h9 => h9) rfl d_Mo_fails_17 ?_
    refine lv_if_eq (tgt := 27) hx hb d_Mo_fails_20 (by decide) (fun c2 => ?_) (fun c2 => ?_)
    · rw [if_pos c2] at hf
      refine lv_iconst (v := 0) hx hb d_Mo_fails_27 (by decide) ?_
      exact Kr _ (Option.some.inj hf).symm _ _ _ _ d_Mo_fails_28 hP hD hS
    · rw [if_neg c2] at hf
      refine lv_iconst (v := 1) hx hb d_Mo_fails_23 (by decide) ?_
      refine lv_goto (tgt := 28) hx hb d_Mo_fails_24 (by decide) ?_
      exact Kr _ (Option.some.inj hf).symm _ _ _ _ d_Mo_fails_28 hP hD hS
  · rw [if_pos c1] at hf
    refine lv_aload_n hx hb d_Mo_fails_4 rfl (lv_at hl 0 rfl) ?_
    refine va_get (D := D) (ci := 0) (v := .int mErr) (C := R_Mo) (T := T_Mo) (N := 29) hx hb hts in_Mo hown hK hP 0 rfl rfl 0 (by decide) (hts _ fl_Mo_84) (fun _ h9 => h9) rfl d_Mo_fails_5 ?_
    refine lv_if_ne (tgt := 16) hx hb d_Mo_fails_8 (by decide) (fun c3 => ?_) (fun c3 => ?_)
    · rw [if_neg c3] at hf
      refine lv_aload_n hx hb d_Mo_fails_16 rfl (lv_at hl 0 rfl) ?_
      refine va_get (D := D) (ci := 0) (v := .int mErr) (C := R_Mo) (T := T_Mo) (N := 29) hx hb hts in_Mo hown hK hP 0 rfl rfl 0 (by decide) (hts _ fl_Mo_84) (fun _ h9 => h9) rfl d_Mo_fails_17 ?_
      refine lv_if_eq (tgt := 27) hx hb d_Mo_fails_20 (by decide) (fun c4 => ?_) (fun c4 => ?_)
      · rw [if_pos c4] at hf
        refine lv_iconst (v := 0) hx hb d_Mo_fails_27 (by decide) ?_
        exact Kr _ (Option.some.inj hf).symm _ _ _ _ d_Mo_fails_28 hP hD hS
      · rw [if_neg c4] at hf
        refine lv_iconst (v := 1) hx hb d_Mo_fails_23 (by decide) ?_
        refine lv_goto (tgt := 28) hx hb d_Mo_fails_24 (by decide) ?_
        exact Kr _ (Option.some.inj hf).symm _ _ _ _ d_Mo_fails_28 hP hD hS
    · rw [if_pos c3] at hf
      refine lv_aload_n hx hb d_Mo_fails_11 rfl (lv_at hl 0 rfl) ?_
      refine lv_iload_n hx hb d_Mo_fails_12 rfl (lv_at hl 2 rfl) ?_
      refine va_put (D := D) (ci := 0) (v := .int p1) (ty := .int) (C := R_Mo) (T := T_Mo) (N := 29) hx hb hts in_Mo t_Mo t_Mo_ok n_Mo hown hK hP hD hS 0 rfl rfl 0 (by decide) (hts _ fl_Mo_84) (fun _ h9 => h9) rfl (by decide +kernel) rfl rfl (Nat.le_of_ble_eq_true rfl) d_Mo_fails_13 (fun H locs hP hD hS => ?_)
      have hP : va_P D vwCl (moW K h a p1 mLanguages mBounds mSize mGoes mLast mLeft mNext mGroup mFresh mLeader mNumber mRight mEnds mWay mVariable mFactor mLeast mMost mLength mWord mKept mMany mMore mLeads mMet mTodo mMay mTries) H := hP
      have hD : va_D A (moW K h a p1 mLanguages mBounds mSize mGoes mLast mLeft mNext mGroup mFresh mLeader mNumber mRight mEnds mWay mVariable mFactor mLeast mMost mLength mWord mKept mMany mMore mLeads mMet mTodo mMay mTries) := hD
      refine lv_aload_n hx hb d_Mo_fails_16 rfl (lv_at hl 0 rfl) ?_
      refine va_get (D := D) (ci := 0) (v := .int p1) (C := R_Mo) (T := T_Mo) (N := 29) hx hb hts in_Mo hown hK hP 0 rfl rfl 0 (by decide) (hts _ fl_Mo_84) (fun _ h9 => h9) rfl d_Mo_fails_17 ?_
      refine lv_if_eq (tgt := 27) hx hb d_Mo_fails_20 (by decide) (fun c5 => ?_) (fun c5 => ?_)
      · rw [if_pos c5] at hf
        refine lv_iconst (v := 0) hx hb d_Mo_fails_27 (by decide) ?_
        exact Kr _ (Option.some.inj hf).symm _ _ _ _ d_Mo_fails_28 hP hD hS
      · rw [if_neg c5] at hf
        refine lv_iconst (v := 1) hx hb d_Mo_fails_23 (by decide) ?_
        refine lv_goto (tgt := 28) hx hb d_Mo_fails_24 (by decide) ?_
        exact Kr _ (Option.some.inj hf).symm _ _ _ _ d_Mo_fails_28 hP hD hS
set_option maxHeartbeats 4000000 in
set_option maxRecDepth 100000 in
theorem c_Mo_fails (l : Launch)  {p0 : Bool} {p1 : Int32}  {r : Bool × Int32} (sz : Nat) (hf : f_Mo_fails n p0 p1 mErr = some r) : Met l y_Mo_fails w0_Mo_fails ({ frames := 0, cells := 0, slots := 0, locals := 0 }) (wPre D K [.ref h, .int (bI p0), .int p1] (moW K h a mErr mLanguages mBounds mSize mGoes mLast mLeft mNext mGroup mFresh mLeader mNumber mRight mEnds mWay mVariable mFactor mLeast mMost mLength mWord mKept mMany mMore mLeads mMet mTodo mMay mTries) sz) (wPost D K (some (.int (bI r.1))) (moW K h a r.2 mLanguages mBounds mSize mGoes mLast mLeft mNext mGroup mFresh mLeader mNumber mRight mEnds mWay mVariable mFactor mLeast mMost mLength mWord mKept mMany mMore mLeads mMet mTodo mMay mTries) (va_A (moW K h a mErr mLanguages mBounds mSize mGoes mLast mLeft mNext mGroup mFresh mLeader mNumber mRight mEnds mWay mVariable mFactor mLeast mMost mLength mWord mKept mMany mMore mLeads mMet mTodo mMay mTries) sz)) 0 0 (va_A (moW K h a mErr mLanguages mBounds mSize mGoes mLast mLeft mNext mGroup mFresh mLeader mNumber mRight mEnds mWay mVariable mFactor mLeast mMost mLength mWord mKept mMany mMore mLeads mMet mTodo mMay mTries) sz) := by
  refine Met.ofW (cc := b_Mo_fails) (maxL := 3) (ret := (some .boolean)) (by decide) rfl ?_
  intro p e s m args below meth c s₁ B hml hv
  obtain ⟨rfl, hsz, hP, hK, hD0⟩ := hv
  subst hsz
  have hl := lv_entry [.ref h, .int (bI p0), .int p1] (n := 3) (Nat.le_of_ble_eq_true rfl)
  rw [lg_entry_eq]
  generalize (lg_sl [.ref h, .int (bI p0), .int p1] ++ List.replicate (3 - (lg_sl [.ref h, .int (bI p0), .int p1]).length) Slot.unset).toArray = ls at hl ⊢
  refine w_Mo_fails (A := va_A (moW K h a mErr mLanguages mBounds mSize mGoes mLast mLeft mNext mGroup mFresh mLeader mNumber mRight mEnds mWay mVariable mFactor mLeast mMost mLength mWord mKept mMany mMore mLeads mMet mTodo mMay mTries) s.heap.size) (H0 := s.heap) B.exec B.bytes hml (fun w hw => atoms_spec (ws := w0_Mo_fails) B.pre w (List.mem_cons_of_mem _ hw)) (findClass_of_methodNamed B.named) hK (Nat.le_refl _) (Nat.le_refl _) (Nat.zero_le _) (Nat.zero_le _) (fun q h => Or.inr h) (fun r er pc ls H locs hd hP hD hS => ?_) hf ls hP (hD0.self (sz := s.heap.size)) va_S.rf hl
  subst er
  exact W.zret B.exec B.bytes B.returns (bI_nar _) (fun t ht hW => ⟨⟨rfl, by rw [ht]; exact hP, va_K.moved hW.alike hK, hD⟩, hS.F ht⟩) hS.2.2 hd (hlocks := B.notSynchronized)
theorem pd_Mo_come : y_Mo_come.cls ≠ "java/lang/invoke/MethodHandle" ∧ y_Mo_come.cls ≠ "java/lang/invoke/VarHandle" ∧ (parseMethodDescriptor y_Mo_come.desc).map (fun d => d.parameters.length) = some 3 := by decide +kernel
def f_Mo_come_3 (n : Nat) (v1 : Int32) (v2 : Int64) (mLeft : Nat → Int32) (mRight : Nat → Int64) (mEnds : Nat → Bool) (mWay : Int32) : Nat → Int32 → Option ((Int32 × (Nat → Int32) × (Nat → Int64) × (Nat → Bool) × Int32) ⊕ (Int32))
  | 0, _ => none
  | k + 1, v5 =>
    if mWay ≤ v5 then
      some (.inr v5)
    else
      ogd (gin v5 800) <|
      if (mLeft v5.toNatClampNeg) = v1 then
        ogd (gin v5 800) <|
        if (mRight v5.toNatClampNeg) = v2 then
          some (.inl (v5, mLeft, mRight, mEnds, mWay))
        else
          f_Mo_come_3 n v1 v2 mLeft mRight mEnds mWay k (v5 + 1)
      else
        f_Mo_come_3 n v1 v2 mLeft mRight mEnds mWay k (v5 + 1)
set_option maxHeartbeats 4000000 in
set_option maxRecDepth 100000 in
theorem w_Mo_come_3  {v1 : Int32} {v2 : Int64} {v4 : Bool} (hx : p.tables.exec = Jvm.exec) (hb : c.code = b_Mo_come) (hml : c.maxLocals = 6) (hts : ∀ w ∈ gW, w.before args s = true) (hown : s.vm.findClass "RegularSolverModel" = some m.cls) (hK : va_K D vwCl (tG K) s) (hRf : 0 ≤ R.frames) (hRl : 0 ≤ R.locals) (hRc : cells ≤ R.cells) (hRs : slots ≤ R.slots) (hA : ∀ q, H0.size ≤ q → A q)  {out : (Int32 × (Nat → Int32) × (Nat → Int64) × (Nat → Bool) × Int32) ⊕ (Int32)} (Kr : ∀ (r : Int32 × (Nat → Int32) × (Nat → Int64) × (Nat → Bool) × Int32), out = .inl r → ∀ (pc : Nat) (ls : Array Slot) (H : Heap) (locs : List Loc), decode b_Mo_come pc = .ok (.ireturn, 1) → va_P D vwCl (moW K h a mErr mLanguages mBounds mSize mGoes mLast r.2.1 mNext mGroup mFresh mLeader mNumber r.2.2.1 r.2.2.2.1 r.2.2.2.2 mVariable mFactor mLeast mMost mLength mWord mKept mMany mMore mLeads mMet mTodo mMay mTries) H → va_D A (moW K h a mErr mLanguages mBounds mSize mGoes mLast r.2.1 mNext mGroup mFresh mLeader mNumber r.2.2.1 r.2.2.2.1 r.2.2.2.2 mVariable mFactor mLeast mMost mLength mWord mKept mMany mMore mLeads mMet mTodo mMay mTries) → va_S A H0 H locs → W p l e R s m args below meth c H locs cells slots Q (F0 m pc ls [.int r.1])) (Kx : ∀ (u : Int32), out = .inr u → ∀ (ls : Array Slot) (H : Heap) (locs : List Loc), va_P D vwCl (moW K h a mErr mLanguages mBounds mSize mGoes mLast mLeft mNext mGroup mFresh mLeader mNumber mRight mEnds mWay mVariable mFactor mLeast mMost mLength mWord mKept mMany mMore mLeads mMet mTodo mMay mTries) H → va_D A (moW K h a mErr mLanguages mBounds mSize mGoes mLast mLeft mNext mGroup mFresh mLeader mNumber mRight mEnds mWay mVariable mFactor mLeast mMost mLength mWord mKept mMany mMore mLeads mMet mTodo mMay mTries) → va_S A H0 H locs → lv_has ls 6 [(0, .ref h), (1, .int v1), (2, .long v2), (4, .int (bI v4))] → W p l e R s m args below meth c H locs cells slots Q (F0 m 44 ls [])) :
    ∀ (k : Nat) (v5 : Int32), f_Mo_come_3 n v1 v2 mLeft mRight mEnds mWay k v5 = some out → ∀ (ls : Array Slot) (H : Heap) (locs : List Loc), va_P D vwCl (moW K h a mErr mLanguages mBounds mSize mGoes mLast mLeft mNext mGroup mFresh mLeader mNumber mRight mEnds mWay mVariable mFactor mLeast mMost mLength mWord mKept mMany mMore mLeads mMet mTodo mMay mTries) H → va_D A (moW K h a mErr mLanguages mBounds mSize mGoes mLast mLeft mNext mGroup mFresh mLeader mNumber mRight mEnds mWay mVariable mFactor mLeast mMost mLength mWord mKept mMany mMore mLeads mMet mTodo mMay mTries) → va_S A H0 H locs → lv_has ls 6 [(5, .int v5), (0, .ref h), (1, .int v1), (2, .long v2), (4, .int (bI v4))] → W p l e R s m args below meth c H locs cells slots Q (F0 m 3 ls []) := by
  intro k
  induction k with
  | zero => intro _ hf; exact nomatch (show none = some out from hf)
  | succ k ih =>
    intro v5 hf ls H locs hP hD hS hl
    rw [f_Mo_come_3] at hf
    refine lv_iload hx hb d_Mo_come_3 (lv_at hl 0 rfl) ?_
    refine lv_aload_n hx hb d_Mo_come_5 rfl (lv_at hl 1 rfl) ?_
    refine va_get (D := D) (ci := 0) (v := .int mWay) (C := R_Mo) (T := T_Mo) (N := 29) hx hb hts in_Mo hown hK hP 0 rfl rfl 14 (by decide) (hts _ fl_Mo_95) (fun _ h9 => h9) rfl d_Mo_come_6 ?_
    refine lv_icmp_ge (tgt := 44) hx hb d_Mo_come_9 (by decide) (fun c6 => ?_) (fun c6 => ?_)
    · rw [if_pos c6] at hf
      exact Kx _ (Option.some.inj hf).symm _ _ _ hP hD hS (show lv_has ls 6 [(0, .ref h), (1, .int v1), (2, .long v2), (4, .int (bI v4))] from lv_sub hl [1, 2, 3, 4] rfl)
    · rw [if_neg c6] at hf
      refine lv_aload_n hx hb d_Mo_come_12 rfl (lv_at hl 1 rfl) ?_
      refine va_get (D := D) (ci := 0) (v := .ref (a 3)) (C := R_Mo) (T := T_Mo) (N := 29) hx hb hts in_Mo hown hK hP 0 rfl rfl 6 (by decide) (hts _ fl_Mo_20) (fun _ h9 => h9) rfl d_Mo_come_13 ?_
      refine lv_iload hx hb d_Mo_come_16 (lv_at hl 0 rfl) ?_
      obtain ⟨g7, hf⟩ := ogi hf
      refine va_iald hx hb hK hP 4 0 rfl rfl (gin_in g7) d_Mo_come_18 ?_
      refine lv_iload_n hx hb d_Mo_come_19 rfl (lv_at hl 2 rfl) ?_
      refine lv_icmp_ne (tgt := 38) hx hb d_Mo_come_20 (by decide) (fun c8 => ?_) (fun c8 => ?_)
      · rw [if_neg c8] at hf
        refine lv_iinc (v := v5 + 1) (lv' := [(5, .int (v5 + 1)), (0, .ref h), (1, .int v1), (2, .long v2), (4, .int (bI v4))]) hx hb d_Mo_come_38 hl (k := 0) rfl (by first | rfl | (congr 1)) (by decide) rfl (fun ls hl => ?_)
        refine lv_goto (tgt := 3) hx hb d_Mo_come_41 (by decide) ?_
        exact ih _ hf _ _ _ hP hD hS (show lv_has ls 6 [(5, .int (v5 + 1)), (0, .ref h), (1, .int v1), (2, .long v2), (4, .int (bI v4))] from lv_sub hl [0, 1, 2, 3, 4] rfl)
      · rw [if_pos c8] at hf
        refine lv_aload_n hx hb d_Mo_come_23 rfl (lv_at hl 1 rfl) ?_
        refine va_get (D := D) (ci := 0) (v := .ref (a 9)) (C := R_Mo) (T := T_Mo) (N := 29) hx hb hts in_Mo hown hK hP 0 rfl rfl 12 (by decide) (hts _ fl_Mo_38) (fun _ h9 => h9) rfl d_Mo_come_24 ?_
        refine lv_iload hx hb d_Mo_come_27 (lv_at hl 0 rfl) ?_
        obtain ⟨g9, hf⟩ := ogi hf
        refine va_lald hx hb hK hP 10 1 rfl rfl (gin_in g9) d_Mo_come_29 ?_
        refine lv_lload_n hx hb d_Mo_come_30 rfl (lv_at hl 3 rfl) ?_
        refine W.lcmp hx hb d_Mo_come_31 ?_
        refine lc_ne (tgt := 38) hx hb d_Mo_come_32 (by decide) (fun c10 => ?_) (fun c10 => ?_)
        · rw [if_neg c10] at hf
          refine lv_iinc (v := v5 + 1) (lv' := [(5, .int (v5 + 1)), (0, .ref h), (1, .int v1), (2, .long v2), (4, .int (bI v4))]) hx hb d_Mo_come_38 hl (k := 0) rfl (by first | rfl | (congr 1)) (by decide) rfl (fun ls hl => ?_)
          refine lv_goto (tgt := 3) hx hb d_Mo_come_41 (by decide) ?_
          exact ih _ hf _ _ _ hP hD hS (show lv_has ls 6 [(5, .int (v5 + 1)), (0, .ref h), (1, .int v1), (2, .long v2), (4, .int (bI v4))] from lv_sub hl [0, 1, 2, 3, 4] rfl)
        · rw [if_pos c10] at hf
          refine lv_iload hx hb d_Mo_come_35 (lv_at hl 0 rfl) ?_
          exact Kr _ (Option.some.inj hf).symm _ _ _ _ d_Mo_come_37 hP hD hS
def f_Mo_come (n : Nat) (p0 : Int32) (p1 : Int64) (p2 : Bool) (mLeft : Nat → Int32) (mRight : Nat → Int64) (mEnds : Nat → Bool) (mWay : Int32) : Option (Int32 × (Nat → Int32) × (Nat → Int64) × (Nat → Bool) × Int32) :=
  (f_Mo_come_3 n p0 p1 mLeft mRight mEnds mWay n 0).bind fun u11 => u11.elim (fun r => some r) fun x11 =>
  if mWay = 800 then
    some ((-1), mLeft, mRight, mEnds, mWay)
  else
    ogd (gin mWay 800) <|
    ogd (gin mWay 800) <|
    ogd (gin mWay 800) <|
    some (mWay, upd mLeft mWay.toNatClampNeg p0, vp_updL mRight mWay.toNatClampNeg p1, va_up mEnds mWay.toNatClampNeg p2, mWay + 1)
set_option maxHeartbeats 4000000 in
set_option maxRecDepth 100000 in
theorem w_Mo_come  {p0 : Int32} {p1 : Int64} {p2 : Bool}  (hx : p.tables.exec = Jvm.exec) (hb : c.code = b_Mo_come) (hml : c.maxLocals = 6) (hts : ∀ w ∈ gW, w.before args s = true) (hown : s.vm.findClass "RegularSolverModel" = some m.cls) (hK : va_K D vwCl (tG K) s) (hRf : 0 ≤ R.frames) (hRl : 0 ≤ R.locals) (hRc : cells ≤ R.cells) (hRs : slots ≤ R.slots) (hA : ∀ q, H0.size ≤ q → A q) {out : Int32 × (Nat → Int32) × (Nat → Int64) × (Nat → Bool) × Int32} (Kr : ∀ (r : Int32 × (Nat → Int32) × (Nat → Int64) × (Nat → Bool) × Int32), out = r → ∀ (pc : Nat) (ls : Array Slot) (H : Heap) (locs : List Loc), decode b_Mo_come pc = .ok (.ireturn, 1) → va_P D vwCl (moW K h a mErr mLanguages mBounds mSize mGoes mLast r.2.1 mNext mGroup mFresh mLeader mNumber r.2.2.1 r.2.2.2.1 r.2.2.2.2 mVariable mFactor mLeast mMost mLength mWord mKept mMany mMore mLeads mMet mTodo mMay mTries) H → va_D A (moW K h a mErr mLanguages mBounds mSize mGoes mLast r.2.1 mNext mGroup mFresh mLeader mNumber r.2.2.1 r.2.2.2.1 r.2.2.2.2 mVariable mFactor mLeast mMost mLength mWord mKept mMany mMore mLeads mMet mTodo mMay mTries) → va_S A H0 H locs → W p l e R s m args below meth c H locs cells slots Q (F0 m pc ls [.int r.1])) (hf : f_Mo_come n p0 p1 p2 mLeft mRight mEnds mWay = some out) (ls : Array Slot) (hP : va_P D vwCl (moW K h a mErr mLanguages mBounds mSize mGoes mLast mLeft mNext mGroup mFresh mLeader mNumber mRight mEnds mWay mVariable mFactor mLeast mMost mLength mWord mKept mMany mMore mLeads mMet mTodo mMay mTries) H) (hD : va_D A (moW K h a mErr mLanguages mBounds mSize mGoes mLast mLeft mNext mGroup mFresh mLeader mNumber mRight mEnds mWay mVariable mFactor mLeast mMost mLength mWord mKept mMany mMore mLeads mMet mTodo mMay mTries)) (hS : va_S A H0 H locs) (hl : lv_has ls 6 [(0, .ref h), (1, .int p0), (2, .long p1), (4, .int (bI p2))]) : W p l e R s m args below meth c H locs cells slots Q (F0 m 0 ls []) := by
  unfold f_Mo_come at hf
  refine lv_iconst (v := 0) hx hb d_Mo_come_0 (by decide) ?_
  refine lv_istore (lv' := [(5, .int 0), (0, .ref h), (1, .int p0), (2, .long p1), (4, .int (bI p2))]) hx hb d_Mo_come_1 hl (by decide) rfl (fun ls hl => ?_)
  obtain ⟨u11, eu11, hf⟩ := obd hf
  refine w_Mo_come_3 hx hb hml hts hown hK hRf hRl hRc hRs hA (fun r er pc ls H locs hd hP hD hS => Kr r (by subst er; exact (Option.some.inj hf).symm) pc ls H locs hd hP hD hS) (fun x11 eu ls H locs hP hD hS hl => ?_) _ _ eu11 _ _ _ hP hD hS (show lv_has ls 6 [(5, .int 0), (0, .ref h), (1, .int p0), (2, .long p1), (4, .int (bI p2))] from lv_sub hl [0, 1, 2, 3, 4] rfl)
  subst eu
  replace hf := oel hf
  refine lv_aload_n hx hb d_Mo_come_44 rfl (lv_at hl 0 rfl) ?_
  refine va_get (D := D) (ci := 0) (v := .int mWay) (C := R_Mo) (T := T_Mo) (N := 29) hx hb hts in_Mo hown hK hP 0 rfl rfl 14 (by decide) (hts _ fl_Mo_95) (fun _ h9 => h9) rfl d_Mo_come_45 ?_
  refine lv_sipush (v := 800) hx hb d_Mo_come_48 (by decide) ?_
  refine lv_icmp_ne (tgt := 56) hx hb d_Mo_come_51 (by decide) (fun c12 => ?_) (fun c12 => ?_)
  · rw [if_neg c12] at hf
    refine lv_aload_n hx hb d_Mo_come_56 rfl (lv_at hl 0 rfl) ?_
    refine va_get (D := D) (ci := 0) (v := .ref (a 3)) (C := R_Mo) (T := T_Mo) (N := 29) hx hb hts in_Mo hown hK hP 0 rfl rfl 6 (by decide) (hts _ fl_Mo_20) (fun _ h9 => h9) rfl d_Mo_come_57 ?_
    refine lv_aload_n hx hb d_Mo_come_60 rfl (lv_at hl 0 rfl) ?_
    refine va_get (D := D) (ci := 0) (v := .int mWay) (C := R_Mo) (T := T_Mo) (N := 29) hx hb hts in_Mo hown hK hP 0 rfl rfl 14 (by decide) (hts _ fl_Mo_95) (fun _ h9 => h9) rfl d_Mo_come_61 ?_
    refine lv_iload_n hx hb d_Mo_come_64 rfl (lv_at hl 1 rfl) ?_
    obtain ⟨g13, hf⟩ := ogi hf
    refine va_iast hx hb hK hP hD hS 4 0 rfl rfl (gin_in g13) d_Mo_come_65 (fun H locs hP hD hS => ?_)
    have hP : va_P D vwCl (moW K h a mErr mLanguages mBounds mSize mGoes mLast (upd mLeft mWay.toNatClampNeg p0) mNext mGroup mFresh mLeader mNumber mRight mEnds mWay mVariable mFactor mLeast mMost mLength mWord mKept mMany mMore mLeads mMet mTodo mMay mTries) H := hP
    have hD : va_D A (moW K h a mErr mLanguages mBounds mSize mGoes mLast (upd mLeft mWay.toNatClampNeg p0) mNext mGroup mFresh mLeader mNumber mRight mEnds mWay mVariable mFactor mLeast mMost mLength mWord mKept mMany mMore mLeads mMet mTodo mMay mTries) := hD
    refine lv_aload_n hx hb d_Mo_come_66 rfl (lv_at hl 0 rfl) ?_
    refine va_get (D := D) (ci := 0) (v := .ref (a 9)) (C := R_Mo) (T := T_Mo) (N := 29) hx hb hts in_Mo hown hK hP 0 rfl rfl 12 (by decide) (hts _ fl_Mo_38) (fun _ h9 => h9) rfl d_Mo_come_67 ?_
    refine lv_aload_n hx hb d_Mo_come_70 rfl (lv_at hl 0 rfl) ?_
    refine va_get (D := D) (ci := 0) (v := .int mWay) (C := R_Mo) (T := T_Mo) (N := 29) hx hb hts in_Mo hown hK hP 0 rfl rfl 14 (by decide) (hts _ fl_Mo_95) (fun _ h9 => h9) rfl d_Mo_come_71 ?_
    refine lv_lload_n hx hb d_Mo_come_74 rfl (lv_at hl 2 rfl) ?_
    obtain ⟨g14, hf⟩ := ogi hf
    refine va_last hx hb hK hP hD hS 10 1 rfl rfl (gin_in g14) d_Mo_come_75 (fun H locs hP hD hS => ?_)
    have hP : va_P D vwCl (moW K h a mErr mLanguages mBounds mSize mGoes mLast (upd mLeft mWay.toNatClampNeg p0) mNext mGroup mFresh mLeader mNumber (vp_updL mRight mWay.toNatClampNeg p1) mEnds mWay mVariable mFactor mLeast mMost mLength mWord mKept mMany mMore mLeads mMet mTodo mMay mTries) H := hP
    have hD : va_D A (moW K h a mErr mLanguages mBounds mSize mGoes mLast (upd mLeft mWay.toNatClampNeg p0) mNext mGroup mFresh mLeader mNumber (vp_updL mRight mWay.toNatClampNeg p1) mEnds mWay mVariable mFactor mLeast mMost mLength mWord mKept mMany mMore mLeads mMet mTodo mMay mTries) := hD
    refine lv_aload_n hx hb d_Mo_come_76 rfl (lv_at hl 0 rfl) ?_
    refine va_get (D := D) (ci := 0) (v := .ref (a 10)) (C := R_Mo) (T := T_Mo) (N := 29) hx hb hts in_Mo hown hK hP 0 rfl rfl 13 (by decide) (hts _ fl_Mo_42) (fun _ h9 => h9) rfl d_Mo_come_77 ?_
    refine lv_aload_n hx hb d_Mo_come_80 rfl (lv_at hl 0 rfl) ?_
    refine va_get (D := D) (ci := 0) (v := .int mWay) (C := R_Mo) (T := T_Mo) (N := 29) hx hb hts in_Mo hown hK hP 0 rfl rfl 14 (by decide) (hts _ fl_Mo_95) (fun _ h9 => h9) rfl d_Mo_come_81 ?_
    refine lv_iload hx hb d_Mo_come_84 (lv_at hl 3 rfl) ?_
    obtain ⟨g15, hf⟩ := ogi hf
    refine bz_ast hx hb hK hP hD hS 11 2 rfl rfl (gin_in g15) d_Mo_come_86 (fun H locs hP hD hS => ?_)
    have hP : va_P D vwCl (moW K h a mErr mLanguages mBounds mSize mGoes mLast (upd mLeft mWay.toNatClampNeg p0) mNext mGroup mFresh mLeader mNumber (vp_updL mRight mWay.toNatClampNeg p1) (va_up mEnds mWay.toNatClampNeg p2) mWay mVariable mFactor mLeast mMost mLength mWord mKept mMany mMore mLeads mMet mTodo mMay mTries) H := hP
    have hD : va_D A (moW K h a mErr mLanguages mBounds mSize mGoes mLast (upd mLeft mWay.toNatClampNeg p0) mNext mGroup mFresh mLeader mNumber (vp_updL mRight mWay.toNatClampNeg p1) (va_up mEnds mWay.toNatClampNeg p2) mWay mVariable mFactor mLeast mMost mLength mWord mKept mMany mMore mLeads mMet mTodo mMay mTries) := hD
    refine lv_aload_n hx hb d_Mo_come_87 rfl (lv_at hl 0 rfl) ?_
    refine lv_dup hx hb d_Mo_come_88 rfl ?_
    refine va_get (D := D) (ci := 0) (v := .int mWay) (C := R_Mo) (T := T_Mo) (N := 29) hx hb hts in_Mo hown hK hP 0 rfl rfl 14 (by decide) (hts _ fl_Mo_95) (fun _ h9 => h9) rfl d_Mo_come_89 ?_
    refine lv_dup_x1 hx hb d_Mo_come_92 rfl rfl ?_
    refine lv_iconst (v := 1) hx hb d_Mo_come_93 (by decide) ?_
    refine lv_iadd hx hb d_Mo_come_94 ?_
    refine va_put (D := D) (ci := 0) (v := .int (mWay + 1)) (ty := .int) (C := R_Mo) (T := T_Mo) (N := 29) hx hb hts in_Mo t_Mo t_Mo_ok n_Mo hown hK hP hD hS 0 rfl rfl 14 (by decide) (hts _ fl_Mo_95) (fun _ h9 => h9) rfl (by decide +kernel) rfl rfl (Nat.le_of_ble_eq_true rfl) d_Mo_come_95 (fun H locs hP hD hS => ?_)
    have hP : va_P D vwCl (moW K h a mErr mLanguages mBounds mSize mGoes mLast (upd mLeft mWay.toNatClampNeg p0) mNext mGroup mFresh mLeader mNumber (vp_updL mRight mWay.toNatClampNeg p1) (va_up mEnds mWay.toNatClampNeg p2) (mWay + 1) mVariable mFactor mLeast mMost mLength mWord mKept mMany mMore mLeads mMet mTodo mMay mTries) H := hP
    have hD : va_D A (moW K h a mErr mLanguages mBounds mSize mGoes mLast (upd mLeft mWay.toNatClampNeg p0) mNext mGroup mFresh mLeader mNumber (vp_updL mRight mWay.toNatClampNeg p1) (va_up mEnds mWay.toNatClampNeg p2) (mWay + 1) mVariable mFactor mLeast mMost mLength mWord mKept mMany mMore mLeads mMet mTodo mMay mTries) := hD
    exact Kr _ (Option.some.inj hf).symm _ _ _ _ d_Mo_come_98 hP hD hS
  · rw [if_pos c12] at hf
    refine lv_iconst (v := -1) hx hb d_Mo_come_54 (by decide) ?_
    exact Kr _ (Option.some.inj hf).symm _ _ _ _ d_Mo_come_55 hP hD hS
set_option maxHeartbeats 4000000 in
set_option maxRecDepth 100000 in
theorem c_Mo_come (l : Launch)  {p0 : Int32} {p1 : Int64} {p2 : Bool}  {r : Int32 × (Nat → Int32) × (Nat → Int64) × (Nat → Bool) × Int32} (sz : Nat) (hf : f_Mo_come n p0 p1 p2 mLeft mRight mEnds mWay = some r) : Met l y_Mo_come w0_Mo_come ({ frames := 0, cells := 0, slots := 0, locals := 0 }) (wPre D K [.ref h, .int p0, .long p1, .int (bI p2)] (moW K h a mErr mLanguages mBounds mSize mGoes mLast mLeft mNext mGroup mFresh mLeader mNumber mRight mEnds mWay mVariable mFactor mLeast mMost mLength mWord mKept mMany mMore mLeads mMet mTodo mMay mTries) sz) (wPost D K (some (.int r.1)) (moW K h a mErr mLanguages mBounds mSize mGoes mLast r.2.1 mNext mGroup mFresh mLeader mNumber r.2.2.1 r.2.2.2.1 r.2.2.2.2 mVariable mFactor mLeast mMost mLength mWord mKept mMany mMore mLeads mMet mTodo mMay mTries) (va_A (moW K h a mErr mLanguages mBounds mSize mGoes mLast mLeft mNext mGroup mFresh mLeader mNumber mRight mEnds mWay mVariable mFactor mLeast mMost mLength mWord mKept mMany mMore mLeads mMet mTodo mMay mTries) sz)) 0 0 (va_A (moW K h a mErr mLanguages mBounds mSize mGoes mLast mLeft mNext mGroup mFresh mLeader mNumber mRight mEnds mWay mVariable mFactor mLeast mMost mLength mWord mKept mMany mMore mLeads mMet mTodo mMay mTries) sz) := by
  refine Met.ofW (cc := b_Mo_come) (maxL := 6) (ret := (some .int)) (by decide) rfl ?_
  intro p e s m args below meth c s₁ B hml hv
  obtain ⟨rfl, hsz, hP, hK, hD0⟩ := hv
  subst hsz
  have hl := lv_entry [.ref h, .int p0, .long p1, .int (bI p2)] (n := 6) (Nat.le_of_ble_eq_true rfl)
  rw [lg_entry_eq]
  generalize (lg_sl [.ref h, .int p0, .long p1, .int (bI p2)] ++ List.replicate (6 - (lg_sl [.ref h, .int p0, .long p1, .int (bI p2)]).length) Slot.unset).toArray = ls at hl ⊢
  refine w_Mo_come (A := va_A (moW K h a mErr mLanguages mBounds mSize mGoes mLast mLeft mNext mGroup mFresh mLeader mNumber mRight mEnds mWay mVariable mFactor mLeast mMost mLength mWord mKept mMany mMore mLeads mMet mTodo mMay mTries) s.heap.size) (H0 := s.heap) B.exec B.bytes hml (fun w hw => atoms_spec (ws := w0_Mo_come) B.pre w (List.mem_cons_of_mem _ hw)) (findClass_of_methodNamed B.named) hK (Nat.le_refl _) (Nat.le_refl _) (Nat.zero_le _) (Nat.zero_le _) (fun q h => Or.inr h) (fun r er pc ls H locs hd hP hD hS => ?_) hf ls hP (hD0.self (sz := s.heap.size)) va_S.rf hl
  subst er
  exact W.iret B.exec B.bytes B.returns (fun t ht hW => ⟨⟨rfl, by rw [ht]; exact hP, va_K.moved hW.alike hK, hD⟩, hS.F ht⟩) hS.2.2 hd (hlocks := B.notSynchronized)
theorem pd_Mo_full : y_Mo_full.cls ≠ "java/lang/invoke/MethodHandle" ∧ y_Mo_full.cls ≠ "java/lang/invoke/VarHandle" ∧ (parseMethodDescriptor y_Mo_full.desc).map (fun d => d.parameters.length) = some 1 := by decide +kernel
def f_Mo_full (n : Nat) (p0 : Int32) (mErr : Int32) (mLanguages : Int32) : Option (Bool × Int32) :=
  if mLanguages = 60 then
    (f_Mo_fails n true p0 mErr).bind fun u3 =>
    some (u3.1, u3.2)
  else
    (f_Mo_fails n false p0 mErr).bind fun u2 =>
    some (u2.1, u2.2)
set_option maxHeartbeats 4000000 in
set_option maxRecDepth 100000 in
theorem w_Mo_full  {p0 : Int32}  (hx : p.tables.exec = Jvm.exec) (hb : c.code = b_Mo_full) (hml : c.maxLocals = 2) (hts : ∀ w ∈ gW, w.before args s = true) (hown : s.vm.findClass "RegularSolverModel" = some m.cls) (hK : va_K D vwCl (tG K) s) (hRf : 1 ≤ R.frames) (hRl : 22 ≤ R.locals) (hRc : cells ≤ R.cells) (hRs : slots ≤ R.slots) (hA : ∀ q, H0.size ≤ q → A q) {out : Bool × Int32} (Kr : ∀ (r : Bool × Int32), out = r → ∀ (pc : Nat) (ls : Array Slot) (H : Heap) (locs : List Loc), decode b_Mo_full pc = .ok (.ireturn, 1) → va_P D vwCl (moW K h a r.2 mLanguages mBounds mSize mGoes mLast mLeft mNext mGroup mFresh mLeader mNumber mRight mEnds mWay mVariable mFactor mLeast mMost mLength mWord mKept mMany mMore mLeads mMet mTodo mMay mTries) H → va_D A (moW K h a r.2 mLanguages mBounds mSize mGoes mLast mLeft mNext mGroup mFresh mLeader mNumber mRight mEnds mWay mVariable mFactor mLeast mMost mLength mWord mKept mMany mMore mLeads mMet mTodo mMay mTries) → va_S A H0 H locs → W p l e R s m args below meth c H locs cells slots Q (F0 m pc ls [.int (bI r.1)])) (hf : f_Mo_full n p0 mErr mLanguages = some out) (ls : Array Slot) (hP : va_P D vwCl (moW K h a mErr mLanguages mBounds mSize mGoes mLast mLeft mNext mGroup mFresh mLeader mNumber mRight mEnds mWay mVariable mFactor mLeast mMost mLength mWord mKept mMany mMore mLeads mMet mTodo mMay mTries) H) (hD : va_D A (moW K h a mErr mLanguages mBounds mSize mGoes mLast mLeft mNext mGroup mFresh mLeader mNumber mRight mEnds mWay mVariable mFactor mLeast mMost mLength mWord mKept mMany mMore mLeads mMet mTodo mMay mTries)) (hS : va_S A H0 H locs) (hl : lv_has ls 2 [(0, .ref h), (1, .int p0)]) : W p l e R s m args below meth c H locs cells slots Q (F0 m 0 ls []) := by
  unfold f_Mo_full at hf
  refine lv_aload_n hx hb d_Mo_full_0 rfl (lv_at hl 0 rfl) ?_
  refine lv_aload_n hx hb d_Mo_full_1 rfl (lv_at hl 0 rfl) ?_
  refine va_get (D := D) (ci := 0) (v := .int mLanguages) (C := R_Mo) (T := T_Mo) (N := 29) hx hb hts in_Mo hown hK hP 0 rfl rfl 1 (by decide) (hts _ fl_Mo_88) (fun _ h9 => h9) rfl d_Mo_full_2 ?_
  refine lv_bipush (v := 60) hx hb d_Mo_full_5 (by decide) ?_
  refine lv_icmp_ne (tgt := 14) hx hb d_Mo_full_7 (by decide) (fun c1 => ?_) (fun c1 => ?_)
  · rw [if_neg c1] at hf
    refine lv_iconst (v := 0) hx hb d_Mo_full_14 (by decide) ?_
    refine lv_iload_n hx hb d_Mo_full_15 rfl (lv_at hl 1 rfl) ?_
    obtain ⟨u2, eu2, hf⟩ := obd hf
    refine w_call (va_runV (As := [.int (bI false), .int p0]) (rest := []) ⟨hx, hb, hml, hown, hts⟩ (c_Mo_fails l H.size eu2) (gV 2 hts cd_Mo_fails ml_Mo_124 im_Mo_fails se_Mo_fails ini_Mo rfl rfl pd_Mo_fails ⟨Nat.le_trans (Nat.le_of_ble_eq_true rfl) hRf, Nat.le_trans (Nat.le_of_ble_eq_true rfl) hRl⟩) ⟨wPre_blind, va_recv hK hP (ci := 0) (q0 := 0) rfl rfl, wPre_of hP hK hD⟩ rfl rfl hl.1 rfl (lv_room (Nat.le_of_ble_eq_true rfl)) d_Mo_full_16 ⟨hRc, hRs⟩) hD hS hA (fun H locs hP hD hS => ?_)
    have hP : va_P D vwCl (moW K h a u2.2 mLanguages mBounds mSize mGoes mLast mLeft mNext mGroup mFresh mLeader mNumber mRight mEnds mWay mVariable mFactor mLeast mMost mLength mWord mKept mMany mMore mLeads mMet mTodo mMay mTries) H := hP
    have hD : va_D A (moW K h a u2.2 mLanguages mBounds mSize mGoes mLast mLeft mNext mGroup mFresh mLeader mNumber mRight mEnds mWay mVariable mFactor mLeast mMost mLength mWord mKept mMany mMore mLeads mMet mTodo mMay mTries) := hD
    exact Kr _ (Option.some.inj hf).symm _ _ _ _ d_Mo_full_19 hP hD hS
  · rw [if_pos c1] at hf
    refine lv_iconst (v := 1) hx hb d_Mo_full_10 (by decide) ?_
    refine lv_goto (tgt := 15) hx hb d_Mo_full_11 (by decide) ?_
    refine lv_iload_n hx hb d_Mo_full_15 rfl (lv_at hl 1 rfl) ?_
    obtain ⟨u3, eu3, hf⟩ := obd hf
    refine w_call (va_runV (As := [.int (bI true), .int p0]) (rest := []) ⟨hx, hb, hml, hown, hts⟩ (c_Mo_fails l H.size eu3) (gV 2 hts cd_Mo_fails ml_Mo_124 im_Mo_fails se_Mo_fails ini_Mo rfl rfl pd_Mo_fails ⟨Nat.le_trans (Nat.le_of_ble_eq_true rfl) hRf, Nat.le_trans (Nat.le_of_ble_eq_true rfl) hRl⟩) ⟨wPre_blind, va_recv hK hP (ci := 0) (q0 := 0) rfl rfl, wPre_of hP hK hD⟩ rfl rfl hl.1 rfl (lv_room (Nat.le_of_ble_eq_true rfl)) d_Mo_full_16 ⟨hRc, hRs⟩) hD hS hA (fun H locs hP hD hS => ?_)
    have hP : va_P D vwCl (moW K h a u3.2 mLanguages mBounds mSize mGoes mLast mLeft mNext mGroup mFresh mLeader mNumber mRight mEnds mWay mVariable mFactor mLeast mMost mLength mWord mKept mMany mMore mLeads mMet mTodo mMay mTries) H := hP
    have hD : va_D A (moW K h a u3.2 mLanguages mBounds mSize mGoes mLast mLeft mNext mGroup mFresh mLeader mNumber mRight mEnds mWay mVariable mFactor mLeast mMost mLength mWord mKept mMany mMore mLeads mMet mTodo mMay mTries) := hD
    exact Kr _ (Option.some.inj hf).symm _ _ _ _ d_Mo_full_19 hP hD hS
set_option maxHeartbeats 4000000 in
set_option maxRecDepth 100000 in
theorem c_Mo_full (l : Launch)  {p0 : Int32}  {r : Bool × Int32} (sz : Nat) (hf : f_Mo_full n p0 mErr mLanguages = some r) : Met l y_Mo_full w0_Mo_full ({ frames := 1, cells := 0, slots := 0, locals := 22 }) (wPre D K [.ref h, .int p0] (moW K h a mErr mLanguages mBounds mSize mGoes mLast mLeft mNext mGroup mFresh mLeader mNumber mRight mEnds mWay mVariable mFactor mLeast mMost mLength mWord mKept mMany mMore mLeads mMet mTodo mMay mTries) sz) (wPost D K (some (.int (bI r.1))) (moW K h a r.2 mLanguages mBounds mSize mGoes mLast mLeft mNext mGroup mFresh mLeader mNumber mRight mEnds mWay mVariable mFactor mLeast mMost mLength mWord mKept mMany mMore mLeads mMet mTodo mMay mTries) (va_A (moW K h a mErr mLanguages mBounds mSize mGoes mLast mLeft mNext mGroup mFresh mLeader mNumber mRight mEnds mWay mVariable mFactor mLeast mMost mLength mWord mKept mMany mMore mLeads mMet mTodo mMay mTries) sz)) 0 0 (va_A (moW K h a mErr mLanguages mBounds mSize mGoes mLast mLeft mNext mGroup mFresh mLeader mNumber mRight mEnds mWay mVariable mFactor mLeast mMost mLength mWord mKept mMany mMore mLeads mMet mTodo mMay mTries) sz) := by
  refine Met.ofW (cc := b_Mo_full) (maxL := 2) (ret := (some .boolean)) (by decide) rfl ?_
  intro p e s m args below meth c s₁ B hml hv
  obtain ⟨rfl, hsz, hP, hK, hD0⟩ := hv
  subst hsz
  have hl := lv_entry [.ref h, .int p0] (n := 2) (Nat.le_of_ble_eq_true rfl)
  rw [lg_entry_eq]
  generalize (lg_sl [.ref h, .int p0] ++ List.replicate (2 - (lg_sl [.ref h, .int p0]).length) Slot.unset).toArray = ls at hl ⊢
  refine w_Mo_full (A := va_A (moW K h a mErr mLanguages mBounds mSize mGoes mLast mLeft mNext mGroup mFresh mLeader mNumber mRight mEnds mWay mVariable mFactor mLeast mMost mLength mWord mKept mMany mMore mLeads mMet mTodo mMay mTries) s.heap.size) (H0 := s.heap) B.exec B.bytes hml (fun w hw => atoms_spec (ws := w0_Mo_full) B.pre w (List.mem_cons_of_mem _ hw)) (findClass_of_methodNamed B.named) hK (Nat.le_refl _) (Nat.le_refl _) (Nat.zero_le _) (Nat.zero_le _) (fun q h => Or.inr h) (fun r er pc ls H locs hd hP hD hS => ?_) hf ls hP (hD0.self (sz := s.heap.size)) va_S.rf hl
  subst er
  exact W.zret B.exec B.bytes B.returns (bI_nar _) (fun t ht hW => ⟨⟨rfl, by rw [ht]; exact hP, va_K.moved hW.alike hK, hD⟩, hS.F ht⟩) hS.2.2 hd (hlocks := B.notSynchronized)
theorem pd_Mo_lead : y_Mo_lead.cls ≠ "java/lang/invoke/MethodHandle" ∧ y_Mo_lead.cls ≠ "java/lang/invoke/VarHandle" ∧ (parseMethodDescriptor y_Mo_lead.desc).map (fun d => d.parameters.length) = some 2 := by decide +kernel
def f_Mo_lead_52 (n : Nat) (v4 : Int32) (v3 : Int32) (v1 : Int32) (mGoes : Nat → Int32) (mLeads : Nat → Int64) : Nat → Int32 → Int32 → Option (Int32 × Int32)
  | 0, _, _ => none
  | k + 1, v6, v5 =>
    if 4 ≤ v6 then
      some (v6, v5)
    else
      if v3 ≤ 0 then
        some (v6, v5)
      else
        ogd (gin (v3 - 1) 32) <|
        (f_Mo_go n v1 v4 v6 mGoes).bind fun u34 =>
        if ((lshr (mLeads (v3 - 1).toNatClampNeg) u34) &&& 1) = 0 then
          f_Mo_lead_52 n v4 v3 v1 mGoes mLeads k (v6 + 1) (v5 ||| 0)
        else
          f_Mo_lead_52 n v4 v3 v1 mGoes mLeads k (v6 + 1) (v5 ||| 1)
set_option maxHeartbeats 4000000 in
set_option maxRecDepth 100000 in
theorem w_Mo_lead_52  {v4 : Int32} {v3 : Int32} {v1 : Int32} {v2 : Int32} (hx : p.tables.exec = Jvm.exec) (hb : c.code = b_Mo_lead) (hml : c.maxLocals = 7) (hts : ∀ w ∈ gW, w.before args s = true) (hown : s.vm.findClass "RegularSolverModel" = some m.cls) (hK : va_K D vwCl (tG K) s) (hRf : 1 ≤ R.frames) (hRl : 23 ≤ R.locals) (hRc : cells ≤ R.cells) (hRs : slots ≤ R.slots) (hA : ∀ q, H0.size ≤ q → A q)  {out : Int32 × Int32} (Kx : ∀ (u : Int32 × Int32), out = u → ∀ (ls : Array Slot) (H : Heap) (locs : List Loc), va_P D vwCl (moW K h a mErr mLanguages mBounds mSize mGoes mLast mLeft mNext mGroup mFresh mLeader mNumber mRight mEnds mWay mVariable mFactor mLeast mMost mLength mWord mKept mMany mMore mLeads mMet mTodo mMay mTries) H → va_D A (moW K h a mErr mLanguages mBounds mSize mGoes mLast mLeft mNext mGroup mFresh mLeader mNumber mRight mEnds mWay mVariable mFactor mLeast mMost mLength mWord mKept mMany mMore mLeads mMet mTodo mMay mTries) → va_S A H0 H locs → lv_has ls 7 [(5, .int u.2), (4, .int v4), (3, .int v3), (0, .ref h), (1, .int v1), (2, .int v2)] → W p l e R s m args below meth c H locs cells slots Q (F0 m 103 ls [])) :
    ∀ (k : Nat) (v6 : Int32) (v5 : Int32), f_Mo_lead_52 n v4 v3 v1 mGoes mLeads k v6 v5 = some out → ∀ (ls : Array Slot) (H : Heap) (locs : List Loc), va_P D vwCl (moW K h a mErr mLanguages mBounds mSize mGoes mLast mLeft mNext mGroup mFresh mLeader mNumber mRight mEnds mWay mVariable mFactor mLeast mMost mLength mWord mKept mMany mMore mLeads mMet mTodo mMay mTries) H → va_D A (moW K h a mErr mLanguages mBounds mSize mGoes mLast mLeft mNext mGroup mFresh mLeader mNumber mRight mEnds mWay mVariable mFactor mLeast mMost mLength mWord mKept mMany mMore mLeads mMet mTodo mMay mTries) → va_S A H0 H locs → lv_has ls 7 [(6, .int v6), (5, .int v5), (4, .int v4), (3, .int v3), (0, .ref h), (1, .int v1), (2, .int v2)] → W p l e R s m args below meth c H locs cells slots Q (F0 m 52 ls []) := by
  intro k
  induction k with
  | zero => intro _ _ hf; exact nomatch (show none = some out from hf)
  | succ k ih =>
    intro v6 v5 hf ls H locs hP hD hS hl
    rw [f_Mo_lead_52] at hf
    refine lv_iload hx hb d_Mo_lead_52 (lv_at hl 0 rfl) ?_
    refine lv_iconst (v := 4) hx hb d_Mo_lead_54 (by decide) ?_
    refine lv_icmp_ge (tgt := 103) hx hb d_Mo_lead_55 (by decide) (fun c31 => ?_) (fun c31 => ?_)
    · rw [if_pos c31] at hf
      exact Kx _ (Option.some.inj hf).symm _ _ _ hP hD hS (show lv_has ls 7 [(5, .int v5), (4, .int v4), (3, .int v3), (0, .ref h), (1, .int v1), (2, .int v2)] from lv_sub hl [1, 2, 3, 4, 5, 6] rfl)
    · rw [if_neg c31] at hf
      refine lv_iload_n hx hb d_Mo_lead_58 rfl (lv_at hl 3 rfl) ?_
      refine lv_if_le (tgt := 103) hx hb d_Mo_lead_59 (by decide) (fun c32 => ?_) (fun c32 => ?_)
      · rw [if_pos c32] at hf
        exact Kx _ (Option.some.inj hf).symm _ _ _ hP hD hS (show lv_has ls 7 [(5, .int v5), (4, .int v4), (3, .int v3), (0, .ref h), (1, .int v1), (2, .int v2)] from lv_sub hl [1, 2, 3, 4, 5, 6] rfl)
      · rw [if_neg c32] at hf
        refine lv_iload hx hb d_Mo_lead_62 (lv_at hl 1 rfl) ?_
        refine lv_aload_n hx hb d_Mo_lead_64 rfl (lv_at hl 4 rfl) ?_
        refine va_get (D := D) (ci := 0) (v := .ref (a 19)) (C := R_Mo) (T := T_Mo) (N := 29) hx hb hts in_Mo hown hK hP 0 rfl rfl 24 (by decide) (hts _ fl_Mo_69) (fun _ h9 => h9) rfl d_Mo_lead_65 ?_
        refine lv_iload_n hx hb d_Mo_lead_68 rfl (lv_at hl 3 rfl) ?_
        refine lv_iconst (v := 1) hx hb d_Mo_lead_69 (by decide) ?_
        refine lv_isub hx hb d_Mo_lead_70 ?_
        obtain ⟨g33, hf⟩ := ogi hf
        refine va_lald hx hb hK hP 20 1 rfl rfl (gin_in g33) d_Mo_lead_71 ?_
        refine lv_aload_n hx hb d_Mo_lead_72 rfl (lv_at hl 4 rfl) ?_
        refine lv_iload_n hx hb d_Mo_lead_73 rfl (lv_at hl 5 rfl) ?_
        refine lv_iload hx hb d_Mo_lead_74 (lv_at hl 2 rfl) ?_
        refine lv_iload hx hb d_Mo_lead_76 (lv_at hl 0 rfl) ?_
        obtain ⟨u34, eu34, hf⟩ := obd hf
        refine p_call (W.runV (As := [.int v1, .int v4, .int v6]) (rest := [.long (mLeads (v3 - 1).toNatClampNeg), .int v5]) ⟨hx, hb, hml, hown, hts⟩ (c_Mo_go l eu34) (gV 3 hts cd_Mo_go ml_Mo_98 im_Mo_go se_Mo_go ini_Mo rfl rfl pd_Mo_go ⟨Nat.le_trans (Nat.le_of_ble_eq_true rfl) hRf, Nat.le_trans (Nat.le_of_ble_eq_true rfl) hRl⟩) ⟨pPre_blind, va_recv hK hP (ci := 0) (q0 := 0) rfl rfl, pPre_of hP hK⟩ rfl rfl hl.1 rfl (lv_room (Nat.le_of_ble_eq_true rfl)) d_Mo_lead_78 ⟨hRc, hRs⟩) ?_
        refine lv_lshr (v := lshr (mLeads (v3 - 1).toNatClampNeg) u34) hx hb d_Mo_lead_81 rfl ?_
        refine lv_lconst (v := 1) hx hb d_Mo_lead_82 (by decide) ?_
        refine lv_land hx hb d_Mo_lead_83 ?_
        refine lv_lconst (v := 0) hx hb d_Mo_lead_84 (by decide) ?_
        refine W.lcmp hx hb d_Mo_lead_85 ?_
        refine lc_eq (tgt := 93) hx hb d_Mo_lead_86 (by decide) (fun c35 => ?_) (fun c35 => ?_)
        · rw [if_pos c35] at hf
          refine lv_iconst (v := 0) hx hb d_Mo_lead_93 (by decide) ?_
          refine lv_ior hx hb d_Mo_lead_94 ?_
          refine lv_istore (lv' := [(5, .int (v5 ||| 0)), (6, .int v6), (4, .int v4), (3, .int v3), (0, .ref h), (1, .int v1), (2, .int v2)]) hx hb d_Mo_lead_95 hl (by decide) rfl (fun ls hl => ?_)
          refine lv_iinc (v := v6 + 1) (lv' := [(6, .int (v6 + 1)), (5, .int (v5 ||| 0)), (4, .int v4), (3, .int v3), (0, .ref h), (1, .int v1), (2, .int v2)]) hx hb d_Mo_lead_97 hl (k := 1) rfl (by first | rfl | (congr 1)) (by decide) rfl (fun ls hl => ?_)
          refine lv_goto (tgt := 52) hx hb d_Mo_lead_100 (by decide) ?_
          exact ih _ _ hf _ _ _ hP hD hS (show lv_has ls 7 [(6, .int (v6 + 1)), (5, .int (v5 ||| 0)), (4, .int v4), (3, .int v3), (0, .ref h), (1, .int v1), (2, .int v2)] from lv_sub hl [0, 1, 2, 3, 4, 5, 6] rfl)
        · rw [if_neg c35] at hf
          refine lv_iconst (v := 1) hx hb d_Mo_lead_89 (by decide) ?_
          refine lv_goto (tgt := 94) hx hb d_Mo_lead_90 (by decide) ?_
          refine lv_ior hx hb d_Mo_lead_94 ?_
          refine lv_istore (lv' := [(5, .int (v5 ||| 1)), (6, .int v6), (4, .int v4), (3, .int v3), (0, .ref h), (1, .int v1), (2, .int v2)]) hx hb d_Mo_lead_95 hl (by decide) rfl (fun ls hl => ?_)
          refine lv_iinc (v := v6 + 1) (lv' := [(6, .int (v6 + 1)), (5, .int (v5 ||| 1)), (4, .int v4), (3, .int v3), (0, .ref h), (1, .int v1), (2, .int v2)]) hx hb d_Mo_lead_97 hl (k := 1) rfl (by first | rfl | (congr 1)) (by decide) rfl (fun ls hl => ?_)
          refine lv_goto (tgt := 52) hx hb d_Mo_lead_100 (by decide) ?_
          exact ih _ _ hf _ _ _ hP hD hS (show lv_has ls 7 [(6, .int (v6 + 1)), (5, .int (v5 ||| 1)), (4, .int v4), (3, .int v3), (0, .ref h), (1, .int v1), (2, .int v2)] from lv_sub hl [0, 1, 2, 3, 4, 5, 6] rfl)
def f_Mo_lead_17 (n : Nat) (v3 : Int32) (v1 : Int32) (mSize : Nat → Int32) (mGoes : Nat → Int32) (mLast : Nat → Bool) : Nat → Int32 → (Nat → Int64) → Option (Int32 × (Nat → Int64))
  | 0, _, _ => none
  | k + 1, v4, mLeads =>
    ogd (gin v1 60) <|
    if (mSize v1.toNatClampNeg) ≤ v4 then
      some (v4, mLeads)
    else
      if v3 = 0 then
        (f_Mo_isLast n v1 v4 mLast).bind fun u40 =>
        if u40 = true then
          (f_Mo_lead_52 n v4 v3 v1 mGoes mLeads n 0 1).bind fun u46 =>
          if u46.2 = 0 then
            f_Mo_lead_17 n v3 v1 mSize mGoes mLast k (v4 + 1) mLeads
          else
            ogd (gin v3 32) <|
            ogd (gin v3 32) <|
            f_Mo_lead_17 n v3 v1 mSize mGoes mLast k (v4 + 1) (vp_updL mLeads v3.toNatClampNeg ((mLeads v3.toNatClampNeg) ||| (lshl 1 v4)))
        else
          (f_Mo_lead_52 n v4 v3 v1 mGoes mLeads n 0 0).bind fun u42 =>
          if u42.2 = 0 then
            f_Mo_lead_17 n v3 v1 mSize mGoes mLast k (v4 + 1) mLeads
          else
            ogd (gin v3 32) <|
            ogd (gin v3 32) <|
            f_Mo_lead_17 n v3 v1 mSize mGoes mLast k (v4 + 1) (vp_updL mLeads v3.toNatClampNeg ((mLeads v3.toNatClampNeg) ||| (lshl 1 v4)))
      else
        (f_Mo_lead_52 n v4 v3 v1 mGoes mLeads n 0 0).bind fun u36 =>
        if u36.2 = 0 then
          f_Mo_lead_17 n v3 v1 mSize mGoes mLast k (v4 + 1) mLeads
        else
          ogd (gin v3 32) <|
          ogd (gin v3 32) <|
          f_Mo_lead_17 n v3 v1 mSize mGoes mLast k (v4 + 1) (vp_updL mLeads v3.toNatClampNeg ((mLeads v3.toNatClampNeg) ||| (lshl 1 v4)))
set_option maxHeartbeats 4000000 in
set_option maxRecDepth 100000 in
theorem w_Mo_lead_17  {v3 : Int32} {v1 : Int32} {v2 : Int32} (hx : p.tables.exec = Jvm.exec) (hb : c.code = b_Mo_lead) (hml : c.maxLocals = 7) (hts : ∀ w ∈ gW, w.before args s = true) (hown : s.vm.findClass "RegularSolverModel" = some m.cls) (hK : va_K D vwCl (tG K) s) (hRf : 1 ≤ R.frames) (hRl : 23 ≤ R.locals) (hRc : cells ≤ R.cells) (hRs : slots ≤ R.slots) (hA : ∀ q, H0.size ≤ q → A q)  {out : Int32 × (Nat → Int64)} (Kx : ∀ (u : Int32 × (Nat → Int64)), out = u → ∀ (ls : Array Slot) (H : Heap) (locs : List Loc), va_P D vwCl (moW K h a mErr mLanguages mBounds mSize mGoes mLast mLeft mNext mGroup mFresh mLeader mNumber mRight mEnds mWay mVariable mFactor mLeast mMost mLength mWord mKept mMany mMore u.2 mMet mTodo mMay mTries) H → va_D A (moW K h a mErr mLanguages mBounds mSize mGoes mLast mLeft mNext mGroup mFresh mLeader mNumber mRight mEnds mWay mVariable mFactor mLeast mMost mLength mWord mKept mMany mMore u.2 mMet mTodo mMay mTries) → va_S A H0 H locs → lv_has ls 7 [(3, .int v3), (0, .ref h), (1, .int v1), (2, .int v2)] → W p l e R s m args below meth c H locs cells slots Q (F0 m 127 ls [])) :
    ∀ (k : Nat) (v4 : Int32) (mLeads : Nat → Int64), f_Mo_lead_17 n v3 v1 mSize mGoes mLast k v4 mLeads = some out → ∀ (ls : Array Slot) (H : Heap) (locs : List Loc), va_P D vwCl (moW K h a mErr mLanguages mBounds mSize mGoes mLast mLeft mNext mGroup mFresh mLeader mNumber mRight mEnds mWay mVariable mFactor mLeast mMost mLength mWord mKept mMany mMore mLeads mMet mTodo mMay mTries) H → va_D A (moW K h a mErr mLanguages mBounds mSize mGoes mLast mLeft mNext mGroup mFresh mLeader mNumber mRight mEnds mWay mVariable mFactor mLeast mMost mLength mWord mKept mMany mMore mLeads mMet mTodo mMay mTries) → va_S A H0 H locs → lv_has ls 7 [(4, .int v4), (3, .int v3), (0, .ref h), (1, .int v1), (2, .int v2)] → W p l e R s m args below meth c H locs cells slots Q (F0 m 17 ls []) := by
  intro k
  induction k with
  | zero => intro _ _ hf; exact nomatch (show none = some out from hf)
  | succ k ih =>
    intro v4 mLeads hf ls H locs hP hD hS hl
    rw [f_Mo_lead_17] at hf
    refine lv_iload hx hb d_Mo_lead_17 (lv_at hl 0 rfl) ?_
    refine lv_aload_n hx hb d_Mo_lead_19 rfl (lv_at hl 2 rfl) ?_
    refine va_get (D := D) (ci := 0) (v := .ref (a 0)) (C := R_Mo) (T := T_Mo) (N := 29) hx hb hts in_Mo hown hK hP 0 rfl rfl 3 (by decide) (hts _ fl_Mo_9) (fun _ h9 => h9) rfl d_Mo_lead_20 ?_
    refine lv_iload_n hx hb d_Mo_lead_23 rfl (lv_at hl 3 rfl) ?_
    obtain ⟨g28, hf⟩ := ogi hf
    refine va_iald hx hb hK hP 1 0 rfl rfl (gin_in g28) d_Mo_lead_24 ?_
    refine lv_icmp_ge (tgt := 127) hx hb d_Mo_lead_25 (by decide) (fun c29 => ?_) (fun c29 => ?_)
    · rw [if_pos c29] at hf
      exact Kx _ (Option.some.inj hf).symm _ _ _ hP hD hS (show lv_has ls 7 [(3, .int v3), (0, .ref h), (1, .int v1), (2, .int v2)] from lv_sub hl [1, 2, 3, 4] rfl)
    · rw [if_neg c29] at hf
      refine lv_iload_n hx hb d_Mo_lead_28 rfl (lv_at hl 1 rfl) ?_
      refine lv_if_ne (tgt := 46) hx hb d_Mo_lead_29 (by decide) (fun c30 => ?_) (fun c30 => ?_)
      · rw [if_neg c30] at hf
        refine lv_iconst (v := 0) hx hb d_Mo_lead_46 (by decide) ?_
        refine lv_istore (lv' := [(5, .int 0), (4, .int v4), (3, .int v3), (0, .ref h), (1, .int v1), (2, .int v2)]) hx hb d_Mo_lead_47 hl (by decide) rfl (fun ls hl => ?_)
        refine lv_iconst (v := 0) hx hb d_Mo_lead_49 (by decide) ?_
        refine lv_istore (lv' := [(6, .int 0), (5, .int 0), (4, .int v4), (3, .int v3), (0, .ref h), (1, .int v1), (2, .int v2)]) hx hb d_Mo_lead_50 hl (by decide) rfl (fun ls hl => ?_)
        obtain ⟨u36, eu36, hf⟩ := obd hf
        refine w_Mo_lead_52 hx hb hml hts hown hK hRf hRl hRc hRs hA  (fun u36q eu ls H locs hP hD hS hl => ?_) _ _ _ eu36 _ _ _ hP hD hS (show lv_has ls 7 [(6, .int 0), (5, .int 0), (4, .int v4), (3, .int v3), (0, .ref h), (1, .int v1), (2, .int v2)] from lv_sub hl [0, 1, 2, 3, 4, 5, 6] rfl)
        subst eu
        refine lv_iload hx hb d_Mo_lead_103 (lv_at hl 0 rfl) ?_
        refine lv_if_eq (tgt := 121) hx hb d_Mo_lead_105 (by decide) (fun c37 => ?_) (fun c37 => ?_)
        · rw [if_pos c37] at hf
          refine lv_iinc (v := v4 + 1) (lv' := [(4, .int (v4 + 1)), (5, .int u36.2), (3, .int v3), (0, .ref h), (1, .int v1), (2, .int v2)]) hx hb d_Mo_lead_121 hl (k := 1) rfl (by first | rfl | (congr 1)) (by decide) rfl (fun ls hl => ?_)
          refine lv_goto (tgt := 17) hx hb d_Mo_lead_124 (by decide) ?_
          exact ih _ _ hf _ _ _ hP hD hS (show lv_has ls 7 [(4, .int (v4 + 1)), (3, .int v3), (0, .ref h), (1, .int v1), (2, .int v2)] from lv_sub hl [0, 2, 3, 4, 5] rfl)
        · rw [if_neg c37] at hf
          refine lv_aload_n hx hb d_Mo_lead_108 rfl (lv_at hl 3 rfl) ?_
          refine va_get (D := D) (ci := 0) (v := .ref (a 19)) (C := R_Mo) (T := T_Mo) (N := 29) hx hb hts in_Mo hown hK hP 0 rfl rfl 24 (by decide) (hts _ fl_Mo_69) (fun _ h9 => h9) rfl d_Mo_lead_109 ?_
          refine lv_iload_n hx hb d_Mo_lead_112 rfl (lv_at hl 2 rfl) ?_
          refine lv_dup2_11 hx hb d_Mo_lead_113 rfl rfl ?_
          obtain ⟨g38, hf⟩ := ogi hf
          refine va_lald hx hb hK hP 20 1 rfl rfl (gin_in g38) d_Mo_lead_114 ?_
          refine lv_lconst (v := 1) hx hb d_Mo_lead_115 (by decide) ?_
          refine lv_iload hx hb d_Mo_lead_116 (lv_at hl 1 rfl) ?_
          refine lv_lshl (v := lshl 1 v4) hx hb d_Mo_lead_118 rfl ?_
          refine lv_lor hx hb d_Mo_lead_119 ?_
          obtain ⟨g39, hf⟩ := ogi hf
          refine va_last hx hb hK hP hD hS 20 1 rfl rfl (gin_in g39) d_Mo_lead_120 (fun H locs hP hD hS => ?_)
          have hP : va_P D vwCl (moW K h a mErr mLanguages mBounds mSize mGoes mLast mLeft mNext mGroup mFresh mLeader mNumber mRight mEnds mWay mVariable mFactor mLeast mMost mLength mWord mKept mMany mMore (vp_updL mLeads v3.toNatClampNeg ((mLeads v3.toNatClampNeg) ||| (lshl 1 v4))) mMet mTodo mMay mTries) H := hP
          have hD : va_D A (moW K h a mErr mLanguages mBounds mSize mGoes mLast mLeft mNext mGroup mFresh mLeader mNumber mRight mEnds mWay mVariable mFactor mLeast mMost mLength mWord mKept mMany mMore (vp_updL mLeads v3.toNatClampNeg ((mLeads v3.toNatClampNeg) ||| (lshl 1 v4))) mMet mTodo mMay mTries) := hD
          refine lv_iinc (v := v4 + 1) (lv' := [(4, .int (v4 + 1)), (5, .int u36.2), (3, .int v3), (0, .ref h), (1, .int v1), (2, .int v2)]) hx hb d_Mo_lead_121 hl (k := 1) rfl (by first | rfl | (congr 1)) (by decide) rfl (fun ls hl => ?_)
          refine lv_goto (tgt := 17) hx hb d_Mo_lead_124 (by decide) ?_
          exact ih _ _ hf _ _ _ hP hD hS (show lv_has ls 7 [(4, .int (v4 + 1)), (3, .int v3), (0, .ref h), (1, .int v1), (2, .int v2)] from lv_sub hl [0, 2, 3, 4, 5] rfl)
      · rw [if_pos c30] at hf
        refine lv_aload_n hx hb d_Mo_lead_32 rfl (lv_at hl 2 rfl) ?_
        refine lv_iload_n hx hb d_Mo_lead_33 rfl (lv_at hl 3 rfl) ?_
        refine lv_iload hx hb d_Mo_lead_34 (lv_at hl 0 rfl) ?_
        obtain ⟨u40, eu40, hf⟩ := obd hf
        refine p_call (W.runV (As := [.int v1, .int v4]) (rest := []) ⟨hx, hb, hml, hown, hts⟩ (c_Mo_isLast l eu40) (gV 2 hts cd_Mo_isLast ml_Mo_102 im_Mo_isLast se_Mo_isLast ini_Mo rfl rfl pd_Mo_isLast ⟨Nat.le_trans (Nat.le_of_ble_eq_true rfl) hRf, Nat.le_trans (Nat.le_of_ble_eq_true rfl) hRl⟩) ⟨pPre_blind, va_recv hK hP (ci := 0) (q0 := 0) rfl rfl, pPre_of hP hK⟩ rfl rfl hl.1 rfl (lv_room (Nat.le_of_ble_eq_true rfl)) d_Mo_lead_36 ⟨hRc, hRs⟩) ?_
        refine bz_eq (tgt := 46) hx hb d_Mo_lead_39 (by decide) (fun c41 => ?_) (fun c41 => ?_)
        · rw [if_neg c41] at hf
          refine lv_iconst (v := 0) hx hb d_Mo_lead_46 (by decide) ?_
          refine lv_istore (lv' := [(5, .int 0), (4, .int v4), (3, .int v3), (0, .ref h), (1, .int v1), (2, .int v2)]) hx hb d_Mo_lead_47 hl (by decide) rfl (fun ls hl => ?_)
          refine lv_iconst (v := 0) hx hb d_Mo_lead_49 (by decide) ?_
          refine lv_istore (lv' := [(6, .int 0), (5, .int 0), (4, .int v4), (3, .int v3), (0, .ref h), (1, .int v1), (2, .int v2)]) hx hb d_Mo_lead_50 hl (by decide) rfl (fun ls hl => ?_)
          obtain ⟨u42, eu42, hf⟩ := obd hf
          refine w_Mo_lead_52 hx hb hml hts hown hK hRf hRl hRc hRs hA  (fun u42q eu ls H locs hP hD hS hl => ?_) _ _ _ eu42 _ _ _ hP hD hS (show lv_has ls 7 [(6, .int 0), (5, .int 0), (4, .int v4), (3, .int v3), (0, .ref h), (1, .int v1), (2, .int v2)] from lv_sub hl [0, 1, 2, 3, 4, 5, 6] rfl)
          subst eu
          refine lv_iload hx hb d_Mo_lead_103 (lv_at hl 0 rfl) ?_
          refine lv_if_eq (tgt := 121) hx hb d_Mo_lead_105 (by decide) (fun c43 => ?_) (fun c43 => ?_)
          · rw [if_pos c43] at hf
            refine lv_iinc (v := v4 + 1) (lv' := [(4, .int (v4 + 1)), (5, .int u42.2), (3, .int v3), (0, .ref h), (1, .int v1), (2, .int v2)]) hx hb d_Mo_lead_121 hl (k := 1) rfl (by first | rfl | (congr 1)) (by decide) rfl (fun ls hl => ?_)
            refine lv_goto (tgt := 17) hx hb d_Mo_lead_124 (by decide) ?_
            exact ih _ _ hf _ _ _ hP hD hS (show lv_has ls 7 [(4, .int (v4 + 1)), (3, .int v3), (0, .ref h), (1, .int v1), (2, .int v2)] from lv_sub hl [0, 2, 3, 4, 5] rfl)
          · rw [if_neg c43] at hf
            refine lv_aload_n hx hb d_Mo_lead_108 rfl (lv_at hl 3 rfl) ?_
            refine va_get (D := D) (ci := 0) (v := .ref (a 19)) (C := R_Mo) (T := T_Mo) (N := 29) hx hb hts in_Mo hown hK hP 0 rfl rfl 24 (by decide) (hts _ fl_Mo_69) (fun _ h9 => h9) rfl d_Mo_lead_109 ?_
            refine lv_iload_n hx hb d_Mo_lead_112 rfl (lv_at hl 2 rfl) ?_
            refine lv_dup2_11 hx hb d_Mo_lead_113 rfl rfl ?_
            obtain ⟨g44, hf⟩ := ogi hf
            refine va_lald hx hb hK hP 20 1 rfl rfl (gin_in g44) d_Mo_lead_114 ?_
            refine lv_lconst (v := 1) hx hb d_Mo_lead_115 (by decide) ?_
            refine lv_iload hx hb d_Mo_lead_116 (lv_at hl 1 rfl) ?_
            refine lv_lshl (v := lshl 1 v4) hx hb d_Mo_lead_118 rfl ?_
            refine lv_lor hx hb d_Mo_lead_119 ?_
            obtain ⟨g45, hf⟩ := ogi hf
            refine va_last hx hb hK hP hD hS 20 1 rfl rfl (gin_in g45) d_Mo_lead_120 (fun H locs hP hD hS => ?_)
            have hP : va_P D vwCl (moW K h a mErr mLanguages mBounds mSize mGoes mLast mLeft mNext mGroup mFresh mLeader mNumber mRight mEnds mWay mVariable mFactor mLeast mMost mLength mWord mKept mMany mMore (vp_updL mLeads v3.toNatClampNeg ((mLeads v3.toNatClampNeg) ||| (lshl 1 v4))) mMet mTodo mMay mTries) H := hP
            have hD : va_D A (moW K h a mErr mLanguages mBounds mSize mGoes mLast mLeft mNext mGroup mFresh mLeader mNumber mRight mEnds mWay mVariable mFactor mLeast mMost mLength mWord mKept mMany mMore (vp_updL mLeads v3.toNatClampNeg ((mLeads v3.toNatClampNeg) ||| (lshl 1 v4))) mMet mTodo mMay mTries) := hD
            refine lv_iinc (v := v4 + 1) (lv' := [(4, .int (v4 + 1)), (5, .int u42.2), (3, .int v3), (0, .ref h), (1, .int v1), (2, .int v2)]) hx hb d_Mo_lead_121 hl (k := 1) rfl (by first | rfl | (congr 1)) (by decide) rfl (fun ls hl => ?_)
            refine lv_goto (tgt := 17) hx hb d_Mo_lead_124 (by decide) ?_
            exact ih _ _ hf _ _ _ hP hD hS (show lv_has ls 7 [(4, .int (v4 + 1)), (3, .int v3), (0, .ref h), (1, .int v1), (2, .int v2)] from lv_sub hl [0, 2, 3, 4, 5] rfl)
        · rw [if_pos c41] at hf
          refine lv_iconst (v := 1) hx hb d_Mo_lead_42 (by decide) ?_
          refine lv_goto (tgt := 47) hx hb d_Mo_lead_43 (by decide) ?_
          refine lv_istore (lv' := [(5, .int 1), (4, .int v4), (3, .int v3), (0, .ref h), (1, .int v1), (2, .int v2)]) hx hb d_Mo_lead_47 hl (by decide) rfl (fun ls hl => ?_)
          refine lv_iconst (v := 0) hx hb d_Mo_lead_49 (by decide) ?_
          refine lv_istore (lv' := [(6, .int 0), (5, .int 1), (4, .int v4), (3, .int v3), (0, .ref h), (1, .int v1), (2, .int v2)]) hx hb d_Mo_lead_50 hl (by decide) rfl (fun ls hl => ?_)
          obtain ⟨u46, eu46, hf⟩ := obd hf
          refine w_Mo_lead_52 hx hb hml hts hown hK hRf hRl hRc hRs hA  (fun u46q eu ls H locs hP hD hS hl => ?_) _ _ _ eu46 _ _ _ hP hD hS (show lv_has ls 7 [(6, .int 0), (5, .int 1), (4, .int v4), (3, .int v3), (0, .ref h), (1, .int v1), (2, .int v2)] from lv_sub hl [0, 1, 2, 3, 4, 5, 6] rfl)
          subst eu
          refine lv_iload hx hb d_Mo_lead_103 (lv_at hl 0 rfl) ?_
          refine lv_if_eq (tgt := 121) hx hb d_Mo_lead_105 (by decide) (fun c47 => ?_) (fun c47 => ?_)
          · rw [if_pos c47] at hf
            refine lv_iinc (v := v4 + 1) (lv' := [(4, .int (v4 + 1)), (5, .int u46.2), (3, .int v3), (0, .ref h), (1, .int v1), (2, .int v2)]) hx hb d_Mo_lead_121 hl (k := 1) rfl (by first | rfl | (congr 1)) (by decide) rfl (fun ls hl => ?_)
            refine lv_goto (tgt := 17) hx hb d_Mo_lead_124 (by decide) ?_
            exact ih _ _ hf _ _ _ hP hD hS (show lv_has ls 7 [(4, .int (v4 + 1)), (3, .int v3), (0, .ref h), (1, .int v1), (2, .int v2)] from lv_sub hl [0, 2, 3, 4, 5] rfl)
          · rw [if_neg c47] at hf
            refine lv_aload_n hx hb d_Mo_lead_108 rfl (lv_at hl 3 rfl) ?_
            refine va_get (D := D) (ci := 0) (v := .ref (a 19)) (C := R_Mo) (T := T_Mo) (N := 29) hx hb hts in_Mo hown hK hP 0 rfl rfl 24 (by decide) (hts _ fl_Mo_69) (fun _ h9 => h9) rfl d_Mo_lead_109 ?_
            refine lv_iload_n hx hb d_Mo_lead_112 rfl (lv_at hl 2 rfl) ?_
            refine lv_dup2_11 hx hb d_Mo_lead_113 rfl rfl ?_
            obtain ⟨g48, hf⟩ := ogi hf
            refine va_lald hx hb hK hP 20 1 rfl rfl (gin_in g48) d_Mo_lead_114 ?_
            refine lv_lconst (v := 1) hx hb d_Mo_lead_115 (by decide) ?_
            refine lv_iload hx hb d_Mo_lead_116 (lv_at hl 1 rfl) ?_
            refine lv_lshl (v := lshl 1 v4) hx hb d_Mo_lead_118 rfl ?_
            refine lv_lor hx hb d_Mo_lead_119 ?_
            obtain ⟨g49, hf⟩ := ogi hf
            refine va_last hx hb hK hP hD hS 20 1 rfl rfl (gin_in g49) d_Mo_lead_120 (fun H locs hP hD hS => ?_)
            have hP : va_P D vwCl (moW K h a mErr mLanguages mBounds mSize mGoes mLast mLeft mNext mGroup mFresh mLeader mNumber mRight mEnds mWay mVariable mFactor mLeast mMost mLength mWord mKept mMany mMore (vp_updL mLeads v3.toNatClampNeg ((mLeads v3.toNatClampNeg) ||| (lshl 1 v4))) mMet mTodo mMay mTries) H := hP
            have hD : va_D A (moW K h a mErr mLanguages mBounds mSize mGoes mLast mLeft mNext mGroup mFresh mLeader mNumber mRight mEnds mWay mVariable mFactor mLeast mMost mLength mWord mKept mMany mMore (vp_updL mLeads v3.toNatClampNeg ((mLeads v3.toNatClampNeg) ||| (lshl 1 v4))) mMet mTodo mMay mTries) := hD
            refine lv_iinc (v := v4 + 1) (lv' := [(4, .int (v4 + 1)), (5, .int u46.2), (3, .int v3), (0, .ref h), (1, .int v1), (2, .int v2)]) hx hb d_Mo_lead_121 hl (k := 1) rfl (by first | rfl | (congr 1)) (by decide) rfl (fun ls hl => ?_)
            refine lv_goto (tgt := 17) hx hb d_Mo_lead_124 (by decide) ?_
            exact ih _ _ hf _ _ _ hP hD hS (show lv_has ls 7 [(4, .int (v4 + 1)), (3, .int v3), (0, .ref h), (1, .int v1), (2, .int v2)] from lv_sub hl [0, 2, 3, 4, 5] rfl)
def f_Mo_lead_2 (n : Nat) (v1 : Int32) (v2 : Int32) (mSize : Nat → Int32) (mGoes : Nat → Int32) (mLast : Nat → Bool) : Nat → Int32 → (Nat → Int64) → Option (Int32 × (Nat → Int64))
  | 0, _, _ => none
  | k + 1, v3, mLeads =>
    if v2 < v3 then
      some (v3, mLeads)
    else
      ogd (gin v3 32) <|
      (f_Mo_lead_17 n v3 v1 mSize mGoes mLast n 0 (vp_updL mLeads v3.toNatClampNeg 0)).bind fun u50 =>
      f_Mo_lead_2 n v1 v2 mSize mGoes mLast k (v3 + 1) u50.2
set_option maxHeartbeats 4000000 in
set_option maxRecDepth 100000 in
theorem w_Mo_lead_2  {v1 : Int32} {v2 : Int32} (hx : p.tables.exec = Jvm.exec) (hb : c.code = b_Mo_lead) (hml : c.maxLocals = 7) (hts : ∀ w ∈ gW, w.before args s = true) (hown : s.vm.findClass "RegularSolverModel" = some m.cls) (hK : va_K D vwCl (tG K) s) (hRf : 1 ≤ R.frames) (hRl : 23 ≤ R.locals) (hRc : cells ≤ R.cells) (hRs : slots ≤ R.slots) (hA : ∀ q, H0.size ≤ q → A q)  {out : Int32 × (Nat → Int64)} (Kx : ∀ (u : Int32 × (Nat → Int64)), out = u → ∀ (ls : Array Slot) (H : Heap) (locs : List Loc), va_P D vwCl (moW K h a mErr mLanguages mBounds mSize mGoes mLast mLeft mNext mGroup mFresh mLeader mNumber mRight mEnds mWay mVariable mFactor mLeast mMost mLength mWord mKept mMany mMore u.2 mMet mTodo mMay mTries) H → va_D A (moW K h a mErr mLanguages mBounds mSize mGoes mLast mLeft mNext mGroup mFresh mLeader mNumber mRight mEnds mWay mVariable mFactor mLeast mMost mLength mWord mKept mMany mMore u.2 mMet mTodo mMay mTries) → va_S A H0 H locs → lv_has ls 7 [] → W p l e R s m args below meth c H locs cells slots Q (F0 m 133 ls [])) :
    ∀ (k : Nat) (v3 : Int32) (mLeads : Nat → Int64), f_Mo_lead_2 n v1 v2 mSize mGoes mLast k v3 mLeads = some out → ∀ (ls : Array Slot) (H : Heap) (locs : List Loc), va_P D vwCl (moW K h a mErr mLanguages mBounds mSize mGoes mLast mLeft mNext mGroup mFresh mLeader mNumber mRight mEnds mWay mVariable mFactor mLeast mMost mLength mWord mKept mMany mMore mLeads mMet mTodo mMay mTries) H → va_D A (moW K h a mErr mLanguages mBounds mSize mGoes mLast mLeft mNext mGroup mFresh mLeader mNumber mRight mEnds mWay mVariable mFactor mLeast mMost mLength mWord mKept mMany mMore mLeads mMet mTodo mMay mTries) → va_S A H0 H locs → lv_has ls 7 [(3, .int v3), (0, .ref h), (1, .int v1), (2, .int v2)] → W p l e R s m args below meth c H locs cells slots Q (F0 m 2 ls []) := by
  intro k
  induction k with
  | zero => intro _ _ hf; exact nomatch (show none = some out from hf)
  | succ k ih =>
    intro v3 mLeads hf ls H locs hP hD hS hl
    rw [f_Mo_lead_2] at hf
    refine lv_iload_n hx hb d_Mo_lead_2 rfl (lv_at hl 0 rfl) ?_
    refine lv_iload_n hx hb d_Mo_lead_3 rfl (lv_at hl 3 rfl) ?_
    refine lv_icmp_gt (tgt := 133) hx hb d_Mo_lead_4 (by decide) (fun c26 => ?_) (fun c26 => ?_)
    · rw [if_pos c26] at hf
      exact Kx _ (Option.some.inj hf).symm _ _ _ hP hD hS (show lv_has ls 7 [] from lv_sub hl [] rfl)
    · rw [if_neg c26] at hf
      refine lv_aload_n hx hb d_Mo_lead_7 rfl (lv_at hl 1 rfl) ?_
      refine va_get (D := D) (ci := 0) (v := .ref (a 19)) (C := R_Mo) (T := T_Mo) (N := 29) hx hb hts in_Mo hown hK hP 0 rfl rfl 24 (by decide) (hts _ fl_Mo_69) (fun _ h9 => h9) rfl d_Mo_lead_8 ?_
      refine lv_iload_n hx hb d_Mo_lead_11 rfl (lv_at hl 0 rfl) ?_
      refine lv_lconst (v := 0) hx hb d_Mo_lead_12 (by decide) ?_
      obtain ⟨g27, hf⟩ := ogi hf
      refine va_last hx hb hK hP hD hS 20 1 rfl rfl (gin_in g27) d_Mo_lead_13 (fun H locs hP hD hS => ?_)
      have hP : va_P D vwCl (moW K h a mErr mLanguages mBounds mSize mGoes mLast mLeft mNext mGroup mFresh mLeader mNumber mRight mEnds mWay mVariable mFactor mLeast mMost mLength mWord mKept mMany mMore (vp_updL mLeads v3.toNatClampNeg 0) mMet mTodo mMay mTries) H := hP
      have hD : va_D A (moW K h a mErr mLanguages mBounds mSize mGoes mLast mLeft mNext mGroup mFresh mLeader mNumber mRight mEnds mWay mVariable mFactor mLeast mMost mLength mWord mKept mMany mMore (vp_updL mLeads v3.toNatClampNeg 0) mMet mTodo mMay mTries) := hD
      refine lv_iconst (v := 0) hx hb d_Mo_lead_14 (by decide) ?_
      refine lv_istore (lv' := [(4, .int 0), (3, .int v3), (0, .ref h), (1, .int v1), (2, .int v2)]) hx hb d_Mo_lead_15 hl (by decide) rfl (fun ls hl => ?_)
      obtain ⟨u50, eu50, hf⟩ := obd hf
      refine w_Mo_lead_17 hx hb hml hts hown hK hRf hRl hRc hRs hA  (fun u50q eu ls H locs hP hD hS hl => ?_) _ _ _ eu50 _ _ _ hP hD hS (show lv_has ls 7 [(4, .int 0), (3, .int v3), (0, .ref h), (1, .int v1), (2, .int v2)] from lv_sub hl [0, 1, 2, 3, 4] rfl)
      subst eu
      refine lv_iinc (v := v3 + 1) (lv' := [(3, .int (v3 + 1)), (0, .ref h), (1, .int v1), (2, .int v2)]) hx hb d_Mo_lead_127 hl (k := 0) rfl (by first | rfl | (congr 1)) (by decide) rfl (fun ls hl => ?_)
      refine lv_goto (tgt := 2) hx hb d_Mo_lead_130 (by decide) ?_
      exact ih _ _ hf _ _ _ hP hD hS (show lv_has ls 7 [(3, .int (v3 + 1)), (0, .ref h), (1, .int v1), (2, .int v2)] from lv_sub hl [0, 1, 2, 3] rfl)
def f_Mo_lead (n : Nat) (p0 : Int32) (p1 : Int32) (mSize : Nat → Int32) (mGoes : Nat → Int32) (mLast : Nat → Bool) (mLeads : Nat → Int64) : Option ((Nat → Int64)) :=
  (f_Mo_lead_2 n p0 p1 mSize mGoes mLast n 0 mLeads).bind fun u51 =>
  some u51.2
set_option maxHeartbeats 4000000 in
set_option maxRecDepth 100000 in
theorem w_Mo_lead  {p0 : Int32} {p1 : Int32}  (hx : p.tables.exec = Jvm.exec) (hb : c.code = b_Mo_lead) (hml : c.maxLocals = 7) (hts : ∀ w ∈ gW, w.before args s = true) (hown : s.vm.findClass "RegularSolverModel" = some m.cls) (hK : va_K D vwCl (tG K) s) (hRf : 1 ≤ R.frames) (hRl : 23 ≤ R.locals) (hRc : cells ≤ R.cells) (hRs : slots ≤ R.slots) (hA : ∀ q, H0.size ≤ q → A q) {out : (Nat → Int64)} (Kr : ∀ (r : (Nat → Int64)), out = r → ∀ (pc : Nat) (ls : Array Slot) (H : Heap) (locs : List Loc), decode b_Mo_lead pc = .ok (.return_, 1) → va_P D vwCl (moW K h a mErr mLanguages mBounds mSize mGoes mLast mLeft mNext mGroup mFresh mLeader mNumber mRight mEnds mWay mVariable mFactor mLeast mMost mLength mWord mKept mMany mMore r mMet mTodo mMay mTries) H → va_D A (moW K h a mErr mLanguages mBounds mSize mGoes mLast mLeft mNext mGroup mFresh mLeader mNumber mRight mEnds mWay mVariable mFactor mLeast mMost mLength mWord mKept mMany mMore r mMet mTodo mMay mTries) → va_S A H0 H locs → W p l e R s m args below meth c H locs cells slots Q (F0 m pc ls [])) (hf : f_Mo_lead n p0 p1 mSize mGoes mLast mLeads = some out) (ls : Array Slot) (hP : va_P D vwCl (moW K h a mErr mLanguages mBounds mSize mGoes mLast mLeft mNext mGroup mFresh mLeader mNumber mRight mEnds mWay mVariable mFactor mLeast mMost mLength mWord mKept mMany mMore mLeads mMet mTodo mMay mTries) H) (hD : va_D A (moW K h a mErr mLanguages mBounds mSize mGoes mLast mLeft mNext mGroup mFresh mLeader mNumber mRight mEnds mWay mVariable mFactor mLeast mMost mLength mWord mKept mMany mMore mLeads mMet mTodo mMay mTries)) (hS : va_S A H0 H locs) (hl : lv_has ls 7 [(0, .ref h), (1, .int p0), (2, .int p1)]) : W p l e R s m args below meth c H locs cells slots Q (F0 m 0 ls []) := by
  unfold f_Mo_lead at hf
  refine lv_iconst (v := 0) hx hb d_Mo_lead_0 (by decide) ?_
  refine lv_istore_n (lv' := [(3, .int 0), (0, .ref h), (1, .int p0), (2, .int p1)]) hx hb d_Mo_lead_1 rfl hl (by decide) rfl (fun ls hl => ?_)
  obtain ⟨u51, eu51, hf⟩ := obd hf
  refine w_Mo_lead_2 hx hb hml hts hown hK hRf hRl hRc hRs hA  (fun u51q eu ls H locs hP hD hS hl => ?_) _ _ _ eu51 _ _ _ hP hD hS (show lv_has ls 7 [(3, .int 0), (0, .ref h), (1, .int p0), (2, .int p1)] from lv_sub hl [0, 1, 2, 3] rfl)
  subst eu
  exact Kr _ (Option.some.inj hf).symm _ _ _ _ d_Mo_lead_133 hP hD hS
set_option maxHeartbeats 4000000 in
set_option maxRecDepth 100000 in
theorem c_Mo_lead (l : Launch)  {p0 : Int32} {p1 : Int32}  {r : (Nat → Int64)} (sz : Nat) (hf : f_Mo_lead n p0 p1 mSize mGoes mLast mLeads = some r) : Met l y_Mo_lead w0_Mo_lead ({ frames := 1, cells := 0, slots := 0, locals := 23 }) (wPre D K [.ref h, .int p0, .int p1] (moW K h a mErr mLanguages mBounds mSize mGoes mLast mLeft mNext mGroup mFresh mLeader mNumber mRight mEnds mWay mVariable mFactor mLeast mMost mLength mWord mKept mMany mMore mLeads mMet mTodo mMay mTries) sz) (wPost D K none (moW K h a mErr mLanguages mBounds mSize mGoes mLast mLeft mNext mGroup mFresh mLeader mNumber mRight mEnds mWay mVariable mFactor mLeast mMost mLength mWord mKept mMany mMore r mMet mTodo mMay mTries) (va_A (moW K h a mErr mLanguages mBounds mSize mGoes mLast mLeft mNext mGroup mFresh mLeader mNumber mRight mEnds mWay mVariable mFactor mLeast mMost mLength mWord mKept mMany mMore mLeads mMet mTodo mMay mTries) sz)) 0 0 (va_A (moW K h a mErr mLanguages mBounds mSize mGoes mLast mLeft mNext mGroup mFresh mLeader mNumber mRight mEnds mWay mVariable mFactor mLeast mMost mLength mWord mKept mMany mMore mLeads mMet mTodo mMay mTries) sz) := by
  refine Met.ofW (cc := b_Mo_lead) (maxL := 7) (ret := none) (by decide) rfl ?_
  intro p e s m args below meth c s₁ B hml hv
  obtain ⟨rfl, hsz, hP, hK, hD0⟩ := hv
  subst hsz
  have hl := lv_entry [.ref h, .int p0, .int p1] (n := 7) (Nat.le_of_ble_eq_true rfl)
  rw [lg_entry_eq]
  generalize (lg_sl [.ref h, .int p0, .int p1] ++ List.replicate (7 - (lg_sl [.ref h, .int p0, .int p1]).length) Slot.unset).toArray = ls at hl ⊢
  refine w_Mo_lead (A := va_A (moW K h a mErr mLanguages mBounds mSize mGoes mLast mLeft mNext mGroup mFresh mLeader mNumber mRight mEnds mWay mVariable mFactor mLeast mMost mLength mWord mKept mMany mMore mLeads mMet mTodo mMay mTries) s.heap.size) (H0 := s.heap) B.exec B.bytes hml (fun w hw => atoms_spec (ws := w0_Mo_lead) B.pre w (List.mem_cons_of_mem _ hw)) (findClass_of_methodNamed B.named) hK (Nat.le_refl _) (Nat.le_refl _) (Nat.zero_le _) (Nat.zero_le _) (fun q h => Or.inr h) (fun r er pc ls H locs hd hP hD hS => ?_) hf ls hP (hD0.self (sz := s.heap.size)) va_S.rf hl
  subst er
  exact W.vret B.exec B.bytes B.returns (fun t ht hW => ⟨⟨rfl, by rw [ht]; exact hP, va_K.moved hW.alike hK, hD⟩, hS.F ht⟩) hS.2.2 hd (hlocks := B.notSynchronized)
theorem pd_Mo_clear : y_Mo_clear.cls ≠ "java/lang/invoke/MethodHandle" ∧ y_Mo_clear.cls ≠ "java/lang/invoke/VarHandle" ∧ (parseMethodDescriptor y_Mo_clear.desc).map (fun d => d.parameters.length) = some 0 := by decide +kernel
def f_Mo_clear_17 (n : Nat)  : Nat → Int32 → (Nat → Int32) → Option (Int32 × (Nat → Int32))
  | 0, _, _ => none
  | k + 1, v1, mVariable =>
    if 4 ≤ v1 then
      some (v1, mVariable)
    else
      ogd (gin v1 4) <|
      f_Mo_clear_17 n  k (v1 + 1) (upd mVariable v1.toNatClampNeg (-1))
set_option maxHeartbeats 4000000 in
set_option maxRecDepth 100000 in
theorem w_Mo_clear_17   (hx : p.tables.exec = Jvm.exec) (hb : c.code = b_Mo_clear) (hml : c.maxLocals = 2) (hts : ∀ w ∈ gW, w.before args s = true) (hown : s.vm.findClass "RegularSolverModel" = some m.cls) (hK : va_K D vwCl (tG K) s) (hRf : 0 ≤ R.frames) (hRl : 0 ≤ R.locals) (hRc : cells ≤ R.cells) (hRs : slots ≤ R.slots) (hA : ∀ q, H0.size ≤ q → A q)  {out : Int32 × (Nat → Int32)} (Kx : ∀ (u : Int32 × (Nat → Int32)), out = u → ∀ (ls : Array Slot) (H : Heap) (locs : List Loc), va_P D vwCl (moW K h a mErr mLanguages mBounds mSize mGoes mLast mLeft mNext mGroup mFresh mLeader mNumber mRight mEnds mWay u.2 mFactor mLeast mMost mLength mWord mKept mMany mMore mLeads mMet mTodo mMay mTries) H → va_D A (moW K h a mErr mLanguages mBounds mSize mGoes mLast mLeft mNext mGroup mFresh mLeader mNumber mRight mEnds mWay u.2 mFactor mLeast mMost mLength mWord mKept mMany mMore mLeads mMet mTodo mMay mTries) → va_S A H0 H locs → lv_has ls 2 [] → W p l e R s m args below meth c H locs cells slots Q (F0 m 35 ls [])) :
    ∀ (k : Nat) (v1 : Int32) (mVariable : Nat → Int32), f_Mo_clear_17 n  k v1 mVariable = some out → ∀ (ls : Array Slot) (H : Heap) (locs : List Loc), va_P D vwCl (moW K h a mErr mLanguages mBounds mSize mGoes mLast mLeft mNext mGroup mFresh mLeader mNumber mRight mEnds mWay mVariable mFactor mLeast mMost mLength mWord mKept mMany mMore mLeads mMet mTodo mMay mTries) H → va_D A (moW K h a mErr mLanguages mBounds mSize mGoes mLast mLeft mNext mGroup mFresh mLeader mNumber mRight mEnds mWay mVariable mFactor mLeast mMost mLength mWord mKept mMany mMore mLeads mMet mTodo mMay mTries) → va_S A H0 H locs → lv_has ls 2 [(1, .int v1), (0, .ref h)] → W p l e R s m args below meth c H locs cells slots Q (F0 m 17 ls []) := by
  intro k
  induction k with
  | zero => intro _ _ hf; exact nomatch (show none = some out from hf)
  | succ k ih =>
    intro v1 mVariable hf ls H locs hP hD hS hl
    rw [f_Mo_clear_17] at hf
    refine lv_iload_n hx hb d_Mo_clear_17 rfl (lv_at hl 0 rfl) ?_
    refine lv_iconst (v := 4) hx hb d_Mo_clear_18 (by decide) ?_
    refine lv_icmp_ge (tgt := 35) hx hb d_Mo_clear_19 (by decide) (fun c3 => ?_) (fun c3 => ?_)
    · rw [if_pos c3] at hf
      exact Kx _ (Option.some.inj hf).symm _ _ _ hP hD hS (show lv_has ls 2 [] from lv_sub hl [] rfl)
    · rw [if_neg c3] at hf
      refine lv_aload_n hx hb d_Mo_clear_22 rfl (lv_at hl 1 rfl) ?_
      refine va_get (D := D) (ci := 0) (v := .ref (a 11)) (C := R_Mo) (T := T_Mo) (N := 29) hx hb hts in_Mo hown hK hP 0 rfl rfl 15 (by decide) (hts _ fl_Mo_45) (fun _ h9 => h9) rfl d_Mo_clear_23 ?_
      refine lv_iload_n hx hb d_Mo_clear_26 rfl (lv_at hl 0 rfl) ?_
      refine lv_iconst (v := -1) hx hb d_Mo_clear_27 (by decide) ?_
      obtain ⟨g4, hf⟩ := ogi hf
      refine va_iast hx hb hK hP hD hS 12 0 rfl rfl (gin_in g4) d_Mo_clear_28 (fun H locs hP hD hS => ?_)
      have hP : va_P D vwCl (moW K h a mErr mLanguages mBounds mSize mGoes mLast mLeft mNext mGroup mFresh mLeader mNumber mRight mEnds mWay (upd mVariable v1.toNatClampNeg (-1)) mFactor mLeast mMost mLength mWord mKept mMany mMore mLeads mMet mTodo mMay mTries) H := hP
      have hD : va_D A (moW K h a mErr mLanguages mBounds mSize mGoes mLast mLeft mNext mGroup mFresh mLeader mNumber mRight mEnds mWay (upd mVariable v1.toNatClampNeg (-1)) mFactor mLeast mMost mLength mWord mKept mMany mMore mLeads mMet mTodo mMay mTries) := hD
      refine lv_iinc (v := v1 + 1) (lv' := [(1, .int (v1 + 1)), (0, .ref h)]) hx hb d_Mo_clear_29 hl (k := 0) rfl (by first | rfl | (congr 1)) (by decide) rfl (fun ls hl => ?_)
      refine lv_goto (tgt := 17) hx hb d_Mo_clear_32 (by decide) ?_
      exact ih _ _ hf _ _ _ hP hD hS (show lv_has ls 2 [(1, .int (v1 + 1)), (0, .ref h)] from lv_sub hl [0, 1] rfl)
def f_Mo_clear (n : Nat) (mVariable : Nat → Int32) : Option (Int32 × Int32 × (Nat → Int32) × Bool) :=
  (f_Mo_clear_17 n  n 0 mVariable).bind fun u5 =>
  some (0, 0, u5.2, false)
set_option maxHeartbeats 4000000 in
set_option maxRecDepth 100000 in
theorem w_Mo_clear    (hx : p.tables.exec = Jvm.exec) (hb : c.code = b_Mo_clear) (hml : c.maxLocals = 2) (hts : ∀ w ∈ gW, w.before args s = true) (hown : s.vm.findClass "RegularSolverModel" = some m.cls) (hK : va_K D vwCl (tG K) s) (hRf : 0 ≤ R.frames) (hRl : 0 ≤ R.locals) (hRc : cells ≤ R.cells) (hRs : slots ≤ R.slots) (hA : ∀ q, H0.size ≤ q → A q) {out : Int32 × Int32 × (Nat → Int32) × Bool} (Kr : ∀ (r : Int32 × Int32 × (Nat → Int32) × Bool), out = r → ∀ (pc : Nat) (ls : Array Slot) (H : Heap) (locs : List Loc), decode b_Mo_clear pc = .ok (.return_, 1) → va_P D vwCl (moW K h a r.1 mLanguages r.2.1 mSize mGoes mLast mLeft mNext mGroup mFresh mLeader mNumber mRight mEnds mWay r.2.2.1 mFactor mLeast mMost mLength mWord r.2.2.2 mMany mMore mLeads mMet mTodo mMay mTries) H → va_D A (moW K h a r.1 mLanguages r.2.1 mSize mGoes mLast mLeft mNext mGroup mFresh mLeader mNumber mRight mEnds mWay r.2.2.1 mFactor mLeast mMost mLength mWord r.2.2.2 mMany mMore mLeads mMet mTodo mMay mTries) → va_S A H0 H locs → W p l e R s m args below meth c H locs cells slots Q (F0 m pc ls [])) (hf : f_Mo_clear n mVariable = some out) (ls : Array Slot) (hP : va_P D vwCl (moW K h a mErr mLanguages mBounds mSize mGoes mLast mLeft mNext mGroup mFresh mLeader mNumber mRight mEnds mWay mVariable mFactor mLeast mMost mLength mWord mKept mMany mMore mLeads mMet mTodo mMay mTries) H) (hD : va_D A (moW K h a mErr mLanguages mBounds mSize mGoes mLast mLeft mNext mGroup mFresh mLeader mNumber mRight mEnds mWay mVariable mFactor mLeast mMost mLength mWord mKept mMany mMore mLeads mMet mTodo mMay mTries)) (hS : va_S A H0 H locs) (hl : lv_has ls 2 [(0, .ref h)]) : W p l e R s m args below meth c H locs cells slots Q (F0 m 0 ls []) := by
  unfold f_Mo_clear at hf
  refine lv_aload_n hx hb d_Mo_clear_0 rfl (lv_at hl 0 rfl) ?_
  refine lv_iconst (v := 0) hx hb d_Mo_clear_1 (by decide) ?_
  refine va_put (D := D) (ci := 0) (v := .int 0) (ty := .int) (C := R_Mo) (T := T_Mo) (N := 29) hx hb hts in_Mo t_Mo t_Mo_ok n_Mo hown hK hP hD hS 0 rfl rfl 0 (by decide) (hts _ fl_Mo_84) (fun _ h9 => h9) rfl (by decide +kernel) rfl rfl (Nat.le_of_ble_eq_true rfl) d_Mo_clear_2 (fun H locs hP hD hS => ?_)
  have hP : va_P D vwCl (moW K h a 0 mLanguages mBounds mSize mGoes mLast mLeft mNext mGroup mFresh mLeader mNumber mRight mEnds mWay mVariable mFactor mLeast mMost mLength mWord mKept mMany mMore mLeads mMet mTodo mMay mTries) H := hP
  have hD : va_D A (moW K h a 0 mLanguages mBounds mSize mGoes mLast mLeft mNext mGroup mFresh mLeader mNumber mRight mEnds mWay mVariable mFactor mLeast mMost mLength mWord mKept mMany mMore mLeads mMet mTodo mMay mTries) := hD
  refine lv_aload_n hx hb d_Mo_clear_5 rfl (lv_at hl 0 rfl) ?_
  refine lv_iconst (v := 0) hx hb d_Mo_clear_6 (by decide) ?_
  refine va_put (D := D) (ci := 0) (v := .int 0) (ty := .int) (C := R_Mo) (T := T_Mo) (N := 29) hx hb hts in_Mo t_Mo t_Mo_ok n_Mo hown hK hP hD hS 0 rfl rfl 2 (by decide) (hts _ fl_Mo_166) (fun _ h9 => h9) rfl (by decide +kernel) rfl rfl (Nat.le_of_ble_eq_true rfl) d_Mo_clear_7 (fun H locs hP hD hS => ?_)
  have hP : va_P D vwCl (moW K h a 0 mLanguages 0 mSize mGoes mLast mLeft mNext mGroup mFresh mLeader mNumber mRight mEnds mWay mVariable mFactor mLeast mMost mLength mWord mKept mMany mMore mLeads mMet mTodo mMay mTries) H := hP
  have hD : va_D A (moW K h a 0 mLanguages 0 mSize mGoes mLast mLeft mNext mGroup mFresh mLeader mNumber mRight mEnds mWay mVariable mFactor mLeast mMost mLength mWord mKept mMany mMore mLeads mMet mTodo mMay mTries) := hD
  refine lv_aload_n hx hb d_Mo_clear_10 rfl (lv_at hl 0 rfl) ?_
  refine lv_iconst (v := 0) hx hb d_Mo_clear_11 (by decide) ?_
  refine va_put (D := D) (ci := 0) (v := .int (bI false)) (ty := .boolean) (C := R_Mo) (T := T_Mo) (N := 29) hx hb hts in_Mo t_Mo t_Mo_ok n_Mo hown hK hP hD hS 0 rfl rfl 21 (by decide) (hts _ fl_Mo_169) (fun _ h9 => h9) rfl (by decide +kernel) (bI_nar _) (bI_fit _) (Nat.le_of_ble_eq_true rfl) d_Mo_clear_12 (fun H locs hP hD hS => ?_)
  have hP : va_P D vwCl (moW K h a 0 mLanguages 0 mSize mGoes mLast mLeft mNext mGroup mFresh mLeader mNumber mRight mEnds mWay mVariable mFactor mLeast mMost mLength mWord false mMany mMore mLeads mMet mTodo mMay mTries) H := hP
  have hD : va_D A (moW K h a 0 mLanguages 0 mSize mGoes mLast mLeft mNext mGroup mFresh mLeader mNumber mRight mEnds mWay mVariable mFactor mLeast mMost mLength mWord false mMany mMore mLeads mMet mTodo mMay mTries) := hD
  refine lv_iconst (v := 0) hx hb d_Mo_clear_15 (by decide) ?_
  refine lv_istore_n (lv' := [(1, .int 0), (0, .ref h)]) hx hb d_Mo_clear_16 rfl hl (by decide) rfl (fun ls hl => ?_)
  obtain ⟨u5, eu5, hf⟩ := obd hf
  refine w_Mo_clear_17 hx hb hml hts hown hK hRf hRl hRc hRs hA  (fun u5q eu ls H locs hP hD hS hl => ?_) _ _ _ eu5 _ _ _ hP hD hS (show lv_has ls 2 [(1, .int 0), (0, .ref h)] from lv_sub hl [0, 1] rfl)
  subst eu
  exact Kr _ (Option.some.inj hf).symm _ _ _ _ d_Mo_clear_35 hP hD hS
set_option maxHeartbeats 4000000 in
set_option maxRecDepth 100000 in
theorem c_Mo_clear (l : Launch)    {r : Int32 × Int32 × (Nat → Int32) × Bool} (sz : Nat) (hf : f_Mo_clear n mVariable = some r) : Met l y_Mo_clear w0_Mo_clear ({ frames := 0, cells := 0, slots := 0, locals := 0 }) (wPre D K [.ref h] (moW K h a mErr mLanguages mBounds mSize mGoes mLast mLeft mNext mGroup mFresh mLeader mNumber mRight mEnds mWay mVariable mFactor mLeast mMost mLength mWord mKept mMany mMore mLeads mMet mTodo mMay mTries) sz) (wPost D K none (moW K h a r.1 mLanguages r.2.1 mSize mGoes mLast mLeft mNext mGroup mFresh mLeader mNumber mRight mEnds mWay r.2.2.1 mFactor mLeast mMost mLength mWord r.2.2.2 mMany mMore mLeads mMet mTodo mMay mTries) (va_A (moW K h a mErr mLanguages mBounds mSize mGoes mLast mLeft mNext mGroup mFresh mLeader mNumber mRight mEnds mWay mVariable mFactor mLeast mMost mLength mWord mKept mMany mMore mLeads mMet mTodo mMay mTries) sz)) 0 0 (va_A (moW K h a mErr mLanguages mBounds mSize mGoes mLast mLeft mNext mGroup mFresh mLeader mNumber mRight mEnds mWay mVariable mFactor mLeast mMost mLength mWord mKept mMany mMore mLeads mMet mTodo mMay mTries) sz) := by
  refine Met.ofW (cc := b_Mo_clear) (maxL := 2) (ret := none) (by decide) rfl ?_
  intro p e s m args below meth c s₁ B hml hv
  obtain ⟨rfl, hsz, hP, hK, hD0⟩ := hv
  subst hsz
  have hl := lv_entry [.ref h] (n := 2) (Nat.le_of_ble_eq_true rfl)
  rw [lg_entry_eq]
  generalize (lg_sl [.ref h] ++ List.replicate (2 - (lg_sl [.ref h]).length) Slot.unset).toArray = ls at hl ⊢
  refine w_Mo_clear (A := va_A (moW K h a mErr mLanguages mBounds mSize mGoes mLast mLeft mNext mGroup mFresh mLeader mNumber mRight mEnds mWay mVariable mFactor mLeast mMost mLength mWord mKept mMany mMore mLeads mMet mTodo mMay mTries) s.heap.size) (H0 := s.heap) B.exec B.bytes hml (fun w hw => atoms_spec (ws := w0_Mo_clear) B.pre w (List.mem_cons_of_mem _ hw)) (findClass_of_methodNamed B.named) hK (Nat.le_refl _) (Nat.le_refl _) (Nat.zero_le _) (Nat.zero_le _) (fun q h => Or.inr h) (fun r er pc ls H locs hd hP hD hS => ?_) hf ls hP (hD0.self (sz := s.heap.size)) va_S.rf hl
  subst er
  exact W.vret B.exec B.bytes B.returns (fun t ht hW => ⟨⟨rfl, by rw [ht]; exact hP, va_K.moved hW.alike hK, hD⟩, hS.F ht⟩) hS.2.2 hd (hlocks := B.notSynchronized)
theorem pd_Mo_found : y_Mo_found.cls ≠ "java/lang/invoke/MethodHandle" ∧ y_Mo_found.cls ≠ "java/lang/invoke/VarHandle" ∧ (parseMethodDescriptor y_Mo_found.desc).map (fun d => d.parameters.length) = some 1 := by decide +kernel
def f_Mo_found_119 (n : Nat) (v1 : Int32) (mBounds : Int32) (mFactor : Nat → Int32) (mLeast : Nat → Int32) (mMost : Nat → Int32) (mMay : Nat → Bool) : Nat → (Nat → Int32) → Option ((Bool × (Nat → Int32)) ⊕ ((Nat → Int32)))
  | 0, _ => none
  | k + 1, mTries =>
    ogd (gin 3 4) <|
    if v1 < (mTries (3 : Int32).toNatClampNeg) then
      some (.inr mTries)
    else
      ogd (gin 3 4) <|
      ogd (gin ((4 * (mTries (3 : Int32).toNatClampNeg)) + 3) 128) <|
      if (mMay ((4 * (mTries (3 : Int32).toNatClampNeg)) + 3).toNatClampNeg) = true then
        (f_Mo_holds n mBounds mFactor mLeast mMost mTries).bind fun u71 =>
        if u71 = true then
          some (.inl (true, mTries))
        else
          ogd (gin 3 4) <|
          ogd (gin 3 4) <|
          f_Mo_found_119 n v1 mBounds mFactor mLeast mMost mMay k (upd mTries (3 : Int32).toNatClampNeg ((mTries (3 : Int32).toNatClampNeg) + 1))
      else
        ogd (gin 3 4) <|
        ogd (gin 3 4) <|
        f_Mo_found_119 n v1 mBounds mFactor mLeast mMost mMay k (upd mTries (3 : Int32).toNatClampNeg ((mTries (3 : Int32).toNatClampNeg) + 1))
set_option maxHeartbeats 4000000 in
set_option maxRecDepth 100000 in
theorem w_Mo_found_119  {v1 : Int32} (hx : p.tables.exec = Jvm.exec) (hb : c.code = b_Mo_found) (hml : c.maxLocals = 2) (hts : ∀ w ∈ gW, w.before args s = true) (hown : s.vm.findClass "RegularSolverModel" = some m.cls) (hK : va_K D vwCl (tG K) s) (hRf : 1 ≤ R.frames) (hRl : 23 ≤ R.locals) (hRc : cells ≤ R.cells) (hRs : slots ≤ R.slots) (hA : ∀ q, H0.size ≤ q → A q)  {out : (Bool × (Nat → Int32)) ⊕ ((Nat → Int32))} (Kr : ∀ (r : Bool × (Nat → Int32)), out = .inl r → ∀ (pc : Nat) (ls : Array Slot) (H : Heap) (locs : List Loc), decode b_Mo_found pc = .ok (.ireturn, 1) → va_P D vwCl (moW K h a mErr mLanguages mBounds mSize mGoes mLast mLeft mNext mGroup mFresh mLeader mNumber mRight mEnds mWay mVariable mFactor mLeast mMost mLength mWord mKept mMany mMore mLeads mMet mTodo mMay r.2) H → va_D A (moW K h a mErr mLanguages mBounds mSize mGoes mLast mLeft mNext mGroup mFresh mLeader mNumber mRight mEnds mWay mVariable mFactor mLeast mMost mLength mWord mKept mMany mMore mLeads mMet mTodo mMay r.2) → va_S A H0 H locs → W p l e R s m args below meth c H locs cells slots Q (F0 m pc ls [.int (bI r.1)])) (Kx : ∀ (u : (Nat → Int32)), out = .inr u → ∀ (ls : Array Slot) (H : Heap) (locs : List Loc), va_P D vwCl (moW K h a mErr mLanguages mBounds mSize mGoes mLast mLeft mNext mGroup mFresh mLeader mNumber mRight mEnds mWay mVariable mFactor mLeast mMost mLength mWord mKept mMany mMore mLeads mMet mTodo mMay u) H → va_D A (moW K h a mErr mLanguages mBounds mSize mGoes mLast mLeft mNext mGroup mFresh mLeader mNumber mRight mEnds mWay mVariable mFactor mLeast mMost mLength mWord mKept mMany mMore mLeads mMet mTodo mMay u) → va_S A H0 H locs → lv_has ls 2 [(0, .ref h), (1, .int v1)] → W p l e R s m args below meth c H locs cells slots Q (F0 m 169 ls [])) :
    ∀ (k : Nat) (mTries : Nat → Int32), f_Mo_found_119 n v1 mBounds mFactor mLeast mMost mMay k mTries = some out → ∀ (ls : Array Slot) (H : Heap) (locs : List Loc), va_P D vwCl (moW K h a mErr mLanguages mBounds mSize mGoes mLast mLeft mNext mGroup mFresh mLeader mNumber mRight mEnds mWay mVariable mFactor mLeast mMost mLength mWord mKept mMany mMore mLeads mMet mTodo mMay mTries) H → va_D A (moW K h a mErr mLanguages mBounds mSize mGoes mLast mLeft mNext mGroup mFresh mLeader mNumber mRight mEnds mWay mVariable mFactor mLeast mMost mLength mWord mKept mMany mMore mLeads mMet mTodo mMay mTries) → va_S A H0 H locs → lv_has ls 2 [(0, .ref h), (1, .int v1)] → W p l e R s m args below meth c H locs cells slots Q (F0 m 119 ls []) := by
  intro k
  induction k with
  | zero => intro _ hf; exact nomatch (show none = some out from hf)
  | succ k ih =>
    intro mTries hf ls H locs hP hD hS hl
    rw [f_Mo_found_119] at hf
    refine lv_aload_n hx hb d_Mo_found_119 rfl (lv_at hl 0 rfl) ?_
    refine va_get (D := D) (ci := 0) (v := .ref (a 23)) (C := R_Mo) (T := T_Mo) (N := 29) hx hb hts in_Mo hown hK hP 0 rfl rfl 28 (by decide) (hts _ fl_Mo_81) (fun _ h9 => h9) rfl d_Mo_found_120 ?_
    refine lv_iconst (v := 3) hx hb d_Mo_found_123 (by decide) ?_
    obtain ⟨g64, hf⟩ := ogi hf
    refine va_iald hx hb hK hP 24 0 rfl rfl (gin_in g64) d_Mo_found_124 ?_
    refine lv_iload_n hx hb d_Mo_found_125 rfl (lv_at hl 1 rfl) ?_
    refine lv_icmp_gt (tgt := 169) hx hb d_Mo_found_126 (by decide) (fun c65 => ?_) (fun c65 => ?_)
    · rw [if_pos c65] at hf
      exact Kx _ (Option.some.inj hf).symm _ _ _ hP hD hS (show lv_has ls 2 [(0, .ref h), (1, .int v1)] from lv_sub hl [0, 1] rfl)
    · rw [if_neg c65] at hf
      refine lv_aload_n hx hb d_Mo_found_129 rfl (lv_at hl 0 rfl) ?_
      refine va_get (D := D) (ci := 0) (v := .ref (a 22)) (C := R_Mo) (T := T_Mo) (N := 29) hx hb hts in_Mo hown hK hP 0 rfl rfl 27 (by decide) (hts _ fl_Mo_78) (fun _ h9 => h9) rfl d_Mo_found_130 ?_
      refine lv_iconst (v := 4) hx hb d_Mo_found_133 (by decide) ?_
      refine lv_aload_n hx hb d_Mo_found_134 rfl (lv_at hl 0 rfl) ?_
      refine va_get (D := D) (ci := 0) (v := .ref (a 23)) (C := R_Mo) (T := T_Mo) (N := 29) hx hb hts in_Mo hown hK hP 0 rfl rfl 28 (by decide) (hts _ fl_Mo_81) (fun _ h9 => h9) rfl d_Mo_found_135 ?_
      refine lv_iconst (v := 3) hx hb d_Mo_found_138 (by decide) ?_
      obtain ⟨g66, hf⟩ := ogi hf
      refine va_iald hx hb hK hP 24 0 rfl rfl (gin_in g66) d_Mo_found_139 ?_
      refine lv_imul hx hb d_Mo_found_140 ?_
      refine lv_iconst (v := 3) hx hb d_Mo_found_141 (by decide) ?_
      refine lv_iadd hx hb d_Mo_found_142 ?_
      obtain ⟨g67, hf⟩ := ogi hf
      refine bz_ald hx hb hK hP 23 2 rfl rfl (gin_in g67) d_Mo_found_143 ?_
      refine bz_eq (tgt := 156) hx hb d_Mo_found_144 (by decide) (fun c68 => ?_) (fun c68 => ?_)
      · rw [if_neg c68] at hf
        refine lv_aload_n hx hb d_Mo_found_156 rfl (lv_at hl 0 rfl) ?_
        refine va_get (D := D) (ci := 0) (v := .ref (a 23)) (C := R_Mo) (T := T_Mo) (N := 29) hx hb hts in_Mo hown hK hP 0 rfl rfl 28 (by decide) (hts _ fl_Mo_81) (fun _ h9 => h9) rfl d_Mo_found_157 ?_
        refine lv_iconst (v := 3) hx hb d_Mo_found_160 (by decide) ?_
        refine lv_dup2_11 hx hb d_Mo_found_161 rfl rfl ?_
        obtain ⟨g69, hf⟩ := ogi hf
        refine va_iald hx hb hK hP 24 0 rfl rfl (gin_in g69) d_Mo_found_162 ?_
        refine lv_iconst (v := 1) hx hb d_Mo_found_163 (by decide) ?_
        refine lv_iadd hx hb d_Mo_found_164 ?_
        obtain ⟨g70, hf⟩ := ogi hf
        refine va_iast hx hb hK hP hD hS 24 0 rfl rfl (gin_in g70) d_Mo_found_165 (fun H locs hP hD hS => ?_)
        have hP : va_P D vwCl (moW K h a mErr mLanguages mBounds mSize mGoes mLast mLeft mNext mGroup mFresh mLeader mNumber mRight mEnds mWay mVariable mFactor mLeast mMost mLength mWord mKept mMany mMore mLeads mMet mTodo mMay (upd mTries (3 : Int32).toNatClampNeg ((mTries (3 : Int32).toNatClampNeg) + 1))) H := hP
        have hD : va_D A (moW K h a mErr mLanguages mBounds mSize mGoes mLast mLeft mNext mGroup mFresh mLeader mNumber mRight mEnds mWay mVariable mFactor mLeast mMost mLength mWord mKept mMany mMore mLeads mMet mTodo mMay (upd mTries (3 : Int32).toNatClampNeg ((mTries (3 : Int32).toNatClampNeg) + 1))) := hD
        refine lv_goto (tgt := 119) hx hb d_Mo_found_166 (by decide) ?_
        exact ih _ hf _ _ _ hP hD hS (show lv_has ls 2 [(0, .ref h), (1, .int v1)] from lv_sub hl [0, 1] rfl)
      · rw [if_pos c68] at hf
        refine lv_aload_n hx hb d_Mo_found_147 rfl (lv_at hl 0 rfl) ?_
        obtain ⟨u71, eu71, hf⟩ := obd hf
        refine p_call (W.runV (As := []) (rest := []) ⟨hx, hb, hml, hown, hts⟩ (c_Mo_holds l eu71) (gV 0 hts cd_Mo_holds ml_Mo_176 im_Mo_holds se_Mo_holds ini_Mo rfl rfl pd_Mo_holds ⟨Nat.le_trans (Nat.le_of_ble_eq_true rfl) hRf, Nat.le_trans (Nat.le_of_ble_eq_true rfl) hRl⟩) ⟨pPre_blind, va_recv hK hP (ci := 0) (q0 := 0) rfl rfl, pPre_of hP hK⟩ rfl rfl hl.1 rfl (lv_room (Nat.le_of_ble_eq_true rfl)) d_Mo_found_148 ⟨hRc, hRs⟩) ?_
        refine bz_eq (tgt := 156) hx hb d_Mo_found_151 (by decide) (fun c72 => ?_) (fun c72 => ?_)
        · rw [if_neg c72] at hf
          refine lv_aload_n hx hb d_Mo_found_156 rfl (lv_at hl 0 rfl) ?_
          refine va_get (D := D) (ci := 0) (v := .ref (a 23)) (C := R_Mo) (T := T_Mo) (N := 29) hx hb hts in_Mo hown hK hP 0 rfl rfl 28 (by decide) (hts _ fl_Mo_81) (fun _ h9 => h9) rfl d_Mo_found_157 ?_
          refine lv_iconst (v := 3) hx hb d_Mo_found_160 (by decide) ?_
          refine lv_dup2_11 hx hb d_Mo_found_161 rfl rfl ?_
          obtain ⟨g73, hf⟩ := ogi hf
          refine va_iald hx hb hK hP 24 0 rfl rfl (gin_in g73) d_Mo_found_162 ?_
          refine lv_iconst (v := 1) hx hb d_Mo_found_163 (by decide) ?_
          refine lv_iadd hx hb d_Mo_found_164 ?_
          obtain ⟨g74, hf⟩ := ogi hf
          refine va_iast hx hb hK hP hD hS 24 0 rfl rfl (gin_in g74) d_Mo_found_165 (fun H locs hP hD hS => ?_)
          have hP : va_P D vwCl (moW K h a mErr mLanguages mBounds mSize mGoes mLast mLeft mNext mGroup mFresh mLeader mNumber mRight mEnds mWay mVariable mFactor mLeast mMost mLength mWord mKept mMany mMore mLeads mMet mTodo mMay (upd mTries (3 : Int32).toNatClampNeg ((mTries (3 : Int32).toNatClampNeg) + 1))) H := hP
          have hD : va_D A (moW K h a mErr mLanguages mBounds mSize mGoes mLast mLeft mNext mGroup mFresh mLeader mNumber mRight mEnds mWay mVariable mFactor mLeast mMost mLength mWord mKept mMany mMore mLeads mMet mTodo mMay (upd mTries (3 : Int32).toNatClampNeg ((mTries (3 : Int32).toNatClampNeg) + 1))) := hD
          refine lv_goto (tgt := 119) hx hb d_Mo_found_166 (by decide) ?_
          exact ih _ hf _ _ _ hP hD hS (show lv_has ls 2 [(0, .ref h), (1, .int v1)] from lv_sub hl [0, 1] rfl)
        · rw [if_pos c72] at hf
          refine lv_iconst (v := 1) hx hb d_Mo_found_154 (by decide) ?_
          exact Kr _ (Option.some.inj hf).symm _ _ _ _ d_Mo_found_155 hP hD hS
def f_Mo_found_81 (n : Nat) (v1 : Int32) (mBounds : Int32) (mFactor : Nat → Int32) (mLeast : Nat → Int32) (mMost : Nat → Int32) (mMay : Nat → Bool) : Nat → (Nat → Int32) → Option ((Bool × (Nat → Int32)) ⊕ ((Nat → Int32)))
  | 0, _ => none
  | k + 1, mTries =>
    ogd (gin 2 4) <|
    if v1 < (mTries (2 : Int32).toNatClampNeg) then
      some (.inr mTries)
    else
      ogd (gin 2 4) <|
      ogd (gin ((4 * (mTries (2 : Int32).toNatClampNeg)) + 2) 128) <|
      if (mMay ((4 * (mTries (2 : Int32).toNatClampNeg)) + 2).toNatClampNeg) = true then
        ogd (gin 3 4) <|
        (f_Mo_found_119 n v1 mBounds mFactor mLeast mMost mMay n (upd mTries (3 : Int32).toNatClampNeg 0)).bind fun u75 => u75.elim (fun r => some (.inl r)) fun x75 =>
        ogd (gin 2 4) <|
        ogd (gin 2 4) <|
        f_Mo_found_81 n v1 mBounds mFactor mLeast mMost mMay k (upd x75 (2 : Int32).toNatClampNeg ((x75 (2 : Int32).toNatClampNeg) + 1))
      else
        ogd (gin 2 4) <|
        ogd (gin 2 4) <|
        f_Mo_found_81 n v1 mBounds mFactor mLeast mMost mMay k (upd mTries (2 : Int32).toNatClampNeg ((mTries (2 : Int32).toNatClampNeg) + 1))
set_option maxHeartbeats 4000000 in
set_option maxRecDepth 100000 in
theorem w_Mo_found_81  {v1 : Int32} (hx : p.tables.exec = Jvm.exec) (hb : c.code = b_Mo_found) (hml : c.maxLocals = 2) (hts : ∀ w ∈ gW, w.before args s = true) (hown : s.vm.findClass "RegularSolverModel" = some m.cls) (hK : va_K D vwCl (tG K) s) (hRf : 1 ≤ R.frames) (hRl : 23 ≤ R.locals) (hRc : cells ≤ R.cells) (hRs : slots ≤ R.slots) (hA : ∀ q, H0.size ≤ q → A q)  {out : (Bool × (Nat → Int32)) ⊕ ((Nat → Int32))} (Kr : ∀ (r : Bool × (Nat → Int32)), out = .inl r → ∀ (pc : Nat) (ls : Array Slot) (H : Heap) (locs : List Loc), decode b_Mo_found pc = .ok (.ireturn, 1) → va_P D vwCl (moW K h a mErr mLanguages mBounds mSize mGoes mLast mLeft mNext mGroup mFresh mLeader mNumber mRight mEnds mWay mVariable mFactor mLeast mMost mLength mWord mKept mMany mMore mLeads mMet mTodo mMay r.2) H → va_D A (moW K h a mErr mLanguages mBounds mSize mGoes mLast mLeft mNext mGroup mFresh mLeader mNumber mRight mEnds mWay mVariable mFactor mLeast mMost mLength mWord mKept mMany mMore mLeads mMet mTodo mMay r.2) → va_S A H0 H locs → W p l e R s m args below meth c H locs cells slots Q (F0 m pc ls [.int (bI r.1)])) (Kx : ∀ (u : (Nat → Int32)), out = .inr u → ∀ (ls : Array Slot) (H : Heap) (locs : List Loc), va_P D vwCl (moW K h a mErr mLanguages mBounds mSize mGoes mLast mLeft mNext mGroup mFresh mLeader mNumber mRight mEnds mWay mVariable mFactor mLeast mMost mLength mWord mKept mMany mMore mLeads mMet mTodo mMay u) H → va_D A (moW K h a mErr mLanguages mBounds mSize mGoes mLast mLeft mNext mGroup mFresh mLeader mNumber mRight mEnds mWay mVariable mFactor mLeast mMost mLength mWord mKept mMany mMore mLeads mMet mTodo mMay u) → va_S A H0 H locs → lv_has ls 2 [(0, .ref h), (1, .int v1)] → W p l e R s m args below meth c H locs cells slots Q (F0 m 182 ls [])) :
    ∀ (k : Nat) (mTries : Nat → Int32), f_Mo_found_81 n v1 mBounds mFactor mLeast mMost mMay k mTries = some out → ∀ (ls : Array Slot) (H : Heap) (locs : List Loc), va_P D vwCl (moW K h a mErr mLanguages mBounds mSize mGoes mLast mLeft mNext mGroup mFresh mLeader mNumber mRight mEnds mWay mVariable mFactor mLeast mMost mLength mWord mKept mMany mMore mLeads mMet mTodo mMay mTries) H → va_D A (moW K h a mErr mLanguages mBounds mSize mGoes mLast mLeft mNext mGroup mFresh mLeader mNumber mRight mEnds mWay mVariable mFactor mLeast mMost mLength mWord mKept mMany mMore mLeads mMet mTodo mMay mTries) → va_S A H0 H locs → lv_has ls 2 [(0, .ref h), (1, .int v1)] → W p l e R s m args below meth c H locs cells slots Q (F0 m 81 ls []) := by
  intro k
  induction k with
  | zero => intro _ hf; exact nomatch (show none = some out from hf)
  | succ k ih =>
    intro mTries hf ls H locs hP hD hS hl
    rw [f_Mo_found_81] at hf
    refine lv_aload_n hx hb d_Mo_found_81 rfl (lv_at hl 0 rfl) ?_
    refine va_get (D := D) (ci := 0) (v := .ref (a 23)) (C := R_Mo) (T := T_Mo) (N := 29) hx hb hts in_Mo hown hK hP 0 rfl rfl 28 (by decide) (hts _ fl_Mo_81) (fun _ h9 => h9) rfl d_Mo_found_82 ?_
    refine lv_iconst (v := 2) hx hb d_Mo_found_85 (by decide) ?_
    obtain ⟨g58, hf⟩ := ogi hf
    refine va_iald hx hb hK hP 24 0 rfl rfl (gin_in g58) d_Mo_found_86 ?_
    refine lv_iload_n hx hb d_Mo_found_87 rfl (lv_at hl 1 rfl) ?_
    refine lv_icmp_gt (tgt := 182) hx hb d_Mo_found_88 (by decide) (fun c59 => ?_) (fun c59 => ?_)
    · rw [if_pos c59] at hf
      exact Kx _ (Option.some.inj hf).symm _ _ _ hP hD hS (show lv_has ls 2 [(0, .ref h), (1, .int v1)] from lv_sub hl [0, 1] rfl)
    · rw [if_neg c59] at hf
      refine lv_aload_n hx hb d_Mo_found_91 rfl (lv_at hl 0 rfl) ?_
      refine va_get (D := D) (ci := 0) (v := .ref (a 22)) (C := R_Mo) (T := T_Mo) (N := 29) hx hb hts in_Mo hown hK hP 0 rfl rfl 27 (by decide) (hts _ fl_Mo_78) (fun _ h9 => h9) rfl d_Mo_found_92 ?_
      refine lv_iconst (v := 4) hx hb d_Mo_found_95 (by decide) ?_
      refine lv_aload_n hx hb d_Mo_found_96 rfl (lv_at hl 0 rfl) ?_
      refine va_get (D := D) (ci := 0) (v := .ref (a 23)) (C := R_Mo) (T := T_Mo) (N := 29) hx hb hts in_Mo hown hK hP 0 rfl rfl 28 (by decide) (hts _ fl_Mo_81) (fun _ h9 => h9) rfl d_Mo_found_97 ?_
      refine lv_iconst (v := 2) hx hb d_Mo_found_100 (by decide) ?_
      obtain ⟨g60, hf⟩ := ogi hf
      refine va_iald hx hb hK hP 24 0 rfl rfl (gin_in g60) d_Mo_found_101 ?_
      refine lv_imul hx hb d_Mo_found_102 ?_
      refine lv_iconst (v := 2) hx hb d_Mo_found_103 (by decide) ?_
      refine lv_iadd hx hb d_Mo_found_104 ?_
      obtain ⟨g61, hf⟩ := ogi hf
      refine bz_ald hx hb hK hP 23 2 rfl rfl (gin_in g61) d_Mo_found_105 ?_
      refine bz_ne (tgt := 112) hx hb d_Mo_found_106 (by decide) (fun c62 => ?_) (fun c62 => ?_)
      · rw [if_pos c62] at hf
        refine lv_aload_n hx hb d_Mo_found_112 rfl (lv_at hl 0 rfl) ?_
        refine va_get (D := D) (ci := 0) (v := .ref (a 23)) (C := R_Mo) (T := T_Mo) (N := 29) hx hb hts in_Mo hown hK hP 0 rfl rfl 28 (by decide) (hts _ fl_Mo_81) (fun _ h9 => h9) rfl d_Mo_found_113 ?_
        refine lv_iconst (v := 3) hx hb d_Mo_found_116 (by decide) ?_
        refine lv_iconst (v := 0) hx hb d_Mo_found_117 (by decide) ?_
        obtain ⟨g63, hf⟩ := ogi hf
        refine va_iast hx hb hK hP hD hS 24 0 rfl rfl (gin_in g63) d_Mo_found_118 (fun H locs hP hD hS => ?_)
        have hP : va_P D vwCl (moW K h a mErr mLanguages mBounds mSize mGoes mLast mLeft mNext mGroup mFresh mLeader mNumber mRight mEnds mWay mVariable mFactor mLeast mMost mLength mWord mKept mMany mMore mLeads mMet mTodo mMay (upd mTries (3 : Int32).toNatClampNeg 0)) H := hP
        have hD : va_D A (moW K h a mErr mLanguages mBounds mSize mGoes mLast mLeft mNext mGroup mFresh mLeader mNumber mRight mEnds mWay mVariable mFactor mLeast mMost mLength mWord mKept mMany mMore mLeads mMet mTodo mMay (upd mTries (3 : Int32).toNatClampNeg 0)) := hD
        obtain ⟨u75, eu75, hf⟩ := obd hf
        refine w_Mo_found_119 hx hb hml hts hown hK hRf hRl hRc hRs hA (fun r er pc ls H locs hd hP hD hS => Kr r (by subst er; exact (Option.some.inj hf).symm) pc ls H locs hd hP hD hS) (fun x75 eu ls H locs hP hD hS hl => ?_) _ _ eu75 _ _ _ hP hD hS (show lv_has ls 2 [(0, .ref h), (1, .int v1)] from lv_sub hl [0, 1] rfl)
        subst eu
        replace hf := oel hf
        refine lv_aload_n hx hb d_Mo_found_169 rfl (lv_at hl 0 rfl) ?_
        refine va_get (D := D) (ci := 0) (v := .ref (a 23)) (C := R_Mo) (T := T_Mo) (N := 29) hx hb hts in_Mo hown hK hP 0 rfl rfl 28 (by decide) (hts _ fl_Mo_81) (fun _ h9 => h9) rfl d_Mo_found_170 ?_
        refine lv_iconst (v := 2) hx hb d_Mo_found_173 (by decide) ?_
        refine lv_dup2_11 hx hb d_Mo_found_174 rfl rfl ?_
        obtain ⟨g76, hf⟩ := ogi hf
        refine va_iald hx hb hK hP 24 0 rfl rfl (gin_in g76) d_Mo_found_175 ?_
        refine lv_iconst (v := 1) hx hb d_Mo_found_176 (by decide) ?_
        refine lv_iadd hx hb d_Mo_found_177 ?_
        obtain ⟨g77, hf⟩ := ogi hf
        refine va_iast hx hb hK hP hD hS 24 0 rfl rfl (gin_in g77) d_Mo_found_178 (fun H locs hP hD hS => ?_)
        have hP : va_P D vwCl (moW K h a mErr mLanguages mBounds mSize mGoes mLast mLeft mNext mGroup mFresh mLeader mNumber mRight mEnds mWay mVariable mFactor mLeast mMost mLength mWord mKept mMany mMore mLeads mMet mTodo mMay (upd x75 (2 : Int32).toNatClampNeg ((x75 (2 : Int32).toNatClampNeg) + 1))) H := hP
        have hD : va_D A (moW K h a mErr mLanguages mBounds mSize mGoes mLast mLeft mNext mGroup mFresh mLeader mNumber mRight mEnds mWay mVariable mFactor mLeast mMost mLength mWord mKept mMany mMore mLeads mMet mTodo mMay (upd x75 (2 : Int32).toNatClampNeg ((x75 (2 : Int32).toNatClampNeg) + 1))) := hD
        refine lv_goto (tgt := 81) hx hb d_Mo_found_179 (by decide) ?_
        exact ih _ hf _ _ _ hP hD hS (show lv_has ls 2 [(0, .ref h), (1, .int v1)] from lv_sub hl [0, 1] rfl)
      · rw [if_neg c62] at hf
        refine lv_goto (tgt := 169) hx hb d_Mo_found_109 (by decide) ?_
        refine lv_aload_n hx hb d_Mo_found_169 rfl (lv_at hl 0 rfl) ?_
        refine va_get (D := D) (ci := 0) (v := .ref (a 23)) (C := R_Mo) (T := T_Mo) (N := 29) hx hb hts in_Mo hown hK hP 0 rfl rfl 28 (by decide) (hts _ fl_Mo_81) (fun _ h9 => h9) rfl d_Mo_found_170 ?_
        refine lv_iconst (v := 2) hx hb d_Mo_found_173 (by decide) ?_
        refine lv_dup2_11 hx hb d_Mo_found_174 rfl rfl ?_
        obtain ⟨g78, hf⟩ := ogi hf
        refine va_iald hx hb hK hP 24 0 rfl rfl (gin_in g78) d_Mo_found_175 ?_
        refine lv_iconst (v := 1) hx hb d_Mo_found_176 (by decide) ?_
        refine lv_iadd hx hb d_Mo_found_177 ?_
        obtain ⟨g79, hf⟩ := ogi hf
        refine va_iast hx hb hK hP hD hS 24 0 rfl rfl (gin_in g79) d_Mo_found_178 (fun H locs hP hD hS => ?_)
        have hP : va_P D vwCl (moW K h a mErr mLanguages mBounds mSize mGoes mLast mLeft mNext mGroup mFresh mLeader mNumber mRight mEnds mWay mVariable mFactor mLeast mMost mLength mWord mKept mMany mMore mLeads mMet mTodo mMay (upd mTries (2 : Int32).toNatClampNeg ((mTries (2 : Int32).toNatClampNeg) + 1))) H := hP
        have hD : va_D A (moW K h a mErr mLanguages mBounds mSize mGoes mLast mLeft mNext mGroup mFresh mLeader mNumber mRight mEnds mWay mVariable mFactor mLeast mMost mLength mWord mKept mMany mMore mLeads mMet mTodo mMay (upd mTries (2 : Int32).toNatClampNeg ((mTries (2 : Int32).toNatClampNeg) + 1))) := hD
        refine lv_goto (tgt := 81) hx hb d_Mo_found_179 (by decide) ?_
        exact ih _ hf _ _ _ hP hD hS (show lv_has ls 2 [(0, .ref h), (1, .int v1)] from lv_sub hl [0, 1] rfl)
def f_Mo_found_43 (n : Nat) (v1 : Int32) (mBounds : Int32) (mFactor : Nat → Int32) (mLeast : Nat → Int32) (mMost : Nat → Int32) (mMay : Nat → Bool) : Nat → (Nat → Int32) → Option ((Bool × (Nat → Int32)) ⊕ ((Nat → Int32)))
  | 0, _ => none
  | k + 1, mTries =>
    ogd (gin 1 4) <|
    if v1 < (mTries (1 : Int32).toNatClampNeg) then
      some (.inr mTries)
    else
      ogd (gin 1 4) <|
      ogd (gin ((4 * (mTries (1 : Int32).toNatClampNeg)) + 1) 128) <|
      if (mMay ((4 * (mTries (1 : Int32).toNatClampNeg)) + 1).toNatClampNeg) = true then
        ogd (gin 2 4) <|
        (f_Mo_found_81 n v1 mBounds mFactor mLeast mMost mMay n (upd mTries (2 : Int32).toNatClampNeg 0)).bind fun u80 => u80.elim (fun r => some (.inl r)) fun x80 =>
        ogd (gin 1 4) <|
        ogd (gin 1 4) <|
        f_Mo_found_43 n v1 mBounds mFactor mLeast mMost mMay k (upd x80 (1 : Int32).toNatClampNeg ((x80 (1 : Int32).toNatClampNeg) + 1))
      else
        ogd (gin 1 4) <|
        ogd (gin 1 4) <|
        f_Mo_found_43 n v1 mBounds mFactor mLeast mMost mMay k (upd mTries (1 : Int32).toNatClampNeg ((mTries (1 : Int32).toNatClampNeg) + 1))
set_option maxHeartbeats 4000000 in
set_option maxRecDepth 100000 in
theorem w_Mo_found_43  {v1 : Int32} (hx : p.tables.exec = Jvm.exec) (hb : c.code = b_Mo_found) (hml : c.maxLocals = 2) (hts : ∀ w ∈ gW, w.before args s = true) (hown : s.vm.findClass "RegularSolverModel" = some m.cls) (hK : va_K D vwCl (tG K) s) (hRf : 1 ≤ R.frames) (hRl : 23 ≤ R.locals) (hRc : cells ≤ R.cells) (hRs : slots ≤ R.slots) (hA : ∀ q, H0.size ≤ q → A q)  {out : (Bool × (Nat → Int32)) ⊕ ((Nat → Int32))} (Kr : ∀ (r : Bool × (Nat → Int32)), out = .inl r → ∀ (pc : Nat) (ls : Array Slot) (H : Heap) (locs : List Loc), decode b_Mo_found pc = .ok (.ireturn, 1) → va_P D vwCl (moW K h a mErr mLanguages mBounds mSize mGoes mLast mLeft mNext mGroup mFresh mLeader mNumber mRight mEnds mWay mVariable mFactor mLeast mMost mLength mWord mKept mMany mMore mLeads mMet mTodo mMay r.2) H → va_D A (moW K h a mErr mLanguages mBounds mSize mGoes mLast mLeft mNext mGroup mFresh mLeader mNumber mRight mEnds mWay mVariable mFactor mLeast mMost mLength mWord mKept mMany mMore mLeads mMet mTodo mMay r.2) → va_S A H0 H locs → W p l e R s m args below meth c H locs cells slots Q (F0 m pc ls [.int (bI r.1)])) (Kx : ∀ (u : (Nat → Int32)), out = .inr u → ∀ (ls : Array Slot) (H : Heap) (locs : List Loc), va_P D vwCl (moW K h a mErr mLanguages mBounds mSize mGoes mLast mLeft mNext mGroup mFresh mLeader mNumber mRight mEnds mWay mVariable mFactor mLeast mMost mLength mWord mKept mMany mMore mLeads mMet mTodo mMay u) H → va_D A (moW K h a mErr mLanguages mBounds mSize mGoes mLast mLeft mNext mGroup mFresh mLeader mNumber mRight mEnds mWay mVariable mFactor mLeast mMost mLength mWord mKept mMany mMore mLeads mMet mTodo mMay u) → va_S A H0 H locs → lv_has ls 2 [(0, .ref h), (1, .int v1)] → W p l e R s m args below meth c H locs cells slots Q (F0 m 195 ls [])) :
    ∀ (k : Nat) (mTries : Nat → Int32), f_Mo_found_43 n v1 mBounds mFactor mLeast mMost mMay k mTries = some out → ∀ (ls : Array Slot) (H : Heap) (locs : List Loc), va_P D vwCl (moW K h a mErr mLanguages mBounds mSize mGoes mLast mLeft mNext mGroup mFresh mLeader mNumber mRight mEnds mWay mVariable mFactor mLeast mMost mLength mWord mKept mMany mMore mLeads mMet mTodo mMay mTries) H → va_D A (moW K h a mErr mLanguages mBounds mSize mGoes mLast mLeft mNext mGroup mFresh mLeader mNumber mRight mEnds mWay mVariable mFactor mLeast mMost mLength mWord mKept mMany mMore mLeads mMet mTodo mMay mTries) → va_S A H0 H locs → lv_has ls 2 [(0, .ref h), (1, .int v1)] → W p l e R s m args below meth c H locs cells slots Q (F0 m 43 ls []) := by
  intro k
  induction k with
  | zero => intro _ hf; exact nomatch (show none = some out from hf)
  | succ k ih =>
    intro mTries hf ls H locs hP hD hS hl
    rw [f_Mo_found_43] at hf
    refine lv_aload_n hx hb d_Mo_found_43 rfl (lv_at hl 0 rfl) ?_
    refine va_get (D := D) (ci := 0) (v := .ref (a 23)) (C := R_Mo) (T := T_Mo) (N := 29) hx hb hts in_Mo hown hK hP 0 rfl rfl 28 (by decide) (hts _ fl_Mo_81) (fun _ h9 => h9) rfl d_Mo_found_44 ?_
    refine lv_iconst (v := 1) hx hb d_Mo_found_47 (by decide) ?_
    obtain ⟨g52, hf⟩ := ogi hf
    refine va_iald hx hb hK hP 24 0 rfl rfl (gin_in g52) d_Mo_found_48 ?_
    refine lv_iload_n hx hb d_Mo_found_49 rfl (lv_at hl 1 rfl) ?_
    refine lv_icmp_gt (tgt := 195) hx hb d_Mo_found_50 (by decide) (fun c53 => ?_) (fun c53 => ?_)
    · rw [if_pos c53] at hf
      exact Kx _ (Option.some.inj hf).symm _ _ _ hP hD hS (show lv_has ls 2 [(0, .ref h), (1, .int v1)] from lv_sub hl [0, 1] rfl)
    · rw [if_neg c53] at hf
      refine lv_aload_n hx hb d_Mo_found_53 rfl (lv_at hl 0 rfl) ?_
      refine va_get (D := D) (ci := 0) (v := .ref (a 22)) (C := R_Mo) (T := T_Mo) (N := 29) hx hb hts in_Mo hown hK hP 0 rfl rfl 27 (by decide) (hts _ fl_Mo_78) (fun _ h9 => h9) rfl d_Mo_found_54 ?_
      refine lv_iconst (v := 4) hx hb d_Mo_found_57 (by decide) ?_
      refine lv_aload_n hx hb d_Mo_found_58 rfl (lv_at hl 0 rfl) ?_
      refine va_get (D := D) (ci := 0) (v := .ref (a 23)) (C := R_Mo) (T := T_Mo) (N := 29) hx hb hts in_Mo hown hK hP 0 rfl rfl 28 (by decide) (hts _ fl_Mo_81) (fun _ h9 => h9) rfl d_Mo_found_59 ?_
      refine lv_iconst (v := 1) hx hb d_Mo_found_62 (by decide) ?_
      obtain ⟨g54, hf⟩ := ogi hf
      refine va_iald hx hb hK hP 24 0 rfl rfl (gin_in g54) d_Mo_found_63 ?_
      refine lv_imul hx hb d_Mo_found_64 ?_
      refine lv_iconst (v := 1) hx hb d_Mo_found_65 (by decide) ?_
      refine lv_iadd hx hb d_Mo_found_66 ?_
      obtain ⟨g55, hf⟩ := ogi hf
      refine bz_ald hx hb hK hP 23 2 rfl rfl (gin_in g55) d_Mo_found_67 ?_
      refine bz_ne (tgt := 74) hx hb d_Mo_found_68 (by decide) (fun c56 => ?_) (fun c56 => ?_)
      · rw [if_pos c56] at hf
        refine lv_aload_n hx hb d_Mo_found_74 rfl (lv_at hl 0 rfl) ?_
        refine va_get (D := D) (ci := 0) (v := .ref (a 23)) (C := R_Mo) (T := T_Mo) (N := 29) hx hb hts in_Mo hown hK hP 0 rfl rfl 28 (by decide) (hts _ fl_Mo_81) (fun _ h9 => h9) rfl d_Mo_found_75 ?_
        refine lv_iconst (v := 2) hx hb d_Mo_found_78 (by decide) ?_
        refine lv_iconst (v := 0) hx hb d_Mo_found_79 (by decide) ?_
        obtain ⟨g57, hf⟩ := ogi hf
        refine va_iast hx hb hK hP hD hS 24 0 rfl rfl (gin_in g57) d_Mo_found_80 (fun H locs hP hD hS => ?_)
        have hP : va_P D vwCl (moW K h a mErr mLanguages mBounds mSize mGoes mLast mLeft mNext mGroup mFresh mLeader mNumber mRight mEnds mWay mVariable mFactor mLeast mMost mLength mWord mKept mMany mMore mLeads mMet mTodo mMay (upd mTries (2 : Int32).toNatClampNeg 0)) H := hP
        have hD : va_D A (moW K h a mErr mLanguages mBounds mSize mGoes mLast mLeft mNext mGroup mFresh mLeader mNumber mRight mEnds mWay mVariable mFactor mLeast mMost mLength mWord mKept mMany mMore mLeads mMet mTodo mMay (upd mTries (2 : Int32).toNatClampNeg 0)) := hD
        obtain ⟨u80, eu80, hf⟩ := obd hf
        refine w_Mo_found_81 hx hb hml hts hown hK hRf hRl hRc hRs hA (fun r er pc ls H locs hd hP hD hS => Kr r (by subst er; exact (Option.some.inj hf).symm) pc ls H locs hd hP hD hS) (fun x80 eu ls H locs hP hD hS hl => ?_) _ _ eu80 _ _ _ hP hD hS (show lv_has ls 2 [(0, .ref h), (1, .int v1)] from lv_sub hl [0, 1] rfl)
        subst eu
        replace hf := oel hf
        refine lv_aload_n hx hb d_Mo_found_182 rfl (lv_at hl 0 rfl) ?_
        refine va_get (D := D) (ci := 0) (v := .ref (a 23)) (C := R_Mo) (T := T_Mo) (N := 29) hx hb hts in_Mo hown hK hP 0 rfl rfl 28 (by decide) (hts _ fl_Mo_81) (fun _ h9 => h9) rfl d_Mo_found_183 ?_
        refine lv_iconst (v := 1) hx hb d_Mo_found_186 (by decide) ?_
        refine lv_dup2_11 hx hb d_Mo_found_187 rfl rfl ?_
        obtain ⟨g81, hf⟩ := ogi hf
        refine va_iald hx hb hK hP 24 0 rfl rfl (gin_in g81) d_Mo_found_188 ?_
        refine lv_iconst (v := 1) hx hb d_Mo_found_189 (by decide) ?_
        refine lv_iadd hx hb d_Mo_found_190 ?_
        obtain ⟨g82, hf⟩ := ogi hf
        refine va_iast hx hb hK hP hD hS 24 0 rfl rfl (gin_in g82) d_Mo_found_191 (fun H locs hP hD hS => ?_)
        have hP : va_P D vwCl (moW K h a mErr mLanguages mBounds mSize mGoes mLast mLeft mNext mGroup mFresh mLeader mNumber mRight mEnds mWay mVariable mFactor mLeast mMost mLength mWord mKept mMany mMore mLeads mMet mTodo mMay (upd x80 (1 : Int32).toNatClampNeg ((x80 (1 : Int32).toNatClampNeg) + 1))) H := hP
        have hD : va_D A (moW K h a mErr mLanguages mBounds mSize mGoes mLast mLeft mNext mGroup mFresh mLeader mNumber mRight mEnds mWay mVariable mFactor mLeast mMost mLength mWord mKept mMany mMore mLeads mMet mTodo mMay (upd x80 (1 : Int32).toNatClampNeg ((x80 (1 : Int32).toNatClampNeg) + 1))) := hD
        refine lv_goto (tgt := 43) hx hb d_Mo_found_192 (by decide) ?_
        exact ih _ hf _ _ _ hP hD hS (show lv_has ls 2 [(0, .ref h), (1, .int v1)] from lv_sub hl [0, 1] rfl)
      · rw [if_neg c56] at hf
        refine lv_goto (tgt := 182) hx hb d_Mo_found_71 (by decide) ?_
        refine lv_aload_n hx hb d_Mo_found_182 rfl (lv_at hl 0 rfl) ?_
        refine va_get (D := D) (ci := 0) (v := .ref (a 23)) (C := R_Mo) (T := T_Mo) (N := 29) hx hb hts in_Mo hown hK hP 0 rfl rfl 28 (by decide) (hts _ fl_Mo_81) (fun _ h9 => h9) rfl d_Mo_found_183 ?_
        refine lv_iconst (v := 1) hx hb d_Mo_found_186 (by decide) ?_
        refine lv_dup2_11 hx hb d_Mo_found_187 rfl rfl ?_
        obtain ⟨g83, hf⟩ := ogi hf
        refine va_iald hx hb hK hP 24 0 rfl rfl (gin_in g83) d_Mo_found_188 ?_
        refine lv_iconst (v := 1) hx hb d_Mo_found_189 (by decide) ?_
        refine lv_iadd hx hb d_Mo_found_190 ?_
        obtain ⟨g84, hf⟩ := ogi hf
        refine va_iast hx hb hK hP hD hS 24 0 rfl rfl (gin_in g84) d_Mo_found_191 (fun H locs hP hD hS => ?_)
        have hP : va_P D vwCl (moW K h a mErr mLanguages mBounds mSize mGoes mLast mLeft mNext mGroup mFresh mLeader mNumber mRight mEnds mWay mVariable mFactor mLeast mMost mLength mWord mKept mMany mMore mLeads mMet mTodo mMay (upd mTries (1 : Int32).toNatClampNeg ((mTries (1 : Int32).toNatClampNeg) + 1))) H := hP
        have hD : va_D A (moW K h a mErr mLanguages mBounds mSize mGoes mLast mLeft mNext mGroup mFresh mLeader mNumber mRight mEnds mWay mVariable mFactor mLeast mMost mLength mWord mKept mMany mMore mLeads mMet mTodo mMay (upd mTries (1 : Int32).toNatClampNeg ((mTries (1 : Int32).toNatClampNeg) + 1))) := hD
        refine lv_goto (tgt := 43) hx hb d_Mo_found_192 (by decide) ?_
        exact ih _ hf _ _ _ hP hD hS (show lv_has ls 2 [(0, .ref h), (1, .int v1)] from lv_sub hl [0, 1] rfl)
def f_Mo_found_7 (n : Nat) (v1 : Int32) (mBounds : Int32) (mFactor : Nat → Int32) (mLeast : Nat → Int32) (mMost : Nat → Int32) (mMay : Nat → Bool) : Nat → (Nat → Int32) → Option ((Bool × (Nat → Int32)) ⊕ ((Nat → Int32)))
  | 0, _ => none
  | k + 1, mTries =>
    ogd (gin 0 4) <|
    if v1 < (mTries (0 : Int32).toNatClampNeg) then
      some (.inr mTries)
    else
      ogd (gin 0 4) <|
      ogd (gin (4 * (mTries (0 : Int32).toNatClampNeg)) 128) <|
      if (mMay (4 * (mTries (0 : Int32).toNatClampNeg)).toNatClampNeg) = true then
        ogd (gin 1 4) <|
        (f_Mo_found_43 n v1 mBounds mFactor mLeast mMost mMay n (upd mTries (1 : Int32).toNatClampNeg 0)).bind fun u85 => u85.elim (fun r => some (.inl r)) fun x85 =>
        ogd (gin 0 4) <|
        ogd (gin 0 4) <|
        f_Mo_found_7 n v1 mBounds mFactor mLeast mMost mMay k (upd x85 (0 : Int32).toNatClampNeg ((x85 (0 : Int32).toNatClampNeg) + 1))
      else
        ogd (gin 0 4) <|
        ogd (gin 0 4) <|
        f_Mo_found_7 n v1 mBounds mFactor mLeast mMost mMay k (upd mTries (0 : Int32).toNatClampNeg ((mTries (0 : Int32).toNatClampNeg) + 1))
set_option maxHeartbeats 4000000 in
set_option maxRecDepth 100000 in
theorem w_Mo_found_7  {v1 : Int32} (hx : p.tables.exec = Jvm.exec) (hb : c.code = b_Mo_found) (hml : c.maxLocals = 2) (hts : ∀ w ∈ gW, w.before args s = true) (hown : s.vm.findClass "RegularSolverModel" = some m.cls) (hK : va_K D vwCl (tG K) s) (hRf : 1 ≤ R.frames) (hRl : 23 ≤ R.locals) (hRc : cells ≤ R.cells) (hRs : slots ≤ R.slots) (hA : ∀ q, H0.size ≤ q → A q)  {out : (Bool × (Nat → Int32)) ⊕ ((Nat → Int32))} (Kr : ∀ (r : Bool × (Nat → Int32)), out = .inl r → ∀ (pc : Nat) (ls : Array Slot) (H : Heap) (locs : List Loc), decode b_Mo_found pc = .ok (.ireturn, 1) → va_P D vwCl (moW K h a mErr mLanguages mBounds mSize mGoes mLast mLeft mNext mGroup mFresh mLeader mNumber mRight mEnds mWay mVariable mFactor mLeast mMost mLength mWord mKept mMany mMore mLeads mMet mTodo mMay r.2) H → va_D A (moW K h a mErr mLanguages mBounds mSize mGoes mLast mLeft mNext mGroup mFresh mLeader mNumber mRight mEnds mWay mVariable mFactor mLeast mMost mLength mWord mKept mMany mMore mLeads mMet mTodo mMay r.2) → va_S A H0 H locs → W p l e R s m args below meth c H locs cells slots Q (F0 m pc ls [.int (bI r.1)])) (Kx : ∀ (u : (Nat → Int32)), out = .inr u → ∀ (ls : Array Slot) (H : Heap) (locs : List Loc), va_P D vwCl (moW K h a mErr mLanguages mBounds mSize mGoes mLast mLeft mNext mGroup mFresh mLeader mNumber mRight mEnds mWay mVariable mFactor mLeast mMost mLength mWord mKept mMany mMore mLeads mMet mTodo mMay u) H → va_D A (moW K h a mErr mLanguages mBounds mSize mGoes mLast mLeft mNext mGroup mFresh mLeader mNumber mRight mEnds mWay mVariable mFactor mLeast mMost mLength mWord mKept mMany mMore mLeads mMet mTodo mMay u) → va_S A H0 H locs → lv_has ls 2 [] → W p l e R s m args below meth c H locs cells slots Q (F0 m 208 ls [])) :
    ∀ (k : Nat) (mTries : Nat → Int32), f_Mo_found_7 n v1 mBounds mFactor mLeast mMost mMay k mTries = some out → ∀ (ls : Array Slot) (H : Heap) (locs : List Loc), va_P D vwCl (moW K h a mErr mLanguages mBounds mSize mGoes mLast mLeft mNext mGroup mFresh mLeader mNumber mRight mEnds mWay mVariable mFactor mLeast mMost mLength mWord mKept mMany mMore mLeads mMet mTodo mMay mTries) H → va_D A (moW K h a mErr mLanguages mBounds mSize mGoes mLast mLeft mNext mGroup mFresh mLeader mNumber mRight mEnds mWay mVariable mFactor mLeast mMost mLength mWord mKept mMany mMore mLeads mMet mTodo mMay mTries) → va_S A H0 H locs → lv_has ls 2 [(0, .ref h), (1, .int v1)] → W p l e R s m args below meth c H locs cells slots Q (F0 m 7 ls []) := by
  intro k
  induction k with
  | zero => intro _ hf; exact nomatch (show none = some out from hf)
  | succ k ih =>
    intro mTries hf ls H locs hP hD hS hl
    rw [f_Mo_found_7] at hf
    refine lv_aload_n hx hb d_Mo_found_7 rfl (lv_at hl 0 rfl) ?_
    refine va_get (D := D) (ci := 0) (v := .ref (a 23)) (C := R_Mo) (T := T_Mo) (N := 29) hx hb hts in_Mo hown hK hP 0 rfl rfl 28 (by decide) (hts _ fl_Mo_81) (fun _ h9 => h9) rfl d_Mo_found_8 ?_
    refine lv_iconst (v := 0) hx hb d_Mo_found_11 (by decide) ?_
    obtain ⟨g46, hf⟩ := ogi hf
    refine va_iald hx hb hK hP 24 0 rfl rfl (gin_in g46) d_Mo_found_12 ?_
    refine lv_iload_n hx hb d_Mo_found_13 rfl (lv_at hl 1 rfl) ?_
    refine lv_icmp_gt (tgt := 208) hx hb d_Mo_found_14 (by decide) (fun c47 => ?_) (fun c47 => ?_)
    · rw [if_pos c47] at hf
      exact Kx _ (Option.some.inj hf).symm _ _ _ hP hD hS (show lv_has ls 2 [] from lv_sub hl [] rfl)
    · rw [if_neg c47] at hf
      refine lv_aload_n hx hb d_Mo_found_17 rfl (lv_at hl 0 rfl) ?_
      refine va_get (D := D) (ci := 0) (v := .ref (a 22)) (C := R_Mo) (T := T_Mo) (N := 29) hx hb hts in_Mo hown hK hP 0 rfl rfl 27 (by decide) (hts _ fl_Mo_78) (fun _ h9 => h9) rfl d_Mo_found_18 ?_
      refine lv_iconst (v := 4) hx hb d_Mo_found_21 (by decide) ?_
      refine lv_aload_n hx hb d_Mo_found_22 rfl (lv_at hl 0 rfl) ?_
      refine va_get (D := D) (ci := 0) (v := .ref (a 23)) (C := R_Mo) (T := T_Mo) (N := 29) hx hb hts in_Mo hown hK hP 0 rfl rfl 28 (by decide) (hts _ fl_Mo_81) (fun _ h9 => h9) rfl d_Mo_found_23 ?_
      refine lv_iconst (v := 0) hx hb d_Mo_found_26 (by decide) ?_
      obtain ⟨g48, hf⟩ := ogi hf
      refine va_iald hx hb hK hP 24 0 rfl rfl (gin_in g48) d_Mo_found_27 ?_
      refine lv_imul hx hb d_Mo_found_28 ?_
      obtain ⟨g49, hf⟩ := ogi hf
      refine bz_ald hx hb hK hP 23 2 rfl rfl (gin_in g49) d_Mo_found_29 ?_
      refine bz_ne (tgt := 36) hx hb d_Mo_found_30 (by decide) (fun c50 => ?_) (fun c50 => ?_)
      · rw [if_pos c50] at hf
        refine lv_aload_n hx hb d_Mo_found_36 rfl (lv_at hl 0 rfl) ?_
        refine va_get (D := D) (ci := 0) (v := .ref (a 23)) (C := R_Mo) (T := T_Mo) (N := 29) hx hb hts in_Mo hown hK hP 0 rfl rfl 28 (by decide) (hts _ fl_Mo_81) (fun _ h9 => h9) rfl d_Mo_found_37 ?_
        refine lv_iconst (v := 1) hx hb d_Mo_found_40 (by decide) ?_
        refine lv_iconst (v := 0) hx hb d_Mo_found_41 (by decide) ?_
        obtain ⟨g51, hf⟩ := ogi hf
        refine va_iast hx hb hK hP hD hS 24 0 rfl rfl (gin_in g51) d_Mo_found_42 (fun H locs hP hD hS => ?_)
        have hP : va_P D vwCl (moW K h a mErr mLanguages mBounds mSize mGoes mLast mLeft mNext mGroup mFresh mLeader mNumber mRight mEnds mWay mVariable mFactor mLeast mMost mLength mWord mKept mMany mMore mLeads mMet mTodo mMay (upd mTries (1 : Int32).toNatClampNeg 0)) H := hP
        have hD : va_D A (moW K h a mErr mLanguages mBounds mSize mGoes mLast mLeft mNext mGroup mFresh mLeader mNumber mRight mEnds mWay mVariable mFactor mLeast mMost mLength mWord mKept mMany mMore mLeads mMet mTodo mMay (upd mTries (1 : Int32).toNatClampNeg 0)) := hD
        obtain ⟨u85, eu85, hf⟩ := obd hf
        refine w_Mo_found_43 hx hb hml hts hown hK hRf hRl hRc hRs hA (fun r er pc ls H locs hd hP hD hS => Kr r (by subst er; exact (Option.some.inj hf).symm) pc ls H locs hd hP hD hS) (fun x85 eu ls H locs hP hD hS hl => ?_) _ _ eu85 _ _ _ hP hD hS (show lv_has ls 2 [(0, .ref h), (1, .int v1)] from lv_sub hl [0, 1] rfl)
        subst eu
        replace hf := oel hf
        refine lv_aload_n hx hb d_Mo_found_195 rfl (lv_at hl 0 rfl) ?_
        refine va_get (D := D) (ci := 0) (v := .ref (a 23)) (C := R_Mo) (T := T_Mo) (N := 29) hx hb hts in_Mo hown hK hP 0 rfl rfl 28 (by decide) (hts _ fl_Mo_81) (fun _ h9 => h9) rfl d_Mo_found_196 ?_
        refine lv_iconst (v := 0) hx hb d_Mo_found_199 (by decide) ?_
        refine lv_dup2_11 hx hb d_Mo_found_200 rfl rfl ?_
        obtain ⟨g86, hf⟩ := ogi hf
        refine va_iald hx hb hK hP 24 0 rfl rfl (gin_in g86) d_Mo_found_201 ?_
        refine lv_iconst (v := 1) hx hb d_Mo_found_202 (by decide) ?_
        refine lv_iadd hx hb d_Mo_found_203 ?_
        obtain ⟨g87, hf⟩ := ogi hf
        refine va_iast hx hb hK hP hD hS 24 0 rfl rfl (gin_in g87) d_Mo_found_204 (fun H locs hP hD hS => ?_)
        have hP : va_P D vwCl (moW K h a mErr mLanguages mBounds mSize mGoes mLast mLeft mNext mGroup mFresh mLeader mNumber mRight mEnds mWay mVariable mFactor mLeast mMost mLength mWord mKept mMany mMore mLeads mMet mTodo mMay (upd x85 (0 : Int32).toNatClampNeg ((x85 (0 : Int32).toNatClampNeg) + 1))) H := hP
        have hD : va_D A (moW K h a mErr mLanguages mBounds mSize mGoes mLast mLeft mNext mGroup mFresh mLeader mNumber mRight mEnds mWay mVariable mFactor mLeast mMost mLength mWord mKept mMany mMore mLeads mMet mTodo mMay (upd x85 (0 : Int32).toNatClampNeg ((x85 (0 : Int32).toNatClampNeg) + 1))) := hD
        refine lv_goto (tgt := 7) hx hb d_Mo_found_205 (by decide) ?_
        exact ih _ hf _ _ _ hP hD hS (show lv_has ls 2 [(0, .ref h), (1, .int v1)] from lv_sub hl [0, 1] rfl)
      · rw [if_neg c50] at hf
        refine lv_goto (tgt := 195) hx hb d_Mo_found_33 (by decide) ?_
        refine lv_aload_n hx hb d_Mo_found_195 rfl (lv_at hl 0 rfl) ?_
        refine va_get (D := D) (ci := 0) (v := .ref (a 23)) (C := R_Mo) (T := T_Mo) (N := 29) hx hb hts in_Mo hown hK hP 0 rfl rfl 28 (by decide) (hts _ fl_Mo_81) (fun _ h9 => h9) rfl d_Mo_found_196 ?_
        refine lv_iconst (v := 0) hx hb d_Mo_found_199 (by decide) ?_
        refine lv_dup2_11 hx hb d_Mo_found_200 rfl rfl ?_
        obtain ⟨g88, hf⟩ := ogi hf
        refine va_iald hx hb hK hP 24 0 rfl rfl (gin_in g88) d_Mo_found_201 ?_
        refine lv_iconst (v := 1) hx hb d_Mo_found_202 (by decide) ?_
        refine lv_iadd hx hb d_Mo_found_203 ?_
        obtain ⟨g89, hf⟩ := ogi hf
        refine va_iast hx hb hK hP hD hS 24 0 rfl rfl (gin_in g89) d_Mo_found_204 (fun H locs hP hD hS => ?_)
        have hP : va_P D vwCl (moW K h a mErr mLanguages mBounds mSize mGoes mLast mLeft mNext mGroup mFresh mLeader mNumber mRight mEnds mWay mVariable mFactor mLeast mMost mLength mWord mKept mMany mMore mLeads mMet mTodo mMay (upd mTries (0 : Int32).toNatClampNeg ((mTries (0 : Int32).toNatClampNeg) + 1))) H := hP
        have hD : va_D A (moW K h a mErr mLanguages mBounds mSize mGoes mLast mLeft mNext mGroup mFresh mLeader mNumber mRight mEnds mWay mVariable mFactor mLeast mMost mLength mWord mKept mMany mMore mLeads mMet mTodo mMay (upd mTries (0 : Int32).toNatClampNeg ((mTries (0 : Int32).toNatClampNeg) + 1))) := hD
        refine lv_goto (tgt := 7) hx hb d_Mo_found_205 (by decide) ?_
        exact ih _ hf _ _ _ hP hD hS (show lv_has ls 2 [(0, .ref h), (1, .int v1)] from lv_sub hl [0, 1] rfl)
def f_Mo_found (n : Nat) (p0 : Int32) (mBounds : Int32) (mFactor : Nat → Int32) (mLeast : Nat → Int32) (mMost : Nat → Int32) (mMay : Nat → Bool) (mTries : Nat → Int32) : Option (Bool × (Nat → Int32)) :=
  ogd (gin 0 4) <|
  (f_Mo_found_7 n p0 mBounds mFactor mLeast mMost mMay n (upd mTries (0 : Int32).toNatClampNeg 0)).bind fun u90 => u90.elim (fun r => some r) fun x90 =>
  some (false, x90)
set_option maxHeartbeats 4000000 in
set_option maxRecDepth 100000 in
theorem w_Mo_found  {p0 : Int32}  (hx : p.tables.exec = Jvm.exec) (hb : c.code = b_Mo_found) (hml : c.maxLocals = 2) (hts : ∀ w ∈ gW, w.before args s = true) (hown : s.vm.findClass "RegularSolverModel" = some m.cls) (hK : va_K D vwCl (tG K) s) (hRf : 1 ≤ R.frames) (hRl : 23 ≤ R.locals) (hRc : cells ≤ R.cells) (hRs : slots ≤ R.slots) (hA : ∀ q, H0.size ≤ q → A q) {out : Bool × (Nat → Int32)} (Kr : ∀ (r : Bool × (Nat → Int32)), out = r → ∀ (pc : Nat) (ls : Array Slot) (H : Heap) (locs : List Loc), decode b_Mo_found pc = .ok (.ireturn, 1) → va_P D vwCl (moW K h a mErr mLanguages mBounds mSize mGoes mLast mLeft mNext mGroup mFresh mLeader mNumber mRight mEnds mWay mVariable mFactor mLeast mMost mLength mWord mKept mMany mMore mLeads mMet mTodo mMay r.2) H → va_D A (moW K h a mErr mLanguages mBounds mSize mGoes mLast mLeft mNext mGroup mFresh mLeader mNumber mRight mEnds mWay mVariable mFactor mLeast mMost mLength mWord mKept mMany mMore mLeads mMet mTodo mMay r.2) → va_S A H0 H locs → W p l e R s m args below meth c H locs cells slots Q (F0 m pc ls [.int (bI r.1)])) (hf : f_Mo_found n p0 mBounds mFactor mLeast mMost mMay mTries = some out) (ls : Array Slot) (hP : va_P D vwCl (moW K h a mErr mLanguages mBounds mSize mGoes mLast mLeft mNext mGroup mFresh mLeader mNumber mRight mEnds mWay mVariable mFactor mLeast mMost mLength mWord mKept mMany mMore mLeads mMet mTodo mMay mTries) H) (hD : va_D A (moW K h a mErr mLanguages mBounds mSize mGoes mLast mLeft mNext mGroup mFresh mLeader mNumber mRight mEnds mWay mVariable mFactor mLeast mMost mLength mWord mKept mMany mMore mLeads mMet mTodo mMay mTries)) (hS : va_S A H0 H locs) (hl : lv_has ls 2 [(0, .ref h), (1, .int p0)]) : W p l e R s m args below meth c H locs cells slots Q (F0 m 0 ls []) := by
  unfold f_Mo_found at hf
  refine lv_aload_n hx hb d_Mo_found_0 rfl (lv_at hl 0 rfl) ?_
  refine va_get (D := D) (ci := 0) (v := .ref (a 23)) (C := R_Mo) (T := T_Mo) (N := 29) hx hb hts in_Mo hown hK hP 0 rfl rfl 28 (by decide) (hts _ fl_Mo_81) (fun _ h9 => h9) rfl d_Mo_found_1 ?_
  refine lv_iconst (v := 0) hx hb d_Mo_found_4 (by decide) ?_
  refine lv_iconst (v := 0) hx hb d_Mo_found_5 (by decide) ?_
  obtain ⟨g1, hf⟩ := ogi hf
  refine va_iast hx hb hK hP hD hS 24 0 rfl rfl (gin_in g1) d_Mo_found_6 (fun H locs hP hD hS => ?_)
  have hP : va_P D vwCl (moW K h a mErr mLanguages mBounds mSize mGoes mLast mLeft mNext mGroup mFresh mLeader mNumber mRight mEnds mWay mVariable mFactor mLeast mMost mLength mWord mKept mMany mMore mLeads mMet mTodo mMay (upd mTries (0 : Int32).toNatClampNeg 0)) H := hP
  have hD : va_D A (moW K h a mErr mLanguages mBounds mSize mGoes mLast mLeft mNext mGroup mFresh mLeader mNumber mRight mEnds mWay mVariable mFactor mLeast mMost mLength mWord mKept mMany mMore mLeads mMet mTodo mMay (upd mTries (0 : Int32).toNatClampNeg 0)) := hD
  obtain ⟨u90, eu90, hf⟩ := obd hf
  refine w_Mo_found_7 hx hb hml hts hown hK hRf hRl hRc hRs hA (fun r er pc ls H locs hd hP hD hS => Kr r (by subst er; exact (Option.some.inj hf).symm) pc ls H locs hd hP hD hS) (fun x90 eu ls H locs hP hD hS hl => ?_) _ _ eu90 _ _ _ hP hD hS (show lv_has ls 2 [(0, .ref h), (1, .int p0)] from lv_sub hl [0, 1] rfl)
  subst eu
  replace hf := oel hf
  refine lv_iconst (v := 0) hx hb d_Mo_found_208 (by decide) ?_
  exact Kr _ (Option.some.inj hf).symm _ _ _ _ d_Mo_found_209 hP hD hS
set_option maxHeartbeats 4000000 in
set_option maxRecDepth 100000 in
theorem c_Mo_found (l : Launch)  {p0 : Int32}  {r : Bool × (Nat → Int32)} (sz : Nat) (hf : f_Mo_found n p0 mBounds mFactor mLeast mMost mMay mTries = some r) : Met l y_Mo_found w0_Mo_found ({ frames := 1, cells := 0, slots := 0, locals := 23 }) (wPre D K [.ref h, .int p0] (moW K h a mErr mLanguages mBounds mSize mGoes mLast mLeft mNext mGroup mFresh mLeader mNumber mRight mEnds mWay mVariable mFactor mLeast mMost mLength mWord mKept mMany mMore mLeads mMet mTodo mMay mTries) sz) (wPost D K (some (.int (bI r.1))) (moW K h a mErr mLanguages mBounds mSize mGoes mLast mLeft mNext mGroup mFresh mLeader mNumber mRight mEnds mWay mVariable mFactor mLeast mMost mLength mWord mKept mMany mMore mLeads mMet mTodo mMay r.2) (va_A (moW K h a mErr mLanguages mBounds mSize mGoes mLast mLeft mNext mGroup mFresh mLeader mNumber mRight mEnds mWay mVariable mFactor mLeast mMost mLength mWord mKept mMany mMore mLeads mMet mTodo mMay mTries) sz)) 0 0 (va_A (moW K h a mErr mLanguages mBounds mSize mGoes mLast mLeft mNext mGroup mFresh mLeader mNumber mRight mEnds mWay mVariable mFactor mLeast mMost mLength mWord mKept mMany mMore mLeads mMet mTodo mMay mTries) sz) := by
  refine Met.ofW (cc := b_Mo_found) (maxL := 2) (ret := (some .boolean)) (by decide) rfl ?_
  intro p e s m args below meth c s₁ B hml hv
  obtain ⟨rfl, hsz, hP, hK, hD0⟩ := hv
  subst hsz
  have hl := lv_entry [.ref h, .int p0] (n := 2) (Nat.le_of_ble_eq_true rfl)
  rw [lg_entry_eq]
  generalize (lg_sl [.ref h, .int p0] ++ List.replicate (2 - (lg_sl [.ref h, .int p0]).length) Slot.unset).toArray = ls at hl ⊢
  refine w_Mo_found (A := va_A (moW K h a mErr mLanguages mBounds mSize mGoes mLast mLeft mNext mGroup mFresh mLeader mNumber mRight mEnds mWay mVariable mFactor mLeast mMost mLength mWord mKept mMany mMore mLeads mMet mTodo mMay mTries) s.heap.size) (H0 := s.heap) B.exec B.bytes hml (fun w hw => atoms_spec (ws := w0_Mo_found) B.pre w (List.mem_cons_of_mem _ hw)) (findClass_of_methodNamed B.named) hK (Nat.le_refl _) (Nat.le_refl _) (Nat.zero_le _) (Nat.zero_le _) (fun q h => Or.inr h) (fun r er pc ls H locs hd hP hD hS => ?_) hf ls hP (hD0.self (sz := s.heap.size)) va_S.rf hl
  subst er
  exact W.zret B.exec B.bytes B.returns (bI_nar _) (fun t ht hW => ⟨⟨rfl, by rw [ht]; exact hP, va_K.moved hW.alike hK, hD⟩, hS.F ht⟩) hS.2.2 hd (hlocks := B.notSynchronized)
end
