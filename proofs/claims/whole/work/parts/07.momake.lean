abbrev b_Mo_letters : ByteArray := prog_13_method_16_code
def y_Mo_letters : MethodName := ⟨"RegularSolverModel", "letters", "(I)I"⟩
abbrev w0_Mo_letters : List Cond := Cond.code y_Mo_letters b_Mo_letters 4 (some .int) :: gW
theorem cd_Mo_letters : Cond.code y_Mo_letters b_Mo_letters 4 (some .int) ∈ gW := gm 936 (by decide +kernel) (by decide +kernel)
theorem d_Mo_letters_0 : decode b_Mo_letters 0 = .ok (.aload_n 0, 1) := by decide +kernel
theorem d_Mo_letters_1 : decode b_Mo_letters 1 = .ok (.iconst 0, 1) := by decide +kernel
theorem d_Mo_letters_2 : decode b_Mo_letters 2 = .ok (.putfield 84, 3) := by decide +kernel
theorem d_Mo_letters_5 : decode b_Mo_letters 5 = .ok (.aload_n 0, 1) := by decide +kernel
theorem d_Mo_letters_6 : decode b_Mo_letters 6 = .ok (.iload_n 1, 1) := by decide +kernel
theorem d_Mo_letters_7 : decode b_Mo_letters 7 = .ok (.i2l, 1) := by decide +kernel
theorem d_Mo_letters_8 : decode b_Mo_letters 8 = .ok (.lconst 0, 1) := by decide +kernel
theorem d_Mo_letters_9 : decode b_Mo_letters 9 = .ok (.ldc2_w 128, 3) := by decide +kernel
theorem d_Mo_letters_12 : decode b_Mo_letters 12 = .ok (.invokestatic 91, 3) := by decide +kernel
theorem d_Mo_letters_15 : decode b_Mo_letters 15 = .ok (.ifCond .ne 7, 3) := by decide +kernel
theorem d_Mo_letters_18 : decode b_Mo_letters 18 = .ok (.iconst 1, 1) := by decide +kernel
theorem d_Mo_letters_19 : decode b_Mo_letters 19 = .ok (.goto 4, 3) := by decide +kernel
theorem d_Mo_letters_22 : decode b_Mo_letters 22 = .ok (.iconst 0, 1) := by decide +kernel
theorem d_Mo_letters_23 : decode b_Mo_letters 23 = .ok (.iconst 1, 1) := by decide +kernel
theorem d_Mo_letters_24 : decode b_Mo_letters 24 = .ok (.invokevirtual 124, 3) := by decide +kernel
theorem d_Mo_letters_27 : decode b_Mo_letters 27 = .ok (.ifCond .ne 11, 3) := by decide +kernel
theorem d_Mo_letters_30 : decode b_Mo_letters 30 = .ok (.aload_n 0, 1) := by decide +kernel
theorem d_Mo_letters_31 : decode b_Mo_letters 31 = .ok (.iconst 2, 1) := by decide +kernel
theorem d_Mo_letters_32 : decode b_Mo_letters 32 = .ok (.invokevirtual 130, 3) := by decide +kernel
theorem d_Mo_letters_35 : decode b_Mo_letters 35 = .ok (.ifCond .eq 5, 3) := by decide +kernel
theorem d_Mo_letters_38 : decode b_Mo_letters 38 = .ok (.iconst 0, 1) := by decide +kernel
theorem d_Mo_letters_39 : decode b_Mo_letters 39 = .ok (.ireturn, 1) := by decide +kernel
theorem d_Mo_letters_40 : decode b_Mo_letters 40 = .ok (.aload_n 0, 1) := by decide +kernel
theorem d_Mo_letters_41 : decode b_Mo_letters 41 = .ok (.iconst 3, 1) := by decide +kernel
theorem d_Mo_letters_42 : decode b_Mo_letters 42 = .ok (.putfield 95, 3) := by decide +kernel
theorem d_Mo_letters_45 : decode b_Mo_letters 45 = .ok (.iconst 0, 1) := by decide +kernel
theorem d_Mo_letters_46 : decode b_Mo_letters 46 = .ok (.istore_n 2, 1) := by decide +kernel
theorem d_Mo_letters_47 : decode b_Mo_letters 47 = .ok (.iload_n 2, 1) := by decide +kernel
theorem d_Mo_letters_48 : decode b_Mo_letters 48 = .ok (.iconst 3, 1) := by decide +kernel
theorem d_Mo_letters_49 : decode b_Mo_letters 49 = .ok (.if_icmp .ge 65, 3) := by decide +kernel
theorem d_Mo_letters_52 : decode b_Mo_letters 52 = .ok (.aload_n 0, 1) := by decide +kernel
theorem d_Mo_letters_53 : decode b_Mo_letters 53 = .ok (.getfield 42, 3) := by decide +kernel
theorem d_Mo_letters_56 : decode b_Mo_letters 56 = .ok (.iload_n 2, 1) := by decide +kernel
theorem d_Mo_letters_57 : decode b_Mo_letters 57 = .ok (.iload_n 2, 1) := by decide +kernel
theorem d_Mo_letters_58 : decode b_Mo_letters 58 = .ok (.iconst 1, 1) := by decide +kernel
theorem d_Mo_letters_59 : decode b_Mo_letters 59 = .ok (.if_icmp .ne 7, 3) := by decide +kernel
theorem d_Mo_letters_62 : decode b_Mo_letters 62 = .ok (.iconst 1, 1) := by decide +kernel
theorem d_Mo_letters_63 : decode b_Mo_letters 63 = .ok (.goto 4, 3) := by decide +kernel
theorem d_Mo_letters_66 : decode b_Mo_letters 66 = .ok (.iconst 0, 1) := by decide +kernel
theorem d_Mo_letters_67 : decode b_Mo_letters 67 = .ok (.bastore, 1) := by decide +kernel
theorem d_Mo_letters_68 : decode b_Mo_letters 68 = .ok (.iconst 0, 1) := by decide +kernel
theorem d_Mo_letters_69 : decode b_Mo_letters 69 = .ok (.istore_n 3, 1) := by decide +kernel
theorem d_Mo_letters_70 : decode b_Mo_letters 70 = .ok (.iload_n 3, 1) := by decide +kernel
theorem d_Mo_letters_71 : decode b_Mo_letters 71 = .ok (.iconst 4, 1) := by decide +kernel
theorem d_Mo_letters_72 : decode b_Mo_letters 72 = .ok (.if_icmp .ge 36, 3) := by decide +kernel
theorem d_Mo_letters_75 : decode b_Mo_letters 75 = .ok (.aload_n 0, 1) := by decide +kernel
theorem d_Mo_letters_76 : decode b_Mo_letters 76 = .ok (.getfield 23, 3) := by decide +kernel
theorem d_Mo_letters_79 : decode b_Mo_letters 79 = .ok (.iconst 4, 1) := by decide +kernel
theorem d_Mo_letters_80 : decode b_Mo_letters 80 = .ok (.iload_n 2, 1) := by decide +kernel
theorem d_Mo_letters_81 : decode b_Mo_letters 81 = .ok (.imul, 1) := by decide +kernel
theorem d_Mo_letters_82 : decode b_Mo_letters 82 = .ok (.iload_n 3, 1) := by decide +kernel
theorem d_Mo_letters_83 : decode b_Mo_letters 83 = .ok (.iadd, 1) := by decide +kernel
theorem d_Mo_letters_84 : decode b_Mo_letters 84 = .ok (.iload_n 2, 1) := by decide +kernel
theorem d_Mo_letters_85 : decode b_Mo_letters 85 = .ok (.ifCond .ne 15, 3) := by decide +kernel
theorem d_Mo_letters_88 : decode b_Mo_letters 88 = .ok (.iload_n 1, 1) := by decide +kernel
theorem d_Mo_letters_89 : decode b_Mo_letters 89 = .ok (.iload_n 3, 1) := by decide +kernel
theorem d_Mo_letters_90 : decode b_Mo_letters 90 = .ok (.ishr, 1) := by decide +kernel
theorem d_Mo_letters_91 : decode b_Mo_letters 91 = .ok (.iconst 1, 1) := by decide +kernel
theorem d_Mo_letters_92 : decode b_Mo_letters 92 = .ok (.iand, 1) := by decide +kernel
theorem d_Mo_letters_93 : decode b_Mo_letters 93 = .ok (.ifCond .eq 7, 3) := by decide +kernel
theorem d_Mo_letters_96 : decode b_Mo_letters 96 = .ok (.iconst 1, 1) := by decide +kernel
theorem d_Mo_letters_97 : decode b_Mo_letters 97 = .ok (.goto 4, 3) := by decide +kernel
theorem d_Mo_letters_100 : decode b_Mo_letters 100 = .ok (.iconst 2, 1) := by decide +kernel
theorem d_Mo_letters_101 : decode b_Mo_letters 101 = .ok (.iastore, 1) := by decide +kernel
theorem d_Mo_letters_102 : decode b_Mo_letters 102 = .ok (.iinc 3 1, 3) := by decide +kernel
theorem d_Mo_letters_105 : decode b_Mo_letters 105 = .ok (.goto (-35), 3) := by decide +kernel
theorem d_Mo_letters_108 : decode b_Mo_letters 108 = .ok (.iinc 2 1, 3) := by decide +kernel
theorem d_Mo_letters_111 : decode b_Mo_letters 111 = .ok (.goto (-64), 3) := by decide +kernel
theorem d_Mo_letters_114 : decode b_Mo_letters 114 = .ok (.aload_n 0, 1) := by decide +kernel
theorem d_Mo_letters_115 : decode b_Mo_letters 115 = .ok (.invokevirtual 134, 3) := by decide +kernel
theorem d_Mo_letters_118 : decode b_Mo_letters 118 = .ok (.pop, 1) := by decide +kernel
theorem d_Mo_letters_119 : decode b_Mo_letters 119 = .ok (.aload_n 0, 1) := by decide +kernel
theorem d_Mo_letters_120 : decode b_Mo_letters 120 = .ok (.dup, 1) := by decide +kernel
theorem d_Mo_letters_121 : decode b_Mo_letters 121 = .ok (.getfield 88, 3) := by decide +kernel
theorem d_Mo_letters_124 : decode b_Mo_letters 124 = .ok (.dup_x1, 1) := by decide +kernel
theorem d_Mo_letters_125 : decode b_Mo_letters 125 = .ok (.iconst 1, 1) := by decide +kernel
theorem d_Mo_letters_126 : decode b_Mo_letters 126 = .ok (.iadd, 1) := by decide +kernel
theorem d_Mo_letters_127 : decode b_Mo_letters 127 = .ok (.putfield 88, 3) := by decide +kernel
theorem d_Mo_letters_130 : decode b_Mo_letters 130 = .ok (.ireturn, 1) := by decide +kernel
abbrev b_Mo_empty : ByteArray := prog_13_method_17_code
def y_Mo_empty : MethodName := ⟨"RegularSolverModel", "empty", "()I"⟩
abbrev w0_Mo_empty : List Cond := Cond.code y_Mo_empty b_Mo_empty 3 (some .int) :: gW
theorem cd_Mo_empty : Cond.code y_Mo_empty b_Mo_empty 3 (some .int) ∈ gW := gm 960 (by decide +kernel) (by decide +kernel)
theorem d_Mo_empty_0 : decode b_Mo_empty 0 = .ok (.aload_n 0, 1) := by decide +kernel
theorem d_Mo_empty_1 : decode b_Mo_empty 1 = .ok (.iconst 0, 1) := by decide +kernel
theorem d_Mo_empty_2 : decode b_Mo_empty 2 = .ok (.putfield 84, 3) := by decide +kernel
theorem d_Mo_empty_5 : decode b_Mo_empty 5 = .ok (.aload_n 0, 1) := by decide +kernel
theorem d_Mo_empty_6 : decode b_Mo_empty 6 = .ok (.iconst 1, 1) := by decide +kernel
theorem d_Mo_empty_7 : decode b_Mo_empty 7 = .ok (.invokevirtual 130, 3) := by decide +kernel
theorem d_Mo_empty_10 : decode b_Mo_empty 10 = .ok (.ifCond .eq 5, 3) := by decide +kernel
theorem d_Mo_empty_13 : decode b_Mo_empty 13 = .ok (.iconst 0, 1) := by decide +kernel
theorem d_Mo_empty_14 : decode b_Mo_empty 14 = .ok (.ireturn, 1) := by decide +kernel
theorem d_Mo_empty_15 : decode b_Mo_empty 15 = .ok (.aload_n 0, 1) := by decide +kernel
theorem d_Mo_empty_16 : decode b_Mo_empty 16 = .ok (.iconst 2, 1) := by decide +kernel
theorem d_Mo_empty_17 : decode b_Mo_empty 17 = .ok (.putfield 95, 3) := by decide +kernel
theorem d_Mo_empty_20 : decode b_Mo_empty 20 = .ok (.iconst 0, 1) := by decide +kernel
theorem d_Mo_empty_21 : decode b_Mo_empty 21 = .ok (.istore_n 1, 1) := by decide +kernel
theorem d_Mo_empty_22 : decode b_Mo_empty 22 = .ok (.iload_n 1, 1) := by decide +kernel
theorem d_Mo_empty_23 : decode b_Mo_empty 23 = .ok (.iconst 2, 1) := by decide +kernel
theorem d_Mo_empty_24 : decode b_Mo_empty 24 = .ok (.if_icmp .ge 48, 3) := by decide +kernel
theorem d_Mo_empty_27 : decode b_Mo_empty 27 = .ok (.aload_n 0, 1) := by decide +kernel
theorem d_Mo_empty_28 : decode b_Mo_empty 28 = .ok (.getfield 42, 3) := by decide +kernel
theorem d_Mo_empty_31 : decode b_Mo_empty 31 = .ok (.iload_n 1, 1) := by decide +kernel
theorem d_Mo_empty_32 : decode b_Mo_empty 32 = .ok (.iload_n 1, 1) := by decide +kernel
theorem d_Mo_empty_33 : decode b_Mo_empty 33 = .ok (.ifCond .ne 7, 3) := by decide +kernel
theorem d_Mo_empty_36 : decode b_Mo_empty 36 = .ok (.iconst 1, 1) := by decide +kernel
theorem d_Mo_empty_37 : decode b_Mo_empty 37 = .ok (.goto 4, 3) := by decide +kernel
theorem d_Mo_empty_40 : decode b_Mo_empty 40 = .ok (.iconst 0, 1) := by decide +kernel
theorem d_Mo_empty_41 : decode b_Mo_empty 41 = .ok (.bastore, 1) := by decide +kernel
theorem d_Mo_empty_42 : decode b_Mo_empty 42 = .ok (.iconst 0, 1) := by decide +kernel
theorem d_Mo_empty_43 : decode b_Mo_empty 43 = .ok (.istore_n 2, 1) := by decide +kernel
theorem d_Mo_empty_44 : decode b_Mo_empty 44 = .ok (.iload_n 2, 1) := by decide +kernel
theorem d_Mo_empty_45 : decode b_Mo_empty 45 = .ok (.iconst 4, 1) := by decide +kernel
theorem d_Mo_empty_46 : decode b_Mo_empty 46 = .ok (.if_icmp .ge 20, 3) := by decide +kernel
theorem d_Mo_empty_49 : decode b_Mo_empty 49 = .ok (.aload_n 0, 1) := by decide +kernel
theorem d_Mo_empty_50 : decode b_Mo_empty 50 = .ok (.getfield 23, 3) := by decide +kernel
theorem d_Mo_empty_53 : decode b_Mo_empty 53 = .ok (.iconst 4, 1) := by decide +kernel
theorem d_Mo_empty_54 : decode b_Mo_empty 54 = .ok (.iload_n 1, 1) := by decide +kernel
theorem d_Mo_empty_55 : decode b_Mo_empty 55 = .ok (.imul, 1) := by decide +kernel
theorem d_Mo_empty_56 : decode b_Mo_empty 56 = .ok (.iload_n 2, 1) := by decide +kernel
theorem d_Mo_empty_57 : decode b_Mo_empty 57 = .ok (.iadd, 1) := by decide +kernel
theorem d_Mo_empty_58 : decode b_Mo_empty 58 = .ok (.iconst 1, 1) := by decide +kernel
theorem d_Mo_empty_59 : decode b_Mo_empty 59 = .ok (.iastore, 1) := by decide +kernel
theorem d_Mo_empty_60 : decode b_Mo_empty 60 = .ok (.iinc 2 1, 3) := by decide +kernel
theorem d_Mo_empty_63 : decode b_Mo_empty 63 = .ok (.goto (-19), 3) := by decide +kernel
theorem d_Mo_empty_66 : decode b_Mo_empty 66 = .ok (.iinc 1 1, 3) := by decide +kernel
theorem d_Mo_empty_69 : decode b_Mo_empty 69 = .ok (.goto (-47), 3) := by decide +kernel
theorem d_Mo_empty_72 : decode b_Mo_empty 72 = .ok (.aload_n 0, 1) := by decide +kernel
theorem d_Mo_empty_73 : decode b_Mo_empty 73 = .ok (.invokevirtual 134, 3) := by decide +kernel
theorem d_Mo_empty_76 : decode b_Mo_empty 76 = .ok (.pop, 1) := by decide +kernel
theorem d_Mo_empty_77 : decode b_Mo_empty 77 = .ok (.aload_n 0, 1) := by decide +kernel
theorem d_Mo_empty_78 : decode b_Mo_empty 78 = .ok (.dup, 1) := by decide +kernel
theorem d_Mo_empty_79 : decode b_Mo_empty 79 = .ok (.getfield 88, 3) := by decide +kernel
theorem d_Mo_empty_82 : decode b_Mo_empty 82 = .ok (.dup_x1, 1) := by decide +kernel
theorem d_Mo_empty_83 : decode b_Mo_empty 83 = .ok (.iconst 1, 1) := by decide +kernel
theorem d_Mo_empty_84 : decode b_Mo_empty 84 = .ok (.iadd, 1) := by decide +kernel
theorem d_Mo_empty_85 : decode b_Mo_empty 85 = .ok (.putfield 88, 3) := by decide +kernel
theorem d_Mo_empty_88 : decode b_Mo_empty 88 = .ok (.ireturn, 1) := by decide +kernel
abbrev b_Mo_made : ByteArray := prog_13_method_18_code
def y_Mo_made : MethodName := ⟨"RegularSolverModel", "made", "(III)I"⟩
abbrev w0_Mo_made : List Cond := Cond.code y_Mo_made b_Mo_made 4 (some .int) :: gW
theorem cd_Mo_made : Cond.code y_Mo_made b_Mo_made 4 (some .int) ∈ gW := gm 968 (by decide +kernel) (by decide +kernel)
theorem d_Mo_made_0 : decode b_Mo_made 0 = .ok (.aload_n 0, 1) := by decide +kernel
theorem d_Mo_made_1 : decode b_Mo_made 1 = .ok (.iconst 0, 1) := by decide +kernel
theorem d_Mo_made_2 : decode b_Mo_made 2 = .ok (.putfield 84, 3) := by decide +kernel
theorem d_Mo_made_5 : decode b_Mo_made 5 = .ok (.aload_n 0, 1) := by decide +kernel
theorem d_Mo_made_6 : decode b_Mo_made 6 = .ok (.aload_n 0, 1) := by decide +kernel
theorem d_Mo_made_7 : decode b_Mo_made 7 = .ok (.iload_n 2, 1) := by decide +kernel
theorem d_Mo_made_8 : decode b_Mo_made 8 = .ok (.invokevirtual 138, 3) := by decide +kernel
theorem d_Mo_made_11 : decode b_Mo_made 11 = .ok (.ifCond .eq 11, 3) := by decide +kernel
theorem d_Mo_made_14 : decode b_Mo_made 14 = .ok (.aload_n 0, 1) := by decide +kernel
theorem d_Mo_made_15 : decode b_Mo_made 15 = .ok (.iload_n 3, 1) := by decide +kernel
theorem d_Mo_made_16 : decode b_Mo_made 16 = .ok (.invokevirtual 138, 3) := by decide +kernel
theorem d_Mo_made_19 : decode b_Mo_made 19 = .ok (.ifCond .ne 7, 3) := by decide +kernel
theorem d_Mo_made_22 : decode b_Mo_made 22 = .ok (.iconst 1, 1) := by decide +kernel
theorem d_Mo_made_23 : decode b_Mo_made 23 = .ok (.goto 4, 3) := by decide +kernel
theorem d_Mo_made_26 : decode b_Mo_made 26 = .ok (.iconst 0, 1) := by decide +kernel
theorem d_Mo_made_27 : decode b_Mo_made 27 = .ok (.iconst 1, 1) := by decide +kernel
theorem d_Mo_made_28 : decode b_Mo_made 28 = .ok (.invokevirtual 124, 3) := by decide +kernel
theorem d_Mo_made_31 : decode b_Mo_made 31 = .ok (.ifCond .ne 41, 3) := by decide +kernel
theorem d_Mo_made_34 : decode b_Mo_made 34 = .ok (.aload_n 0, 1) := by decide +kernel
theorem d_Mo_made_35 : decode b_Mo_made 35 = .ok (.iconst 2, 1) := by decide +kernel
theorem d_Mo_made_36 : decode b_Mo_made 36 = .ok (.invokevirtual 130, 3) := by decide +kernel
theorem d_Mo_made_39 : decode b_Mo_made 39 = .ok (.ifCond .ne 33, 3) := by decide +kernel
theorem d_Mo_made_42 : decode b_Mo_made 42 = .ok (.aload_n 0, 1) := by decide +kernel
theorem d_Mo_made_43 : decode b_Mo_made 43 = .ok (.aload_n 0, 1) := by decide +kernel
theorem d_Mo_made_44 : decode b_Mo_made 44 = .ok (.iload_n 1, 1) := by decide +kernel
theorem d_Mo_made_45 : decode b_Mo_made 45 = .ok (.iload_n 2, 1) := by decide +kernel
theorem d_Mo_made_46 : decode b_Mo_made 46 = .ok (.iload_n 3, 1) := by decide +kernel
theorem d_Mo_made_47 : decode b_Mo_made 47 = .ok (.invokevirtual 141, 3) := by decide +kernel
theorem d_Mo_made_50 : decode b_Mo_made 50 = .ok (.ifCond .eq 10, 3) := by decide +kernel
theorem d_Mo_made_53 : decode b_Mo_made 53 = .ok (.aload_n 0, 1) := by decide +kernel
theorem d_Mo_made_54 : decode b_Mo_made 54 = .ok (.invokevirtual 134, 3) := by decide +kernel
theorem d_Mo_made_57 : decode b_Mo_made 57 = .ok (.ifCond .ne 7, 3) := by decide +kernel
theorem d_Mo_made_60 : decode b_Mo_made 60 = .ok (.iconst 1, 1) := by decide +kernel
theorem d_Mo_made_61 : decode b_Mo_made 61 = .ok (.goto 4, 3) := by decide +kernel
theorem d_Mo_made_64 : decode b_Mo_made 64 = .ok (.iconst 0, 1) := by decide +kernel
theorem d_Mo_made_65 : decode b_Mo_made 65 = .ok (.iconst 3, 1) := by decide +kernel
theorem d_Mo_made_66 : decode b_Mo_made 66 = .ok (.invokevirtual 124, 3) := by decide +kernel
theorem d_Mo_made_69 : decode b_Mo_made 69 = .ok (.ifCond .eq 5, 3) := by decide +kernel
theorem d_Mo_made_72 : decode b_Mo_made 72 = .ok (.iconst 0, 1) := by decide +kernel
theorem d_Mo_made_73 : decode b_Mo_made 73 = .ok (.ireturn, 1) := by decide +kernel
theorem d_Mo_made_74 : decode b_Mo_made 74 = .ok (.aload_n 0, 1) := by decide +kernel
theorem d_Mo_made_75 : decode b_Mo_made 75 = .ok (.dup, 1) := by decide +kernel
theorem d_Mo_made_76 : decode b_Mo_made 76 = .ok (.getfield 88, 3) := by decide +kernel
theorem d_Mo_made_79 : decode b_Mo_made 79 = .ok (.dup_x1, 1) := by decide +kernel
theorem d_Mo_made_80 : decode b_Mo_made 80 = .ok (.iconst 1, 1) := by decide +kernel
theorem d_Mo_made_81 : decode b_Mo_made 81 = .ok (.iadd, 1) := by decide +kernel
theorem d_Mo_made_82 : decode b_Mo_made 82 = .ok (.putfield 88, 3) := by decide +kernel
theorem d_Mo_made_85 : decode b_Mo_made 85 = .ok (.ireturn, 1) := by decide +kernel
abbrev b_Mo_then : ByteArray := prog_13_method_19_code
def y_Mo_then : MethodName := ⟨"RegularSolverModel", "then", "(II)I"⟩
abbrev w0_Mo_then : List Cond := Cond.code y_Mo_then b_Mo_then 3 (some .int) :: gW
theorem cd_Mo_then : Cond.code y_Mo_then b_Mo_then 3 (some .int) ∈ gW := gm 964 (by decide +kernel) (by decide +kernel)
theorem d_Mo_then_0 : decode b_Mo_then 0 = .ok (.aload_n 0, 1) := by decide +kernel
theorem d_Mo_then_1 : decode b_Mo_then 1 = .ok (.iconst 2, 1) := by decide +kernel
theorem d_Mo_then_2 : decode b_Mo_then 2 = .ok (.iload_n 1, 1) := by decide +kernel
theorem d_Mo_then_3 : decode b_Mo_then 3 = .ok (.iload_n 2, 1) := by decide +kernel
theorem d_Mo_then_4 : decode b_Mo_then 4 = .ok (.invokevirtual 145, 3) := by decide +kernel
theorem d_Mo_then_7 : decode b_Mo_then 7 = .ok (.ireturn, 1) := by decide +kernel
abbrev b_Mo_or : ByteArray := prog_13_method_20_code
def y_Mo_or : MethodName := ⟨"RegularSolverModel", "or", "(II)I"⟩
abbrev w0_Mo_or : List Cond := Cond.code y_Mo_or b_Mo_or 3 (some .int) :: gW
theorem cd_Mo_or : Cond.code y_Mo_or b_Mo_or 3 (some .int) ∈ gW := gm 1004 (by decide +kernel) (by decide +kernel)
theorem d_Mo_or_0 : decode b_Mo_or 0 = .ok (.aload_n 0, 1) := by decide +kernel
theorem d_Mo_or_1 : decode b_Mo_or 1 = .ok (.iconst 0, 1) := by decide +kernel
theorem d_Mo_or_2 : decode b_Mo_or 2 = .ok (.iload_n 1, 1) := by decide +kernel
theorem d_Mo_or_3 : decode b_Mo_or 3 = .ok (.iload_n 2, 1) := by decide +kernel
theorem d_Mo_or_4 : decode b_Mo_or 4 = .ok (.invokevirtual 145, 3) := by decide +kernel
theorem d_Mo_or_7 : decode b_Mo_or 7 = .ok (.ireturn, 1) := by decide +kernel
abbrev b_Mo_and : ByteArray := prog_13_method_21_code
def y_Mo_and : MethodName := ⟨"RegularSolverModel", "and", "(II)I"⟩
abbrev w0_Mo_and : List Cond := Cond.code y_Mo_and b_Mo_and 3 (some .int) :: gW
theorem cd_Mo_and : Cond.code y_Mo_and b_Mo_and 3 (some .int) ∈ gW := gm 1008 (by decide +kernel) (by decide +kernel)
theorem d_Mo_and_0 : decode b_Mo_and 0 = .ok (.aload_n 0, 1) := by decide +kernel
theorem d_Mo_and_1 : decode b_Mo_and 1 = .ok (.iconst 1, 1) := by decide +kernel
theorem d_Mo_and_2 : decode b_Mo_and 2 = .ok (.iload_n 1, 1) := by decide +kernel
theorem d_Mo_and_3 : decode b_Mo_and 3 = .ok (.iload_n 2, 1) := by decide +kernel
theorem d_Mo_and_4 : decode b_Mo_and 4 = .ok (.invokevirtual 145, 3) := by decide +kernel
theorem d_Mo_and_7 : decode b_Mo_and 7 = .ok (.ireturn, 1) := by decide +kernel
abbrev b_Mo_again : ByteArray := prog_13_method_22_code
def y_Mo_again : MethodName := ⟨"RegularSolverModel", "again", "(I)I"⟩
abbrev w0_Mo_again : List Cond := Cond.code y_Mo_again b_Mo_again 2 (some .int) :: gW
theorem cd_Mo_again : Cond.code y_Mo_again b_Mo_again 2 (some .int) ∈ gW := gm 1012 (by decide +kernel) (by decide +kernel)
theorem d_Mo_again_0 : decode b_Mo_again 0 = .ok (.aload_n 0, 1) := by decide +kernel
theorem d_Mo_again_1 : decode b_Mo_again 1 = .ok (.iconst 3, 1) := by decide +kernel
theorem d_Mo_again_2 : decode b_Mo_again 2 = .ok (.iload_n 1, 1) := by decide +kernel
theorem d_Mo_again_3 : decode b_Mo_again 3 = .ok (.iload_n 1, 1) := by decide +kernel
theorem d_Mo_again_4 : decode b_Mo_again 4 = .ok (.invokevirtual 145, 3) := by decide +kernel
theorem d_Mo_again_7 : decode b_Mo_again 7 = .ok (.ireturn, 1) := by decide +kernel
abbrev b_Mo_not : ByteArray := prog_13_method_23_code
def y_Mo_not : MethodName := ⟨"RegularSolverModel", "not", "(I)I"⟩
abbrev w0_Mo_not : List Cond := Cond.code y_Mo_not b_Mo_not 5 (some .int) :: gW
theorem cd_Mo_not : Cond.code y_Mo_not b_Mo_not 5 (some .int) ∈ gW := gm 1016 (by decide +kernel) (by decide +kernel)
theorem d_Mo_not_0 : decode b_Mo_not 0 = .ok (.aload_n 0, 1) := by decide +kernel
theorem d_Mo_not_1 : decode b_Mo_not 1 = .ok (.iconst 0, 1) := by decide +kernel
theorem d_Mo_not_2 : decode b_Mo_not 2 = .ok (.putfield 84, 3) := by decide +kernel
theorem d_Mo_not_5 : decode b_Mo_not 5 = .ok (.aload_n 0, 1) := by decide +kernel
theorem d_Mo_not_6 : decode b_Mo_not 6 = .ok (.aload_n 0, 1) := by decide +kernel
theorem d_Mo_not_7 : decode b_Mo_not 7 = .ok (.iload_n 1, 1) := by decide +kernel
theorem d_Mo_not_8 : decode b_Mo_not 8 = .ok (.invokevirtual 138, 3) := by decide +kernel
theorem d_Mo_not_11 : decode b_Mo_not 11 = .ok (.ifCond .ne 7, 3) := by decide +kernel
theorem d_Mo_not_14 : decode b_Mo_not 14 = .ok (.iconst 1, 1) := by decide +kernel
theorem d_Mo_not_15 : decode b_Mo_not 15 = .ok (.goto 4, 3) := by decide +kernel
theorem d_Mo_not_18 : decode b_Mo_not 18 = .ok (.iconst 0, 1) := by decide +kernel
theorem d_Mo_not_19 : decode b_Mo_not 19 = .ok (.iconst 1, 1) := by decide +kernel
theorem d_Mo_not_20 : decode b_Mo_not 20 = .ok (.invokevirtual 124, 3) := by decide +kernel
theorem d_Mo_not_23 : decode b_Mo_not 23 = .ok (.ifCond .ne 11, 3) := by decide +kernel
theorem d_Mo_not_26 : decode b_Mo_not 26 = .ok (.aload_n 0, 1) := by decide +kernel
theorem d_Mo_not_27 : decode b_Mo_not 27 = .ok (.iconst 2, 1) := by decide +kernel
theorem d_Mo_not_28 : decode b_Mo_not 28 = .ok (.invokevirtual 130, 3) := by decide +kernel
theorem d_Mo_not_31 : decode b_Mo_not 31 = .ok (.ifCond .eq 5, 3) := by decide +kernel
theorem d_Mo_not_34 : decode b_Mo_not 34 = .ok (.iconst 0, 1) := by decide +kernel
theorem d_Mo_not_35 : decode b_Mo_not 35 = .ok (.ireturn, 1) := by decide +kernel
theorem d_Mo_not_36 : decode b_Mo_not 36 = .ok (.aload_n 0, 1) := by decide +kernel
theorem d_Mo_not_37 : decode b_Mo_not 37 = .ok (.getfield 88, 3) := by decide +kernel
theorem d_Mo_not_40 : decode b_Mo_not 40 = .ok (.istore_n 2, 1) := by decide +kernel
theorem d_Mo_not_41 : decode b_Mo_not 41 = .ok (.aload_n 0, 1) := by decide +kernel
theorem d_Mo_not_42 : decode b_Mo_not 42 = .ok (.getfield 9, 3) := by decide +kernel
theorem d_Mo_not_45 : decode b_Mo_not 45 = .ok (.iload_n 2, 1) := by decide +kernel
theorem d_Mo_not_46 : decode b_Mo_not 46 = .ok (.aload_n 0, 1) := by decide +kernel
theorem d_Mo_not_47 : decode b_Mo_not 47 = .ok (.getfield 9, 3) := by decide +kernel
theorem d_Mo_not_50 : decode b_Mo_not 50 = .ok (.iload_n 1, 1) := by decide +kernel
theorem d_Mo_not_51 : decode b_Mo_not 51 = .ok (.iaload, 1) := by decide +kernel
theorem d_Mo_not_52 : decode b_Mo_not 52 = .ok (.iastore, 1) := by decide +kernel
theorem d_Mo_not_53 : decode b_Mo_not 53 = .ok (.iconst 0, 1) := by decide +kernel
theorem d_Mo_not_54 : decode b_Mo_not 54 = .ok (.istore_n 3, 1) := by decide +kernel
theorem d_Mo_not_55 : decode b_Mo_not 55 = .ok (.iload_n 3, 1) := by decide +kernel
theorem d_Mo_not_56 : decode b_Mo_not 56 = .ok (.aload_n 0, 1) := by decide +kernel
theorem d_Mo_not_57 : decode b_Mo_not 57 = .ok (.getfield 9, 3) := by decide +kernel
theorem d_Mo_not_60 : decode b_Mo_not 60 = .ok (.iload_n 1, 1) := by decide +kernel
theorem d_Mo_not_61 : decode b_Mo_not 61 = .ok (.iaload, 1) := by decide +kernel
theorem d_Mo_not_62 : decode b_Mo_not 62 = .ok (.if_icmp .ge 73, 3) := by decide +kernel
theorem d_Mo_not_65 : decode b_Mo_not 65 = .ok (.aload_n 0, 1) := by decide +kernel
theorem d_Mo_not_66 : decode b_Mo_not 66 = .ok (.getfield 16, 3) := by decide +kernel
theorem d_Mo_not_69 : decode b_Mo_not 69 = .ok (.bipush 64, 2) := by decide +kernel
theorem d_Mo_not_71 : decode b_Mo_not 71 = .ok (.iload_n 2, 1) := by decide +kernel
theorem d_Mo_not_72 : decode b_Mo_not 72 = .ok (.imul, 1) := by decide +kernel
theorem d_Mo_not_73 : decode b_Mo_not 73 = .ok (.iload_n 3, 1) := by decide +kernel
theorem d_Mo_not_74 : decode b_Mo_not 74 = .ok (.iadd, 1) := by decide +kernel
theorem d_Mo_not_75 : decode b_Mo_not 75 = .ok (.aload_n 0, 1) := by decide +kernel
theorem d_Mo_not_76 : decode b_Mo_not 76 = .ok (.iload_n 1, 1) := by decide +kernel
theorem d_Mo_not_77 : decode b_Mo_not 77 = .ok (.iload_n 3, 1) := by decide +kernel
theorem d_Mo_not_78 : decode b_Mo_not 78 = .ok (.invokevirtual 102, 3) := by decide +kernel
theorem d_Mo_not_81 : decode b_Mo_not 81 = .ok (.ifCond .ne 7, 3) := by decide +kernel
theorem d_Mo_not_84 : decode b_Mo_not 84 = .ok (.iconst 1, 1) := by decide +kernel
theorem d_Mo_not_85 : decode b_Mo_not 85 = .ok (.goto 4, 3) := by decide +kernel
theorem d_Mo_not_88 : decode b_Mo_not 88 = .ok (.iconst 0, 1) := by decide +kernel
theorem d_Mo_not_89 : decode b_Mo_not 89 = .ok (.bastore, 1) := by decide +kernel
theorem d_Mo_not_90 : decode b_Mo_not 90 = .ok (.iconst 0, 1) := by decide +kernel
theorem d_Mo_not_91 : decode b_Mo_not 91 = .ok (.istore 4, 2) := by decide +kernel
theorem d_Mo_not_93 : decode b_Mo_not 93 = .ok (.iload 4, 2) := by decide +kernel
theorem d_Mo_not_95 : decode b_Mo_not 95 = .ok (.iconst 4, 1) := by decide +kernel
theorem d_Mo_not_96 : decode b_Mo_not 96 = .ok (.if_icmp .ge 33, 3) := by decide +kernel
theorem d_Mo_not_99 : decode b_Mo_not 99 = .ok (.aload_n 0, 1) := by decide +kernel
theorem d_Mo_not_100 : decode b_Mo_not 100 = .ok (.getfield 13, 3) := by decide +kernel
theorem d_Mo_not_103 : decode b_Mo_not 103 = .ok (.iconst 4, 1) := by decide +kernel
theorem d_Mo_not_104 : decode b_Mo_not 104 = .ok (.bipush 64, 2) := by decide +kernel
theorem d_Mo_not_106 : decode b_Mo_not 106 = .ok (.iload_n 2, 1) := by decide +kernel
theorem d_Mo_not_107 : decode b_Mo_not 107 = .ok (.imul, 1) := by decide +kernel
theorem d_Mo_not_108 : decode b_Mo_not 108 = .ok (.iload_n 3, 1) := by decide +kernel
theorem d_Mo_not_109 : decode b_Mo_not 109 = .ok (.iadd, 1) := by decide +kernel
theorem d_Mo_not_110 : decode b_Mo_not 110 = .ok (.imul, 1) := by decide +kernel
theorem d_Mo_not_111 : decode b_Mo_not 111 = .ok (.iload 4, 2) := by decide +kernel
theorem d_Mo_not_113 : decode b_Mo_not 113 = .ok (.iadd, 1) := by decide +kernel
theorem d_Mo_not_114 : decode b_Mo_not 114 = .ok (.aload_n 0, 1) := by decide +kernel
theorem d_Mo_not_115 : decode b_Mo_not 115 = .ok (.iload_n 1, 1) := by decide +kernel
theorem d_Mo_not_116 : decode b_Mo_not 116 = .ok (.iload_n 3, 1) := by decide +kernel
theorem d_Mo_not_117 : decode b_Mo_not 117 = .ok (.iload 4, 2) := by decide +kernel
theorem d_Mo_not_119 : decode b_Mo_not 119 = .ok (.invokevirtual 98, 3) := by decide +kernel
theorem d_Mo_not_122 : decode b_Mo_not 122 = .ok (.iastore, 1) := by decide +kernel
theorem d_Mo_not_123 : decode b_Mo_not 123 = .ok (.iinc 4 1, 3) := by decide +kernel
theorem d_Mo_not_126 : decode b_Mo_not 126 = .ok (.goto (-33), 3) := by decide +kernel
theorem d_Mo_not_129 : decode b_Mo_not 129 = .ok (.iinc 3 1, 3) := by decide +kernel
theorem d_Mo_not_132 : decode b_Mo_not 132 = .ok (.goto (-77), 3) := by decide +kernel
theorem d_Mo_not_135 : decode b_Mo_not 135 = .ok (.aload_n 0, 1) := by decide +kernel
theorem d_Mo_not_136 : decode b_Mo_not 136 = .ok (.dup, 1) := by decide +kernel
theorem d_Mo_not_137 : decode b_Mo_not 137 = .ok (.getfield 88, 3) := by decide +kernel
theorem d_Mo_not_140 : decode b_Mo_not 140 = .ok (.dup_x1, 1) := by decide +kernel
theorem d_Mo_not_141 : decode b_Mo_not 141 = .ok (.iconst 1, 1) := by decide +kernel
theorem d_Mo_not_142 : decode b_Mo_not 142 = .ok (.iadd, 1) := by decide +kernel
theorem d_Mo_not_143 : decode b_Mo_not 143 = .ok (.putfield 88, 3) := by decide +kernel
theorem d_Mo_not_146 : decode b_Mo_not 146 = .ok (.ireturn, 1) := by decide +kernel
theorem ml_Mo_130 : (Cond.methodLink "RegularSolverModel" 130 ({ cls := "RegularSolverModel", name := "full", desc := "(I)Z" } : MethodName)) ∈ gW := gm 945 (by decide +kernel) (by decide +kernel)
theorem im_Mo_full : (Cond.instanceMethod ({ cls := "RegularSolverModel", name := "full", desc := "(I)Z" } : MethodName)) ∈ gW := gm 947 (by decide +kernel) (by decide +kernel)
theorem se_Mo_full : (Cond.selects "RegularSolverModel" ({ cls := "RegularSolverModel", name := "full", desc := "(I)Z" } : MethodName) ({ cls := "RegularSolverModel", name := "full", desc := "(I)Z" } : MethodName)) ∈ gW := gs (by decide +kernel) (by decide +kernel)
theorem ml_Mo_134 : (Cond.methodLink "RegularSolverModel" 134 ({ cls := "RegularSolverModel", name := "lessened", desc := "()Z" } : MethodName)) ∈ gW := gm 949 (by decide +kernel) (by decide +kernel)
theorem im_Mo_lessened : (Cond.instanceMethod ({ cls := "RegularSolverModel", name := "lessened", desc := "()Z" } : MethodName)) ∈ gW := gm 951 (by decide +kernel) (by decide +kernel)
theorem se_Mo_lessened : (Cond.selects "RegularSolverModel" ({ cls := "RegularSolverModel", name := "lessened", desc := "()Z" } : MethodName) ({ cls := "RegularSolverModel", name := "lessened", desc := "()Z" } : MethodName)) ∈ gW := gs (by decide +kernel) (by decide +kernel)
theorem ml_Mo_138 : (Cond.methodLink "RegularSolverModel" 138 ({ cls := "RegularSolverModel", name := "isLanguage", desc := "(I)Z" } : MethodName)) ∈ gW := gm 969 (by decide +kernel) (by decide +kernel)
theorem im_Mo_isLanguage : (Cond.instanceMethod ({ cls := "RegularSolverModel", name := "isLanguage", desc := "(I)Z" } : MethodName)) ∈ gW := gm 971 (by decide +kernel) (by decide +kernel)
theorem se_Mo_isLanguage : (Cond.selects "RegularSolverModel" ({ cls := "RegularSolverModel", name := "isLanguage", desc := "(I)Z" } : MethodName) ({ cls := "RegularSolverModel", name := "isLanguage", desc := "(I)Z" } : MethodName)) ∈ gW := gs (by decide +kernel) (by decide +kernel)
theorem ml_Mo_141 : (Cond.methodLink "RegularSolverModel" 141 ({ cls := "RegularSolverModel", name := "explored", desc := "(III)Z" } : MethodName)) ∈ gW := gm 973 (by decide +kernel) (by decide +kernel)
theorem im_Mo_explored : (Cond.instanceMethod ({ cls := "RegularSolverModel", name := "explored", desc := "(III)Z" } : MethodName)) ∈ gW := gm 975 (by decide +kernel) (by decide +kernel)
theorem se_Mo_explored : (Cond.selects "RegularSolverModel" ({ cls := "RegularSolverModel", name := "explored", desc := "(III)Z" } : MethodName) ({ cls := "RegularSolverModel", name := "explored", desc := "(III)Z" } : MethodName)) ∈ gW := gs (by decide +kernel) (by decide +kernel)
theorem ml_Mo_145 : (Cond.methodLink "RegularSolverModel" 145 ({ cls := "RegularSolverModel", name := "made", desc := "(III)I" } : MethodName)) ∈ gW := gm 965 (by decide +kernel) (by decide +kernel)
theorem im_Mo_made : (Cond.instanceMethod ({ cls := "RegularSolverModel", name := "made", desc := "(III)I" } : MethodName)) ∈ gW := gm 967 (by decide +kernel) (by decide +kernel)
theorem se_Mo_made : (Cond.selects "RegularSolverModel" ({ cls := "RegularSolverModel", name := "made", desc := "(III)I" } : MethodName) ({ cls := "RegularSolverModel", name := "made", desc := "(III)I" } : MethodName)) ∈ gW := gs (by decide +kernel) (by decide +kernel)
section
variable {p : Program} {l : Launch} {e : Env} {R : Room} {s : State} {m : MethodId} {args : Array Value} {below : List Frame} {meth : Method} {c : Code} {H : Heap} {locs : List Loc} {cells slots : Nat} {Q : State → Prop} {A : Nat → Prop} {H0 : Heap}
variable {n : Nat} {D : va_G} {K : Nat → ClassId} {h : Nat} {a : Nat → Nat} {mErr : Int32} {mLanguages : Int32} {mBounds : Int32} {mSize : Nat → Int32} {mGoes : Nat → Int32} {mLast : Nat → Bool} {mLeft : Nat → Int32} {mNext : Nat → Int32} {mGroup : Nat → Int32} {mFresh : Nat → Int32} {mLeader : Nat → Int32} {mNumber : Nat → Int32} {mRight : Nat → Int64} {mEnds : Nat → Bool} {mWay : Int32} {mVariable : Nat → Int32} {mFactor : Nat → Int32} {mLeast : Nat → Int32} {mMost : Nat → Int32} {mLength : Nat → Int32} {mWord : Nat → Int64} {mKept : Bool} {mMany : Nat → Int64} {mMore : Nat → Int64} {mLeads : Nat → Int64} {mMet : Nat → Bool} {mTodo : Nat → Int32} {mMay : Nat → Bool} {mTries : Nat → Int32}
theorem pd_Mo_letters : y_Mo_letters.cls ≠ "java/lang/invoke/MethodHandle" ∧ y_Mo_letters.cls ≠ "java/lang/invoke/VarHandle" ∧ (parseMethodDescriptor y_Mo_letters.desc).map (fun d => d.parameters.length) = some 1 := by decide +kernel
def f_Mo_letters_70 (n : Nat) (v2 : Int32) (v1 : Int32) : Nat → Int32 → (Nat → Int32) → Option (Int32 × (Nat → Int32))
  | 0, _, _ => none
  | k + 1, v3, mNext =>
    if 4 ≤ v3 then
      some (v3, mNext)
    else
      if v2 = 0 then
        if ((v1 >>> (v3 &&& 31)) &&& 1) = 0 then
          ogd (gin ((4 * v2) + v3) 3200) <|
          f_Mo_letters_70 n v2 v1 k (v3 + 1) (upd mNext ((4 * v2) + v3).toNatClampNeg 2)
        else
          ogd (gin ((4 * v2) + v3) 3200) <|
          f_Mo_letters_70 n v2 v1 k (v3 + 1) (upd mNext ((4 * v2) + v3).toNatClampNeg 1)
      else
        ogd (gin ((4 * v2) + v3) 3200) <|
        f_Mo_letters_70 n v2 v1 k (v3 + 1) (upd mNext ((4 * v2) + v3).toNatClampNeg 2)
set_option maxHeartbeats 4000000 in
set_option maxRecDepth 100000 in
theorem w_Mo_letters_70  {v2 : Int32} {v1 : Int32} (hx : p.tables.exec = Jvm.exec) (hb : c.code = b_Mo_letters) (hml : c.maxLocals = 4) (hts : ∀ w ∈ gW, w.before args s = true) (hown : s.vm.findClass "RegularSolverModel" = some m.cls) (hK : va_K D vwCl (tG K) s) (hRf : 2 ≤ R.frames) (hRl : 50 ≤ R.locals) (hRc : cells ≤ R.cells) (hRs : slots ≤ R.slots) (hA : ∀ q, H0.size ≤ q → A q)  {out : Int32 × (Nat → Int32)} (Kx : ∀ (u : Int32 × (Nat → Int32)), out = u → ∀ (ls : Array Slot) (H : Heap) (locs : List Loc), va_P D vwCl (moW K h a mErr mLanguages mBounds mSize mGoes mLast mLeft u.2 mGroup mFresh mLeader mNumber mRight mEnds mWay mVariable mFactor mLeast mMost mLength mWord mKept mMany mMore mLeads mMet mTodo mMay mTries) H → va_D A (moW K h a mErr mLanguages mBounds mSize mGoes mLast mLeft u.2 mGroup mFresh mLeader mNumber mRight mEnds mWay mVariable mFactor mLeast mMost mLength mWord mKept mMany mMore mLeads mMet mTodo mMay mTries) → va_S A H0 H locs → lv_has ls 4 [(2, .int v2), (0, .ref h), (1, .int v1)] → W p l e R s m args below meth c H locs cells slots Q (F0 m 108 ls [])) :
    ∀ (k : Nat) (v3 : Int32) (mNext : Nat → Int32), f_Mo_letters_70 n v2 v1 k v3 mNext = some out → ∀ (ls : Array Slot) (H : Heap) (locs : List Loc), va_P D vwCl (moW K h a mErr mLanguages mBounds mSize mGoes mLast mLeft mNext mGroup mFresh mLeader mNumber mRight mEnds mWay mVariable mFactor mLeast mMost mLength mWord mKept mMany mMore mLeads mMet mTodo mMay mTries) H → va_D A (moW K h a mErr mLanguages mBounds mSize mGoes mLast mLeft mNext mGroup mFresh mLeader mNumber mRight mEnds mWay mVariable mFactor mLeast mMost mLength mWord mKept mMany mMore mLeads mMet mTodo mMay mTries) → va_S A H0 H locs → lv_has ls 4 [(3, .int v3), (2, .int v2), (0, .ref h), (1, .int v1)] → W p l e R s m args below meth c H locs cells slots Q (F0 m 70 ls []) := by
  intro k
  induction k with
  | zero => intro _ _ hf; exact nomatch (show none = some out from hf)
  | succ k ih =>
    intro v3 mNext hf ls H locs hP hD hS hl
    rw [f_Mo_letters_70] at hf
    refine lv_iload_n hx hb d_Mo_letters_70 rfl (lv_at hl 0 rfl) ?_
    refine lv_iconst (v := 4) hx hb d_Mo_letters_71 (by decide) ?_
    refine lv_icmp_ge (tgt := 108) hx hb d_Mo_letters_72 (by decide) (fun c22 => ?_) (fun c22 => ?_)
    · rw [if_pos c22] at hf
      exact Kx _ (Option.some.inj hf).symm _ _ _ hP hD hS (show lv_has ls 4 [(2, .int v2), (0, .ref h), (1, .int v1)] from lv_sub hl [1, 2, 3] rfl)
    · rw [if_neg c22] at hf
      refine lv_aload_n hx hb d_Mo_letters_75 rfl (lv_at hl 2 rfl) ?_
      refine va_get (D := D) (ci := 0) (v := .ref (a 4)) (C := R_Mo) (T := T_Mo) (N := 29) hx hb hts in_Mo hown hK hP 0 rfl rfl 7 (by decide) (hts _ fl_Mo_23) (fun _ h9 => h9) rfl d_Mo_letters_76 ?_
      refine lv_iconst (v := 4) hx hb d_Mo_letters_79 (by decide) ?_
      refine lv_iload_n hx hb d_Mo_letters_80 rfl (lv_at hl 1 rfl) ?_
      refine lv_imul hx hb d_Mo_letters_81 ?_
      refine lv_iload_n hx hb d_Mo_letters_82 rfl (lv_at hl 0 rfl) ?_
      refine lv_iadd hx hb d_Mo_letters_83 ?_
      refine lv_iload_n hx hb d_Mo_letters_84 rfl (lv_at hl 1 rfl) ?_
      refine lv_if_ne (tgt := 100) hx hb d_Mo_letters_85 (by decide) (fun c23 => ?_) (fun c23 => ?_)
      · rw [if_neg c23] at hf
        refine lv_iconst (v := 2) hx hb d_Mo_letters_100 (by decide) ?_
        obtain ⟨g24, hf⟩ := ogi hf
        refine va_iast hx hb hK hP hD hS 5 0 rfl rfl (gin_in g24) d_Mo_letters_101 (fun H locs hP hD hS => ?_)
        have hP : va_P D vwCl (moW K h a mErr mLanguages mBounds mSize mGoes mLast mLeft (upd mNext ((4 * v2) + v3).toNatClampNeg 2) mGroup mFresh mLeader mNumber mRight mEnds mWay mVariable mFactor mLeast mMost mLength mWord mKept mMany mMore mLeads mMet mTodo mMay mTries) H := hP
        have hD : va_D A (moW K h a mErr mLanguages mBounds mSize mGoes mLast mLeft (upd mNext ((4 * v2) + v3).toNatClampNeg 2) mGroup mFresh mLeader mNumber mRight mEnds mWay mVariable mFactor mLeast mMost mLength mWord mKept mMany mMore mLeads mMet mTodo mMay mTries) := hD
        refine lv_iinc (v := v3 + 1) (lv' := [(3, .int (v3 + 1)), (2, .int v2), (0, .ref h), (1, .int v1)]) hx hb d_Mo_letters_102 hl (k := 0) rfl (by first | rfl | (congr 1)) (by decide) rfl (fun ls hl => ?_)
        refine lv_goto (tgt := 70) hx hb d_Mo_letters_105 (by decide) ?_
        exact ih _ _ hf _ _ _ hP hD hS (show lv_has ls 4 [(3, .int (v3 + 1)), (2, .int v2), (0, .ref h), (1, .int v1)] from lv_sub hl [0, 1, 2, 3] rfl)
      · rw [if_pos c23] at hf
        refine lv_iload_n hx hb d_Mo_letters_88 rfl (lv_at hl 3 rfl) ?_
        refine lv_iload_n hx hb d_Mo_letters_89 rfl (lv_at hl 0 rfl) ?_
        refine lv_ishr hx hb d_Mo_letters_90 ?_
        refine lv_iconst (v := 1) hx hb d_Mo_letters_91 (by decide) ?_
        refine lv_iand hx hb d_Mo_letters_92 ?_
        refine lv_if_eq (tgt := 100) hx hb d_Mo_letters_93 (by decide) (fun c25 => ?_) (fun c25 => ?_)
        · rw [if_pos c25] at hf
          refine lv_iconst (v := 2) hx hb d_Mo_letters_100 (by decide) ?_
          obtain ⟨g26, hf⟩ := ogi hf
          refine va_iast hx hb hK hP hD hS 5 0 rfl rfl (gin_in g26) d_Mo_letters_101 (fun H locs hP hD hS => ?_)
          have hP : va_P D vwCl (moW K h a mErr mLanguages mBounds mSize mGoes mLast mLeft (upd mNext ((4 * v2) + v3).toNatClampNeg 2) mGroup mFresh mLeader mNumber mRight mEnds mWay mVariable mFactor mLeast mMost mLength mWord mKept mMany mMore mLeads mMet mTodo mMay mTries) H := hP
          have hD : va_D A (moW K h a mErr mLanguages mBounds mSize mGoes mLast mLeft (upd mNext ((4 * v2) + v3).toNatClampNeg 2) mGroup mFresh mLeader mNumber mRight mEnds mWay mVariable mFactor mLeast mMost mLength mWord mKept mMany mMore mLeads mMet mTodo mMay mTries) := hD
          refine lv_iinc (v := v3 + 1) (lv' := [(3, .int (v3 + 1)), (2, .int v2), (0, .ref h), (1, .int v1)]) hx hb d_Mo_letters_102 hl (k := 0) rfl (by first | rfl | (congr 1)) (by decide) rfl (fun ls hl => ?_)
          refine lv_goto (tgt := 70) hx hb d_Mo_letters_105 (by decide) ?_
          exact ih _ _ hf _ _ _ hP hD hS (show lv_has ls 4 [(3, .int (v3 + 1)), (2, .int v2), (0, .ref h), (1, .int v1)] from lv_sub hl [0, 1, 2, 3] rfl)
        · rw [if_neg c25] at hf
          refine lv_iconst (v := 1) hx hb d_Mo_letters_96 (by decide) ?_
          refine lv_goto (tgt := 101) hx hb d_Mo_letters_97 (by decide) ?_
          obtain ⟨g27, hf⟩ := ogi hf
          refine va_iast hx hb hK hP hD hS 5 0 rfl rfl (gin_in g27) d_Mo_letters_101 (fun H locs hP hD hS => ?_)
          have hP : va_P D vwCl (moW K h a mErr mLanguages mBounds mSize mGoes mLast mLeft (upd mNext ((4 * v2) + v3).toNatClampNeg 1) mGroup mFresh mLeader mNumber mRight mEnds mWay mVariable mFactor mLeast mMost mLength mWord mKept mMany mMore mLeads mMet mTodo mMay mTries) H := hP
          have hD : va_D A (moW K h a mErr mLanguages mBounds mSize mGoes mLast mLeft (upd mNext ((4 * v2) + v3).toNatClampNeg 1) mGroup mFresh mLeader mNumber mRight mEnds mWay mVariable mFactor mLeast mMost mLength mWord mKept mMany mMore mLeads mMet mTodo mMay mTries) := hD
          refine lv_iinc (v := v3 + 1) (lv' := [(3, .int (v3 + 1)), (2, .int v2), (0, .ref h), (1, .int v1)]) hx hb d_Mo_letters_102 hl (k := 0) rfl (by first | rfl | (congr 1)) (by decide) rfl (fun ls hl => ?_)
          refine lv_goto (tgt := 70) hx hb d_Mo_letters_105 (by decide) ?_
          exact ih _ _ hf _ _ _ hP hD hS (show lv_has ls 4 [(3, .int (v3 + 1)), (2, .int v2), (0, .ref h), (1, .int v1)] from lv_sub hl [0, 1, 2, 3] rfl)
def f_Mo_letters_47 (n : Nat) (v1 : Int32) : Nat → Int32 → (Nat → Int32) → (Nat → Bool) → Option (Int32 × (Nat → Int32) × (Nat → Bool))
  | 0, _, _, _ => none
  | k + 1, v2, mNext, mEnds =>
    if 3 ≤ v2 then
      some (v2, mNext, mEnds)
    else
      if v2 = 1 then
        ogd (gin v2 800) <|
        (f_Mo_letters_70 n v2 v1 n 0 mNext).bind fun u30 =>
        f_Mo_letters_47 n v1 k (v2 + 1) u30.2 (va_up mEnds v2.toNatClampNeg true)
      else
        ogd (gin v2 800) <|
        (f_Mo_letters_70 n v2 v1 n 0 mNext).bind fun u28 =>
        f_Mo_letters_47 n v1 k (v2 + 1) u28.2 (va_up mEnds v2.toNatClampNeg false)
set_option maxHeartbeats 4000000 in
set_option maxRecDepth 100000 in
theorem w_Mo_letters_47  {v1 : Int32} (hx : p.tables.exec = Jvm.exec) (hb : c.code = b_Mo_letters) (hml : c.maxLocals = 4) (hts : ∀ w ∈ gW, w.before args s = true) (hown : s.vm.findClass "RegularSolverModel" = some m.cls) (hK : va_K D vwCl (tG K) s) (hRf : 2 ≤ R.frames) (hRl : 50 ≤ R.locals) (hRc : cells ≤ R.cells) (hRs : slots ≤ R.slots) (hA : ∀ q, H0.size ≤ q → A q)  {out : Int32 × (Nat → Int32) × (Nat → Bool)} (Kx : ∀ (u : Int32 × (Nat → Int32) × (Nat → Bool)), out = u → ∀ (ls : Array Slot) (H : Heap) (locs : List Loc), va_P D vwCl (moW K h a mErr mLanguages mBounds mSize mGoes mLast mLeft u.2.1 mGroup mFresh mLeader mNumber mRight u.2.2 mWay mVariable mFactor mLeast mMost mLength mWord mKept mMany mMore mLeads mMet mTodo mMay mTries) H → va_D A (moW K h a mErr mLanguages mBounds mSize mGoes mLast mLeft u.2.1 mGroup mFresh mLeader mNumber mRight u.2.2 mWay mVariable mFactor mLeast mMost mLength mWord mKept mMany mMore mLeads mMet mTodo mMay mTries) → va_S A H0 H locs → lv_has ls 4 [(0, .ref h)] → W p l e R s m args below meth c H locs cells slots Q (F0 m 114 ls [])) :
    ∀ (k : Nat) (v2 : Int32) (mNext : Nat → Int32) (mEnds : Nat → Bool), f_Mo_letters_47 n v1 k v2 mNext mEnds = some out → ∀ (ls : Array Slot) (H : Heap) (locs : List Loc), va_P D vwCl (moW K h a mErr mLanguages mBounds mSize mGoes mLast mLeft mNext mGroup mFresh mLeader mNumber mRight mEnds mWay mVariable mFactor mLeast mMost mLength mWord mKept mMany mMore mLeads mMet mTodo mMay mTries) H → va_D A (moW K h a mErr mLanguages mBounds mSize mGoes mLast mLeft mNext mGroup mFresh mLeader mNumber mRight mEnds mWay mVariable mFactor mLeast mMost mLength mWord mKept mMany mMore mLeads mMet mTodo mMay mTries) → va_S A H0 H locs → lv_has ls 4 [(2, .int v2), (0, .ref h), (1, .int v1)] → W p l e R s m args below meth c H locs cells slots Q (F0 m 47 ls []) := by
  intro k
  induction k with
  | zero => intro _ _ _ hf; exact nomatch (show none = some out from hf)
  | succ k ih =>
    intro v2 mNext mEnds hf ls H locs hP hD hS hl
    rw [f_Mo_letters_47] at hf
    refine lv_iload_n hx hb d_Mo_letters_47 rfl (lv_at hl 0 rfl) ?_
    refine lv_iconst (v := 3) hx hb d_Mo_letters_48 (by decide) ?_
    refine lv_icmp_ge (tgt := 114) hx hb d_Mo_letters_49 (by decide) (fun c19 => ?_) (fun c19 => ?_)
    · rw [if_pos c19] at hf
      exact Kx _ (Option.some.inj hf).symm _ _ _ hP hD hS (show lv_has ls 4 [(0, .ref h)] from lv_sub hl [1] rfl)
    · rw [if_neg c19] at hf
      refine lv_aload_n hx hb d_Mo_letters_52 rfl (lv_at hl 1 rfl) ?_
      refine va_get (D := D) (ci := 0) (v := .ref (a 10)) (C := R_Mo) (T := T_Mo) (N := 29) hx hb hts in_Mo hown hK hP 0 rfl rfl 13 (by decide) (hts _ fl_Mo_42) (fun _ h9 => h9) rfl d_Mo_letters_53 ?_
      refine lv_iload_n hx hb d_Mo_letters_56 rfl (lv_at hl 0 rfl) ?_
      refine lv_iload_n hx hb d_Mo_letters_57 rfl (lv_at hl 0 rfl) ?_
      refine lv_iconst (v := 1) hx hb d_Mo_letters_58 (by decide) ?_
      refine lv_icmp_ne (tgt := 66) hx hb d_Mo_letters_59 (by decide) (fun c20 => ?_) (fun c20 => ?_)
      · rw [if_neg c20] at hf
        refine lv_iconst (v := 0) hx hb d_Mo_letters_66 (by decide) ?_
        obtain ⟨g21, hf⟩ := ogi hf
        refine bz_ast (b := false) hx hb hK hP hD hS 11 2 rfl rfl (gin_in g21) d_Mo_letters_67 (fun H locs hP hD hS => ?_)
        have hP : va_P D vwCl (moW K h a mErr mLanguages mBounds mSize mGoes mLast mLeft mNext mGroup mFresh mLeader mNumber mRight (va_up mEnds v2.toNatClampNeg false) mWay mVariable mFactor mLeast mMost mLength mWord mKept mMany mMore mLeads mMet mTodo mMay mTries) H := hP
        have hD : va_D A (moW K h a mErr mLanguages mBounds mSize mGoes mLast mLeft mNext mGroup mFresh mLeader mNumber mRight (va_up mEnds v2.toNatClampNeg false) mWay mVariable mFactor mLeast mMost mLength mWord mKept mMany mMore mLeads mMet mTodo mMay mTries) := hD
        refine lv_iconst (v := 0) hx hb d_Mo_letters_68 (by decide) ?_
        refine lv_istore_n (lv' := [(3, .int 0), (2, .int v2), (0, .ref h), (1, .int v1)]) hx hb d_Mo_letters_69 rfl hl (by decide) rfl (fun ls hl => ?_)
        obtain ⟨u28, eu28, hf⟩ := obd hf
        refine w_Mo_letters_70 hx hb hml hts hown hK hRf hRl hRc hRs hA  (fun u28q eu ls H locs hP hD hS hl => ?_) _ _ _ eu28 _ _ _ hP hD hS (show lv_has ls 4 [(3, .int 0), (2, .int v2), (0, .ref h), (1, .int v1)] from lv_sub hl [0, 1, 2, 3] rfl)
        subst eu
        refine lv_iinc (v := v2 + 1) (lv' := [(2, .int (v2 + 1)), (0, .ref h), (1, .int v1)]) hx hb d_Mo_letters_108 hl (k := 0) rfl (by first | rfl | (congr 1)) (by decide) rfl (fun ls hl => ?_)
        refine lv_goto (tgt := 47) hx hb d_Mo_letters_111 (by decide) ?_
        exact ih _ _ _ hf _ _ _ hP hD hS (show lv_has ls 4 [(2, .int (v2 + 1)), (0, .ref h), (1, .int v1)] from lv_sub hl [0, 1, 2] rfl)
      · rw [if_pos c20] at hf
        refine lv_iconst (v := 1) hx hb d_Mo_letters_62 (by decide) ?_
        refine lv_goto (tgt := 67) hx hb d_Mo_letters_63 (by decide) ?_
        obtain ⟨g29, hf⟩ := ogi hf
        refine bz_ast (b := true) hx hb hK hP hD hS 11 2 rfl rfl (gin_in g29) d_Mo_letters_67 (fun H locs hP hD hS => ?_)
        have hP : va_P D vwCl (moW K h a mErr mLanguages mBounds mSize mGoes mLast mLeft mNext mGroup mFresh mLeader mNumber mRight (va_up mEnds v2.toNatClampNeg true) mWay mVariable mFactor mLeast mMost mLength mWord mKept mMany mMore mLeads mMet mTodo mMay mTries) H := hP
        have hD : va_D A (moW K h a mErr mLanguages mBounds mSize mGoes mLast mLeft mNext mGroup mFresh mLeader mNumber mRight (va_up mEnds v2.toNatClampNeg true) mWay mVariable mFactor mLeast mMost mLength mWord mKept mMany mMore mLeads mMet mTodo mMay mTries) := hD
        refine lv_iconst (v := 0) hx hb d_Mo_letters_68 (by decide) ?_
        refine lv_istore_n (lv' := [(3, .int 0), (2, .int v2), (0, .ref h), (1, .int v1)]) hx hb d_Mo_letters_69 rfl hl (by decide) rfl (fun ls hl => ?_)
        obtain ⟨u30, eu30, hf⟩ := obd hf
        refine w_Mo_letters_70 hx hb hml hts hown hK hRf hRl hRc hRs hA  (fun u30q eu ls H locs hP hD hS hl => ?_) _ _ _ eu30 _ _ _ hP hD hS (show lv_has ls 4 [(3, .int 0), (2, .int v2), (0, .ref h), (1, .int v1)] from lv_sub hl [0, 1, 2, 3] rfl)
        subst eu
        refine lv_iinc (v := v2 + 1) (lv' := [(2, .int (v2 + 1)), (0, .ref h), (1, .int v1)]) hx hb d_Mo_letters_108 hl (k := 0) rfl (by first | rfl | (congr 1)) (by decide) rfl (fun ls hl => ?_)
        refine lv_goto (tgt := 47) hx hb d_Mo_letters_111 (by decide) ?_
        exact ih _ _ _ hf _ _ _ hP hD hS (show lv_has ls 4 [(2, .int (v2 + 1)), (0, .ref h), (1, .int v1)] from lv_sub hl [0, 1, 2] rfl)
def f_Mo_letters (n : Nat) (p0 : Int32) (mLanguages : Int32) (mSize : Nat → Int32) (mGoes : Nat → Int32) (mLast : Nat → Bool) (mNext : Nat → Int32) (mGroup : Nat → Int32) (mFresh : Nat → Int32) (mLeader : Nat → Int32) (mNumber : Nat → Int32) (mEnds : Nat → Bool) (mWay : Int32) : Option (Int32 × Int32 × Int32 × (Nat → Int32) × (Nat → Int32) × (Nat → Bool) × (Nat → Int32) × (Nat → Int32) × (Nat → Int32) × (Nat → Int32) × (Nat → Int32) × (Nat → Bool) × Int32) :=
  (f_Mo_in n p0.toInt64 0 15).bind fun u1 =>
  if u1 = true then
    (f_Mo_fails n false 1 0).bind fun u3 =>
    if u3.1 = true then
      some (0, u3.2, mLanguages, mSize, mGoes, mLast, mNext, mGroup, mFresh, mLeader, mNumber, mEnds, mWay)
    else
      (f_Mo_full n 2 u3.2 mLanguages).bind fun u5 =>
      if u5.1 = true then
        some (0, u5.2, mLanguages, mSize, mGoes, mLast, mNext, mGroup, mFresh, mLeader, mNumber, mEnds, mWay)
      else
        (f_Mo_letters_47 n p0 n 0 mNext mEnds).bind fun u31 =>
        (f_Mo_lessened n mLanguages mSize mGoes mLast u31.2.1 mGroup mFresh mLeader mNumber u31.2.2 3).bind fun u32 =>
        some (mLanguages, u5.2, mLanguages + 1, u32.2.1, u32.2.2.1, u32.2.2.2.1, u31.2.1, u32.2.2.2.2.1, u32.2.2.2.2.2.1, u32.2.2.2.2.2.2.1, u32.2.2.2.2.2.2.2, u31.2.2, 3)
  else
    (f_Mo_fails n true 1 0).bind fun u33 =>
    if u33.1 = true then
      some (0, u33.2, mLanguages, mSize, mGoes, mLast, mNext, mGroup, mFresh, mLeader, mNumber, mEnds, mWay)
    else
      (f_Mo_full n 2 u33.2 mLanguages).bind fun u35 =>
      if u35.1 = true then
        some (0, u35.2, mLanguages, mSize, mGoes, mLast, mNext, mGroup, mFresh, mLeader, mNumber, mEnds, mWay)
      else
        (f_Mo_letters_47 n p0 n 0 mNext mEnds).bind fun u37 =>
        (f_Mo_lessened n mLanguages mSize mGoes mLast u37.2.1 mGroup mFresh mLeader mNumber u37.2.2 3).bind fun u38 =>
        some (mLanguages, u35.2, mLanguages + 1, u38.2.1, u38.2.2.1, u38.2.2.2.1, u37.2.1, u38.2.2.2.2.1, u38.2.2.2.2.2.1, u38.2.2.2.2.2.2.1, u38.2.2.2.2.2.2.2, u37.2.2, 3)
set_option maxHeartbeats 4000000 in
set_option maxRecDepth 100000 in
theorem w_Mo_letters  {p0 : Int32}  (hx : p.tables.exec = Jvm.exec) (hb : c.code = b_Mo_letters) (hml : c.maxLocals = 4) (hts : ∀ w ∈ gW, w.before args s = true) (hown : s.vm.findClass "RegularSolverModel" = some m.cls) (hK : va_K D vwCl (tG K) s) (hRf : 2 ≤ R.frames) (hRl : 50 ≤ R.locals) (hRc : cells ≤ R.cells) (hRs : slots ≤ R.slots) (hA : ∀ q, H0.size ≤ q → A q) {out : Int32 × Int32 × Int32 × (Nat → Int32) × (Nat → Int32) × (Nat → Bool) × (Nat → Int32) × (Nat → Int32) × (Nat → Int32) × (Nat → Int32) × (Nat → Int32) × (Nat → Bool) × Int32} (Kr : ∀ (r : Int32 × Int32 × Int32 × (Nat → Int32) × (Nat → Int32) × (Nat → Bool) × (Nat → Int32) × (Nat → Int32) × (Nat → Int32) × (Nat → Int32) × (Nat → Int32) × (Nat → Bool) × Int32), out = r → ∀ (pc : Nat) (ls : Array Slot) (H : Heap) (locs : List Loc), decode b_Mo_letters pc = .ok (.ireturn, 1) → va_P D vwCl (moW K h a r.2.1 r.2.2.1 mBounds r.2.2.2.1 r.2.2.2.2.1 r.2.2.2.2.2.1 mLeft r.2.2.2.2.2.2.1 r.2.2.2.2.2.2.2.1 r.2.2.2.2.2.2.2.2.1 r.2.2.2.2.2.2.2.2.2.1 r.2.2.2.2.2.2.2.2.2.2.1 mRight r.2.2.2.2.2.2.2.2.2.2.2.1 r.2.2.2.2.2.2.2.2.2.2.2.2 mVariable mFactor mLeast mMost mLength mWord mKept mMany mMore mLeads mMet mTodo mMay mTries) H → va_D A (moW K h a r.2.1 r.2.2.1 mBounds r.2.2.2.1 r.2.2.2.2.1 r.2.2.2.2.2.1 mLeft r.2.2.2.2.2.2.1 r.2.2.2.2.2.2.2.1 r.2.2.2.2.2.2.2.2.1 r.2.2.2.2.2.2.2.2.2.1 r.2.2.2.2.2.2.2.2.2.2.1 mRight r.2.2.2.2.2.2.2.2.2.2.2.1 r.2.2.2.2.2.2.2.2.2.2.2.2 mVariable mFactor mLeast mMost mLength mWord mKept mMany mMore mLeads mMet mTodo mMay mTries) → va_S A H0 H locs → W p l e R s m args below meth c H locs cells slots Q (F0 m pc ls [.int r.1])) (hf : f_Mo_letters n p0 mLanguages mSize mGoes mLast mNext mGroup mFresh mLeader mNumber mEnds mWay = some out) (ls : Array Slot) (hP : va_P D vwCl (moW K h a mErr mLanguages mBounds mSize mGoes mLast mLeft mNext mGroup mFresh mLeader mNumber mRight mEnds mWay mVariable mFactor mLeast mMost mLength mWord mKept mMany mMore mLeads mMet mTodo mMay mTries) H) (hD : va_D A (moW K h a mErr mLanguages mBounds mSize mGoes mLast mLeft mNext mGroup mFresh mLeader mNumber mRight mEnds mWay mVariable mFactor mLeast mMost mLength mWord mKept mMany mMore mLeads mMet mTodo mMay mTries)) (hS : va_S A H0 H locs) (hl : lv_has ls 4 [(0, .ref h), (1, .int p0)]) : W p l e R s m args below meth c H locs cells slots Q (F0 m 0 ls []) := by
  unfold f_Mo_letters at hf
  refine lv_aload_n hx hb d_Mo_letters_0 rfl (lv_at hl 0 rfl) ?_
  refine lv_iconst (v := 0) hx hb d_Mo_letters_1 (by decide) ?_
  refine va_put (D := D) (ci := 0) (v := .int 0) (ty := .int) (C := R_Mo) (T := T_Mo) (N := 29) hx hb hts in_Mo t_Mo t_Mo_ok n_Mo hown hK hP hD hS 0 rfl rfl 0 (by decide) (hts _ fl_Mo_84) (fun _ h9 => h9) rfl (by decide +kernel) rfl rfl (Nat.le_of_ble_eq_true rfl) d_Mo_letters_2 (fun H locs hP hD hS => ?_)
  have hP : va_P D vwCl (moW K h a 0 mLanguages mBounds mSize mGoes mLast mLeft mNext mGroup mFresh mLeader mNumber mRight mEnds mWay mVariable mFactor mLeast mMost mLength mWord mKept mMany mMore mLeads mMet mTodo mMay mTries) H := hP
  have hD : va_D A (moW K h a 0 mLanguages mBounds mSize mGoes mLast mLeft mNext mGroup mFresh mLeader mNumber mRight mEnds mWay mVariable mFactor mLeast mMost mLength mWord mKept mMany mMore mLeads mMet mTodo mMay mTries) := hD
  refine lv_aload_n hx hb d_Mo_letters_5 rfl (lv_at hl 0 rfl) ?_
  refine lv_iload_n hx hb d_Mo_letters_6 rfl (lv_at hl 1 rfl) ?_
  refine lv_i2l (v := p0.toInt64) hx hb d_Mo_letters_7 rfl ?_
  refine lv_lconst (v := 0) hx hb d_Mo_letters_8 (by decide) ?_
  refine lv_ldc2 (v := 15) hx hb hown (hts (.constantLong "RegularSolverModel" 128 15) (by decide +kernel)) d_Mo_letters_9 ?_
  obtain ⟨u1, eu1, hf⟩ := obd hf
  refine p_call (W.runS (As := [.long p0.toInt64, .long 0, .long 15]) (rest := [.ref h]) ⟨hx, hb, hml, hown, hts⟩ (c_Mo_in l eu1) (gS 3 hts cd_Mo_in ml_Mo_91 st_Mo_in ini_Mo rfl rfl pd_Mo_in ⟨Nat.le_trans (Nat.le_of_ble_eq_true rfl) hRf, Nat.le_trans (Nat.le_of_ble_eq_true rfl) hRl⟩) ⟨pPre_blind, pPre_of hP hK⟩ rfl rfl hl.1 rfl (lv_room (Nat.le_of_ble_eq_true rfl)) d_Mo_letters_12 ⟨hRc, hRs⟩) ?_
  refine bz_ne (tgt := 22) hx hb d_Mo_letters_15 (by decide) (fun c2 => ?_) (fun c2 => ?_)
  · rw [if_pos c2] at hf
    refine lv_iconst (v := 0) hx hb d_Mo_letters_22 (by decide) ?_
    refine lv_iconst (v := 1) hx hb d_Mo_letters_23 (by decide) ?_
    obtain ⟨u3, eu3, hf⟩ := obd hf
    refine w_call (va_runV (As := [.int (bI false), .int 1]) (rest := []) ⟨hx, hb, hml, hown, hts⟩ (c_Mo_fails l H.size eu3) (gV 2 hts cd_Mo_fails ml_Mo_124 im_Mo_fails se_Mo_fails ini_Mo rfl rfl pd_Mo_fails ⟨Nat.le_trans (Nat.le_of_ble_eq_true rfl) hRf, Nat.le_trans (Nat.le_of_ble_eq_true rfl) hRl⟩) ⟨wPre_blind, va_recv hK hP (ci := 0) (q0 := 0) rfl rfl, wPre_of hP hK hD⟩ rfl rfl hl.1 rfl (lv_room (Nat.le_of_ble_eq_true rfl)) d_Mo_letters_24 ⟨hRc, hRs⟩) hD hS hA (fun H locs hP hD hS => ?_)
    have hP : va_P D vwCl (moW K h a u3.2 mLanguages mBounds mSize mGoes mLast mLeft mNext mGroup mFresh mLeader mNumber mRight mEnds mWay mVariable mFactor mLeast mMost mLength mWord mKept mMany mMore mLeads mMet mTodo mMay mTries) H := hP
    have hD : va_D A (moW K h a u3.2 mLanguages mBounds mSize mGoes mLast mLeft mNext mGroup mFresh mLeader mNumber mRight mEnds mWay mVariable mFactor mLeast mMost mLength mWord mKept mMany mMore mLeads mMet mTodo mMay mTries) := hD
    refine bz_ne (tgt := 38) hx hb d_Mo_letters_27 (by decide) (fun c4 => ?_) (fun c4 => ?_)
    · rw [if_pos c4] at hf
      refine lv_iconst (v := 0) hx hb d_Mo_letters_38 (by decide) ?_
      exact Kr _ (Option.some.inj hf).symm _ _ _ _ d_Mo_letters_39 hP hD hS
    · rw [if_neg c4] at hf
      refine lv_aload_n hx hb d_Mo_letters_30 rfl (lv_at hl 0 rfl) ?_
      refine lv_iconst (v := 2) hx hb d_Mo_letters_31 (by decide) ?_
      obtain ⟨u5, eu5, hf⟩ := obd hf
      refine w_call (va_runV (As := [.int 2]) (rest := []) ⟨hx, hb, hml, hown, hts⟩ (c_Mo_full l H.size eu5) (gV 1 hts cd_Mo_full ml_Mo_130 im_Mo_full se_Mo_full ini_Mo rfl rfl pd_Mo_full ⟨Nat.le_trans (Nat.le_of_ble_eq_true rfl) hRf, Nat.le_trans (Nat.le_of_ble_eq_true rfl) hRl⟩) ⟨wPre_blind, va_recv hK hP (ci := 0) (q0 := 0) rfl rfl, wPre_of hP hK hD⟩ rfl rfl hl.1 rfl (lv_room (Nat.le_of_ble_eq_true rfl)) d_Mo_letters_32 ⟨hRc, hRs⟩) hD hS hA (fun H locs hP hD hS => ?_)
      have hP : va_P D vwCl (moW K h a u5.2 mLanguages mBounds mSize mGoes mLast mLeft mNext mGroup mFresh mLeader mNumber mRight mEnds mWay mVariable mFactor mLeast mMost mLength mWord mKept mMany mMore mLeads mMet mTodo mMay mTries) H := hP
      have hD : va_D A (moW K h a u5.2 mLanguages mBounds mSize mGoes mLast mLeft mNext mGroup mFresh mLeader mNumber mRight mEnds mWay mVariable mFactor mLeast mMost mLength mWord mKept mMany mMore mLeads mMet mTodo mMay mTries) := hD
      refine bz_eq (tgt := 40) hx hb d_Mo_letters_35 (by decide) (fun c6 => ?_) (fun c6 => ?_)
      · rw [if_neg c6] at hf
        refine lv_aload_n hx hb d_Mo_letters_40 rfl (lv_at hl 0 rfl) ?_
        refine lv_iconst (v := 3) hx hb d_Mo_letters_41 (by decide) ?_
        refine va_put (D := D) (ci := 0) (v := .int 3) (ty := .int) (C := R_Mo) (T := T_Mo) (N := 29) hx hb hts in_Mo t_Mo t_Mo_ok n_Mo hown hK hP hD hS 0 rfl rfl 14 (by decide) (hts _ fl_Mo_95) (fun _ h9 => h9) rfl (by decide +kernel) rfl rfl (Nat.le_of_ble_eq_true rfl) d_Mo_letters_42 (fun H locs hP hD hS => ?_)
        have hP : va_P D vwCl (moW K h a u5.2 mLanguages mBounds mSize mGoes mLast mLeft mNext mGroup mFresh mLeader mNumber mRight mEnds 3 mVariable mFactor mLeast mMost mLength mWord mKept mMany mMore mLeads mMet mTodo mMay mTries) H := hP
        have hD : va_D A (moW K h a u5.2 mLanguages mBounds mSize mGoes mLast mLeft mNext mGroup mFresh mLeader mNumber mRight mEnds 3 mVariable mFactor mLeast mMost mLength mWord mKept mMany mMore mLeads mMet mTodo mMay mTries) := hD
        refine lv_iconst (v := 0) hx hb d_Mo_letters_45 (by decide) ?_
        refine lv_istore_n (lv' := [(2, .int 0), (0, .ref h), (1, .int p0)]) hx hb d_Mo_letters_46 rfl hl (by decide) rfl (fun ls hl => ?_)
        obtain ⟨u31, eu31, hf⟩ := obd hf
        refine w_Mo_letters_47 hx hb hml hts hown hK hRf hRl hRc hRs hA  (fun u31q eu ls H locs hP hD hS hl => ?_) _ _ _ _ eu31 _ _ _ hP hD hS (show lv_has ls 4 [(2, .int 0), (0, .ref h), (1, .int p0)] from lv_sub hl [0, 1, 2] rfl)
        subst eu
        refine lv_aload_n hx hb d_Mo_letters_114 rfl (lv_at hl 0 rfl) ?_
        obtain ⟨u32, eu32, hf⟩ := obd hf
        refine w_call (va_runV (As := []) (rest := []) ⟨hx, hb, hml, hown, hts⟩ (c_Mo_lessened l H.size eu32) (gV 0 hts cd_Mo_lessened ml_Mo_134 im_Mo_lessened se_Mo_lessened ini_Mo rfl rfl pd_Mo_lessened ⟨Nat.le_trans (Nat.le_of_ble_eq_true rfl) hRf, Nat.le_trans (Nat.le_of_ble_eq_true rfl) hRl⟩) ⟨wPre_blind, va_recv hK hP (ci := 0) (q0 := 0) rfl rfl, wPre_of hP hK hD⟩ rfl rfl hl.1 rfl (lv_room (Nat.le_of_ble_eq_true rfl)) d_Mo_letters_115 ⟨hRc, hRs⟩) hD hS hA (fun H locs hP hD hS => ?_)
        have hP : va_P D vwCl (moW K h a u5.2 mLanguages mBounds u32.2.1 u32.2.2.1 u32.2.2.2.1 mLeft u31.2.1 u32.2.2.2.2.1 u32.2.2.2.2.2.1 u32.2.2.2.2.2.2.1 u32.2.2.2.2.2.2.2 mRight u31.2.2 3 mVariable mFactor mLeast mMost mLength mWord mKept mMany mMore mLeads mMet mTodo mMay mTries) H := hP
        have hD : va_D A (moW K h a u5.2 mLanguages mBounds u32.2.1 u32.2.2.1 u32.2.2.2.1 mLeft u31.2.1 u32.2.2.2.2.1 u32.2.2.2.2.2.1 u32.2.2.2.2.2.2.1 u32.2.2.2.2.2.2.2 mRight u31.2.2 3 mVariable mFactor mLeast mMost mLength mWord mKept mMany mMore mLeads mMet mTodo mMay mTries) := hD
        refine lv_pop hx hb d_Mo_letters_118 rfl ?_
        refine lv_aload_n hx hb d_Mo_letters_119 rfl (lv_at hl 0 rfl) ?_
        refine lv_dup hx hb d_Mo_letters_120 rfl ?_
        refine va_get (D := D) (ci := 0) (v := .int mLanguages) (C := R_Mo) (T := T_Mo) (N := 29) hx hb hts in_Mo hown hK hP 0 rfl rfl 1 (by decide) (hts _ fl_Mo_88) (fun _ h9 => h9) rfl d_Mo_letters_121 ?_
        refine lv_dup_x1 hx hb d_Mo_letters_124 rfl rfl ?_
        refine lv_iconst (v := 1) hx hb d_Mo_letters_125 (by decide) ?_
        refine lv_iadd hx hb d_Mo_letters_126 ?_
        refine va_put (D := D) (ci := 0) (v := .int (mLanguages + 1)) (ty := .int) (C := R_Mo) (T := T_Mo) (N := 29) hx hb hts in_Mo t_Mo t_Mo_ok n_Mo hown hK hP hD hS 0 rfl rfl 1 (by decide) (hts _ fl_Mo_88) (fun _ h9 => h9) rfl (by decide +kernel) rfl rfl (Nat.le_of_ble_eq_true rfl) d_Mo_letters_127 (fun H locs hP hD hS => ?_)
        have hP : va_P D vwCl (moW K h a u5.2 (mLanguages + 1) mBounds u32.2.1 u32.2.2.1 u32.2.2.2.1 mLeft u31.2.1 u32.2.2.2.2.1 u32.2.2.2.2.2.1 u32.2.2.2.2.2.2.1 u32.2.2.2.2.2.2.2 mRight u31.2.2 3 mVariable mFactor mLeast mMost mLength mWord mKept mMany mMore mLeads mMet mTodo mMay mTries) H := hP
        have hD : va_D A (moW K h a u5.2 (mLanguages + 1) mBounds u32.2.1 u32.2.2.1 u32.2.2.2.1 mLeft u31.2.1 u32.2.2.2.2.1 u32.2.2.2.2.2.1 u32.2.2.2.2.2.2.1 u32.2.2.2.2.2.2.2 mRight u31.2.2 3 mVariable mFactor mLeast mMost mLength mWord mKept mMany mMore mLeads mMet mTodo mMay mTries) := hD
        exact Kr _ (Option.some.inj hf).symm _ _ _ _ d_Mo_letters_130 hP hD hS
      · rw [if_pos c6] at hf
        refine lv_iconst (v := 0) hx hb d_Mo_letters_38 (by decide) ?_
        exact Kr _ (Option.some.inj hf).symm _ _ _ _ d_Mo_letters_39 hP hD hS
  · rw [if_neg c2] at hf
    refine lv_iconst (v := 1) hx hb d_Mo_letters_18 (by decide) ?_
    refine lv_goto (tgt := 23) hx hb d_Mo_letters_19 (by decide) ?_
    refine lv_iconst (v := 1) hx hb d_Mo_letters_23 (by decide) ?_
    obtain ⟨u33, eu33, hf⟩ := obd hf
    refine w_call (va_runV (As := [.int (bI true), .int 1]) (rest := []) ⟨hx, hb, hml, hown, hts⟩ (c_Mo_fails l H.size eu33) (gV 2 hts cd_Mo_fails ml_Mo_124 im_Mo_fails se_Mo_fails ini_Mo rfl rfl pd_Mo_fails ⟨Nat.le_trans (Nat.le_of_ble_eq_true rfl) hRf, Nat.le_trans (Nat.le_of_ble_eq_true rfl) hRl⟩) ⟨wPre_blind, va_recv hK hP (ci := 0) (q0 := 0) rfl rfl, wPre_of hP hK hD⟩ rfl rfl hl.1 rfl (lv_room (Nat.le_of_ble_eq_true rfl)) d_Mo_letters_24 ⟨hRc, hRs⟩) hD hS hA (fun H locs hP hD hS => ?_)
    have hP : va_P D vwCl (moW K h a u33.2 mLanguages mBounds mSize mGoes mLast mLeft mNext mGroup mFresh mLeader mNumber mRight mEnds mWay mVariable mFactor mLeast mMost mLength mWord mKept mMany mMore mLeads mMet mTodo mMay mTries) H := hP
    have hD : va_D A (moW K h a u33.2 mLanguages mBounds mSize mGoes mLast mLeft mNext mGroup mFresh mLeader mNumber mRight mEnds mWay mVariable mFactor mLeast mMost mLength mWord mKept mMany mMore mLeads mMet mTodo mMay mTries) := hD
    refine bz_ne (tgt := 38) hx hb d_Mo_letters_27 (by decide) (fun c34 => ?_) (fun c34 => ?_)
    · rw [if_pos c34] at hf
      refine lv_iconst (v := 0) hx hb d_Mo_letters_38 (by decide) ?_
      exact Kr _ (Option.some.inj hf).symm _ _ _ _ d_Mo_letters_39 hP hD hS
    · rw [if_neg c34] at hf
      refine lv_aload_n hx hb d_Mo_letters_30 rfl (lv_at hl 0 rfl) ?_
      refine lv_iconst (v := 2) hx hb d_Mo_letters_31 (by decide) ?_
      obtain ⟨u35, eu35, hf⟩ := obd hf
      refine w_call (va_runV (As := [.int 2]) (rest := []) ⟨hx, hb, hml, hown, hts⟩ (c_Mo_full l H.size eu35) (gV 1 hts cd_Mo_full ml_Mo_130 im_Mo_full se_Mo_full ini_Mo rfl rfl pd_Mo_full ⟨Nat.le_trans (Nat.le_of_ble_eq_true rfl) hRf, Nat.le_trans (Nat.le_of_ble_eq_true rfl) hRl⟩) ⟨wPre_blind, va_recv hK hP (ci := 0) (q0 := 0) rfl rfl, wPre_of hP hK hD⟩ rfl rfl hl.1 rfl (lv_room (Nat.le_of_ble_eq_true rfl)) d_Mo_letters_32 ⟨hRc, hRs⟩) hD hS hA (fun H locs hP hD hS => ?_)
      have hP : va_P D vwCl (moW K h a u35.2 mLanguages mBounds mSize mGoes mLast mLeft mNext mGroup mFresh mLeader mNumber mRight mEnds mWay mVariable mFactor mLeast mMost mLength mWord mKept mMany mMore mLeads mMet mTodo mMay mTries) H := hP
      have hD : va_D A (moW K h a u35.2 mLanguages mBounds mSize mGoes mLast mLeft mNext mGroup mFresh mLeader mNumber mRight mEnds mWay mVariable mFactor mLeast mMost mLength mWord mKept mMany mMore mLeads mMet mTodo mMay mTries) := hD
      refine bz_eq (tgt := 40) hx hb d_Mo_letters_35 (by decide) (fun c36 => ?_) (fun c36 => ?_)
      · rw [if_neg c36] at hf
        refine lv_aload_n hx hb d_Mo_letters_40 rfl (lv_at hl 0 rfl) ?_
        refine lv_iconst (v := 3) hx hb d_Mo_letters_41 (by decide) ?_
        refine va_put (D := D) (ci := 0) (v := .int 3) (ty := .int) (C := R_Mo) (T := T_Mo) (N := 29) hx hb hts in_Mo t_Mo t_Mo_ok n_Mo hown hK hP hD hS 0 rfl rfl 14 (by decide) (hts _ fl_Mo_95) (fun _ h9 => h9) rfl (by decide +kernel) rfl rfl (Nat.le_of_ble_eq_true rfl) d_Mo_letters_42 (fun H locs hP hD hS => ?_)
        have hP : va_P D vwCl (moW K h a u35.2 mLanguages mBounds mSize mGoes mLast mLeft mNext mGroup mFresh mLeader mNumber mRight mEnds 3 mVariable mFactor mLeast mMost mLength mWord mKept mMany mMore mLeads mMet mTodo mMay mTries) H := hP
        have hD : va_D A (moW K h a u35.2 mLanguages mBounds mSize mGoes mLast mLeft mNext mGroup mFresh mLeader mNumber mRight mEnds 3 mVariable mFactor mLeast mMost mLength mWord mKept mMany mMore mLeads mMet mTodo mMay mTries) := hD
        refine lv_iconst (v := 0) hx hb d_Mo_letters_45 (by decide) ?_
        refine lv_istore_n (lv' := [(2, .int 0), (0, .ref h), (1, .int p0)]) hx hb d_Mo_letters_46 rfl hl (by decide) rfl (fun ls hl => ?_)
        obtain ⟨u37, eu37, hf⟩ := obd hf
        refine w_Mo_letters_47 hx hb hml hts hown hK hRf hRl hRc hRs hA  (fun u37q eu ls H locs hP hD hS hl => ?_) _ _ _ _ eu37 _ _ _ hP hD hS (show lv_has ls 4 [(2, .int 0), (0, .ref h), (1, .int p0)] from lv_sub hl [0, 1, 2] rfl)
        subst eu
        refine lv_aload_n hx hb d_Mo_letters_114 rfl (lv_at hl 0 rfl) ?_
        obtain ⟨u38, eu38, hf⟩ := obd hf
        refine w_call (va_runV (As := []) (rest := []) ⟨hx, hb, hml, hown, hts⟩ (c_Mo_lessened l H.size eu38) (gV 0 hts cd_Mo_lessened ml_Mo_134 im_Mo_lessened se_Mo_lessened ini_Mo rfl rfl pd_Mo_lessened ⟨Nat.le_trans (Nat.le_of_ble_eq_true rfl) hRf, Nat.le_trans (Nat.le_of_ble_eq_true rfl) hRl⟩) ⟨wPre_blind, va_recv hK hP (ci := 0) (q0 := 0) rfl rfl, wPre_of hP hK hD⟩ rfl rfl hl.1 rfl (lv_room (Nat.le_of_ble_eq_true rfl)) d_Mo_letters_115 ⟨hRc, hRs⟩) hD hS hA (fun H locs hP hD hS => ?_)
        have hP : va_P D vwCl (moW K h a u35.2 mLanguages mBounds u38.2.1 u38.2.2.1 u38.2.2.2.1 mLeft u37.2.1 u38.2.2.2.2.1 u38.2.2.2.2.2.1 u38.2.2.2.2.2.2.1 u38.2.2.2.2.2.2.2 mRight u37.2.2 3 mVariable mFactor mLeast mMost mLength mWord mKept mMany mMore mLeads mMet mTodo mMay mTries) H := hP
        have hD : va_D A (moW K h a u35.2 mLanguages mBounds u38.2.1 u38.2.2.1 u38.2.2.2.1 mLeft u37.2.1 u38.2.2.2.2.1 u38.2.2.2.2.2.1 u38.2.2.2.2.2.2.1 u38.2.2.2.2.2.2.2 mRight u37.2.2 3 mVariable mFactor mLeast mMost mLength mWord mKept mMany mMore mLeads mMet mTodo mMay mTries) := hD
        refine lv_pop hx hb d_Mo_letters_118 rfl ?_
        refine lv_aload_n hx hb d_Mo_letters_119 rfl (lv_at hl 0 rfl) ?_
        refine lv_dup hx hb d_Mo_letters_120 rfl ?_
        refine va_get (D := D) (ci := 0) (v := .int mLanguages) (C := R_Mo) (T := T_Mo) (N := 29) hx hb hts in_Mo hown hK hP 0 rfl rfl 1 (by decide) (hts _ fl_Mo_88) (fun _ h9 => h9) rfl d_Mo_letters_121 ?_
        refine lv_dup_x1 hx hb d_Mo_letters_124 rfl rfl ?_
        refine lv_iconst (v := 1) hx hb d_Mo_letters_125 (by decide) ?_
        refine lv_iadd hx hb d_Mo_letters_126 ?_
        refine va_put (D := D) (ci := 0) (v := .int (mLanguages + 1)) (ty := .int) (C := R_Mo) (T := T_Mo) (N := 29) hx hb hts in_Mo t_Mo t_Mo_ok n_Mo hown hK hP hD hS 0 rfl rfl 1 (by decide) (hts _ fl_Mo_88) (fun _ h9 => h9) rfl (by decide +kernel) rfl rfl (Nat.le_of_ble_eq_true rfl) d_Mo_letters_127 (fun H locs hP hD hS => ?_)
        have hP : va_P D vwCl (moW K h a u35.2 (mLanguages + 1) mBounds u38.2.1 u38.2.2.1 u38.2.2.2.1 mLeft u37.2.1 u38.2.2.2.2.1 u38.2.2.2.2.2.1 u38.2.2.2.2.2.2.1 u38.2.2.2.2.2.2.2 mRight u37.2.2 3 mVariable mFactor mLeast mMost mLength mWord mKept mMany mMore mLeads mMet mTodo mMay mTries) H := hP
        have hD : va_D A (moW K h a u35.2 (mLanguages + 1) mBounds u38.2.1 u38.2.2.1 u38.2.2.2.1 mLeft u37.2.1 u38.2.2.2.2.1 u38.2.2.2.2.2.1 u38.2.2.2.2.2.2.1 u38.2.2.2.2.2.2.2 mRight u37.2.2 3 mVariable mFactor mLeast mMost mLength mWord mKept mMany mMore mLeads mMet mTodo mMay mTries) := hD
        exact Kr _ (Option.some.inj hf).symm _ _ _ _ d_Mo_letters_130 hP hD hS
      · rw [if_pos c36] at hf
        refine lv_iconst (v := 0) hx hb d_Mo_letters_38 (by decide) ?_
        exact Kr _ (Option.some.inj hf).symm _ _ _ _ d_Mo_letters_39 hP hD hS
set_option maxHeartbeats 4000000 in
set_option maxRecDepth 100000 in
theorem c_Mo_letters (l : Launch)  {p0 : Int32}  {r : Int32 × Int32 × Int32 × (Nat → Int32) × (Nat → Int32) × (Nat → Bool) × (Nat → Int32) × (Nat → Int32) × (Nat → Int32) × (Nat → Int32) × (Nat → Int32) × (Nat → Bool) × Int32} (sz : Nat) (hf : f_Mo_letters n p0 mLanguages mSize mGoes mLast mNext mGroup mFresh mLeader mNumber mEnds mWay = some r) : Met l y_Mo_letters w0_Mo_letters ({ frames := 2, cells := 0, slots := 0, locals := 50 }) (wPre D K [.ref h, .int p0] (moW K h a mErr mLanguages mBounds mSize mGoes mLast mLeft mNext mGroup mFresh mLeader mNumber mRight mEnds mWay mVariable mFactor mLeast mMost mLength mWord mKept mMany mMore mLeads mMet mTodo mMay mTries) sz) (wPost D K (some (.int r.1)) (moW K h a r.2.1 r.2.2.1 mBounds r.2.2.2.1 r.2.2.2.2.1 r.2.2.2.2.2.1 mLeft r.2.2.2.2.2.2.1 r.2.2.2.2.2.2.2.1 r.2.2.2.2.2.2.2.2.1 r.2.2.2.2.2.2.2.2.2.1 r.2.2.2.2.2.2.2.2.2.2.1 mRight r.2.2.2.2.2.2.2.2.2.2.2.1 r.2.2.2.2.2.2.2.2.2.2.2.2 mVariable mFactor mLeast mMost mLength mWord mKept mMany mMore mLeads mMet mTodo mMay mTries) (va_A (moW K h a mErr mLanguages mBounds mSize mGoes mLast mLeft mNext mGroup mFresh mLeader mNumber mRight mEnds mWay mVariable mFactor mLeast mMost mLength mWord mKept mMany mMore mLeads mMet mTodo mMay mTries) sz)) 0 0 (va_A (moW K h a mErr mLanguages mBounds mSize mGoes mLast mLeft mNext mGroup mFresh mLeader mNumber mRight mEnds mWay mVariable mFactor mLeast mMost mLength mWord mKept mMany mMore mLeads mMet mTodo mMay mTries) sz) := by
  refine Met.ofW (cc := b_Mo_letters) (maxL := 4) (ret := (some .int)) (by decide) rfl ?_
  intro p e s m args below meth c s₁ B hml hv
  obtain ⟨rfl, hsz, hP, hK, hD0⟩ := hv
  subst hsz
  have hl := lv_entry [.ref h, .int p0] (n := 4) (Nat.le_of_ble_eq_true rfl)
  rw [lg_entry_eq]
  generalize (lg_sl [.ref h, .int p0] ++ List.replicate (4 - (lg_sl [.ref h, .int p0]).length) Slot.unset).toArray = ls at hl ⊢
  refine w_Mo_letters (A := va_A (moW K h a mErr mLanguages mBounds mSize mGoes mLast mLeft mNext mGroup mFresh mLeader mNumber mRight mEnds mWay mVariable mFactor mLeast mMost mLength mWord mKept mMany mMore mLeads mMet mTodo mMay mTries) s.heap.size) (H0 := s.heap) B.exec B.bytes hml (fun w hw => atoms_spec (ws := w0_Mo_letters) B.pre w (List.mem_cons_of_mem _ hw)) (findClass_of_methodNamed B.named) hK (Nat.le_refl _) (Nat.le_refl _) (Nat.zero_le _) (Nat.zero_le _) (fun q h => Or.inr h) (fun r er pc ls H locs hd hP hD hS => ?_) hf ls hP (hD0.self (sz := s.heap.size)) va_S.rf hl
  subst er
  exact W.iret B.exec B.bytes B.returns (fun t ht hW => ⟨⟨rfl, by rw [ht]; exact hP, va_K.moved hW.alike hK, hD⟩, hS.F ht⟩) hS.2.2 hd (hlocks := B.notSynchronized)
theorem pd_Mo_empty : y_Mo_empty.cls ≠ "java/lang/invoke/MethodHandle" ∧ y_Mo_empty.cls ≠ "java/lang/invoke/VarHandle" ∧ (parseMethodDescriptor y_Mo_empty.desc).map (fun d => d.parameters.length) = some 0 := by decide +kernel
def f_Mo_empty_44 (n : Nat) (v1 : Int32) : Nat → Int32 → (Nat → Int32) → Option (Int32 × (Nat → Int32))
  | 0, _, _ => none
  | k + 1, v2, mNext =>
    if 4 ≤ v2 then
      some (v2, mNext)
    else
      ogd (gin ((4 * v1) + v2) 3200) <|
      f_Mo_empty_44 n v1 k (v2 + 1) (upd mNext ((4 * v1) + v2).toNatClampNeg 1)
set_option maxHeartbeats 4000000 in
set_option maxRecDepth 100000 in
theorem w_Mo_empty_44  {v1 : Int32} (hx : p.tables.exec = Jvm.exec) (hb : c.code = b_Mo_empty) (hml : c.maxLocals = 3) (hts : ∀ w ∈ gW, w.before args s = true) (hown : s.vm.findClass "RegularSolverModel" = some m.cls) (hK : va_K D vwCl (tG K) s) (hRf : 2 ≤ R.frames) (hRl : 50 ≤ R.locals) (hRc : cells ≤ R.cells) (hRs : slots ≤ R.slots) (hA : ∀ q, H0.size ≤ q → A q)  {out : Int32 × (Nat → Int32)} (Kx : ∀ (u : Int32 × (Nat → Int32)), out = u → ∀ (ls : Array Slot) (H : Heap) (locs : List Loc), va_P D vwCl (moW K h a mErr mLanguages mBounds mSize mGoes mLast mLeft u.2 mGroup mFresh mLeader mNumber mRight mEnds mWay mVariable mFactor mLeast mMost mLength mWord mKept mMany mMore mLeads mMet mTodo mMay mTries) H → va_D A (moW K h a mErr mLanguages mBounds mSize mGoes mLast mLeft u.2 mGroup mFresh mLeader mNumber mRight mEnds mWay mVariable mFactor mLeast mMost mLength mWord mKept mMany mMore mLeads mMet mTodo mMay mTries) → va_S A H0 H locs → lv_has ls 3 [(1, .int v1), (0, .ref h)] → W p l e R s m args below meth c H locs cells slots Q (F0 m 66 ls [])) :
    ∀ (k : Nat) (v2 : Int32) (mNext : Nat → Int32), f_Mo_empty_44 n v1 k v2 mNext = some out → ∀ (ls : Array Slot) (H : Heap) (locs : List Loc), va_P D vwCl (moW K h a mErr mLanguages mBounds mSize mGoes mLast mLeft mNext mGroup mFresh mLeader mNumber mRight mEnds mWay mVariable mFactor mLeast mMost mLength mWord mKept mMany mMore mLeads mMet mTodo mMay mTries) H → va_D A (moW K h a mErr mLanguages mBounds mSize mGoes mLast mLeft mNext mGroup mFresh mLeader mNumber mRight mEnds mWay mVariable mFactor mLeast mMost mLength mWord mKept mMany mMore mLeads mMet mTodo mMay mTries) → va_S A H0 H locs → lv_has ls 3 [(2, .int v2), (1, .int v1), (0, .ref h)] → W p l e R s m args below meth c H locs cells slots Q (F0 m 44 ls []) := by
  intro k
  induction k with
  | zero => intro _ _ hf; exact nomatch (show none = some out from hf)
  | succ k ih =>
    intro v2 mNext hf ls H locs hP hD hS hl
    rw [f_Mo_empty_44] at hf
    refine lv_iload_n hx hb d_Mo_empty_44 rfl (lv_at hl 0 rfl) ?_
    refine lv_iconst (v := 4) hx hb d_Mo_empty_45 (by decide) ?_
    refine lv_icmp_ge (tgt := 66) hx hb d_Mo_empty_46 (by decide) (fun c14 => ?_) (fun c14 => ?_)
    · rw [if_pos c14] at hf
      exact Kx _ (Option.some.inj hf).symm _ _ _ hP hD hS (show lv_has ls 3 [(1, .int v1), (0, .ref h)] from lv_sub hl [1, 2] rfl)
    · rw [if_neg c14] at hf
      refine lv_aload_n hx hb d_Mo_empty_49 rfl (lv_at hl 2 rfl) ?_
      refine va_get (D := D) (ci := 0) (v := .ref (a 4)) (C := R_Mo) (T := T_Mo) (N := 29) hx hb hts in_Mo hown hK hP 0 rfl rfl 7 (by decide) (hts _ fl_Mo_23) (fun _ h9 => h9) rfl d_Mo_empty_50 ?_
      refine lv_iconst (v := 4) hx hb d_Mo_empty_53 (by decide) ?_
      refine lv_iload_n hx hb d_Mo_empty_54 rfl (lv_at hl 1 rfl) ?_
      refine lv_imul hx hb d_Mo_empty_55 ?_
      refine lv_iload_n hx hb d_Mo_empty_56 rfl (lv_at hl 0 rfl) ?_
      refine lv_iadd hx hb d_Mo_empty_57 ?_
      refine lv_iconst (v := 1) hx hb d_Mo_empty_58 (by decide) ?_
      obtain ⟨g15, hf⟩ := ogi hf
      refine va_iast hx hb hK hP hD hS 5 0 rfl rfl (gin_in g15) d_Mo_empty_59 (fun H locs hP hD hS => ?_)
      have hP : va_P D vwCl (moW K h a mErr mLanguages mBounds mSize mGoes mLast mLeft (upd mNext ((4 * v1) + v2).toNatClampNeg 1) mGroup mFresh mLeader mNumber mRight mEnds mWay mVariable mFactor mLeast mMost mLength mWord mKept mMany mMore mLeads mMet mTodo mMay mTries) H := hP
      have hD : va_D A (moW K h a mErr mLanguages mBounds mSize mGoes mLast mLeft (upd mNext ((4 * v1) + v2).toNatClampNeg 1) mGroup mFresh mLeader mNumber mRight mEnds mWay mVariable mFactor mLeast mMost mLength mWord mKept mMany mMore mLeads mMet mTodo mMay mTries) := hD
      refine lv_iinc (v := v2 + 1) (lv' := [(2, .int (v2 + 1)), (1, .int v1), (0, .ref h)]) hx hb d_Mo_empty_60 hl (k := 0) rfl (by first | rfl | (congr 1)) (by decide) rfl (fun ls hl => ?_)
      refine lv_goto (tgt := 44) hx hb d_Mo_empty_63 (by decide) ?_
      exact ih _ _ hf _ _ _ hP hD hS (show lv_has ls 3 [(2, .int (v2 + 1)), (1, .int v1), (0, .ref h)] from lv_sub hl [0, 1, 2] rfl)
def f_Mo_empty_22 (n : Nat)  : Nat → Int32 → (Nat → Int32) → (Nat → Bool) → Option (Int32 × (Nat → Int32) × (Nat → Bool))
  | 0, _, _, _ => none
  | k + 1, v1, mNext, mEnds =>
    if 2 ≤ v1 then
      some (v1, mNext, mEnds)
    else
      if v1 = 0 then
        ogd (gin v1 800) <|
        (f_Mo_empty_44 n v1 n 0 mNext).bind fun u18 =>
        f_Mo_empty_22 n  k (v1 + 1) u18.2 (va_up mEnds v1.toNatClampNeg true)
      else
        ogd (gin v1 800) <|
        (f_Mo_empty_44 n v1 n 0 mNext).bind fun u16 =>
        f_Mo_empty_22 n  k (v1 + 1) u16.2 (va_up mEnds v1.toNatClampNeg false)
set_option maxHeartbeats 4000000 in
set_option maxRecDepth 100000 in
theorem w_Mo_empty_22   (hx : p.tables.exec = Jvm.exec) (hb : c.code = b_Mo_empty) (hml : c.maxLocals = 3) (hts : ∀ w ∈ gW, w.before args s = true) (hown : s.vm.findClass "RegularSolverModel" = some m.cls) (hK : va_K D vwCl (tG K) s) (hRf : 2 ≤ R.frames) (hRl : 50 ≤ R.locals) (hRc : cells ≤ R.cells) (hRs : slots ≤ R.slots) (hA : ∀ q, H0.size ≤ q → A q)  {out : Int32 × (Nat → Int32) × (Nat → Bool)} (Kx : ∀ (u : Int32 × (Nat → Int32) × (Nat → Bool)), out = u → ∀ (ls : Array Slot) (H : Heap) (locs : List Loc), va_P D vwCl (moW K h a mErr mLanguages mBounds mSize mGoes mLast mLeft u.2.1 mGroup mFresh mLeader mNumber mRight u.2.2 mWay mVariable mFactor mLeast mMost mLength mWord mKept mMany mMore mLeads mMet mTodo mMay mTries) H → va_D A (moW K h a mErr mLanguages mBounds mSize mGoes mLast mLeft u.2.1 mGroup mFresh mLeader mNumber mRight u.2.2 mWay mVariable mFactor mLeast mMost mLength mWord mKept mMany mMore mLeads mMet mTodo mMay mTries) → va_S A H0 H locs → lv_has ls 3 [(0, .ref h)] → W p l e R s m args below meth c H locs cells slots Q (F0 m 72 ls [])) :
    ∀ (k : Nat) (v1 : Int32) (mNext : Nat → Int32) (mEnds : Nat → Bool), f_Mo_empty_22 n  k v1 mNext mEnds = some out → ∀ (ls : Array Slot) (H : Heap) (locs : List Loc), va_P D vwCl (moW K h a mErr mLanguages mBounds mSize mGoes mLast mLeft mNext mGroup mFresh mLeader mNumber mRight mEnds mWay mVariable mFactor mLeast mMost mLength mWord mKept mMany mMore mLeads mMet mTodo mMay mTries) H → va_D A (moW K h a mErr mLanguages mBounds mSize mGoes mLast mLeft mNext mGroup mFresh mLeader mNumber mRight mEnds mWay mVariable mFactor mLeast mMost mLength mWord mKept mMany mMore mLeads mMet mTodo mMay mTries) → va_S A H0 H locs → lv_has ls 3 [(1, .int v1), (0, .ref h)] → W p l e R s m args below meth c H locs cells slots Q (F0 m 22 ls []) := by
  intro k
  induction k with
  | zero => intro _ _ _ hf; exact nomatch (show none = some out from hf)
  | succ k ih =>
    intro v1 mNext mEnds hf ls H locs hP hD hS hl
    rw [f_Mo_empty_22] at hf
    refine lv_iload_n hx hb d_Mo_empty_22 rfl (lv_at hl 0 rfl) ?_
    refine lv_iconst (v := 2) hx hb d_Mo_empty_23 (by decide) ?_
    refine lv_icmp_ge (tgt := 72) hx hb d_Mo_empty_24 (by decide) (fun c11 => ?_) (fun c11 => ?_)
    · rw [if_pos c11] at hf
      exact Kx _ (Option.some.inj hf).symm _ _ _ hP hD hS (show lv_has ls 3 [(0, .ref h)] from lv_sub hl [1] rfl)
    · rw [if_neg c11] at hf
      refine lv_aload_n hx hb d_Mo_empty_27 rfl (lv_at hl 1 rfl) ?_
      refine va_get (D := D) (ci := 0) (v := .ref (a 10)) (C := R_Mo) (T := T_Mo) (N := 29) hx hb hts in_Mo hown hK hP 0 rfl rfl 13 (by decide) (hts _ fl_Mo_42) (fun _ h9 => h9) rfl d_Mo_empty_28 ?_
      refine lv_iload_n hx hb d_Mo_empty_31 rfl (lv_at hl 0 rfl) ?_
      refine lv_iload_n hx hb d_Mo_empty_32 rfl (lv_at hl 0 rfl) ?_
      refine lv_if_ne (tgt := 40) hx hb d_Mo_empty_33 (by decide) (fun c12 => ?_) (fun c12 => ?_)
      · rw [if_neg c12] at hf
        refine lv_iconst (v := 0) hx hb d_Mo_empty_40 (by decide) ?_
        obtain ⟨g13, hf⟩ := ogi hf
        refine bz_ast (b := false) hx hb hK hP hD hS 11 2 rfl rfl (gin_in g13) d_Mo_empty_41 (fun H locs hP hD hS => ?_)
        have hP : va_P D vwCl (moW K h a mErr mLanguages mBounds mSize mGoes mLast mLeft mNext mGroup mFresh mLeader mNumber mRight (va_up mEnds v1.toNatClampNeg false) mWay mVariable mFactor mLeast mMost mLength mWord mKept mMany mMore mLeads mMet mTodo mMay mTries) H := hP
        have hD : va_D A (moW K h a mErr mLanguages mBounds mSize mGoes mLast mLeft mNext mGroup mFresh mLeader mNumber mRight (va_up mEnds v1.toNatClampNeg false) mWay mVariable mFactor mLeast mMost mLength mWord mKept mMany mMore mLeads mMet mTodo mMay mTries) := hD
        refine lv_iconst (v := 0) hx hb d_Mo_empty_42 (by decide) ?_
        refine lv_istore_n (lv' := [(2, .int 0), (1, .int v1), (0, .ref h)]) hx hb d_Mo_empty_43 rfl hl (by decide) rfl (fun ls hl => ?_)
        obtain ⟨u16, eu16, hf⟩ := obd hf
        refine w_Mo_empty_44 hx hb hml hts hown hK hRf hRl hRc hRs hA  (fun u16q eu ls H locs hP hD hS hl => ?_) _ _ _ eu16 _ _ _ hP hD hS (show lv_has ls 3 [(2, .int 0), (1, .int v1), (0, .ref h)] from lv_sub hl [0, 1, 2] rfl)
        subst eu
        refine lv_iinc (v := v1 + 1) (lv' := [(1, .int (v1 + 1)), (0, .ref h)]) hx hb d_Mo_empty_66 hl (k := 0) rfl (by first | rfl | (congr 1)) (by decide) rfl (fun ls hl => ?_)
        refine lv_goto (tgt := 22) hx hb d_Mo_empty_69 (by decide) ?_
        exact ih _ _ _ hf _ _ _ hP hD hS (show lv_has ls 3 [(1, .int (v1 + 1)), (0, .ref h)] from lv_sub hl [0, 1] rfl)
      · rw [if_pos c12] at hf
        refine lv_iconst (v := 1) hx hb d_Mo_empty_36 (by decide) ?_
        refine lv_goto (tgt := 41) hx hb d_Mo_empty_37 (by decide) ?_
        obtain ⟨g17, hf⟩ := ogi hf
        refine bz_ast (b := true) hx hb hK hP hD hS 11 2 rfl rfl (gin_in g17) d_Mo_empty_41 (fun H locs hP hD hS => ?_)
        have hP : va_P D vwCl (moW K h a mErr mLanguages mBounds mSize mGoes mLast mLeft mNext mGroup mFresh mLeader mNumber mRight (va_up mEnds v1.toNatClampNeg true) mWay mVariable mFactor mLeast mMost mLength mWord mKept mMany mMore mLeads mMet mTodo mMay mTries) H := hP
        have hD : va_D A (moW K h a mErr mLanguages mBounds mSize mGoes mLast mLeft mNext mGroup mFresh mLeader mNumber mRight (va_up mEnds v1.toNatClampNeg true) mWay mVariable mFactor mLeast mMost mLength mWord mKept mMany mMore mLeads mMet mTodo mMay mTries) := hD
        refine lv_iconst (v := 0) hx hb d_Mo_empty_42 (by decide) ?_
        refine lv_istore_n (lv' := [(2, .int 0), (1, .int v1), (0, .ref h)]) hx hb d_Mo_empty_43 rfl hl (by decide) rfl (fun ls hl => ?_)
        obtain ⟨u18, eu18, hf⟩ := obd hf
        refine w_Mo_empty_44 hx hb hml hts hown hK hRf hRl hRc hRs hA  (fun u18q eu ls H locs hP hD hS hl => ?_) _ _ _ eu18 _ _ _ hP hD hS (show lv_has ls 3 [(2, .int 0), (1, .int v1), (0, .ref h)] from lv_sub hl [0, 1, 2] rfl)
        subst eu
        refine lv_iinc (v := v1 + 1) (lv' := [(1, .int (v1 + 1)), (0, .ref h)]) hx hb d_Mo_empty_66 hl (k := 0) rfl (by first | rfl | (congr 1)) (by decide) rfl (fun ls hl => ?_)
        refine lv_goto (tgt := 22) hx hb d_Mo_empty_69 (by decide) ?_
        exact ih _ _ _ hf _ _ _ hP hD hS (show lv_has ls 3 [(1, .int (v1 + 1)), (0, .ref h)] from lv_sub hl [0, 1] rfl)
def f_Mo_empty (n : Nat) (mLanguages : Int32) (mSize : Nat → Int32) (mGoes : Nat → Int32) (mLast : Nat → Bool) (mNext : Nat → Int32) (mGroup : Nat → Int32) (mFresh : Nat → Int32) (mLeader : Nat → Int32) (mNumber : Nat → Int32) (mEnds : Nat → Bool) (mWay : Int32) : Option (Int32 × Int32 × Int32 × (Nat → Int32) × (Nat → Int32) × (Nat → Bool) × (Nat → Int32) × (Nat → Int32) × (Nat → Int32) × (Nat → Int32) × (Nat → Int32) × (Nat → Bool) × Int32) :=
  (f_Mo_full n 1 0 mLanguages).bind fun u1 =>
  if u1.1 = true then
    some (0, u1.2, mLanguages, mSize, mGoes, mLast, mNext, mGroup, mFresh, mLeader, mNumber, mEnds, mWay)
  else
    (f_Mo_empty_22 n  n 0 mNext mEnds).bind fun u19 =>
    (f_Mo_lessened n mLanguages mSize mGoes mLast u19.2.1 mGroup mFresh mLeader mNumber u19.2.2 2).bind fun u20 =>
    some (mLanguages, u1.2, mLanguages + 1, u20.2.1, u20.2.2.1, u20.2.2.2.1, u19.2.1, u20.2.2.2.2.1, u20.2.2.2.2.2.1, u20.2.2.2.2.2.2.1, u20.2.2.2.2.2.2.2, u19.2.2, 2)
set_option maxHeartbeats 4000000 in
set_option maxRecDepth 100000 in
theorem w_Mo_empty    (hx : p.tables.exec = Jvm.exec) (hb : c.code = b_Mo_empty) (hml : c.maxLocals = 3) (hts : ∀ w ∈ gW, w.before args s = true) (hown : s.vm.findClass "RegularSolverModel" = some m.cls) (hK : va_K D vwCl (tG K) s) (hRf : 2 ≤ R.frames) (hRl : 50 ≤ R.locals) (hRc : cells ≤ R.cells) (hRs : slots ≤ R.slots) (hA : ∀ q, H0.size ≤ q → A q) {out : Int32 × Int32 × Int32 × (Nat → Int32) × (Nat → Int32) × (Nat → Bool) × (Nat → Int32) × (Nat → Int32) × (Nat → Int32) × (Nat → Int32) × (Nat → Int32) × (Nat → Bool) × Int32} (Kr : ∀ (r : Int32 × Int32 × Int32 × (Nat → Int32) × (Nat → Int32) × (Nat → Bool) × (Nat → Int32) × (Nat → Int32) × (Nat → Int32) × (Nat → Int32) × (Nat → Int32) × (Nat → Bool) × Int32), out = r → ∀ (pc : Nat) (ls : Array Slot) (H : Heap) (locs : List Loc), decode b_Mo_empty pc = .ok (.ireturn, 1) → va_P D vwCl (moW K h a r.2.1 r.2.2.1 mBounds r.2.2.2.1 r.2.2.2.2.1 r.2.2.2.2.2.1 mLeft r.2.2.2.2.2.2.1 r.2.2.2.2.2.2.2.1 r.2.2.2.2.2.2.2.2.1 r.2.2.2.2.2.2.2.2.2.1 r.2.2.2.2.2.2.2.2.2.2.1 mRight r.2.2.2.2.2.2.2.2.2.2.2.1 r.2.2.2.2.2.2.2.2.2.2.2.2 mVariable mFactor mLeast mMost mLength mWord mKept mMany mMore mLeads mMet mTodo mMay mTries) H → va_D A (moW K h a r.2.1 r.2.2.1 mBounds r.2.2.2.1 r.2.2.2.2.1 r.2.2.2.2.2.1 mLeft r.2.2.2.2.2.2.1 r.2.2.2.2.2.2.2.1 r.2.2.2.2.2.2.2.2.1 r.2.2.2.2.2.2.2.2.2.1 r.2.2.2.2.2.2.2.2.2.2.1 mRight r.2.2.2.2.2.2.2.2.2.2.2.1 r.2.2.2.2.2.2.2.2.2.2.2.2 mVariable mFactor mLeast mMost mLength mWord mKept mMany mMore mLeads mMet mTodo mMay mTries) → va_S A H0 H locs → W p l e R s m args below meth c H locs cells slots Q (F0 m pc ls [.int r.1])) (hf : f_Mo_empty n mLanguages mSize mGoes mLast mNext mGroup mFresh mLeader mNumber mEnds mWay = some out) (ls : Array Slot) (hP : va_P D vwCl (moW K h a mErr mLanguages mBounds mSize mGoes mLast mLeft mNext mGroup mFresh mLeader mNumber mRight mEnds mWay mVariable mFactor mLeast mMost mLength mWord mKept mMany mMore mLeads mMet mTodo mMay mTries) H) (hD : va_D A (moW K h a mErr mLanguages mBounds mSize mGoes mLast mLeft mNext mGroup mFresh mLeader mNumber mRight mEnds mWay mVariable mFactor mLeast mMost mLength mWord mKept mMany mMore mLeads mMet mTodo mMay mTries)) (hS : va_S A H0 H locs) (hl : lv_has ls 3 [(0, .ref h)]) : W p l e R s m args below meth c H locs cells slots Q (F0 m 0 ls []) := by
  unfold f_Mo_empty at hf
  refine lv_aload_n hx hb d_Mo_empty_0 rfl (lv_at hl 0 rfl) ?_
  refine lv_iconst (v := 0) hx hb d_Mo_empty_1 (by decide) ?_
  refine va_put (D := D) (ci := 0) (v := .int 0) (ty := .int) (C := R_Mo) (T := T_Mo) (N := 29) hx hb hts in_Mo t_Mo t_Mo_ok n_Mo hown hK hP hD hS 0 rfl rfl 0 (by decide) (hts _ fl_Mo_84) (fun _ h9 => h9) rfl (by decide +kernel) rfl rfl (Nat.le_of_ble_eq_true rfl) d_Mo_empty_2 (fun H locs hP hD hS => ?_)
  have hP : va_P D vwCl (moW K h a 0 mLanguages mBounds mSize mGoes mLast mLeft mNext mGroup mFresh mLeader mNumber mRight mEnds mWay mVariable mFactor mLeast mMost mLength mWord mKept mMany mMore mLeads mMet mTodo mMay mTries) H := hP
  have hD : va_D A (moW K h a 0 mLanguages mBounds mSize mGoes mLast mLeft mNext mGroup mFresh mLeader mNumber mRight mEnds mWay mVariable mFactor mLeast mMost mLength mWord mKept mMany mMore mLeads mMet mTodo mMay mTries) := hD
  refine lv_aload_n hx hb d_Mo_empty_5 rfl (lv_at hl 0 rfl) ?_
  refine lv_iconst (v := 1) hx hb d_Mo_empty_6 (by decide) ?_
  obtain ⟨u1, eu1, hf⟩ := obd hf
  refine w_call (va_runV (As := [.int 1]) (rest := []) ⟨hx, hb, hml, hown, hts⟩ (c_Mo_full l H.size eu1) (gV 1 hts cd_Mo_full ml_Mo_130 im_Mo_full se_Mo_full ini_Mo rfl rfl pd_Mo_full ⟨Nat.le_trans (Nat.le_of_ble_eq_true rfl) hRf, Nat.le_trans (Nat.le_of_ble_eq_true rfl) hRl⟩) ⟨wPre_blind, va_recv hK hP (ci := 0) (q0 := 0) rfl rfl, wPre_of hP hK hD⟩ rfl rfl hl.1 rfl (lv_room (Nat.le_of_ble_eq_true rfl)) d_Mo_empty_7 ⟨hRc, hRs⟩) hD hS hA (fun H locs hP hD hS => ?_)
  have hP : va_P D vwCl (moW K h a u1.2 mLanguages mBounds mSize mGoes mLast mLeft mNext mGroup mFresh mLeader mNumber mRight mEnds mWay mVariable mFactor mLeast mMost mLength mWord mKept mMany mMore mLeads mMet mTodo mMay mTries) H := hP
  have hD : va_D A (moW K h a u1.2 mLanguages mBounds mSize mGoes mLast mLeft mNext mGroup mFresh mLeader mNumber mRight mEnds mWay mVariable mFactor mLeast mMost mLength mWord mKept mMany mMore mLeads mMet mTodo mMay mTries) := hD
  refine bz_eq (tgt := 15) hx hb d_Mo_empty_10 (by decide) (fun c2 => ?_) (fun c2 => ?_)
  · rw [if_neg c2] at hf
    refine lv_aload_n hx hb d_Mo_empty_15 rfl (lv_at hl 0 rfl) ?_
    refine lv_iconst (v := 2) hx hb d_Mo_empty_16 (by decide) ?_
    refine va_put (D := D) (ci := 0) (v := .int 2) (ty := .int) (C := R_Mo) (T := T_Mo) (N := 29) hx hb hts in_Mo t_Mo t_Mo_ok n_Mo hown hK hP hD hS 0 rfl rfl 14 (by decide) (hts _ fl_Mo_95) (fun _ h9 => h9) rfl (by decide +kernel) rfl rfl (Nat.le_of_ble_eq_true rfl) d_Mo_empty_17 (fun H locs hP hD hS => ?_)
    have hP : va_P D vwCl (moW K h a u1.2 mLanguages mBounds mSize mGoes mLast mLeft mNext mGroup mFresh mLeader mNumber mRight mEnds 2 mVariable mFactor mLeast mMost mLength mWord mKept mMany mMore mLeads mMet mTodo mMay mTries) H := hP
    have hD : va_D A (moW K h a u1.2 mLanguages mBounds mSize mGoes mLast mLeft mNext mGroup mFresh mLeader mNumber mRight mEnds 2 mVariable mFactor mLeast mMost mLength mWord mKept mMany mMore mLeads mMet mTodo mMay mTries) := hD
    refine lv_iconst (v := 0) hx hb d_Mo_empty_20 (by decide) ?_
    refine lv_istore_n (lv' := [(1, .int 0), (0, .ref h)]) hx hb d_Mo_empty_21 rfl hl (by decide) rfl (fun ls hl => ?_)
    obtain ⟨u19, eu19, hf⟩ := obd hf
    refine w_Mo_empty_22 hx hb hml hts hown hK hRf hRl hRc hRs hA  (fun u19q eu ls H locs hP hD hS hl => ?_) _ _ _ _ eu19 _ _ _ hP hD hS (show lv_has ls 3 [(1, .int 0), (0, .ref h)] from lv_sub hl [0, 1] rfl)
    subst eu
    refine lv_aload_n hx hb d_Mo_empty_72 rfl (lv_at hl 0 rfl) ?_
    obtain ⟨u20, eu20, hf⟩ := obd hf
    refine w_call (va_runV (As := []) (rest := []) ⟨hx, hb, hml, hown, hts⟩ (c_Mo_lessened l H.size eu20) (gV 0 hts cd_Mo_lessened ml_Mo_134 im_Mo_lessened se_Mo_lessened ini_Mo rfl rfl pd_Mo_lessened ⟨Nat.le_trans (Nat.le_of_ble_eq_true rfl) hRf, Nat.le_trans (Nat.le_of_ble_eq_true rfl) hRl⟩) ⟨wPre_blind, va_recv hK hP (ci := 0) (q0 := 0) rfl rfl, wPre_of hP hK hD⟩ rfl rfl hl.1 rfl (lv_room (Nat.le_of_ble_eq_true rfl)) d_Mo_empty_73 ⟨hRc, hRs⟩) hD hS hA (fun H locs hP hD hS => ?_)
    have hP : va_P D vwCl (moW K h a u1.2 mLanguages mBounds u20.2.1 u20.2.2.1 u20.2.2.2.1 mLeft u19.2.1 u20.2.2.2.2.1 u20.2.2.2.2.2.1 u20.2.2.2.2.2.2.1 u20.2.2.2.2.2.2.2 mRight u19.2.2 2 mVariable mFactor mLeast mMost mLength mWord mKept mMany mMore mLeads mMet mTodo mMay mTries) H := hP
    have hD : va_D A (moW K h a u1.2 mLanguages mBounds u20.2.1 u20.2.2.1 u20.2.2.2.1 mLeft u19.2.1 u20.2.2.2.2.1 u20.2.2.2.2.2.1 u20.2.2.2.2.2.2.1 u20.2.2.2.2.2.2.2 mRight u19.2.2 2 mVariable mFactor mLeast mMost mLength mWord mKept mMany mMore mLeads mMet mTodo mMay mTries) := hD
    refine lv_pop hx hb d_Mo_empty_76 rfl ?_
    refine lv_aload_n hx hb d_Mo_empty_77 rfl (lv_at hl 0 rfl) ?_
    refine lv_dup hx hb d_Mo_empty_78 rfl ?_
    refine va_get (D := D) (ci := 0) (v := .int mLanguages) (C := R_Mo) (T := T_Mo) (N := 29) hx hb hts in_Mo hown hK hP 0 rfl rfl 1 (by decide) (hts _ fl_Mo_88) (fun _ h9 => h9) rfl d_Mo_empty_79 ?_
    refine lv_dup_x1 hx hb d_Mo_empty_82 rfl rfl ?_
    refine lv_iconst (v := 1) hx hb d_Mo_empty_83 (by decide) ?_
    refine lv_iadd hx hb d_Mo_empty_84 ?_
    refine va_put (D := D) (ci := 0) (v := .int (mLanguages + 1)) (ty := .int) (C := R_Mo) (T := T_Mo) (N := 29) hx hb hts in_Mo t_Mo t_Mo_ok n_Mo hown hK hP hD hS 0 rfl rfl 1 (by decide) (hts _ fl_Mo_88) (fun _ h9 => h9) rfl (by decide +kernel) rfl rfl (Nat.le_of_ble_eq_true rfl) d_Mo_empty_85 (fun H locs hP hD hS => ?_)
    have hP : va_P D vwCl (moW K h a u1.2 (mLanguages + 1) mBounds u20.2.1 u20.2.2.1 u20.2.2.2.1 mLeft u19.2.1 u20.2.2.2.2.1 u20.2.2.2.2.2.1 u20.2.2.2.2.2.2.1 u20.2.2.2.2.2.2.2 mRight u19.2.2 2 mVariable mFactor mLeast mMost mLength mWord mKept mMany mMore mLeads mMet mTodo mMay mTries) H := hP
    have hD : va_D A (moW K h a u1.2 (mLanguages + 1) mBounds u20.2.1 u20.2.2.1 u20.2.2.2.1 mLeft u19.2.1 u20.2.2.2.2.1 u20.2.2.2.2.2.1 u20.2.2.2.2.2.2.1 u20.2.2.2.2.2.2.2 mRight u19.2.2 2 mVariable mFactor mLeast mMost mLength mWord mKept mMany mMore mLeads mMet mTodo mMay mTries) := hD
    exact Kr _ (Option.some.inj hf).symm _ _ _ _ d_Mo_empty_88 hP hD hS
  · rw [if_pos c2] at hf
    refine lv_iconst (v := 0) hx hb d_Mo_empty_13 (by decide) ?_
    exact Kr _ (Option.some.inj hf).symm _ _ _ _ d_Mo_empty_14 hP hD hS
set_option maxHeartbeats 4000000 in
set_option maxRecDepth 100000 in
theorem c_Mo_empty (l : Launch)    {r : Int32 × Int32 × Int32 × (Nat → Int32) × (Nat → Int32) × (Nat → Bool) × (Nat → Int32) × (Nat → Int32) × (Nat → Int32) × (Nat → Int32) × (Nat → Int32) × (Nat → Bool) × Int32} (sz : Nat) (hf : f_Mo_empty n mLanguages mSize mGoes mLast mNext mGroup mFresh mLeader mNumber mEnds mWay = some r) : Met l y_Mo_empty w0_Mo_empty ({ frames := 2, cells := 0, slots := 0, locals := 50 }) (wPre D K [.ref h] (moW K h a mErr mLanguages mBounds mSize mGoes mLast mLeft mNext mGroup mFresh mLeader mNumber mRight mEnds mWay mVariable mFactor mLeast mMost mLength mWord mKept mMany mMore mLeads mMet mTodo mMay mTries) sz) (wPost D K (some (.int r.1)) (moW K h a r.2.1 r.2.2.1 mBounds r.2.2.2.1 r.2.2.2.2.1 r.2.2.2.2.2.1 mLeft r.2.2.2.2.2.2.1 r.2.2.2.2.2.2.2.1 r.2.2.2.2.2.2.2.2.1 r.2.2.2.2.2.2.2.2.2.1 r.2.2.2.2.2.2.2.2.2.2.1 mRight r.2.2.2.2.2.2.2.2.2.2.2.1 r.2.2.2.2.2.2.2.2.2.2.2.2 mVariable mFactor mLeast mMost mLength mWord mKept mMany mMore mLeads mMet mTodo mMay mTries) (va_A (moW K h a mErr mLanguages mBounds mSize mGoes mLast mLeft mNext mGroup mFresh mLeader mNumber mRight mEnds mWay mVariable mFactor mLeast mMost mLength mWord mKept mMany mMore mLeads mMet mTodo mMay mTries) sz)) 0 0 (va_A (moW K h a mErr mLanguages mBounds mSize mGoes mLast mLeft mNext mGroup mFresh mLeader mNumber mRight mEnds mWay mVariable mFactor mLeast mMost mLength mWord mKept mMany mMore mLeads mMet mTodo mMay mTries) sz) := by
  refine Met.ofW (cc := b_Mo_empty) (maxL := 3) (ret := (some .int)) (by decide) rfl ?_
  intro p e s m args below meth c s₁ B hml hv
  obtain ⟨rfl, hsz, hP, hK, hD0⟩ := hv
  subst hsz
  have hl := lv_entry [.ref h] (n := 3) (Nat.le_of_ble_eq_true rfl)
  rw [lg_entry_eq]
  generalize (lg_sl [.ref h] ++ List.replicate (3 - (lg_sl [.ref h]).length) Slot.unset).toArray = ls at hl ⊢
  refine w_Mo_empty (A := va_A (moW K h a mErr mLanguages mBounds mSize mGoes mLast mLeft mNext mGroup mFresh mLeader mNumber mRight mEnds mWay mVariable mFactor mLeast mMost mLength mWord mKept mMany mMore mLeads mMet mTodo mMay mTries) s.heap.size) (H0 := s.heap) B.exec B.bytes hml (fun w hw => atoms_spec (ws := w0_Mo_empty) B.pre w (List.mem_cons_of_mem _ hw)) (findClass_of_methodNamed B.named) hK (Nat.le_refl _) (Nat.le_refl _) (Nat.zero_le _) (Nat.zero_le _) (fun q h => Or.inr h) (fun r er pc ls H locs hd hP hD hS => ?_) hf ls hP (hD0.self (sz := s.heap.size)) va_S.rf hl
  subst er
  exact W.iret B.exec B.bytes B.returns (fun t ht hW => ⟨⟨rfl, by rw [ht]; exact hP, va_K.moved hW.alike hK, hD⟩, hS.F ht⟩) hS.2.2 hd (hlocks := B.notSynchronized)
theorem pd_Mo_made : y_Mo_made.cls ≠ "java/lang/invoke/MethodHandle" ∧ y_Mo_made.cls ≠ "java/lang/invoke/VarHandle" ∧ (parseMethodDescriptor y_Mo_made.desc).map (fun d => d.parameters.length) = some 3 := by decide +kernel
def f_Mo_made (n : Nat) (p0 : Int32) (p1 : Int32) (p2 : Int32) (mLanguages : Int32) (mSize : Nat → Int32) (mGoes : Nat → Int32) (mLast : Nat → Bool) (mLeft : Nat → Int32) (mNext : Nat → Int32) (mGroup : Nat → Int32) (mFresh : Nat → Int32) (mLeader : Nat → Int32) (mNumber : Nat → Int32) (mRight : Nat → Int64) (mEnds : Nat → Bool) (mWay : Int32) : Option (Int32 × Int32 × Int32 × (Nat → Int32) × (Nat → Int32) × (Nat → Bool) × (Nat → Int32) × (Nat → Int32) × (Nat → Int32) × (Nat → Int32) × (Nat → Int32) × (Nat → Int32) × (Nat → Int64) × (Nat → Bool) × Int32) :=
  (f_Mo_isLanguage n p1 mLanguages).bind fun u1 =>
  if u1 = true then
    (f_Mo_isLanguage n p2 mLanguages).bind fun u17 =>
    if u17 = true then
      (f_Mo_fails n false 1 0).bind fun u19 =>
      if u19.1 = true then
        some (0, u19.2, mLanguages, mSize, mGoes, mLast, mLeft, mNext, mGroup, mFresh, mLeader, mNumber, mRight, mEnds, mWay)
      else
        (f_Mo_full n 2 u19.2 mLanguages).bind fun u21 =>
        if u21.1 = true then
          some (0, u21.2, mLanguages, mSize, mGoes, mLast, mLeft, mNext, mGroup, mFresh, mLeader, mNumber, mRight, mEnds, mWay)
        else
          (f_Mo_explored n p0 p1 p2 mSize mGoes mLast mLeft mNext mRight mEnds).bind fun u23 =>
          if u23.1 = true then
            (f_Mo_lessened n mLanguages mSize mGoes mLast u23.2.2.1 mGroup mFresh mLeader mNumber u23.2.2.2.2.1 u23.2.2.2.2.2).bind fun u27 =>
            if u27.1 = true then
              (f_Mo_fails n false 3 u21.2).bind fun u29 =>
              if u29.1 = true then
                some (0, u29.2, mLanguages, u27.2.1, u27.2.2.1, u27.2.2.2.1, u23.2.1, u23.2.2.1, u27.2.2.2.2.1, u27.2.2.2.2.2.1, u27.2.2.2.2.2.2.1, u27.2.2.2.2.2.2.2, u23.2.2.2.1, u23.2.2.2.2.1, u23.2.2.2.2.2)
              else
                some (mLanguages, u29.2, mLanguages + 1, u27.2.1, u27.2.2.1, u27.2.2.2.1, u23.2.1, u23.2.2.1, u27.2.2.2.2.1, u27.2.2.2.2.2.1, u27.2.2.2.2.2.2.1, u27.2.2.2.2.2.2.2, u23.2.2.2.1, u23.2.2.2.2.1, u23.2.2.2.2.2)
            else
              (f_Mo_fails n true 3 u21.2).bind fun u31 =>
              if u31.1 = true then
                some (0, u31.2, mLanguages, u27.2.1, u27.2.2.1, u27.2.2.2.1, u23.2.1, u23.2.2.1, u27.2.2.2.2.1, u27.2.2.2.2.2.1, u27.2.2.2.2.2.2.1, u27.2.2.2.2.2.2.2, u23.2.2.2.1, u23.2.2.2.2.1, u23.2.2.2.2.2)
              else
                some (mLanguages, u31.2, mLanguages + 1, u27.2.1, u27.2.2.1, u27.2.2.2.1, u23.2.1, u23.2.2.1, u27.2.2.2.2.1, u27.2.2.2.2.2.1, u27.2.2.2.2.2.2.1, u27.2.2.2.2.2.2.2, u23.2.2.2.1, u23.2.2.2.2.1, u23.2.2.2.2.2)
          else
            (f_Mo_fails n true 3 u21.2).bind fun u25 =>
            if u25.1 = true then
              some (0, u25.2, mLanguages, mSize, mGoes, mLast, u23.2.1, u23.2.2.1, mGroup, mFresh, mLeader, mNumber, u23.2.2.2.1, u23.2.2.2.2.1, u23.2.2.2.2.2)
            else
              some (mLanguages, u25.2, mLanguages + 1, mSize, mGoes, mLast, u23.2.1, u23.2.2.1, mGroup, mFresh, mLeader, mNumber, u23.2.2.2.1, u23.2.2.2.2.1, u23.2.2.2.2.2)
    else
      (f_Mo_fails n true 1 0).bind fun u33 =>
      if u33.1 = true then
        some (0, u33.2, mLanguages, mSize, mGoes, mLast, mLeft, mNext, mGroup, mFresh, mLeader, mNumber, mRight, mEnds, mWay)
      else
        (f_Mo_full n 2 u33.2 mLanguages).bind fun u35 =>
        if u35.1 = true then
          some (0, u35.2, mLanguages, mSize, mGoes, mLast, mLeft, mNext, mGroup, mFresh, mLeader, mNumber, mRight, mEnds, mWay)
        else
          (f_Mo_explored n p0 p1 p2 mSize mGoes mLast mLeft mNext mRight mEnds).bind fun u37 =>
          if u37.1 = true then
            (f_Mo_lessened n mLanguages mSize mGoes mLast u37.2.2.1 mGroup mFresh mLeader mNumber u37.2.2.2.2.1 u37.2.2.2.2.2).bind fun u41 =>
            if u41.1 = true then
              (f_Mo_fails n false 3 u35.2).bind fun u43 =>
              if u43.1 = true then
                some (0, u43.2, mLanguages, u41.2.1, u41.2.2.1, u41.2.2.2.1, u37.2.1, u37.2.2.1, u41.2.2.2.2.1, u41.2.2.2.2.2.1, u41.2.2.2.2.2.2.1, u41.2.2.2.2.2.2.2, u37.2.2.2.1, u37.2.2.2.2.1, u37.2.2.2.2.2)
              else
                some (mLanguages, u43.2, mLanguages + 1, u41.2.1, u41.2.2.1, u41.2.2.2.1, u37.2.1, u37.2.2.1, u41.2.2.2.2.1, u41.2.2.2.2.2.1, u41.2.2.2.2.2.2.1, u41.2.2.2.2.2.2.2, u37.2.2.2.1, u37.2.2.2.2.1, u37.2.2.2.2.2)
            else
              (f_Mo_fails n true 3 u35.2).bind fun u45 =>
              if u45.1 = true then
                some (0, u45.2, mLanguages, u41.2.1, u41.2.2.1, u41.2.2.2.1, u37.2.1, u37.2.2.1, u41.2.2.2.2.1, u41.2.2.2.2.2.1, u41.2.2.2.2.2.2.1, u41.2.2.2.2.2.2.2, u37.2.2.2.1, u37.2.2.2.2.1, u37.2.2.2.2.2)
              else
                some (mLanguages, u45.2, mLanguages + 1, u41.2.1, u41.2.2.1, u41.2.2.2.1, u37.2.1, u37.2.2.1, u41.2.2.2.2.1, u41.2.2.2.2.2.1, u41.2.2.2.2.2.2.1, u41.2.2.2.2.2.2.2, u37.2.2.2.1, u37.2.2.2.2.1, u37.2.2.2.2.2)
          else
            (f_Mo_fails n true 3 u35.2).bind fun u39 =>
            if u39.1 = true then
              some (0, u39.2, mLanguages, mSize, mGoes, mLast, u37.2.1, u37.2.2.1, mGroup, mFresh, mLeader, mNumber, u37.2.2.2.1, u37.2.2.2.2.1, u37.2.2.2.2.2)
            else
              some (mLanguages, u39.2, mLanguages + 1, mSize, mGoes, mLast, u37.2.1, u37.2.2.1, mGroup, mFresh, mLeader, mNumber, u37.2.2.2.1, u37.2.2.2.2.1, u37.2.2.2.2.2)
  else
    (f_Mo_fails n true 1 0).bind fun u3 =>
    if u3.1 = true then
      some (0, u3.2, mLanguages, mSize, mGoes, mLast, mLeft, mNext, mGroup, mFresh, mLeader, mNumber, mRight, mEnds, mWay)
    else
      (f_Mo_full n 2 u3.2 mLanguages).bind fun u5 =>
      if u5.1 = true then
        some (0, u5.2, mLanguages, mSize, mGoes, mLast, mLeft, mNext, mGroup, mFresh, mLeader, mNumber, mRight, mEnds, mWay)
      else
        (f_Mo_explored n p0 p1 p2 mSize mGoes mLast mLeft mNext mRight mEnds).bind fun u7 =>
        if u7.1 = true then
          (f_Mo_lessened n mLanguages mSize mGoes mLast u7.2.2.1 mGroup mFresh mLeader mNumber u7.2.2.2.2.1 u7.2.2.2.2.2).bind fun u11 =>
          if u11.1 = true then
            (f_Mo_fails n false 3 u5.2).bind fun u13 =>
            if u13.1 = true then
              some (0, u13.2, mLanguages, u11.2.1, u11.2.2.1, u11.2.2.2.1, u7.2.1, u7.2.2.1, u11.2.2.2.2.1, u11.2.2.2.2.2.1, u11.2.2.2.2.2.2.1, u11.2.2.2.2.2.2.2, u7.2.2.2.1, u7.2.2.2.2.1, u7.2.2.2.2.2)
            else
              some (mLanguages, u13.2, mLanguages + 1, u11.2.1, u11.2.2.1, u11.2.2.2.1, u7.2.1, u7.2.2.1, u11.2.2.2.2.1, u11.2.2.2.2.2.1, u11.2.2.2.2.2.2.1, u11.2.2.2.2.2.2.2, u7.2.2.2.1, u7.2.2.2.2.1, u7.2.2.2.2.2)
          else
            (f_Mo_fails n true 3 u5.2).bind fun u15 =>
            if u15.1 = true then
              some (0, u15.2, mLanguages, u11.2.1, u11.2.2.1, u11.2.2.2.1, u7.2.1, u7.2.2.1, u11.2.2.2.2.1, u11.2.2.2.2.2.1, u11.2.2.2.2.2.2.1, u11.2.2.2.2.2.2.2, u7.2.2.2.1, u7.2.2.2.2.1, u7.2.2.2.2.2)
            else
              some (mLanguages, u15.2, mLanguages + 1, u11.2.1, u11.2.2.1, u11.2.2.2.1, u7.2.1, u7.2.2.1, u11.2.2.2.2.1, u11.2.2.2.2.2.1, u11.2.2.2.2.2.2.1, u11.2.2.2.2.2.2.2, u7.2.2.2.1, u7.2.2.2.2.1, u7.2.2.2.2.2)
        else
          (f_Mo_fails n true 3 u5.2).bind fun u9 =>
          if u9.1 = true then
            some (0, u9.2, mLanguages, mSize, mGoes, mLast, u7.2.1, u7.2.2.1, mGroup, mFresh, mLeader, mNumber, u7.2.2.2.1, u7.2.2.2.2.1, u7.2.2.2.2.2)
          else
            some (mLanguages, u9.2, mLanguages + 1, mSize, mGoes, mLast, u7.2.1, u7.2.2.1, mGroup, mFresh, mLeader, mNumber, u7.2.2.2.1, u7.2.2.2.2.1, u7.2.2.2.2.2)
set_option maxHeartbeats 4000000 in
set_option maxRecDepth 100000 in
theorem w_Mo_made  {p0 : Int32} {p1 : Int32} {p2 : Int32}  (hx : p.tables.exec = Jvm.exec) (hb : c.code = b_Mo_made) (hml : c.maxLocals = 4) (hts : ∀ w ∈ gW, w.before args s = true) (hown : s.vm.findClass "RegularSolverModel" = some m.cls) (hK : va_K D vwCl (tG K) s) (hRf : 4 ≤ R.frames) (hRl : 104 ≤ R.locals) (hRc : cells ≤ R.cells) (hRs : slots ≤ R.slots) (hA : ∀ q, H0.size ≤ q → A q) {out : Int32 × Int32 × Int32 × (Nat → Int32) × (Nat → Int32) × (Nat → Bool) × (Nat → Int32) × (Nat → Int32) × (Nat → Int32) × (Nat → Int32) × (Nat → Int32) × (Nat → Int32) × (Nat → Int64) × (Nat → Bool) × Int32} (Kr : ∀ (r : Int32 × Int32 × Int32 × (Nat → Int32) × (Nat → Int32) × (Nat → Bool) × (Nat → Int32) × (Nat → Int32) × (Nat → Int32) × (Nat → Int32) × (Nat → Int32) × (Nat → Int32) × (Nat → Int64) × (Nat → Bool) × Int32), out = r → ∀ (pc : Nat) (ls : Array Slot) (H : Heap) (locs : List Loc), decode b_Mo_made pc = .ok (.ireturn, 1) → va_P D vwCl (moW K h a r.2.1 r.2.2.1 mBounds r.2.2.2.1 r.2.2.2.2.1 r.2.2.2.2.2.1 r.2.2.2.2.2.2.1 r.2.2.2.2.2.2.2.1 r.2.2.2.2.2.2.2.2.1 r.2.2.2.2.2.2.2.2.2.1 r.2.2.2.2.2.2.2.2.2.2.1 r.2.2.2.2.2.2.2.2.2.2.2.1 r.2.2.2.2.2.2.2.2.2.2.2.2.1 r.2.2.2.2.2.2.2.2.2.2.2.2.2.1 r.2.2.2.2.2.2.2.2.2.2.2.2.2.2 mVariable mFactor mLeast mMost mLength mWord mKept mMany mMore mLeads mMet mTodo mMay mTries) H → va_D A (moW K h a r.2.1 r.2.2.1 mBounds r.2.2.2.1 r.2.2.2.2.1 r.2.2.2.2.2.1 r.2.2.2.2.2.2.1 r.2.2.2.2.2.2.2.1 r.2.2.2.2.2.2.2.2.1 r.2.2.2.2.2.2.2.2.2.1 r.2.2.2.2.2.2.2.2.2.2.1 r.2.2.2.2.2.2.2.2.2.2.2.1 r.2.2.2.2.2.2.2.2.2.2.2.2.1 r.2.2.2.2.2.2.2.2.2.2.2.2.2.1 r.2.2.2.2.2.2.2.2.2.2.2.2.2.2 mVariable mFactor mLeast mMost mLength mWord mKept mMany mMore mLeads mMet mTodo mMay mTries) → va_S A H0 H locs → W p l e R s m args below meth c H locs cells slots Q (F0 m pc ls [.int r.1])) (hf : f_Mo_made n p0 p1 p2 mLanguages mSize mGoes mLast mLeft mNext mGroup mFresh mLeader mNumber mRight mEnds mWay = some out) (ls : Array Slot) (hP : va_P D vwCl (moW K h a mErr mLanguages mBounds mSize mGoes mLast mLeft mNext mGroup mFresh mLeader mNumber mRight mEnds mWay mVariable mFactor mLeast mMost mLength mWord mKept mMany mMore mLeads mMet mTodo mMay mTries) H) (hD : va_D A (moW K h a mErr mLanguages mBounds mSize mGoes mLast mLeft mNext mGroup mFresh mLeader mNumber mRight mEnds mWay mVariable mFactor mLeast mMost mLength mWord mKept mMany mMore mLeads mMet mTodo mMay mTries)) (hS : va_S A H0 H locs) (hl : lv_has ls 4 [(0, .ref h), (1, .int p0), (2, .int p1), (3, .int p2)]) : W p l e R s m args below meth c H locs cells slots Q (F0 m 0 ls []) := by
  unfold f_Mo_made at hf
  refine lv_aload_n hx hb d_Mo_made_0 rfl (lv_at hl 0 rfl) ?_
  refine lv_iconst (v := 0) hx hb d_Mo_made_1 (by decide) ?_
  refine va_put (D := D) (ci := 0) (v := .int 0) (ty := .int) (C := R_Mo) (T := T_Mo) (N := 29) hx hb hts in_Mo t_Mo t_Mo_ok n_Mo hown hK hP hD hS 0 rfl rfl 0 (by decide) (hts _ fl_Mo_84) (fun _ h9 => h9) rfl (by decide +kernel) rfl rfl (Nat.le_of_ble_eq_true rfl) d_Mo_made_2 (fun H locs hP hD hS => ?_)
  have hP : va_P D vwCl (moW K h a 0 mLanguages mBounds mSize mGoes mLast mLeft mNext mGroup mFresh mLeader mNumber mRight mEnds mWay mVariable mFactor mLeast mMost mLength mWord mKept mMany mMore mLeads mMet mTodo mMay mTries) H := hP
  have hD : va_D A (moW K h a 0 mLanguages mBounds mSize mGoes mLast mLeft mNext mGroup mFresh mLeader mNumber mRight mEnds mWay mVariable mFactor mLeast mMost mLength mWord mKept mMany mMore mLeads mMet mTodo mMay mTries) := hD
  refine lv_aload_n hx hb d_Mo_made_5 rfl (lv_at hl 0 rfl) ?_
  refine lv_aload_n hx hb d_Mo_made_6 rfl (lv_at hl 0 rfl) ?_
  refine lv_iload_n hx hb d_Mo_made_7 rfl (lv_at hl 2 rfl) ?_
  obtain ⟨u1, eu1, hf⟩ := obd hf
  refine p_call (W.runV (As := [.int p1]) (rest := [.ref h]) ⟨hx, hb, hml, hown, hts⟩ (c_Mo_isLanguage l eu1) (gV 1 hts cd_Mo_isLanguage ml_Mo_138 im_Mo_isLanguage se_Mo_isLanguage ini_Mo rfl rfl pd_Mo_isLanguage ⟨Nat.le_trans (Nat.le_of_ble_eq_true rfl) hRf, Nat.le_trans (Nat.le_of_ble_eq_true rfl) hRl⟩) ⟨pPre_blind, va_recv hK hP (ci := 0) (q0 := 0) rfl rfl, pPre_of hP hK⟩ rfl rfl hl.1 rfl (lv_room (Nat.le_of_ble_eq_true rfl)) d_Mo_made_8 ⟨hRc, hRs⟩) ?_
  refine bz_eq (tgt := 22) hx hb d_Mo_made_11 (by decide) (fun c2 => ?_) (fun c2 => ?_)
  · rw [if_neg c2] at hf
    refine lv_iconst (v := 1) hx hb d_Mo_made_22 (by decide) ?_
    refine lv_goto (tgt := 27) hx hb d_Mo_made_23 (by decide) ?_
    refine lv_iconst (v := 1) hx hb d_Mo_made_27 (by decide) ?_
    obtain ⟨u3, eu3, hf⟩ := obd hf
    refine w_call (va_runV (As := [.int (bI true), .int 1]) (rest := []) ⟨hx, hb, hml, hown, hts⟩ (c_Mo_fails l H.size eu3) (gV 2 hts cd_Mo_fails ml_Mo_124 im_Mo_fails se_Mo_fails ini_Mo rfl rfl pd_Mo_fails ⟨Nat.le_trans (Nat.le_of_ble_eq_true rfl) hRf, Nat.le_trans (Nat.le_of_ble_eq_true rfl) hRl⟩) ⟨wPre_blind, va_recv hK hP (ci := 0) (q0 := 0) rfl rfl, wPre_of hP hK hD⟩ rfl rfl hl.1 rfl (lv_room (Nat.le_of_ble_eq_true rfl)) d_Mo_made_28 ⟨hRc, hRs⟩) hD hS hA (fun H locs hP hD hS => ?_)
    have hP : va_P D vwCl (moW K h a u3.2 mLanguages mBounds mSize mGoes mLast mLeft mNext mGroup mFresh mLeader mNumber mRight mEnds mWay mVariable mFactor mLeast mMost mLength mWord mKept mMany mMore mLeads mMet mTodo mMay mTries) H := hP
    have hD : va_D A (moW K h a u3.2 mLanguages mBounds mSize mGoes mLast mLeft mNext mGroup mFresh mLeader mNumber mRight mEnds mWay mVariable mFactor mLeast mMost mLength mWord mKept mMany mMore mLeads mMet mTodo mMay mTries) := hD
    refine bz_ne (tgt := 72) hx hb d_Mo_made_31 (by decide) (fun c4 => ?_) (fun c4 => ?_)
    · rw [if_pos c4] at hf
      refine lv_iconst (v := 0) hx hb d_Mo_made_72 (by decide) ?_
      exact Kr _ (Option.some.inj hf).symm _ _ _ _ d_Mo_made_73 hP hD hS
    · rw [if_neg c4] at hf
      refine lv_aload_n hx hb d_Mo_made_34 rfl (lv_at hl 0 rfl) ?_
      refine lv_iconst (v := 2) hx hb d_Mo_made_35 (by decide) ?_
      obtain ⟨u5, eu5, hf⟩ := obd hf
      refine w_call (va_runV (As := [.int 2]) (rest := []) ⟨hx, hb, hml, hown, hts⟩ (c_Mo_full l H.size eu5) (gV 1 hts cd_Mo_full ml_Mo_130 im_Mo_full se_Mo_full ini_Mo rfl rfl pd_Mo_full ⟨Nat.le_trans (Nat.le_of_ble_eq_true rfl) hRf, Nat.le_trans (Nat.le_of_ble_eq_true rfl) hRl⟩) ⟨wPre_blind, va_recv hK hP (ci := 0) (q0 := 0) rfl rfl, wPre_of hP hK hD⟩ rfl rfl hl.1 rfl (lv_room (Nat.le_of_ble_eq_true rfl)) d_Mo_made_36 ⟨hRc, hRs⟩) hD hS hA (fun H locs hP hD hS => ?_)
      have hP : va_P D vwCl (moW K h a u5.2 mLanguages mBounds mSize mGoes mLast mLeft mNext mGroup mFresh mLeader mNumber mRight mEnds mWay mVariable mFactor mLeast mMost mLength mWord mKept mMany mMore mLeads mMet mTodo mMay mTries) H := hP
      have hD : va_D A (moW K h a u5.2 mLanguages mBounds mSize mGoes mLast mLeft mNext mGroup mFresh mLeader mNumber mRight mEnds mWay mVariable mFactor mLeast mMost mLength mWord mKept mMany mMore mLeads mMet mTodo mMay mTries) := hD
      refine bz_ne (tgt := 72) hx hb d_Mo_made_39 (by decide) (fun c6 => ?_) (fun c6 => ?_)
      · rw [if_pos c6] at hf
        refine lv_iconst (v := 0) hx hb d_Mo_made_72 (by decide) ?_
        exact Kr _ (Option.some.inj hf).symm _ _ _ _ d_Mo_made_73 hP hD hS
      · rw [if_neg c6] at hf
        refine lv_aload_n hx hb d_Mo_made_42 rfl (lv_at hl 0 rfl) ?_
        refine lv_aload_n hx hb d_Mo_made_43 rfl (lv_at hl 0 rfl) ?_
        refine lv_iload_n hx hb d_Mo_made_44 rfl (lv_at hl 1 rfl) ?_
        refine lv_iload_n hx hb d_Mo_made_45 rfl (lv_at hl 2 rfl) ?_
        refine lv_iload_n hx hb d_Mo_made_46 rfl (lv_at hl 3 rfl) ?_
        obtain ⟨u7, eu7, hf⟩ := obd hf
        refine w_call (va_runV (As := [.int p0, .int p1, .int p2]) (rest := [.ref h]) ⟨hx, hb, hml, hown, hts⟩ (c_Mo_explored l H.size eu7) (gV 3 hts cd_Mo_explored ml_Mo_141 im_Mo_explored se_Mo_explored ini_Mo rfl rfl pd_Mo_explored ⟨Nat.le_trans (Nat.le_of_ble_eq_true rfl) hRf, Nat.le_trans (Nat.le_of_ble_eq_true rfl) hRl⟩) ⟨wPre_blind, va_recv hK hP (ci := 0) (q0 := 0) rfl rfl, wPre_of hP hK hD⟩ rfl rfl hl.1 rfl (lv_room (Nat.le_of_ble_eq_true rfl)) d_Mo_made_47 ⟨hRc, hRs⟩) hD hS hA (fun H locs hP hD hS => ?_)
        have hP : va_P D vwCl (moW K h a u5.2 mLanguages mBounds mSize mGoes mLast u7.2.1 u7.2.2.1 mGroup mFresh mLeader mNumber u7.2.2.2.1 u7.2.2.2.2.1 u7.2.2.2.2.2 mVariable mFactor mLeast mMost mLength mWord mKept mMany mMore mLeads mMet mTodo mMay mTries) H := hP
        have hD : va_D A (moW K h a u5.2 mLanguages mBounds mSize mGoes mLast u7.2.1 u7.2.2.1 mGroup mFresh mLeader mNumber u7.2.2.2.1 u7.2.2.2.2.1 u7.2.2.2.2.2 mVariable mFactor mLeast mMost mLength mWord mKept mMany mMore mLeads mMet mTodo mMay mTries) := hD
        refine bz_eq (tgt := 60) hx hb d_Mo_made_50 (by decide) (fun c8 => ?_) (fun c8 => ?_)
        · rw [if_neg c8] at hf
          refine lv_iconst (v := 1) hx hb d_Mo_made_60 (by decide) ?_
          refine lv_goto (tgt := 65) hx hb d_Mo_made_61 (by decide) ?_
          refine lv_iconst (v := 3) hx hb d_Mo_made_65 (by decide) ?_
          obtain ⟨u9, eu9, hf⟩ := obd hf
          refine w_call (va_runV (As := [.int (bI true), .int 3]) (rest := []) ⟨hx, hb, hml, hown, hts⟩ (c_Mo_fails l H.size eu9) (gV 2 hts cd_Mo_fails ml_Mo_124 im_Mo_fails se_Mo_fails ini_Mo rfl rfl pd_Mo_fails ⟨Nat.le_trans (Nat.le_of_ble_eq_true rfl) hRf, Nat.le_trans (Nat.le_of_ble_eq_true rfl) hRl⟩) ⟨wPre_blind, va_recv hK hP (ci := 0) (q0 := 0) rfl rfl, wPre_of hP hK hD⟩ rfl rfl hl.1 rfl (lv_room (Nat.le_of_ble_eq_true rfl)) d_Mo_made_66 ⟨hRc, hRs⟩) hD hS hA (fun H locs hP hD hS => ?_)
          have hP : va_P D vwCl (moW K h a u9.2 mLanguages mBounds mSize mGoes mLast u7.2.1 u7.2.2.1 mGroup mFresh mLeader mNumber u7.2.2.2.1 u7.2.2.2.2.1 u7.2.2.2.2.2 mVariable mFactor mLeast mMost mLength mWord mKept mMany mMore mLeads mMet mTodo mMay mTries) H := hP
          have hD : va_D A (moW K h a u9.2 mLanguages mBounds mSize mGoes mLast u7.2.1 u7.2.2.1 mGroup mFresh mLeader mNumber u7.2.2.2.1 u7.2.2.2.2.1 u7.2.2.2.2.2 mVariable mFactor mLeast mMost mLength mWord mKept mMany mMore mLeads mMet mTodo mMay mTries) := hD
          refine bz_eq (tgt := 74) hx hb d_Mo_made_69 (by decide) (fun c10 => ?_) (fun c10 => ?_)
          · rw [if_neg c10] at hf
            refine lv_aload_n hx hb d_Mo_made_74 rfl (lv_at hl 0 rfl) ?_
            refine lv_dup hx hb d_Mo_made_75 rfl ?_
            refine va_get (D := D) (ci := 0) (v := .int mLanguages) (C := R_Mo) (T := T_Mo) (N := 29) hx hb hts in_Mo hown hK hP 0 rfl rfl 1 (by decide) (hts _ fl_Mo_88) (fun _ h9 => h9) rfl d_Mo_made_76 ?_
            refine lv_dup_x1 hx hb d_Mo_made_79 rfl rfl ?_
            refine lv_iconst (v := 1) hx hb d_Mo_made_80 (by decide) ?_
            refine lv_iadd hx hb d_Mo_made_81 ?_
            refine va_put (D := D) (ci := 0) (v := .int (mLanguages + 1)) (ty := .int) (C := R_Mo) (T := T_Mo) (N := 29) hx hb hts in_Mo t_Mo t_Mo_ok n_Mo hown hK hP hD hS 0 rfl rfl 1 (by decide) (hts _ fl_Mo_88) (fun _ h9 => h9) rfl (by decide +kernel) rfl rfl (Nat.le_of_ble_eq_true rfl) d_Mo_made_82 (fun H locs hP hD hS => ?_)
            have hP : va_P D vwCl (moW K h a u9.2 (mLanguages + 1) mBounds mSize mGoes mLast u7.2.1 u7.2.2.1 mGroup mFresh mLeader mNumber u7.2.2.2.1 u7.2.2.2.2.1 u7.2.2.2.2.2 mVariable mFactor mLeast mMost mLength mWord mKept mMany mMore mLeads mMet mTodo mMay mTries) H := hP
            have hD : va_D A (moW K h a u9.2 (mLanguages + 1) mBounds mSize mGoes mLast u7.2.1 u7.2.2.1 mGroup mFresh mLeader mNumber u7.2.2.2.1 u7.2.2.2.2.1 u7.2.2.2.2.2 mVariable mFactor mLeast mMost mLength mWord mKept mMany mMore mLeads mMet mTodo mMay mTries) := hD
            exact Kr _ (Option.some.inj hf).symm _ _ _ _ d_Mo_made_85 hP hD hS
          · rw [if_pos c10] at hf
            refine lv_iconst (v := 0) hx hb d_Mo_made_72 (by decide) ?_
            exact Kr _ (Option.some.inj hf).symm _ _ _ _ d_Mo_made_73 hP hD hS
        · rw [if_pos c8] at hf
          refine lv_aload_n hx hb d_Mo_made_53 rfl (lv_at hl 0 rfl) ?_
          obtain ⟨u11, eu11, hf⟩ := obd hf
          refine w_call (va_runV (As := []) (rest := [.ref h]) ⟨hx, hb, hml, hown, hts⟩ (c_Mo_lessened l H.size eu11) (gV 0 hts cd_Mo_lessened ml_Mo_134 im_Mo_lessened se_Mo_lessened ini_Mo rfl rfl pd_Mo_lessened ⟨Nat.le_trans (Nat.le_of_ble_eq_true rfl) hRf, Nat.le_trans (Nat.le_of_ble_eq_true rfl) hRl⟩) ⟨wPre_blind, va_recv hK hP (ci := 0) (q0 := 0) rfl rfl, wPre_of hP hK hD⟩ rfl rfl hl.1 rfl (lv_room (Nat.le_of_ble_eq_true rfl)) d_Mo_made_54 ⟨hRc, hRs⟩) hD hS hA (fun H locs hP hD hS => ?_)
          have hP : va_P D vwCl (moW K h a u5.2 mLanguages mBounds u11.2.1 u11.2.2.1 u11.2.2.2.1 u7.2.1 u7.2.2.1 u11.2.2.2.2.1 u11.2.2.2.2.2.1 u11.2.2.2.2.2.2.1 u11.2.2.2.2.2.2.2 u7.2.2.2.1 u7.2.2.2.2.1 u7.2.2.2.2.2 mVariable mFactor mLeast mMost mLength mWord mKept mMany mMore mLeads mMet mTodo mMay mTries) H := hP
          have hD : va_D A (moW K h a u5.2 mLanguages mBounds u11.2.1 u11.2.2.1 u11.2.2.2.1 u7.2.1 u7.2.2.1 u11.2.2.2.2.1 u11.2.2.2.2.2.1 u11.2.2.2.2.2.2.1 u11.2.2.2.2.2.2.2 u7.2.2.2.1 u7.2.2.2.2.1 u7.2.2.2.2.2 mVariable mFactor mLeast mMost mLength mWord mKept mMany mMore mLeads mMet mTodo mMay mTries) := hD
          refine bz_ne (tgt := 64) hx hb d_Mo_made_57 (by decide) (fun c12 => ?_) (fun c12 => ?_)
          · rw [if_pos c12] at hf
            refine lv_iconst (v := 0) hx hb d_Mo_made_64 (by decide) ?_
            refine lv_iconst (v := 3) hx hb d_Mo_made_65 (by decide) ?_
            obtain ⟨u13, eu13, hf⟩ := obd hf
            refine w_call (va_runV (As := [.int (bI false), .int 3]) (rest := []) ⟨hx, hb, hml, hown, hts⟩ (c_Mo_fails l H.size eu13) (gV 2 hts cd_Mo_fails ml_Mo_124 im_Mo_fails se_Mo_fails ini_Mo rfl rfl pd_Mo_fails ⟨Nat.le_trans (Nat.le_of_ble_eq_true rfl) hRf, Nat.le_trans (Nat.le_of_ble_eq_true rfl) hRl⟩) ⟨wPre_blind, va_recv hK hP (ci := 0) (q0 := 0) rfl rfl, wPre_of hP hK hD⟩ rfl rfl hl.1 rfl (lv_room (Nat.le_of_ble_eq_true rfl)) d_Mo_made_66 ⟨hRc, hRs⟩) hD hS hA (fun H locs hP hD hS => ?_)
            have hP : va_P D vwCl (moW K h a u13.2 mLanguages mBounds u11.2.1 u11.2.2.1 u11.2.2.2.1 u7.2.1 u7.2.2.1 u11.2.2.2.2.1 u11.2.2.2.2.2.1 u11.2.2.2.2.2.2.1 u11.2.2.2.2.2.2.2 u7.2.2.2.1 u7.2.2.2.2.1 u7.2.2.2.2.2 mVariable mFactor mLeast mMost mLength mWord mKept mMany mMore mLeads mMet mTodo mMay mTries) H := hP
            have hD : va_D A (moW K h a u13.2 mLanguages mBounds u11.2.1 u11.2.2.1 u11.2.2.2.1 u7.2.1 u7.2.2.1 u11.2.2.2.2.1 u11.2.2.2.2.2.1 u11.2.2.2.2.2.2.1 u11.2.2.2.2.2.2.2 u7.2.2.2.1 u7.2.2.2.2.1 u7.2.2.2.2.2 mVariable mFactor mLeast mMost mLength mWord mKept mMany mMore mLeads mMet mTodo mMay mTries) := hD
            refine bz_eq (tgt := 74) hx hb d_Mo_made_69 (by decide) (fun c14 => ?_) (fun c14 => ?_)
            · rw [if_neg c14] at hf
              refine lv_aload_n hx hb d_Mo_made_74 rfl (lv_at hl 0 rfl) ?_
              refine lv_dup hx hb d_Mo_made_75 rfl ?_
              refine va_get (D := D) (ci := 0) (v := .int mLanguages) (C := R_Mo) (T := T_Mo) (N := 29) hx hb hts in_Mo hown hK hP 0 rfl rfl 1 (by decide) (hts _ fl_Mo_88) (fun _ h9 => h9) rfl d_Mo_made_76 ?_
              refine lv_dup_x1 hx hb d_Mo_made_79 rfl rfl ?_
              refine lv_iconst (v := 1) hx hb d_Mo_made_80 (by decide) ?_
              refine lv_iadd hx hb d_Mo_made_81 ?_
              refine va_put (D := D) (ci := 0) (v := .int (mLanguages + 1)) (ty := .int) (C := R_Mo) (T := T_Mo) (N := 29) hx hb hts in_Mo t_Mo t_Mo_ok n_Mo hown hK hP hD hS 0 rfl rfl 1 (by decide) (hts _ fl_Mo_88) (fun _ h9 => h9) rfl (by decide +kernel) rfl rfl (Nat.le_of_ble_eq_true rfl) d_Mo_made_82 (fun H locs hP hD hS => ?_)
              have hP : va_P D vwCl (moW K h a u13.2 (mLanguages + 1) mBounds u11.2.1 u11.2.2.1 u11.2.2.2.1 u7.2.1 u7.2.2.1 u11.2.2.2.2.1 u11.2.2.2.2.2.1 u11.2.2.2.2.2.2.1 u11.2.2.2.2.2.2.2 u7.2.2.2.1 u7.2.2.2.2.1 u7.2.2.2.2.2 mVariable mFactor mLeast mMost mLength mWord mKept mMany mMore mLeads mMet mTodo mMay mTries) H := hP
              have hD : va_D A (moW K h a u13.2 (mLanguages + 1) mBounds u11.2.1 u11.2.2.1 u11.2.2.2.1 u7.2.1 u7.2.2.1 u11.2.2.2.2.1 u11.2.2.2.2.2.1 u11.2.2.2.2.2.2.1 u11.2.2.2.2.2.2.2 u7.2.2.2.1 u7.2.2.2.2.1 u7.2.2.2.2.2 mVariable mFactor mLeast mMost mLength mWord mKept mMany mMore mLeads mMet mTodo mMay mTries) := hD
              exact Kr _ (Option.some.inj hf).symm _ _ _ _ d_Mo_made_85 hP hD hS
            · rw [if_pos c14] at hf
              refine lv_iconst (v := 0) hx hb d_Mo_made_72 (by decide) ?_
              exact Kr _ (Option.some.inj hf).symm _ _ _ _ d_Mo_made_73 hP hD hS
          · rw [if_neg c12] at hf
            refine lv_iconst (v := 1) hx hb d_Mo_made_60 (by decide) ?_
            refine lv_goto (tgt := 65) hx hb d_Mo_made_61 (by decide) ?_
            refine lv_iconst (v := 3) hx hb d_Mo_made_65 (by decide) ?_
            obtain ⟨u15, eu15, hf⟩ := obd hf
            refine w_call (va_runV (As := [.int (bI true), .int 3]) (rest := []) ⟨hx, hb, hml, hown, hts⟩ (c_Mo_fails l H.size eu15) (gV 2 hts cd_Mo_fails ml_Mo_124 im_Mo_fails se_Mo_fails ini_Mo rfl rfl pd_Mo_fails ⟨Nat.le_trans (Nat.le_of_ble_eq_true rfl) hRf, Nat.le_trans (Nat.le_of_ble_eq_true rfl) hRl⟩) ⟨wPre_blind, va_recv hK hP (ci := 0) (q0 := 0) rfl rfl, wPre_of hP hK hD⟩ rfl rfl hl.1 rfl (lv_room (Nat.le_of_ble_eq_true rfl)) d_Mo_made_66 ⟨hRc, hRs⟩) hD hS hA (fun H locs hP hD hS => ?_)
            have hP : va_P D vwCl (moW K h a u15.2 mLanguages mBounds u11.2.1 u11.2.2.1 u11.2.2.2.1 u7.2.1 u7.2.2.1 u11.2.2.2.2.1 u11.2.2.2.2.2.1 u11.2.2.2.2.2.2.1 u11.2.2.2.2.2.2.2 u7.2.2.2.1 u7.2.2.2.2.1 u7.2.2.2.2.2 mVariable mFactor mLeast mMost mLength mWord mKept mMany mMore mLeads mMet mTodo mMay mTries) H := hP
            have hD : va_D A (moW K h a u15.2 mLanguages mBounds u11.2.1 u11.2.2.1 u11.2.2.2.1 u7.2.1 u7.2.2.1 u11.2.2.2.2.1 u11.2.2.2.2.2.1 u11.2.2.2.2.2.2.1 u11.2.2.2.2.2.2.2 u7.2.2.2.1 u7.2.2.2.2.1 u7.2.2.2.2.2 mVariable mFactor mLeast mMost mLength mWord mKept mMany mMore mLeads mMet mTodo mMay mTries) := hD
            refine bz_eq (tgt := 74) hx hb d_Mo_made_69 (by decide) (fun c16 => ?_) (fun c16 => ?_)
            · rw [if_neg c16] at hf
              refine lv_aload_n hx hb d_Mo_made_74 rfl (lv_at hl 0 rfl) ?_
              refine lv_dup hx hb d_Mo_made_75 rfl ?_
              refine va_get (D := D) (ci := 0) (v := .int mLanguages) (C := R_Mo) (T := T_Mo) (N := 29) hx hb hts in_Mo hown hK hP 0 rfl rfl 1 (by decide) (hts _ fl_Mo_88) (fun _ h9 => h9) rfl d_Mo_made_76 ?_
              refine lv_dup_x1 hx hb d_Mo_made_79 rfl rfl ?_
              refine lv_iconst (v := 1) hx hb d_Mo_made_80 (by decide) ?_
              refine lv_iadd hx hb d_Mo_made_81 ?_
              refine va_put (D := D) (ci := 0) (v := .int (mLanguages + 1)) (ty := .int) (C := R_Mo) (T := T_Mo) (N := 29) hx hb hts in_Mo t_Mo t_Mo_ok n_Mo hown hK hP hD hS 0 rfl rfl 1 (by decide) (hts _ fl_Mo_88) (fun _ h9 => h9) rfl (by decide +kernel) rfl rfl (Nat.le_of_ble_eq_true rfl) d_Mo_made_82 (fun H locs hP hD hS => ?_)
              have hP : va_P D vwCl (moW K h a u15.2 (mLanguages + 1) mBounds u11.2.1 u11.2.2.1 u11.2.2.2.1 u7.2.1 u7.2.2.1 u11.2.2.2.2.1 u11.2.2.2.2.2.1 u11.2.2.2.2.2.2.1 u11.2.2.2.2.2.2.2 u7.2.2.2.1 u7.2.2.2.2.1 u7.2.2.2.2.2 mVariable mFactor mLeast mMost mLength mWord mKept mMany mMore mLeads mMet mTodo mMay mTries) H := hP
              have hD : va_D A (moW K h a u15.2 (mLanguages + 1) mBounds u11.2.1 u11.2.2.1 u11.2.2.2.1 u7.2.1 u7.2.2.1 u11.2.2.2.2.1 u11.2.2.2.2.2.1 u11.2.2.2.2.2.2.1 u11.2.2.2.2.2.2.2 u7.2.2.2.1 u7.2.2.2.2.1 u7.2.2.2.2.2 mVariable mFactor mLeast mMost mLength mWord mKept mMany mMore mLeads mMet mTodo mMay mTries) := hD
              exact Kr _ (Option.some.inj hf).symm _ _ _ _ d_Mo_made_85 hP hD hS
            · rw [if_pos c16] at hf
              refine lv_iconst (v := 0) hx hb d_Mo_made_72 (by decide) ?_
              exact Kr _ (Option.some.inj hf).symm _ _ _ _ d_Mo_made_73 hP hD hS
  · rw [if_pos c2] at hf
    refine lv_aload_n hx hb d_Mo_made_14 rfl (lv_at hl 0 rfl) ?_
    refine lv_iload_n hx hb d_Mo_made_15 rfl (lv_at hl 3 rfl) ?_
    obtain ⟨u17, eu17, hf⟩ := obd hf
    refine p_call (W.runV (As := [.int p2]) (rest := [.ref h]) ⟨hx, hb, hml, hown, hts⟩ (c_Mo_isLanguage l eu17) (gV 1 hts cd_Mo_isLanguage ml_Mo_138 im_Mo_isLanguage se_Mo_isLanguage ini_Mo rfl rfl pd_Mo_isLanguage ⟨Nat.le_trans (Nat.le_of_ble_eq_true rfl) hRf, Nat.le_trans (Nat.le_of_ble_eq_true rfl) hRl⟩) ⟨pPre_blind, va_recv hK hP (ci := 0) (q0 := 0) rfl rfl, pPre_of hP hK⟩ rfl rfl hl.1 rfl (lv_room (Nat.le_of_ble_eq_true rfl)) d_Mo_made_16 ⟨hRc, hRs⟩) ?_
    refine bz_ne (tgt := 26) hx hb d_Mo_made_19 (by decide) (fun c18 => ?_) (fun c18 => ?_)
    · rw [if_pos c18] at hf
      refine lv_iconst (v := 0) hx hb d_Mo_made_26 (by decide) ?_
      refine lv_iconst (v := 1) hx hb d_Mo_made_27 (by decide) ?_
      obtain ⟨u19, eu19, hf⟩ := obd hf
      refine w_call (va_runV (As := [.int (bI false), .int 1]) (rest := []) ⟨hx, hb, hml, hown, hts⟩ (c_Mo_fails l H.size eu19) (gV 2 hts cd_Mo_fails ml_Mo_124 im_Mo_fails se_Mo_fails ini_Mo rfl rfl pd_Mo_fails ⟨Nat.le_trans (Nat.le_of_ble_eq_true rfl) hRf, Nat.le_trans (Nat.le_of_ble_eq_true rfl) hRl⟩) ⟨wPre_blind, va_recv hK hP (ci := 0) (q0 := 0) rfl rfl, wPre_of hP hK hD⟩ rfl rfl hl.1 rfl (lv_room (Nat.le_of_ble_eq_true rfl)) d_Mo_made_28 ⟨hRc, hRs⟩) hD hS hA (fun H locs hP hD hS => ?_)
      have hP : va_P D vwCl (moW K h a u19.2 mLanguages mBounds mSize mGoes mLast mLeft mNext mGroup mFresh mLeader mNumber mRight mEnds mWay mVariable mFactor mLeast mMost mLength mWord mKept mMany mMore mLeads mMet mTodo mMay mTries) H := hP
      have hD : va_D A (moW K h a u19.2 mLanguages mBounds mSize mGoes mLast mLeft mNext mGroup mFresh mLeader mNumber mRight mEnds mWay mVariable mFactor mLeast mMost mLength mWord mKept mMany mMore mLeads mMet mTodo mMay mTries) := hD
      refine bz_ne (tgt := 72) hx hb d_Mo_made_31 (by decide) (fun c20 => ?_) (fun c20 => ?_)
      · rw [if_pos c20] at hf
        refine lv_iconst (v := 0) hx hb d_Mo_made_72 (by decide) ?_
        exact Kr _ (Option.some.inj hf).symm _ _ _ _ d_Mo_made_73 hP hD hS
      · rw [if_neg c20] at hf
        refine lv_aload_n hx hb d_Mo_made_34 rfl (lv_at hl 0 rfl) ?_
        refine lv_iconst (v := 2) hx hb d_Mo_made_35 (by decide) ?_
        obtain ⟨u21, eu21, hf⟩ := obd hf
        refine w_call (va_runV (As := [.int 2]) (rest := []) ⟨hx, hb, hml, hown, hts⟩ (c_Mo_full l H.size eu21) (gV 1 hts cd_Mo_full ml_Mo_130 im_Mo_full se_Mo_full ini_Mo rfl rfl pd_Mo_full ⟨Nat.le_trans (Nat.le_of_ble_eq_true rfl) hRf, Nat.le_trans (Nat.le_of_ble_eq_true rfl) hRl⟩) ⟨wPre_blind, va_recv hK hP (ci := 0) (q0 := 0) rfl rfl, wPre_of hP hK hD⟩ rfl rfl hl.1 rfl (lv_room (Nat.le_of_ble_eq_true rfl)) d_Mo_made_36 ⟨hRc, hRs⟩) hD hS hA (fun H locs hP hD hS => ?_)
        have hP : va_P D vwCl (moW K h a u21.2 mLanguages mBounds mSize mGoes mLast mLeft mNext mGroup mFresh mLeader mNumber mRight mEnds mWay mVariable mFactor mLeast mMost mLength mWord mKept mMany mMore mLeads mMet mTodo mMay mTries) H := hP
        have hD : va_D A (moW K h a u21.2 mLanguages mBounds mSize mGoes mLast mLeft mNext mGroup mFresh mLeader mNumber mRight mEnds mWay mVariable mFactor mLeast mMost mLength mWord mKept mMany mMore mLeads mMet mTodo mMay mTries) := hD
        refine bz_ne (tgt := 72) hx hb d_Mo_made_39 (by decide) (fun c22 => ?_) (fun c22 => ?_)
        · rw [if_pos c22] at hf
          refine lv_iconst (v := 0) hx hb d_Mo_made_72 (by decide) ?_
          exact Kr _ (Option.some.inj hf).symm _ _ _ _ d_Mo_made_73 hP hD hS
        · rw [if_neg c22] at hf
          refine lv_aload_n hx hb d_Mo_made_42 rfl (lv_at hl 0 rfl) ?_
          refine lv_aload_n hx hb d_Mo_made_43 rfl (lv_at hl 0 rfl) ?_
          refine lv_iload_n hx hb d_Mo_made_44 rfl (lv_at hl 1 rfl) ?_
          refine lv_iload_n hx hb d_Mo_made_45 rfl (lv_at hl 2 rfl) ?_
          refine lv_iload_n hx hb d_Mo_made_46 rfl (lv_at hl 3 rfl) ?_
          obtain ⟨u23, eu23, hf⟩ := obd hf
          refine w_call (va_runV (As := [.int p0, .int p1, .int p2]) (rest := [.ref h]) ⟨hx, hb, hml, hown, hts⟩ (c_Mo_explored l H.size eu23) (gV 3 hts cd_Mo_explored ml_Mo_141 im_Mo_explored se_Mo_explored ini_Mo rfl rfl pd_Mo_explored ⟨Nat.le_trans (Nat.le_of_ble_eq_true rfl) hRf, Nat.le_trans (Nat.le_of_ble_eq_true rfl) hRl⟩) ⟨wPre_blind, va_recv hK hP (ci := 0) (q0 := 0) rfl rfl, wPre_of hP hK hD⟩ rfl rfl hl.1 rfl (lv_room (Nat.le_of_ble_eq_true rfl)) d_Mo_made_47 ⟨hRc, hRs⟩) hD hS hA (fun H locs hP hD hS => ?_)
          have hP : va_P D vwCl (moW K h a u21.2 mLanguages mBounds mSize mGoes mLast u23.2.1 u23.2.2.1 mGroup mFresh mLeader mNumber u23.2.2.2.1 u23.2.2.2.2.1 u23.2.2.2.2.2 mVariable mFactor mLeast mMost mLength mWord mKept mMany mMore mLeads mMet mTodo mMay mTries) H := hP
          have hD : va_D A (moW K h a u21.2 mLanguages mBounds mSize mGoes mLast u23.2.1 u23.2.2.1 mGroup mFresh mLeader mNumber u23.2.2.2.1 u23.2.2.2.2.1 u23.2.2.2.2.2 mVariable mFactor mLeast mMost mLength mWord mKept mMany mMore mLeads mMet mTodo mMay mTries) := hD
          refine bz_eq (tgt := 60) hx hb d_Mo_made_50 (by decide) (fun c24 => ?_) (fun c24 => ?_)
          · rw [if_neg c24] at hf
            refine lv_iconst (v := 1) hx hb d_Mo_made_60 (by decide) ?_
            refine lv_goto (tgt := 65) hx hb d_Mo_made_61 (by decide) ?_
            refine lv_iconst (v := 3) hx hb d_Mo_made_65 (by decide) ?_
            obtain ⟨u25, eu25, hf⟩ := obd hf
            refine w_call (va_runV (As := [.int (bI true), .int 3]) (rest := []) ⟨hx, hb, hml, hown, hts⟩ (c_Mo_fails l H.size eu25) (gV 2 hts cd_Mo_fails ml_Mo_124 im_Mo_fails se_Mo_fails ini_Mo rfl rfl pd_Mo_fails ⟨Nat.le_trans (Nat.le_of_ble_eq_true rfl) hRf, Nat.le_trans (Nat.le_of_ble_eq_true rfl) hRl⟩) ⟨wPre_blind, va_recv hK hP (ci := 0) (q0 := 0) rfl rfl, wPre_of hP hK hD⟩ rfl rfl hl.1 rfl (lv_room (Nat.le_of_ble_eq_true rfl)) d_Mo_made_66 ⟨hRc, hRs⟩) hD hS hA (fun H locs hP hD hS => ?_)
            have hP : va_P D vwCl (moW K h a u25.2 mLanguages mBounds mSize mGoes mLast u23.2.1 u23.2.2.1 mGroup mFresh mLeader mNumber u23.2.2.2.1 u23.2.2.2.2.1 u23.2.2.2.2.2 mVariable mFactor mLeast mMost mLength mWord mKept mMany mMore mLeads mMet mTodo mMay mTries) H := hP
            have hD : va_D A (moW K h a u25.2 mLanguages mBounds mSize mGoes mLast u23.2.1 u23.2.2.1 mGroup mFresh mLeader mNumber u23.2.2.2.1 u23.2.2.2.2.1 u23.2.2.2.2.2 mVariable mFactor mLeast mMost mLength mWord mKept mMany mMore mLeads mMet mTodo mMay mTries) := hD
            refine bz_eq (tgt := 74) hx hb d_Mo_made_69 (by decide) (fun c26 => ?_) (fun c26 => ?_)
            · rw [if_neg c26] at hf
              refine lv_aload_n hx hb d_Mo_made_74 rfl (lv_at hl 0 rfl) ?_
              refine lv_dup hx hb d_Mo_made_75 rfl ?_
              refine va_get (D := D) (ci := 0) (v := .int mLanguages) (C := R_Mo) (T := T_Mo) (N := 29) hx hb hts in_Mo hown hK hP 0 rfl rfl 1 (by decide) (hts _ fl_Mo_88) (fun _ h9 => h9) rfl d_Mo_made_76 ?_
              refine lv_dup_x1 hx hb d_Mo_made_79 rfl rfl ?_
              refine lv_iconst (v := 1) hx hb d_Mo_made_80 (by decide) ?_
              refine lv_iadd hx hb d_Mo_made_81 ?_
              refine va_put (D := D) (ci := 0) (v := .int (mLanguages + 1)) (ty := .int) (C := R_Mo) (T := T_Mo) (N := 29) hx hb hts in_Mo t_Mo t_Mo_ok n_Mo hown hK hP hD hS 0 rfl rfl 1 (by decide) (hts _ fl_Mo_88) (fun _ h9 => h9) rfl (by decide +kernel) rfl rfl (Nat.le_of_ble_eq_true rfl) d_Mo_made_82 (fun H locs hP hD hS => ?_)
              have hP : va_P D vwCl (moW K h a u25.2 (mLanguages + 1) mBounds mSize mGoes mLast u23.2.1 u23.2.2.1 mGroup mFresh mLeader mNumber u23.2.2.2.1 u23.2.2.2.2.1 u23.2.2.2.2.2 mVariable mFactor mLeast mMost mLength mWord mKept mMany mMore mLeads mMet mTodo mMay mTries) H := hP
              have hD : va_D A (moW K h a u25.2 (mLanguages + 1) mBounds mSize mGoes mLast u23.2.1 u23.2.2.1 mGroup mFresh mLeader mNumber u23.2.2.2.1 u23.2.2.2.2.1 u23.2.2.2.2.2 mVariable mFactor mLeast mMost mLength mWord mKept mMany mMore mLeads mMet mTodo mMay mTries) := hD
              exact Kr _ (Option.some.inj hf).symm _ _ _ _ d_Mo_made_85 hP hD hS
            · rw [if_pos c26] at hf
              refine lv_iconst (v := 0) hx hb d_Mo_made_72 (by decide) ?_
              exact Kr _ (Option.some.inj hf).symm _ _ _ _ d_Mo_made_73 hP hD hS
          · rw [if_pos c24] at hf
            refine lv_aload_n hx hb d_Mo_made_53 rfl (lv_at hl 0 rfl) ?_
            obtain ⟨u27, eu27, hf⟩ := obd hf
            refine w_call (va_runV (As := []) (rest := [.ref h]) ⟨hx, hb, hml, hown, hts⟩ (c_Mo_lessened l H.size eu27) (gV 0 hts cd_Mo_lessened ml_Mo_134 im_Mo_lessened se_Mo_lessened ini_Mo rfl rfl pd_Mo_lessened ⟨Nat.le_trans (Nat.le_of_ble_eq_true rfl) hRf, Nat.le_trans (Nat.le_of_ble_eq_true rfl) hRl⟩) ⟨wPre_blind, va_recv hK hP (ci := 0) (q0 := 0) rfl rfl, wPre_of hP hK hD⟩ rfl rfl hl.1 rfl (lv_room (Nat.le_of_ble_eq_true rfl)) d_Mo_made_54 ⟨hRc, hRs⟩) hD hS hA (fun H locs hP hD hS => ?_)
            have hP : va_P D vwCl (moW K h a u21.2 mLanguages mBounds u27.2.1 u27.2.2.1 u27.2.2.2.1 u23.2.1 u23.2.2.1 u27.2.2.2.2.1 u27.2.2.2.2.2.1 u27.2.2.2.2.2.2.1 u27.2.2.2.2.2.2.2 u23.2.2.2.1 u23.2.2.2.2.1 u23.2.2.2.2.2 mVariable mFactor mLeast mMost mLength mWord mKept mMany mMore mLeads mMet mTodo mMay mTries) H := hP
            have hD : va_D A (moW K h a u21.2 mLanguages mBounds u27.2.1 u27.2.2.1 u27.2.2.2.1 u23.2.1 u23.2.2.1 u27.2.2.2.2.1 u27.2.2.2.2.2.1 u27.2.2.2.2.2.2.1 u27.2.2.2.2.2.2.2 u23.2.2.2.1 u23.2.2.2.2.1 u23.2.2.2.2.2 mVariable mFactor mLeast mMost mLength mWord mKept mMany mMore mLeads mMet mTodo mMay mTries) := hD
            refine bz_ne (tgt := 64) hx hb d_Mo_made_57 (by decide) (fun c28 => ?_) (fun c28 => ?_)
            · rw [if_pos c28] at hf
              refine lv_iconst (v := 0) hx hb d_Mo_made_64 (by decide) ?_
              refine lv_iconst (v := 3) hx hb d_Mo_made_65 (by decide) ?_
              obtain ⟨u29, eu29, hf⟩ := obd hf
              refine w_call (va_runV (As := [.int (bI false), .int 3]) (rest := []) ⟨hx, hb, hml, hown, hts⟩ (c_Mo_fails l H.size eu29) (gV 2 hts cd_Mo_fails ml_Mo_124 im_Mo_fails se_Mo_fails ini_Mo rfl rfl pd_Mo_fails ⟨Nat.le_trans (Nat.le_of_ble_eq_true rfl) hRf, Nat.le_trans (Nat.le_of_ble_eq_true rfl) hRl⟩) ⟨wPre_blind, va_recv hK hP (ci := 0) (q0 := 0) rfl rfl, wPre_of hP hK hD⟩ rfl rfl hl.1 rfl (lv_room (Nat.le_of_ble_eq_true rfl)) d_Mo_made_66 ⟨hRc, hRs⟩) hD hS hA (fun H locs hP hD hS => ?_)
              have hP : va_P D vwCl (moW K h a u29.2 mLanguages mBounds u27.2.1 u27.2.2.1 u27.2.2.2.1 u23.2.1 u23.2.2.1 u27.2.2.2.2.1 u27.2.2.2.2.2.1 u27.2.2.2.2.2.2.1 u27.2.2.2.2.2.2.2 u23.2.2.2.1 u23.2.2.2.2.1 u23.2.2.2.2.2 mVariable mFactor mLeast mMost mLength mWord mKept mMany mMore mLeads mMet mTodo mMay mTries) H := hP
              have hD : va_D A (moW K h a u29.2 mLanguages mBounds u27.2.1 u27.2.2.1 u27.2.2.2.1 u23.2.1 u23.2.2.1 u27.2.2.2.2.1 u27.2.2.2.2.2.1 u27.2.2.2.2.2.2.1 u27.2.2.2.2.2.2.2 u23.2.2.2.1 u23.2.2.2.2.1 u23.2.2.2.2.2 mVariable mFactor mLeast mMost mLength mWord mKept mMany mMore mLeads mMet mTodo mMay mTries) := hD
              refine bz_eq (tgt := 74) hx hb d_Mo_made_69 (by decide) (fun c30 => ?_) (fun c30 => ?_)
              · rw [if_neg c30] at hf
                refine lv_aload_n hx hb d_Mo_made_74 rfl (lv_at hl 0 rfl) ?_
                refine lv_dup hx hb d_Mo_made_75 rfl ?_
                refine va_get (D := D) (ci := 0) (v := .int mLanguages) (C := R_Mo) (T := T_Mo) (N := 29) hx hb hts in_Mo hown hK hP 0 rfl rfl 1 (by decide) (hts _ fl_Mo_88) (fun _ h9 => h9) rfl d_Mo_made_76 ?_
                refine lv_dup_x1 hx hb d_Mo_made_79 rfl rfl ?_
                refine lv_iconst (v := 1) hx hb d_Mo_made_80 (by decide) ?_
                refine lv_iadd hx hb d_Mo_made_81 ?_
                refine va_put (D := D) (ci := 0) (v := .int (mLanguages + 1)) (ty := .int) (C := R_Mo) (T := T_Mo) (N := 29) hx hb hts in_Mo t_Mo t_Mo_ok n_Mo hown hK hP hD hS 0 rfl rfl 1 (by decide) (hts _ fl_Mo_88) (fun _ h9 => h9) rfl (by decide +kernel) rfl rfl (Nat.le_of_ble_eq_true rfl) d_Mo_made_82 (fun H locs hP hD hS => ?_)
                have hP : va_P D vwCl (moW K h a u29.2 (mLanguages + 1) mBounds u27.2.1 u27.2.2.1 u27.2.2.2.1 u23.2.1 u23.2.2.1 u27.2.2.2.2.1 u27.2.2.2.2.2.1 u27.2.2.2.2.2.2.1 u27.2.2.2.2.2.2.2 u23.2.2.2.1 u23.2.2.2.2.1 u23.2.2.2.2.2 mVariable mFactor mLeast mMost mLength mWord mKept mMany mMore mLeads mMet mTodo mMay mTries) H := hP
                have hD : va_D A (moW K h a u29.2 (mLanguages + 1) mBounds u27.2.1 u27.2.2.1 u27.2.2.2.1 u23.2.1 u23.2.2.1 u27.2.2.2.2.1 u27.2.2.2.2.2.1 u27.2.2.2.2.2.2.1 u27.2.2.2.2.2.2.2 u23.2.2.2.1 u23.2.2.2.2.1 u23.2.2.2.2.2 mVariable mFactor mLeast mMost mLength mWord mKept mMany mMore mLeads mMet mTodo mMay mTries) := hD
                exact Kr _ (Option.some.inj hf).symm _ _ _ _ d_Mo_made_85 hP hD hS
              · rw [if_pos c30] at hf
                refine lv_iconst (v := 0) hx hb d_Mo_made_72 (by decide) ?_
                exact Kr _ (Option.some.inj hf).symm _ _ _ _ d_Mo_made_73 hP hD hS
            · rw [if_neg c28] at hf
              refine lv_iconst (v := 1) hx hb d_Mo_made_60 (by decide) ?_
              refine lv_goto (tgt := 65) hx hb d_Mo_made_61 (by decide) ?_
              refine lv_iconst (v := 3) hx hb d_Mo_made_65 (by decide) ?_
              obtain ⟨u31, eu31, hf⟩ := obd hf
              refine w_call (va_runV (As := [.int (bI true), .int 3]) (rest := []) ⟨hx, hb, hml, hown, hts⟩ (c_Mo_fails l H.size eu31) (gV 2 hts cd_Mo_fails ml_Mo_124 im_Mo_fails se_Mo_fails ini_Mo rfl rfl pd_Mo_fails ⟨Nat.le_trans (Nat.le_of_ble_eq_true rfl) hRf, Nat.le_trans (Nat.le_of_ble_eq_true rfl) hRl⟩) ⟨wPre_blind, va_recv hK hP (ci := 0) (q0 := 0) rfl rfl, wPre_of hP hK hD⟩ rfl rfl hl.1 rfl (lv_room (Nat.le_of_ble_eq_true rfl)) d_Mo_made_66 ⟨hRc, hRs⟩) hD hS hA (fun H locs hP hD hS => ?_)
              have hP : va_P D vwCl (moW K h a u31.2 mLanguages mBounds u27.2.1 u27.2.2.1 u27.2.2.2.1 u23.2.1 u23.2.2.1 u27.2.2.2.2.1 u27.2.2.2.2.2.1 u27.2.2.2.2.2.2.1 u27.2.2.2.2.2.2.2 u23.2.2.2.1 u23.2.2.2.2.1 u23.2.2.2.2.2 mVariable mFactor mLeast mMost mLength mWord mKept mMany mMore mLeads mMet mTodo mMay mTries) H := hP
              have hD : va_D A (moW K h a u31.2 mLanguages mBounds u27.2.1 u27.2.2.1 u27.2.2.2.1 u23.2.1 u23.2.2.1 u27.2.2.2.2.1 u27.2.2.2.2.2.1 u27.2.2.2.2.2.2.1 u27.2.2.2.2.2.2.2 u23.2.2.2.1 u23.2.2.2.2.1 u23.2.2.2.2.2 mVariable mFactor mLeast mMost mLength mWord mKept mMany mMore mLeads mMet mTodo mMay mTries) := hD
              refine bz_eq (tgt := 74) hx hb d_Mo_made_69 (by decide) (fun c32 => ?_) (fun c32 => ?_)
              · rw [if_neg c32] at hf
                refine lv_aload_n hx hb d_Mo_made_74 rfl (lv_at hl 0 rfl) ?_
                refine lv_dup hx hb d_Mo_made_75 rfl ?_
                refine va_get (D := D) (ci := 0) (v := .int mLanguages) (C := R_Mo) (T := T_Mo) (N := 29) hx hb hts in_Mo hown hK hP 0 rfl rfl 1 (by decide) (hts _ fl_Mo_88) (fun _ h9 => h9) rfl d_Mo_made_76 ?_
                refine lv_dup_x1 hx hb d_Mo_made_79 rfl rfl ?_
                refine lv_iconst (v := 1) hx hb d_Mo_made_80 (by decide) ?_
                refine lv_iadd hx hb d_Mo_made_81 ?_
                refine va_put (D := D) (ci := 0) (v := .int (mLanguages + 1)) (ty := .int) (C := R_Mo) (T := T_Mo) (N := 29) hx hb hts in_Mo t_Mo t_Mo_ok n_Mo hown hK hP hD hS 0 rfl rfl 1 (by decide) (hts _ fl_Mo_88) (fun _ h9 => h9) rfl (by decide +kernel) rfl rfl (Nat.le_of_ble_eq_true rfl) d_Mo_made_82 (fun H locs hP hD hS => ?_)
                have hP : va_P D vwCl (moW K h a u31.2 (mLanguages + 1) mBounds u27.2.1 u27.2.2.1 u27.2.2.2.1 u23.2.1 u23.2.2.1 u27.2.2.2.2.1 u27.2.2.2.2.2.1 u27.2.2.2.2.2.2.1 u27.2.2.2.2.2.2.2 u23.2.2.2.1 u23.2.2.2.2.1 u23.2.2.2.2.2 mVariable mFactor mLeast mMost mLength mWord mKept mMany mMore mLeads mMet mTodo mMay mTries) H := hP
                have hD : va_D A (moW K h a u31.2 (mLanguages + 1) mBounds u27.2.1 u27.2.2.1 u27.2.2.2.1 u23.2.1 u23.2.2.1 u27.2.2.2.2.1 u27.2.2.2.2.2.1 u27.2.2.2.2.2.2.1 u27.2.2.2.2.2.2.2 u23.2.2.2.1 u23.2.2.2.2.1 u23.2.2.2.2.2 mVariable mFactor mLeast mMost mLength mWord mKept mMany mMore mLeads mMet mTodo mMay mTries) := hD
                exact Kr _ (Option.some.inj hf).symm _ _ _ _ d_Mo_made_85 hP hD hS
              · rw [if_pos c32] at hf
                refine lv_iconst (v := 0) hx hb d_Mo_made_72 (by decide) ?_
                exact Kr _ (Option.some.inj hf).symm _ _ _ _ d_Mo_made_73 hP hD hS
    · rw [if_neg c18] at hf
      refine lv_iconst (v := 1) hx hb d_Mo_made_22 (by decide) ?_
      refine lv_goto (tgt := 27) hx hb d_Mo_made_23 (by decide) ?_
      refine lv_iconst (v := 1) hx hb d_Mo_made_27 (by decide) ?_
      obtain ⟨u33, eu33, hf⟩ := obd hf
      refine w_call (va_runV (As := [.int (bI true), .int 1]) (rest := []) ⟨hx, hb, hml, hown, hts⟩ (c_Mo_fails l H.size eu33) (gV 2 hts cd_Mo_fails ml_Mo_124 im_Mo_fails se_Mo_fails ini_Mo rfl rfl pd_Mo_fails ⟨Nat.le_trans (Nat.le_of_ble_eq_true rfl) hRf, Nat.le_trans (Nat.le_of_ble_eq_true rfl) hRl⟩) ⟨wPre_blind, va_recv hK hP (ci := 0) (q0 := 0) rfl rfl, wPre_of hP hK hD⟩ rfl rfl hl.1 rfl (lv_room (Nat.le_of_ble_eq_true rfl)) d_Mo_made_28 ⟨hRc, hRs⟩) hD hS hA (fun H locs hP hD hS => ?_)
      have hP : va_P D vwCl (moW K h a u33.2 mLanguages mBounds mSize mGoes mLast mLeft mNext mGroup mFresh mLeader mNumber mRight mEnds mWay mVariable mFactor mLeast mMost mLength mWord mKept mMany mMore mLeads mMet mTodo mMay mTries) H := hP
      have hD : va_D A (moW K h a u33.2 mLanguages mBounds mSize mGoes mLast mLeft mNext mGroup mFresh mLeader mNumber mRight mEnds mWay mVariable mFactor mLeast mMost mLength mWord mKept mMany mMore mLeads mMet mTodo mMay mTries) := hD
      refine bz_ne (tgt := 72) hx hb d_Mo_made_31 (by decide) (fun c34 => ?_) (fun c34 => ?_)
      · rw [if_pos c34] at hf
        refine lv_iconst (v := 0) hx hb d_Mo_made_72 (by decide) ?_
        exact Kr _ (Option.some.inj hf).symm _ _ _ _ d_Mo_made_73 hP hD hS
      · rw [if_neg c34] at hf
        refine lv_aload_n hx hb d_Mo_made_34 rfl (lv_at hl 0 rfl) ?_
        refine lv_iconst (v := 2) hx hb d_Mo_made_35 (by decide) ?_
        obtain ⟨u35, eu35, hf⟩ := obd hf
        refine w_call (va_runV (As := [.int 2]) (rest := []) ⟨hx, hb, hml, hown, hts⟩ (c_Mo_full l H.size eu35) (gV 1 hts cd_Mo_full ml_Mo_130 im_Mo_full se_Mo_full ini_Mo rfl rfl pd_Mo_full ⟨Nat.le_trans (Nat.le_of_ble_eq_true rfl) hRf, Nat.le_trans (Nat.le_of_ble_eq_true rfl) hRl⟩) ⟨wPre_blind, va_recv hK hP (ci := 0) (q0 := 0) rfl rfl, wPre_of hP hK hD⟩ rfl rfl hl.1 rfl (lv_room (Nat.le_of_ble_eq_true rfl)) d_Mo_made_36 ⟨hRc, hRs⟩) hD hS hA (fun H locs hP hD hS => ?_)
        have hP : va_P D vwCl (moW K h a u35.2 mLanguages mBounds mSize mGoes mLast mLeft mNext mGroup mFresh mLeader mNumber mRight mEnds mWay mVariable mFactor mLeast mMost mLength mWord mKept mMany mMore mLeads mMet mTodo mMay mTries) H := hP
        have hD : va_D A (moW K h a u35.2 mLanguages mBounds mSize mGoes mLast mLeft mNext mGroup mFresh mLeader mNumber mRight mEnds mWay mVariable mFactor mLeast mMost mLength mWord mKept mMany mMore mLeads mMet mTodo mMay mTries) := hD
        refine bz_ne (tgt := 72) hx hb d_Mo_made_39 (by decide) (fun c36 => ?_) (fun c36 => ?_)
        · rw [if_pos c36] at hf
          refine lv_iconst (v := 0) hx hb d_Mo_made_72 (by decide) ?_
          exact Kr _ (Option.some.inj hf).symm _ _ _ _ d_Mo_made_73 hP hD hS
        · rw [if_neg c36] at hf
          refine lv_aload_n hx hb d_Mo_made_42 rfl (lv_at hl 0 rfl) ?_
          refine lv_aload_n hx hb d_Mo_made_43 rfl (lv_at hl 0 rfl) ?_
          refine lv_iload_n hx hb d_Mo_made_44 rfl (lv_at hl 1 rfl) ?_
          refine lv_iload_n hx hb d_Mo_made_45 rfl (lv_at hl 2 rfl) ?_
          refine lv_iload_n hx hb d_Mo_made_46 rfl (lv_at hl 3 rfl) ?_
          obtain ⟨u37, eu37, hf⟩ := obd hf
          refine w_call (va_runV (As := [.int p0, .int p1, .int p2]) (rest := [.ref h]) ⟨hx, hb, hml, hown, hts⟩ (c_Mo_explored l H.size eu37) (gV 3 hts cd_Mo_explored ml_Mo_141 im_Mo_explored se_Mo_explored ini_Mo rfl rfl pd_Mo_explored ⟨Nat.le_trans (Nat.le_of_ble_eq_true rfl) hRf, Nat.le_trans (Nat.le_of_ble_eq_true rfl) hRl⟩) ⟨wPre_blind, va_recv hK hP (ci := 0) (q0 := 0) rfl rfl, wPre_of hP hK hD⟩ rfl rfl hl.1 rfl (lv_room (Nat.le_of_ble_eq_true rfl)) d_Mo_made_47 ⟨hRc, hRs⟩) hD hS hA (fun H locs hP hD hS => ?_)
          have hP : va_P D vwCl (moW K h a u35.2 mLanguages mBounds mSize mGoes mLast u37.2.1 u37.2.2.1 mGroup mFresh mLeader mNumber u37.2.2.2.1 u37.2.2.2.2.1 u37.2.2.2.2.2 mVariable mFactor mLeast mMost mLength mWord mKept mMany mMore mLeads mMet mTodo mMay mTries) H := hP
          have hD : va_D A (moW K h a u35.2 mLanguages mBounds mSize mGoes mLast u37.2.1 u37.2.2.1 mGroup mFresh mLeader mNumber u37.2.2.2.1 u37.2.2.2.2.1 u37.2.2.2.2.2 mVariable mFactor mLeast mMost mLength mWord mKept mMany mMore mLeads mMet mTodo mMay mTries) := hD
          refine bz_eq (tgt := 60) hx hb d_Mo_made_50 (by decide) (fun c38 => ?_) (fun c38 => ?_)
          · rw [if_neg c38] at hf
            refine lv_iconst (v := 1) hx hb d_Mo_made_60 (by decide) ?_
            refine lv_goto (tgt := 65) hx hb d_Mo_made_61 (by decide) ?_
            refine lv_iconst (v := 3) hx hb d_Mo_made_65 (by decide) ?_
            obtain ⟨u39, eu39, hf⟩ := obd hf
            refine w_call (va_runV (As := [.int (bI true), .int 3]) (rest := []) ⟨hx, hb, hml, hown, hts⟩ (c_Mo_fails l H.size eu39) (gV 2 hts cd_Mo_fails ml_Mo_124 im_Mo_fails se_Mo_fails ini_Mo rfl rfl pd_Mo_fails ⟨Nat.le_trans (Nat.le_of_ble_eq_true rfl) hRf, Nat.le_trans (Nat.le_of_ble_eq_true rfl) hRl⟩) ⟨wPre_blind, va_recv hK hP (ci := 0) (q0 := 0) rfl rfl, wPre_of hP hK hD⟩ rfl rfl hl.1 rfl (lv_room (Nat.le_of_ble_eq_true rfl)) d_Mo_made_66 ⟨hRc, hRs⟩) hD hS hA (fun H locs hP hD hS => ?_)
            have hP : va_P D vwCl (moW K h a u39.2 mLanguages mBounds mSize mGoes mLast u37.2.1 u37.2.2.1 mGroup mFresh mLeader mNumber u37.2.2.2.1 u37.2.2.2.2.1 u37.2.2.2.2.2 mVariable mFactor mLeast mMost mLength mWord mKept mMany mMore mLeads mMet mTodo mMay mTries) H := hP
            have hD : va_D A (moW K h a u39.2 mLanguages mBounds mSize mGoes mLast u37.2.1 u37.2.2.1 mGroup mFresh mLeader mNumber u37.2.2.2.1 u37.2.2.2.2.1 u37.2.2.2.2.2 mVariable mFactor mLeast mMost mLength mWord mKept mMany mMore mLeads mMet mTodo mMay mTries) := hD
            refine bz_eq (tgt := 74) hx hb d_Mo_made_69 (by decide) (fun c40 => ?_) (fun c40 => ?_)
            · rw [if_neg c40] at hf
              refine lv_aload_n hx hb d_Mo_made_74 rfl (lv_at hl 0 rfl) ?_
              refine lv_dup hx hb d_Mo_made_75 rfl ?_
              refine va_get (D := D) (ci := 0) (v := .int mLanguages) (C := R_Mo) (T := T_Mo) (N := 29) hx hb hts in_Mo hown hK hP 0 rfl rfl 1 (by decide) (hts _ fl_Mo_88) (fun _ h9 => h9) rfl d_Mo_made_76 ?_
              refine lv_dup_x1 hx hb d_Mo_made_79 rfl rfl ?_
              refine lv_iconst (v := 1) hx hb d_Mo_made_80 (by decide) ?_
              refine lv_iadd hx hb d_Mo_made_81 ?_
              refine va_put (D := D) (ci := 0) (v := .int (mLanguages + 1)) (ty := .int) (C := R_Mo) (T := T_Mo) (N := 29) hx hb hts in_Mo t_Mo t_Mo_ok n_Mo hown hK hP hD hS 0 rfl rfl 1 (by decide) (hts _ fl_Mo_88) (fun _ h9 => h9) rfl (by decide +kernel) rfl rfl (Nat.le_of_ble_eq_true rfl) d_Mo_made_82 (fun H locs hP hD hS => ?_)
              have hP : va_P D vwCl (moW K h a u39.2 (mLanguages + 1) mBounds mSize mGoes mLast u37.2.1 u37.2.2.1 mGroup mFresh mLeader mNumber u37.2.2.2.1 u37.2.2.2.2.1 u37.2.2.2.2.2 mVariable mFactor mLeast mMost mLength mWord mKept mMany mMore mLeads mMet mTodo mMay mTries) H := hP
              have hD : va_D A (moW K h a u39.2 (mLanguages + 1) mBounds mSize mGoes mLast u37.2.1 u37.2.2.1 mGroup mFresh mLeader mNumber u37.2.2.2.1 u37.2.2.2.2.1 u37.2.2.2.2.2 mVariable mFactor mLeast mMost mLength mWord mKept mMany mMore mLeads mMet mTodo mMay mTries) := hD
              exact Kr _ (Option.some.inj hf).symm _ _ _ _ d_Mo_made_85 hP hD hS
            · rw [if_pos c40] at hf
              refine lv_iconst (v := 0) hx hb d_Mo_made_72 (by decide) ?_
              exact Kr _ (Option.some.inj hf).symm _ _ _ _ d_Mo_made_73 hP hD hS
          · rw [if_pos c38] at hf
            refine lv_aload_n hx hb d_Mo_made_53 rfl (lv_at hl 0 rfl) ?_
            obtain ⟨u41, eu41, hf⟩ := obd hf
            refine w_call (va_runV (As := []) (rest := [.ref h]) ⟨hx, hb, hml, hown, hts⟩ (c_Mo_lessened l H.size eu41) (gV 0 hts cd_Mo_lessened ml_Mo_134 im_Mo_lessened se_Mo_lessened ini_Mo rfl rfl pd_Mo_lessened ⟨Nat.le_trans (Nat.le_of_ble_eq_true rfl) hRf, Nat.le_trans (Nat.le_of_ble_eq_true rfl) hRl⟩) ⟨wPre_blind, va_recv hK hP (ci := 0) (q0 := 0) rfl rfl, wPre_of hP hK hD⟩ rfl rfl hl.1 rfl (lv_room (Nat.le_of_ble_eq_true rfl)) d_Mo_made_54 ⟨hRc, hRs⟩) hD hS hA (fun H locs hP hD hS => ?_)
            have hP : va_P D vwCl (moW K h a u35.2 mLanguages mBounds u41.2.1 u41.2.2.1 u41.2.2.2.1 u37.2.1 u37.2.2.1 u41.2.2.2.2.1 u41.2.2.2.2.2.1 u41.2.2.2.2.2.2.1 u41.2.2.2.2.2.2.2 u37.2.2.2.1 u37.2.2.2.2.1 u37.2.2.2.2.2 mVariable mFactor mLeast mMost mLength mWord mKept mMany mMore mLeads mMet mTodo mMay mTries) H := hP
            have hD : va_D A (moW K h a u35.2 mLanguages mBounds u41.2.1 u41.2.2.1 u41.2.2.2.1 u37.2.1 u37.2.2.1 u41.2.2.2.2.1 u41.2.2.2.2.2.1 u41.2.2.2.2.2.2.1 u41.2.2.2.2.2.2.2 u37.2.2.2.1 u37.2.2.2.2.1 u37.2.2.2.2.2 mVariable mFactor mLeast mMost mLength mWord mKept mMany mMore mLeads mMet mTodo mMay mTries) := hD
            refine bz_ne (tgt := 64) hx hb d_Mo_made_57 (by decide) (fun c42 => ?_) (fun c42 => ?_)
            · rw [if_pos c42] at hf
              refine lv_iconst (v := 0) hx hb d_Mo_made_64 (by decide) ?_
              refine lv_iconst (v := 3) hx hb d_Mo_made_65 (by decide) ?_
              obtain ⟨u43, eu43, hf⟩ := obd hf
              refine w_call (va_runV (As := [.int (bI false), .int 3]) (rest := []) ⟨hx, hb, hml, hown, hts⟩ (c_Mo_fails l H.size eu43) (gV 2 hts cd_Mo_fails ml_Mo_124 im_Mo_fails se_Mo_fails ini_Mo rfl rfl pd_Mo_fails ⟨Nat.le_trans (Nat.le_of_ble_eq_true rfl) hRf, Nat.le_trans (Nat.le_of_ble_eq_true rfl) hRl⟩) ⟨wPre_blind, va_recv hK hP (ci := 0) (q0 := 0) rfl rfl, wPre_of hP hK hD⟩ rfl rfl hl.1 rfl (lv_room (Nat.le_of_ble_eq_true rfl)) d_Mo_made_66 ⟨hRc, hRs⟩) hD hS hA (fun H locs hP hD hS => ?_)
              have hP : va_P D vwCl (moW K h a u43.2 mLanguages mBounds u41.2.1 u41.2.2.1 u41.2.2.2.1 u37.2.1 u37.2.2.1 u41.2.2.2.2.1 u41.2.2.2.2.2.1 u41.2.2.2.2.2.2.1 u41.2.2.2.2.2.2.2 u37.2.2.2.1 u37.2.2.2.2.1 u37.2.2.2.2.2 mVariable mFactor mLeast mMost mLength mWord mKept mMany mMore mLeads mMet mTodo mMay mTries) H := hP
              have hD : va_D A (moW K h a u43.2 mLanguages mBounds u41.2.1 u41.2.2.1 u41.2.2.2.1 u37.2.1 u37.2.2.1 u41.2.2.2.2.1 u41.2.2.2.2.2.1 u41.2.2.2.2.2.2.1 u41.2.2.2.2.2.2.2 u37.2.2.2.1 u37.2.2.2.2.1 u37.2.2.2.2.2 mVariable mFactor mLeast mMost mLength mWord mKept mMany mMore mLeads mMet mTodo mMay mTries) := hD
              refine bz_eq (tgt := 74) hx hb d_Mo_made_69 (by decide) (fun c44 => ?_) (fun c44 => ?_)
              · rw [if_neg c44] at hf
                refine lv_aload_n hx hb d_Mo_made_74 rfl (lv_at hl 0 rfl) ?_
                refine lv_dup hx hb d_Mo_made_75 rfl ?_
                refine va_get (D := D) (ci := 0) (v := .int mLanguages) (C := R_Mo) (T := T_Mo) (N := 29) hx hb hts in_Mo hown hK hP 0 rfl rfl 1 (by decide) (hts _ fl_Mo_88) (fun _ h9 => h9) rfl d_Mo_made_76 ?_
                refine lv_dup_x1 hx hb d_Mo_made_79 rfl rfl ?_
                refine lv_iconst (v := 1) hx hb d_Mo_made_80 (by decide) ?_
                refine lv_iadd hx hb d_Mo_made_81 ?_
                refine va_put (D := D) (ci := 0) (v := .int (mLanguages + 1)) (ty := .int) (C := R_Mo) (T := T_Mo) (N := 29) hx hb hts in_Mo t_Mo t_Mo_ok n_Mo hown hK hP hD hS 0 rfl rfl 1 (by decide) (hts _ fl_Mo_88) (fun _ h9 => h9) rfl (by decide +kernel) rfl rfl (Nat.le_of_ble_eq_true rfl) d_Mo_made_82 (fun H locs hP hD hS => ?_)
                have hP : va_P D vwCl (moW K h a u43.2 (mLanguages + 1) mBounds u41.2.1 u41.2.2.1 u41.2.2.2.1 u37.2.1 u37.2.2.1 u41.2.2.2.2.1 u41.2.2.2.2.2.1 u41.2.2.2.2.2.2.1 u41.2.2.2.2.2.2.2 u37.2.2.2.1 u37.2.2.2.2.1 u37.2.2.2.2.2 mVariable mFactor mLeast mMost mLength mWord mKept mMany mMore mLeads mMet mTodo mMay mTries) H := hP
                have hD : va_D A (moW K h a u43.2 (mLanguages + 1) mBounds u41.2.1 u41.2.2.1 u41.2.2.2.1 u37.2.1 u37.2.2.1 u41.2.2.2.2.1 u41.2.2.2.2.2.1 u41.2.2.2.2.2.2.1 u41.2.2.2.2.2.2.2 u37.2.2.2.1 u37.2.2.2.2.1 u37.2.2.2.2.2 mVariable mFactor mLeast mMost mLength mWord mKept mMany mMore mLeads mMet mTodo mMay mTries) := hD
                exact Kr _ (Option.some.inj hf).symm _ _ _ _ d_Mo_made_85 hP hD hS
              · rw [if_pos c44] at hf
                refine lv_iconst (v := 0) hx hb d_Mo_made_72 (by decide) ?_
                exact Kr _ (Option.some.inj hf).symm _ _ _ _ d_Mo_made_73 hP hD hS
            · rw [if_neg c42] at hf
              refine lv_iconst (v := 1) hx hb d_Mo_made_60 (by decide) ?_
              refine lv_goto (tgt := 65) hx hb d_Mo_made_61 (by decide) ?_
              refine lv_iconst (v := 3) hx hb d_Mo_made_65 (by decide) ?_
              obtain ⟨u45, eu45, hf⟩ := obd hf
              refine w_call (va_runV (As := [.int (bI true), .int 3]) (rest := []) ⟨hx, hb, hml, hown, hts⟩ (c_Mo_fails l H.size eu45) (gV 2 hts cd_Mo_fails ml_Mo_124 im_Mo_fails se_Mo_fails ini_Mo rfl rfl pd_Mo_fails ⟨Nat.le_trans (Nat.le_of_ble_eq_true rfl) hRf, Nat.le_trans (Nat.le_of_ble_eq_true rfl) hRl⟩) ⟨wPre_blind, va_recv hK hP (ci := 0) (q0 := 0) rfl rfl, wPre_of hP hK hD⟩ rfl rfl hl.1 rfl (lv_room (Nat.le_of_ble_eq_true rfl)) d_Mo_made_66 ⟨hRc, hRs⟩) hD hS hA (fun H locs hP hD hS => ?_)
              have hP : va_P D vwCl (moW K h a u45.2 mLanguages mBounds u41.2.1 u41.2.2.1 u41.2.2.2.1 u37.2.1 u37.2.2.1 u41.2.2.2.2.1 u41.2.2.2.2.2.1 u41.2.2.2.2.2.2.1 u41.2.2.2.2.2.2.2 u37.2.2.2.1 u37.2.2.2.2.1 u37.2.2.2.2.2 mVariable mFactor mLeast mMost mLength mWord mKept mMany mMore mLeads mMet mTodo mMay mTries) H := hP
              have hD : va_D A (moW K h a u45.2 mLanguages mBounds u41.2.1 u41.2.2.1 u41.2.2.2.1 u37.2.1 u37.2.2.1 u41.2.2.2.2.1 u41.2.2.2.2.2.1 u41.2.2.2.2.2.2.1 u41.2.2.2.2.2.2.2 u37.2.2.2.1 u37.2.2.2.2.1 u37.2.2.2.2.2 mVariable mFactor mLeast mMost mLength mWord mKept mMany mMore mLeads mMet mTodo mMay mTries) := hD
              refine bz_eq (tgt := 74) hx hb d_Mo_made_69 (by decide) (fun c46 => ?_) (fun c46 => ?_)
              · rw [if_neg c46] at hf
                refine lv_aload_n hx hb d_Mo_made_74 rfl (lv_at hl 0 rfl) ?_
                refine lv_dup hx hb d_Mo_made_75 rfl ?_
                refine va_get (D := D) (ci := 0) (v := .int mLanguages) (C := R_Mo) (T := T_Mo) (N := 29) hx hb hts in_Mo hown hK hP 0 rfl rfl 1 (by decide) (hts _ fl_Mo_88) (fun _ h9 => h9) rfl d_Mo_made_76 ?_
                refine lv_dup_x1 hx hb d_Mo_made_79 rfl rfl ?_
                refine lv_iconst (v := 1) hx hb d_Mo_made_80 (by decide) ?_
                refine lv_iadd hx hb d_Mo_made_81 ?_
                refine va_put (D := D) (ci := 0) (v := .int (mLanguages + 1)) (ty := .int) (C := R_Mo) (T := T_Mo) (N := 29) hx hb hts in_Mo t_Mo t_Mo_ok n_Mo hown hK hP hD hS 0 rfl rfl 1 (by decide) (hts _ fl_Mo_88) (fun _ h9 => h9) rfl (by decide +kernel) rfl rfl (Nat.le_of_ble_eq_true rfl) d_Mo_made_82 (fun H locs hP hD hS => ?_)
                have hP : va_P D vwCl (moW K h a u45.2 (mLanguages + 1) mBounds u41.2.1 u41.2.2.1 u41.2.2.2.1 u37.2.1 u37.2.2.1 u41.2.2.2.2.1 u41.2.2.2.2.2.1 u41.2.2.2.2.2.2.1 u41.2.2.2.2.2.2.2 u37.2.2.2.1 u37.2.2.2.2.1 u37.2.2.2.2.2 mVariable mFactor mLeast mMost mLength mWord mKept mMany mMore mLeads mMet mTodo mMay mTries) H := hP
                have hD : va_D A (moW K h a u45.2 (mLanguages + 1) mBounds u41.2.1 u41.2.2.1 u41.2.2.2.1 u37.2.1 u37.2.2.1 u41.2.2.2.2.1 u41.2.2.2.2.2.1 u41.2.2.2.2.2.2.1 u41.2.2.2.2.2.2.2 u37.2.2.2.1 u37.2.2.2.2.1 u37.2.2.2.2.2 mVariable mFactor mLeast mMost mLength mWord mKept mMany mMore mLeads mMet mTodo mMay mTries) := hD
                exact Kr _ (Option.some.inj hf).symm _ _ _ _ d_Mo_made_85 hP hD hS
              · rw [if_pos c46] at hf
                refine lv_iconst (v := 0) hx hb d_Mo_made_72 (by decide) ?_
                exact Kr _ (Option.some.inj hf).symm _ _ _ _ d_Mo_made_73 hP hD hS
set_option maxHeartbeats 4000000 in
set_option maxRecDepth 100000 in
theorem c_Mo_made (l : Launch)  {p0 : Int32} {p1 : Int32} {p2 : Int32}  {r : Int32 × Int32 × Int32 × (Nat → Int32) × (Nat → Int32) × (Nat → Bool) × (Nat → Int32) × (Nat → Int32) × (Nat → Int32) × (Nat → Int32) × (Nat → Int32) × (Nat → Int32) × (Nat → Int64) × (Nat → Bool) × Int32} (sz : Nat) (hf : f_Mo_made n p0 p1 p2 mLanguages mSize mGoes mLast mLeft mNext mGroup mFresh mLeader mNumber mRight mEnds mWay = some r) : Met l y_Mo_made w0_Mo_made ({ frames := 4, cells := 0, slots := 0, locals := 104 }) (wPre D K [.ref h, .int p0, .int p1, .int p2] (moW K h a mErr mLanguages mBounds mSize mGoes mLast mLeft mNext mGroup mFresh mLeader mNumber mRight mEnds mWay mVariable mFactor mLeast mMost mLength mWord mKept mMany mMore mLeads mMet mTodo mMay mTries) sz) (wPost D K (some (.int r.1)) (moW K h a r.2.1 r.2.2.1 mBounds r.2.2.2.1 r.2.2.2.2.1 r.2.2.2.2.2.1 r.2.2.2.2.2.2.1 r.2.2.2.2.2.2.2.1 r.2.2.2.2.2.2.2.2.1 r.2.2.2.2.2.2.2.2.2.1 r.2.2.2.2.2.2.2.2.2.2.1 r.2.2.2.2.2.2.2.2.2.2.2.1 r.2.2.2.2.2.2.2.2.2.2.2.2.1 r.2.2.2.2.2.2.2.2.2.2.2.2.2.1 r.2.2.2.2.2.2.2.2.2.2.2.2.2.2 mVariable mFactor mLeast mMost mLength mWord mKept mMany mMore mLeads mMet mTodo mMay mTries) (va_A (moW K h a mErr mLanguages mBounds mSize mGoes mLast mLeft mNext mGroup mFresh mLeader mNumber mRight mEnds mWay mVariable mFactor mLeast mMost mLength mWord mKept mMany mMore mLeads mMet mTodo mMay mTries) sz)) 0 0 (va_A (moW K h a mErr mLanguages mBounds mSize mGoes mLast mLeft mNext mGroup mFresh mLeader mNumber mRight mEnds mWay mVariable mFactor mLeast mMost mLength mWord mKept mMany mMore mLeads mMet mTodo mMay mTries) sz) := by
  refine Met.ofW (cc := b_Mo_made) (maxL := 4) (ret := (some .int)) (by decide) rfl ?_
  intro p e s m args below meth c s₁ B hml hv
  obtain ⟨rfl, hsz, hP, hK, hD0⟩ := hv
  subst hsz
  have hl := lv_entry [.ref h, .int p0, .int p1, .int p2] (n := 4) (Nat.le_of_ble_eq_true rfl)
  rw [lg_entry_eq]
  generalize (lg_sl [.ref h, .int p0, .int p1, .int p2] ++ List.replicate (4 - (lg_sl [.ref h, .int p0, .int p1, .int p2]).length) Slot.unset).toArray = ls at hl ⊢
  refine w_Mo_made (A := va_A (moW K h a mErr mLanguages mBounds mSize mGoes mLast mLeft mNext mGroup mFresh mLeader mNumber mRight mEnds mWay mVariable mFactor mLeast mMost mLength mWord mKept mMany mMore mLeads mMet mTodo mMay mTries) s.heap.size) (H0 := s.heap) B.exec B.bytes hml (fun w hw => atoms_spec (ws := w0_Mo_made) B.pre w (List.mem_cons_of_mem _ hw)) (findClass_of_methodNamed B.named) hK (Nat.le_refl _) (Nat.le_refl _) (Nat.zero_le _) (Nat.zero_le _) (fun q h => Or.inr h) (fun r er pc ls H locs hd hP hD hS => ?_) hf ls hP (hD0.self (sz := s.heap.size)) va_S.rf hl
  subst er
  exact W.iret B.exec B.bytes B.returns (fun t ht hW => ⟨⟨rfl, by rw [ht]; exact hP, va_K.moved hW.alike hK, hD⟩, hS.F ht⟩) hS.2.2 hd (hlocks := B.notSynchronized)
theorem pd_Mo_then : y_Mo_then.cls ≠ "java/lang/invoke/MethodHandle" ∧ y_Mo_then.cls ≠ "java/lang/invoke/VarHandle" ∧ (parseMethodDescriptor y_Mo_then.desc).map (fun d => d.parameters.length) = some 2 := by decide +kernel
def f_Mo_then (n : Nat) (p0 : Int32) (p1 : Int32) (mLanguages : Int32) (mSize : Nat → Int32) (mGoes : Nat → Int32) (mLast : Nat → Bool) (mLeft : Nat → Int32) (mNext : Nat → Int32) (mGroup : Nat → Int32) (mFresh : Nat → Int32) (mLeader : Nat → Int32) (mNumber : Nat → Int32) (mRight : Nat → Int64) (mEnds : Nat → Bool) (mWay : Int32) : Option (Int32 × Int32 × Int32 × (Nat → Int32) × (Nat → Int32) × (Nat → Bool) × (Nat → Int32) × (Nat → Int32) × (Nat → Int32) × (Nat → Int32) × (Nat → Int32) × (Nat → Int32) × (Nat → Int64) × (Nat → Bool) × Int32) :=
  (f_Mo_made n 2 p0 p1 mLanguages mSize mGoes mLast mLeft mNext mGroup mFresh mLeader mNumber mRight mEnds mWay).bind fun u1 =>
  some (u1.1, u1.2.1, u1.2.2.1, u1.2.2.2.1, u1.2.2.2.2.1, u1.2.2.2.2.2.1, u1.2.2.2.2.2.2.1, u1.2.2.2.2.2.2.2.1, u1.2.2.2.2.2.2.2.2.1, u1.2.2.2.2.2.2.2.2.2.1, u1.2.2.2.2.2.2.2.2.2.2.1, u1.2.2.2.2.2.2.2.2.2.2.2.1, u1.2.2.2.2.2.2.2.2.2.2.2.2.1, u1.2.2.2.2.2.2.2.2.2.2.2.2.2.1, u1.2.2.2.2.2.2.2.2.2.2.2.2.2.2)
set_option maxHeartbeats 4000000 in
set_option maxRecDepth 100000 in
theorem w_Mo_then  {p0 : Int32} {p1 : Int32}  (hx : p.tables.exec = Jvm.exec) (hb : c.code = b_Mo_then) (hml : c.maxLocals = 3) (hts : ∀ w ∈ gW, w.before args s = true) (hown : s.vm.findClass "RegularSolverModel" = some m.cls) (hK : va_K D vwCl (tG K) s) (hRf : 5 ≤ R.frames) (hRl : 127 ≤ R.locals) (hRc : cells ≤ R.cells) (hRs : slots ≤ R.slots) (hA : ∀ q, H0.size ≤ q → A q) {out : Int32 × Int32 × Int32 × (Nat → Int32) × (Nat → Int32) × (Nat → Bool) × (Nat → Int32) × (Nat → Int32) × (Nat → Int32) × (Nat → Int32) × (Nat → Int32) × (Nat → Int32) × (Nat → Int64) × (Nat → Bool) × Int32} (Kr : ∀ (r : Int32 × Int32 × Int32 × (Nat → Int32) × (Nat → Int32) × (Nat → Bool) × (Nat → Int32) × (Nat → Int32) × (Nat → Int32) × (Nat → Int32) × (Nat → Int32) × (Nat → Int32) × (Nat → Int64) × (Nat → Bool) × Int32), out = r → ∀ (pc : Nat) (ls : Array Slot) (H : Heap) (locs : List Loc), decode b_Mo_then pc = .ok (.ireturn, 1) → va_P D vwCl (moW K h a r.2.1 r.2.2.1 mBounds r.2.2.2.1 r.2.2.2.2.1 r.2.2.2.2.2.1 r.2.2.2.2.2.2.1 r.2.2.2.2.2.2.2.1 r.2.2.2.2.2.2.2.2.1 r.2.2.2.2.2.2.2.2.2.1 r.2.2.2.2.2.2.2.2.2.2.1 r.2.2.2.2.2.2.2.2.2.2.2.1 r.2.2.2.2.2.2.2.2.2.2.2.2.1 r.2.2.2.2.2.2.2.2.2.2.2.2.2.1 r.2.2.2.2.2.2.2.2.2.2.2.2.2.2 mVariable mFactor mLeast mMost mLength mWord mKept mMany mMore mLeads mMet mTodo mMay mTries) H → va_D A (moW K h a r.2.1 r.2.2.1 mBounds r.2.2.2.1 r.2.2.2.2.1 r.2.2.2.2.2.1 r.2.2.2.2.2.2.1 r.2.2.2.2.2.2.2.1 r.2.2.2.2.2.2.2.2.1 r.2.2.2.2.2.2.2.2.2.1 r.2.2.2.2.2.2.2.2.2.2.1 r.2.2.2.2.2.2.2.2.2.2.2.1 r.2.2.2.2.2.2.2.2.2.2.2.2.1 r.2.2.2.2.2.2.2.2.2.2.2.2.2.1 r.2.2.2.2.2.2.2.2.2.2.2.2.2.2 mVariable mFactor mLeast mMost mLength mWord mKept mMany mMore mLeads mMet mTodo mMay mTries) → va_S A H0 H locs → W p l e R s m args below meth c H locs cells slots Q (F0 m pc ls [.int r.1])) (hf : f_Mo_then n p0 p1 mLanguages mSize mGoes mLast mLeft mNext mGroup mFresh mLeader mNumber mRight mEnds mWay = some out) (ls : Array Slot) (hP : va_P D vwCl (moW K h a mErr mLanguages mBounds mSize mGoes mLast mLeft mNext mGroup mFresh mLeader mNumber mRight mEnds mWay mVariable mFactor mLeast mMost mLength mWord mKept mMany mMore mLeads mMet mTodo mMay mTries) H) (hD : va_D A (moW K h a mErr mLanguages mBounds mSize mGoes mLast mLeft mNext mGroup mFresh mLeader mNumber mRight mEnds mWay mVariable mFactor mLeast mMost mLength mWord mKept mMany mMore mLeads mMet mTodo mMay mTries)) (hS : va_S A H0 H locs) (hl : lv_has ls 3 [(0, .ref h), (1, .int p0), (2, .int p1)]) : W p l e R s m args below meth c H locs cells slots Q (F0 m 0 ls []) := by
  unfold f_Mo_then at hf
  refine lv_aload_n hx hb d_Mo_then_0 rfl (lv_at hl 0 rfl) ?_
  refine lv_iconst (v := 2) hx hb d_Mo_then_1 (by decide) ?_
  refine lv_iload_n hx hb d_Mo_then_2 rfl (lv_at hl 1 rfl) ?_
  refine lv_iload_n hx hb d_Mo_then_3 rfl (lv_at hl 2 rfl) ?_
  obtain ⟨u1, eu1, hf⟩ := obd hf
  refine w_call (va_runV (As := [.int 2, .int p0, .int p1]) (rest := []) ⟨hx, hb, hml, hown, hts⟩ (c_Mo_made l H.size eu1) (gV 3 hts cd_Mo_made ml_Mo_145 im_Mo_made se_Mo_made ini_Mo rfl rfl pd_Mo_made ⟨Nat.le_trans (Nat.le_of_ble_eq_true rfl) hRf, Nat.le_trans (Nat.le_of_ble_eq_true rfl) hRl⟩) ⟨wPre_blind, va_recv hK hP (ci := 0) (q0 := 0) rfl rfl, wPre_of hP hK hD⟩ rfl rfl hl.1 rfl (lv_room (Nat.le_of_ble_eq_true rfl)) d_Mo_then_4 ⟨hRc, hRs⟩) hD hS hA (fun H locs hP hD hS => ?_)
  have hP : va_P D vwCl (moW K h a u1.2.1 u1.2.2.1 mBounds u1.2.2.2.1 u1.2.2.2.2.1 u1.2.2.2.2.2.1 u1.2.2.2.2.2.2.1 u1.2.2.2.2.2.2.2.1 u1.2.2.2.2.2.2.2.2.1 u1.2.2.2.2.2.2.2.2.2.1 u1.2.2.2.2.2.2.2.2.2.2.1 u1.2.2.2.2.2.2.2.2.2.2.2.1 u1.2.2.2.2.2.2.2.2.2.2.2.2.1 u1.2.2.2.2.2.2.2.2.2.2.2.2.2.1 u1.2.2.2.2.2.2.2.2.2.2.2.2.2.2 mVariable mFactor mLeast mMost mLength mWord mKept mMany mMore mLeads mMet mTodo mMay mTries) H := hP
  have hD : va_D A (moW K h a u1.2.1 u1.2.2.1 mBounds u1.2.2.2.1 u1.2.2.2.2.1 u1.2.2.2.2.2.1 u1.2.2.2.2.2.2.1 u1.2.2.2.2.2.2.2.1 u1.2.2.2.2.2.2.2.2.1 u1.2.2.2.2.2.2.2.2.2.1 u1.2.2.2.2.2.2.2.2.2.2.1 u1.2.2.2.2.2.2.2.2.2.2.2.1 u1.2.2.2.2.2.2.2.2.2.2.2.2.1 u1.2.2.2.2.2.2.2.2.2.2.2.2.2.1 u1.2.2.2.2.2.2.2.2.2.2.2.2.2.2 mVariable mFactor mLeast mMost mLength mWord mKept mMany mMore mLeads mMet mTodo mMay mTries) := hD
  exact Kr _ (Option.some.inj hf).symm _ _ _ _ d_Mo_then_7 hP hD hS
set_option maxHeartbeats 4000000 in
set_option maxRecDepth 100000 in
theorem c_Mo_then (l : Launch)  {p0 : Int32} {p1 : Int32}  {r : Int32 × Int32 × Int32 × (Nat → Int32) × (Nat → Int32) × (Nat → Bool) × (Nat → Int32) × (Nat → Int32) × (Nat → Int32) × (Nat → Int32) × (Nat → Int32) × (Nat → Int32) × (Nat → Int64) × (Nat → Bool) × Int32} (sz : Nat) (hf : f_Mo_then n p0 p1 mLanguages mSize mGoes mLast mLeft mNext mGroup mFresh mLeader mNumber mRight mEnds mWay = some r) : Met l y_Mo_then w0_Mo_then ({ frames := 5, cells := 0, slots := 0, locals := 127 }) (wPre D K [.ref h, .int p0, .int p1] (moW K h a mErr mLanguages mBounds mSize mGoes mLast mLeft mNext mGroup mFresh mLeader mNumber mRight mEnds mWay mVariable mFactor mLeast mMost mLength mWord mKept mMany mMore mLeads mMet mTodo mMay mTries) sz) (wPost D K (some (.int r.1)) (moW K h a r.2.1 r.2.2.1 mBounds r.2.2.2.1 r.2.2.2.2.1 r.2.2.2.2.2.1 r.2.2.2.2.2.2.1 r.2.2.2.2.2.2.2.1 r.2.2.2.2.2.2.2.2.1 r.2.2.2.2.2.2.2.2.2.1 r.2.2.2.2.2.2.2.2.2.2.1 r.2.2.2.2.2.2.2.2.2.2.2.1 r.2.2.2.2.2.2.2.2.2.2.2.2.1 r.2.2.2.2.2.2.2.2.2.2.2.2.2.1 r.2.2.2.2.2.2.2.2.2.2.2.2.2.2 mVariable mFactor mLeast mMost mLength mWord mKept mMany mMore mLeads mMet mTodo mMay mTries) (va_A (moW K h a mErr mLanguages mBounds mSize mGoes mLast mLeft mNext mGroup mFresh mLeader mNumber mRight mEnds mWay mVariable mFactor mLeast mMost mLength mWord mKept mMany mMore mLeads mMet mTodo mMay mTries) sz)) 0 0 (va_A (moW K h a mErr mLanguages mBounds mSize mGoes mLast mLeft mNext mGroup mFresh mLeader mNumber mRight mEnds mWay mVariable mFactor mLeast mMost mLength mWord mKept mMany mMore mLeads mMet mTodo mMay mTries) sz) := by
  refine Met.ofW (cc := b_Mo_then) (maxL := 3) (ret := (some .int)) (by decide) rfl ?_
  intro p e s m args below meth c s₁ B hml hv
  obtain ⟨rfl, hsz, hP, hK, hD0⟩ := hv
  subst hsz
  have hl := lv_entry [.ref h, .int p0, .int p1] (n := 3) (Nat.le_of_ble_eq_true rfl)
  rw [lg_entry_eq]
  generalize (lg_sl [.ref h, .int p0, .int p1] ++ List.replicate (3 - (lg_sl [.ref h, .int p0, .int p1]).length) Slot.unset).toArray = ls at hl ⊢
  refine w_Mo_then (A := va_A (moW K h a mErr mLanguages mBounds mSize mGoes mLast mLeft mNext mGroup mFresh mLeader mNumber mRight mEnds mWay mVariable mFactor mLeast mMost mLength mWord mKept mMany mMore mLeads mMet mTodo mMay mTries) s.heap.size) (H0 := s.heap) B.exec B.bytes hml (fun w hw => atoms_spec (ws := w0_Mo_then) B.pre w (List.mem_cons_of_mem _ hw)) (findClass_of_methodNamed B.named) hK (Nat.le_refl _) (Nat.le_refl _) (Nat.zero_le _) (Nat.zero_le _) (fun q h => Or.inr h) (fun r er pc ls H locs hd hP hD hS => ?_) hf ls hP (hD0.self (sz := s.heap.size)) va_S.rf hl
  subst er
  exact W.iret B.exec B.bytes B.returns (fun t ht hW => ⟨⟨rfl, by rw [ht]; exact hP, va_K.moved hW.alike hK, hD⟩, hS.F ht⟩) hS.2.2 hd (hlocks := B.notSynchronized)
theorem pd_Mo_or : y_Mo_or.cls ≠ "java/lang/invoke/MethodHandle" ∧ y_Mo_or.cls ≠ "java/lang/invoke/VarHandle" ∧ (parseMethodDescriptor y_Mo_or.desc).map (fun d => d.parameters.length) = some 2 := by decide +kernel
def f_Mo_or (n : Nat) (p0 : Int32) (p1 : Int32) (mLanguages : Int32) (mSize : Nat → Int32) (mGoes : Nat → Int32) (mLast : Nat → Bool) (mLeft : Nat → Int32) (mNext : Nat → Int32) (mGroup : Nat → Int32) (mFresh : Nat → Int32) (mLeader : Nat → Int32) (mNumber : Nat → Int32) (mRight : Nat → Int64) (mEnds : Nat → Bool) (mWay : Int32) : Option (Int32 × Int32 × Int32 × (Nat → Int32) × (Nat → Int32) × (Nat → Bool) × (Nat → Int32) × (Nat → Int32) × (Nat → Int32) × (Nat → Int32) × (Nat → Int32) × (Nat → Int32) × (Nat → Int64) × (Nat → Bool) × Int32) :=
  (f_Mo_made n 0 p0 p1 mLanguages mSize mGoes mLast mLeft mNext mGroup mFresh mLeader mNumber mRight mEnds mWay).bind fun u1 =>
  some (u1.1, u1.2.1, u1.2.2.1, u1.2.2.2.1, u1.2.2.2.2.1, u1.2.2.2.2.2.1, u1.2.2.2.2.2.2.1, u1.2.2.2.2.2.2.2.1, u1.2.2.2.2.2.2.2.2.1, u1.2.2.2.2.2.2.2.2.2.1, u1.2.2.2.2.2.2.2.2.2.2.1, u1.2.2.2.2.2.2.2.2.2.2.2.1, u1.2.2.2.2.2.2.2.2.2.2.2.2.1, u1.2.2.2.2.2.2.2.2.2.2.2.2.2.1, u1.2.2.2.2.2.2.2.2.2.2.2.2.2.2)
set_option maxHeartbeats 4000000 in
set_option maxRecDepth 100000 in
theorem w_Mo_or  {p0 : Int32} {p1 : Int32}  (hx : p.tables.exec = Jvm.exec) (hb : c.code = b_Mo_or) (hml : c.maxLocals = 3) (hts : ∀ w ∈ gW, w.before args s = true) (hown : s.vm.findClass "RegularSolverModel" = some m.cls) (hK : va_K D vwCl (tG K) s) (hRf : 5 ≤ R.frames) (hRl : 127 ≤ R.locals) (hRc : cells ≤ R.cells) (hRs : slots ≤ R.slots) (hA : ∀ q, H0.size ≤ q → A q) {out : Int32 × Int32 × Int32 × (Nat → Int32) × (Nat → Int32) × (Nat → Bool) × (Nat → Int32) × (Nat → Int32) × (Nat → Int32) × (Nat → Int32) × (Nat → Int32) × (Nat → Int32) × (Nat → Int64) × (Nat → Bool) × Int32} (Kr : ∀ (r : Int32 × Int32 × Int32 × (Nat → Int32) × (Nat → Int32) × (Nat → Bool) × (Nat → Int32) × (Nat → Int32) × (Nat → Int32) × (Nat → Int32) × (Nat → Int32) × (Nat → Int32) × (Nat → Int64) × (Nat → Bool) × Int32), out = r → ∀ (pc : Nat) (ls : Array Slot) (H : Heap) (locs : List Loc), decode b_Mo_or pc = .ok (.ireturn, 1) → va_P D vwCl (moW K h a r.2.1 r.2.2.1 mBounds r.2.2.2.1 r.2.2.2.2.1 r.2.2.2.2.2.1 r.2.2.2.2.2.2.1 r.2.2.2.2.2.2.2.1 r.2.2.2.2.2.2.2.2.1 r.2.2.2.2.2.2.2.2.2.1 r.2.2.2.2.2.2.2.2.2.2.1 r.2.2.2.2.2.2.2.2.2.2.2.1 r.2.2.2.2.2.2.2.2.2.2.2.2.1 r.2.2.2.2.2.2.2.2.2.2.2.2.2.1 r.2.2.2.2.2.2.2.2.2.2.2.2.2.2 mVariable mFactor mLeast mMost mLength mWord mKept mMany mMore mLeads mMet mTodo mMay mTries) H → va_D A (moW K h a r.2.1 r.2.2.1 mBounds r.2.2.2.1 r.2.2.2.2.1 r.2.2.2.2.2.1 r.2.2.2.2.2.2.1 r.2.2.2.2.2.2.2.1 r.2.2.2.2.2.2.2.2.1 r.2.2.2.2.2.2.2.2.2.1 r.2.2.2.2.2.2.2.2.2.2.1 r.2.2.2.2.2.2.2.2.2.2.2.1 r.2.2.2.2.2.2.2.2.2.2.2.2.1 r.2.2.2.2.2.2.2.2.2.2.2.2.2.1 r.2.2.2.2.2.2.2.2.2.2.2.2.2.2 mVariable mFactor mLeast mMost mLength mWord mKept mMany mMore mLeads mMet mTodo mMay mTries) → va_S A H0 H locs → W p l e R s m args below meth c H locs cells slots Q (F0 m pc ls [.int r.1])) (hf : f_Mo_or n p0 p1 mLanguages mSize mGoes mLast mLeft mNext mGroup mFresh mLeader mNumber mRight mEnds mWay = some out) (ls : Array Slot) (hP : va_P D vwCl (moW K h a mErr mLanguages mBounds mSize mGoes mLast mLeft mNext mGroup mFresh mLeader mNumber mRight mEnds mWay mVariable mFactor mLeast mMost mLength mWord mKept mMany mMore mLeads mMet mTodo mMay mTries) H) (hD : va_D A (moW K h a mErr mLanguages mBounds mSize mGoes mLast mLeft mNext mGroup mFresh mLeader mNumber mRight mEnds mWay mVariable mFactor mLeast mMost mLength mWord mKept mMany mMore mLeads mMet mTodo mMay mTries)) (hS : va_S A H0 H locs) (hl : lv_has ls 3 [(0, .ref h), (1, .int p0), (2, .int p1)]) : W p l e R s m args below meth c H locs cells slots Q (F0 m 0 ls []) := by
  unfold f_Mo_or at hf
  refine lv_aload_n hx hb d_Mo_or_0 rfl (lv_at hl 0 rfl) ?_
  refine lv_iconst (v := 0) hx hb d_Mo_or_1 (by decide) ?_
  refine lv_iload_n hx hb d_Mo_or_2 rfl (lv_at hl 1 rfl) ?_
  refine lv_iload_n hx hb d_Mo_or_3 rfl (lv_at hl 2 rfl) ?_
  obtain ⟨u1, eu1, hf⟩ := obd hf
  refine w_call (va_runV (As := [.int 0, .int p0, .int p1]) (rest := []) ⟨hx, hb, hml, hown, hts⟩ (c_Mo_made l H.size eu1) (gV 3 hts cd_Mo_made ml_Mo_145 im_Mo_made se_Mo_made ini_Mo rfl rfl pd_Mo_made ⟨Nat.le_trans (Nat.le_of_ble_eq_true rfl) hRf, Nat.le_trans (Nat.le_of_ble_eq_true rfl) hRl⟩) ⟨wPre_blind, va_recv hK hP (ci := 0) (q0 := 0) rfl rfl, wPre_of hP hK hD⟩ rfl rfl hl.1 rfl (lv_room (Nat.le_of_ble_eq_true rfl)) d_Mo_or_4 ⟨hRc, hRs⟩) hD hS hA (fun H locs hP hD hS => ?_)
  have hP : va_P D vwCl (moW K h a u1.2.1 u1.2.2.1 mBounds u1.2.2.2.1 u1.2.2.2.2.1 u1.2.2.2.2.2.1 u1.2.2.2.2.2.2.1 u1.2.2.2.2.2.2.2.1 u1.2.2.2.2.2.2.2.2.1 u1.2.2.2.2.2.2.2.2.2.1 u1.2.2.2.2.2.2.2.2.2.2.1 u1.2.2.2.2.2.2.2.2.2.2.2.1 u1.2.2.2.2.2.2.2.2.2.2.2.2.1 u1.2.2.2.2.2.2.2.2.2.2.2.2.2.1 u1.2.2.2.2.2.2.2.2.2.2.2.2.2.2 mVariable mFactor mLeast mMost mLength mWord mKept mMany mMore mLeads mMet mTodo mMay mTries) H := hP
  have hD : va_D A (moW K h a u1.2.1 u1.2.2.1 mBounds u1.2.2.2.1 u1.2.2.2.2.1 u1.2.2.2.2.2.1 u1.2.2.2.2.2.2.1 u1.2.2.2.2.2.2.2.1 u1.2.2.2.2.2.2.2.2.1 u1.2.2.2.2.2.2.2.2.2.1 u1.2.2.2.2.2.2.2.2.2.2.1 u1.2.2.2.2.2.2.2.2.2.2.2.1 u1.2.2.2.2.2.2.2.2.2.2.2.2.1 u1.2.2.2.2.2.2.2.2.2.2.2.2.2.1 u1.2.2.2.2.2.2.2.2.2.2.2.2.2.2 mVariable mFactor mLeast mMost mLength mWord mKept mMany mMore mLeads mMet mTodo mMay mTries) := hD
  exact Kr _ (Option.some.inj hf).symm _ _ _ _ d_Mo_or_7 hP hD hS
set_option maxHeartbeats 4000000 in
set_option maxRecDepth 100000 in
theorem c_Mo_or (l : Launch)  {p0 : Int32} {p1 : Int32}  {r : Int32 × Int32 × Int32 × (Nat → Int32) × (Nat → Int32) × (Nat → Bool) × (Nat → Int32) × (Nat → Int32) × (Nat → Int32) × (Nat → Int32) × (Nat → Int32) × (Nat → Int32) × (Nat → Int64) × (Nat → Bool) × Int32} (sz : Nat) (hf : f_Mo_or n p0 p1 mLanguages mSize mGoes mLast mLeft mNext mGroup mFresh mLeader mNumber mRight mEnds mWay = some r) : Met l y_Mo_or w0_Mo_or ({ frames := 5, cells := 0, slots := 0, locals := 127 }) (wPre D K [.ref h, .int p0, .int p1] (moW K h a mErr mLanguages mBounds mSize mGoes mLast mLeft mNext mGroup mFresh mLeader mNumber mRight mEnds mWay mVariable mFactor mLeast mMost mLength mWord mKept mMany mMore mLeads mMet mTodo mMay mTries) sz) (wPost D K (some (.int r.1)) (moW K h a r.2.1 r.2.2.1 mBounds r.2.2.2.1 r.2.2.2.2.1 r.2.2.2.2.2.1 r.2.2.2.2.2.2.1 r.2.2.2.2.2.2.2.1 r.2.2.2.2.2.2.2.2.1 r.2.2.2.2.2.2.2.2.2.1 r.2.2.2.2.2.2.2.2.2.2.1 r.2.2.2.2.2.2.2.2.2.2.2.1 r.2.2.2.2.2.2.2.2.2.2.2.2.1 r.2.2.2.2.2.2.2.2.2.2.2.2.2.1 r.2.2.2.2.2.2.2.2.2.2.2.2.2.2 mVariable mFactor mLeast mMost mLength mWord mKept mMany mMore mLeads mMet mTodo mMay mTries) (va_A (moW K h a mErr mLanguages mBounds mSize mGoes mLast mLeft mNext mGroup mFresh mLeader mNumber mRight mEnds mWay mVariable mFactor mLeast mMost mLength mWord mKept mMany mMore mLeads mMet mTodo mMay mTries) sz)) 0 0 (va_A (moW K h a mErr mLanguages mBounds mSize mGoes mLast mLeft mNext mGroup mFresh mLeader mNumber mRight mEnds mWay mVariable mFactor mLeast mMost mLength mWord mKept mMany mMore mLeads mMet mTodo mMay mTries) sz) := by
  refine Met.ofW (cc := b_Mo_or) (maxL := 3) (ret := (some .int)) (by decide) rfl ?_
  intro p e s m args below meth c s₁ B hml hv
  obtain ⟨rfl, hsz, hP, hK, hD0⟩ := hv
  subst hsz
  have hl := lv_entry [.ref h, .int p0, .int p1] (n := 3) (Nat.le_of_ble_eq_true rfl)
  rw [lg_entry_eq]
  generalize (lg_sl [.ref h, .int p0, .int p1] ++ List.replicate (3 - (lg_sl [.ref h, .int p0, .int p1]).length) Slot.unset).toArray = ls at hl ⊢
  refine w_Mo_or (A := va_A (moW K h a mErr mLanguages mBounds mSize mGoes mLast mLeft mNext mGroup mFresh mLeader mNumber mRight mEnds mWay mVariable mFactor mLeast mMost mLength mWord mKept mMany mMore mLeads mMet mTodo mMay mTries) s.heap.size) (H0 := s.heap) B.exec B.bytes hml (fun w hw => atoms_spec (ws := w0_Mo_or) B.pre w (List.mem_cons_of_mem _ hw)) (findClass_of_methodNamed B.named) hK (Nat.le_refl _) (Nat.le_refl _) (Nat.zero_le _) (Nat.zero_le _) (fun q h => Or.inr h) (fun r er pc ls H locs hd hP hD hS => ?_) hf ls hP (hD0.self (sz := s.heap.size)) va_S.rf hl
  subst er
  exact W.iret B.exec B.bytes B.returns (fun t ht hW => ⟨⟨rfl, by rw [ht]; exact hP, va_K.moved hW.alike hK, hD⟩, hS.F ht⟩) hS.2.2 hd (hlocks := B.notSynchronized)
theorem pd_Mo_and : y_Mo_and.cls ≠ "java/lang/invoke/MethodHandle" ∧ y_Mo_and.cls ≠ "java/lang/invoke/VarHandle" ∧ (parseMethodDescriptor y_Mo_and.desc).map (fun d => d.parameters.length) = some 2 := by decide +kernel
def f_Mo_and (n : Nat) (p0 : Int32) (p1 : Int32) (mLanguages : Int32) (mSize : Nat → Int32) (mGoes : Nat → Int32) (mLast : Nat → Bool) (mLeft : Nat → Int32) (mNext : Nat → Int32) (mGroup : Nat → Int32) (mFresh : Nat → Int32) (mLeader : Nat → Int32) (mNumber : Nat → Int32) (mRight : Nat → Int64) (mEnds : Nat → Bool) (mWay : Int32) : Option (Int32 × Int32 × Int32 × (Nat → Int32) × (Nat → Int32) × (Nat → Bool) × (Nat → Int32) × (Nat → Int32) × (Nat → Int32) × (Nat → Int32) × (Nat → Int32) × (Nat → Int32) × (Nat → Int64) × (Nat → Bool) × Int32) :=
  (f_Mo_made n 1 p0 p1 mLanguages mSize mGoes mLast mLeft mNext mGroup mFresh mLeader mNumber mRight mEnds mWay).bind fun u1 =>
  some (u1.1, u1.2.1, u1.2.2.1, u1.2.2.2.1, u1.2.2.2.2.1, u1.2.2.2.2.2.1, u1.2.2.2.2.2.2.1, u1.2.2.2.2.2.2.2.1, u1.2.2.2.2.2.2.2.2.1, u1.2.2.2.2.2.2.2.2.2.1, u1.2.2.2.2.2.2.2.2.2.2.1, u1.2.2.2.2.2.2.2.2.2.2.2.1, u1.2.2.2.2.2.2.2.2.2.2.2.2.1, u1.2.2.2.2.2.2.2.2.2.2.2.2.2.1, u1.2.2.2.2.2.2.2.2.2.2.2.2.2.2)
set_option maxHeartbeats 4000000 in
set_option maxRecDepth 100000 in
theorem w_Mo_and  {p0 : Int32} {p1 : Int32}  (hx : p.tables.exec = Jvm.exec) (hb : c.code = b_Mo_and) (hml : c.maxLocals = 3) (hts : ∀ w ∈ gW, w.before args s = true) (hown : s.vm.findClass "RegularSolverModel" = some m.cls) (hK : va_K D vwCl (tG K) s) (hRf : 5 ≤ R.frames) (hRl : 127 ≤ R.locals) (hRc : cells ≤ R.cells) (hRs : slots ≤ R.slots) (hA : ∀ q, H0.size ≤ q → A q) {out : Int32 × Int32 × Int32 × (Nat → Int32) × (Nat → Int32) × (Nat → Bool) × (Nat → Int32) × (Nat → Int32) × (Nat → Int32) × (Nat → Int32) × (Nat → Int32) × (Nat → Int32) × (Nat → Int64) × (Nat → Bool) × Int32} (Kr : ∀ (r : Int32 × Int32 × Int32 × (Nat → Int32) × (Nat → Int32) × (Nat → Bool) × (Nat → Int32) × (Nat → Int32) × (Nat → Int32) × (Nat → Int32) × (Nat → Int32) × (Nat → Int32) × (Nat → Int64) × (Nat → Bool) × Int32), out = r → ∀ (pc : Nat) (ls : Array Slot) (H : Heap) (locs : List Loc), decode b_Mo_and pc = .ok (.ireturn, 1) → va_P D vwCl (moW K h a r.2.1 r.2.2.1 mBounds r.2.2.2.1 r.2.2.2.2.1 r.2.2.2.2.2.1 r.2.2.2.2.2.2.1 r.2.2.2.2.2.2.2.1 r.2.2.2.2.2.2.2.2.1 r.2.2.2.2.2.2.2.2.2.1 r.2.2.2.2.2.2.2.2.2.2.1 r.2.2.2.2.2.2.2.2.2.2.2.1 r.2.2.2.2.2.2.2.2.2.2.2.2.1 r.2.2.2.2.2.2.2.2.2.2.2.2.2.1 r.2.2.2.2.2.2.2.2.2.2.2.2.2.2 mVariable mFactor mLeast mMost mLength mWord mKept mMany mMore mLeads mMet mTodo mMay mTries) H → va_D A (moW K h a r.2.1 r.2.2.1 mBounds r.2.2.2.1 r.2.2.2.2.1 r.2.2.2.2.2.1 r.2.2.2.2.2.2.1 r.2.2.2.2.2.2.2.1 r.2.2.2.2.2.2.2.2.1 r.2.2.2.2.2.2.2.2.2.1 r.2.2.2.2.2.2.2.2.2.2.1 r.2.2.2.2.2.2.2.2.2.2.2.1 r.2.2.2.2.2.2.2.2.2.2.2.2.1 r.2.2.2.2.2.2.2.2.2.2.2.2.2.1 r.2.2.2.2.2.2.2.2.2.2.2.2.2.2 mVariable mFactor mLeast mMost mLength mWord mKept mMany mMore mLeads mMet mTodo mMay mTries) → va_S A H0 H locs → W p l e R s m args below meth c H locs cells slots Q (F0 m pc ls [.int r.1])) (hf : f_Mo_and n p0 p1 mLanguages mSize mGoes mLast mLeft mNext mGroup mFresh mLeader mNumber mRight mEnds mWay = some out) (ls : Array Slot) (hP : va_P D vwCl (moW K h a mErr mLanguages mBounds mSize mGoes mLast mLeft mNext mGroup mFresh mLeader mNumber mRight mEnds mWay mVariable mFactor mLeast mMost mLength mWord mKept mMany mMore mLeads mMet mTodo mMay mTries) H) (hD : va_D A (moW K h a mErr mLanguages mBounds mSize mGoes mLast mLeft mNext mGroup mFresh mLeader mNumber mRight mEnds mWay mVariable mFactor mLeast mMost mLength mWord mKept mMany mMore mLeads mMet mTodo mMay mTries)) (hS : va_S A H0 H locs) (hl : lv_has ls 3 [(0, .ref h), (1, .int p0), (2, .int p1)]) : W p l e R s m args below meth c H locs cells slots Q (F0 m 0 ls []) := by
  unfold f_Mo_and at hf
  refine lv_aload_n hx hb d_Mo_and_0 rfl (lv_at hl 0 rfl) ?_
  refine lv_iconst (v := 1) hx hb d_Mo_and_1 (by decide) ?_
  refine lv_iload_n hx hb d_Mo_and_2 rfl (lv_at hl 1 rfl) ?_
  refine lv_iload_n hx hb d_Mo_and_3 rfl (lv_at hl 2 rfl) ?_
  obtain ⟨u1, eu1, hf⟩ := obd hf
  refine w_call (va_runV (As := [.int 1, .int p0, .int p1]) (rest := []) ⟨hx, hb, hml, hown, hts⟩ (c_Mo_made l H.size eu1) (gV 3 hts cd_Mo_made ml_Mo_145 im_Mo_made se_Mo_made ini_Mo rfl rfl pd_Mo_made ⟨Nat.le_trans (Nat.le_of_ble_eq_true rfl) hRf, Nat.le_trans (Nat.le_of_ble_eq_true rfl) hRl⟩) ⟨wPre_blind, va_recv hK hP (ci := 0) (q0 := 0) rfl rfl, wPre_of hP hK hD⟩ rfl rfl hl.1 rfl (lv_room (Nat.le_of_ble_eq_true rfl)) d_Mo_and_4 ⟨hRc, hRs⟩) hD hS hA (fun H locs hP hD hS => ?_)
  have hP : va_P D vwCl (moW K h a u1.2.1 u1.2.2.1 mBounds u1.2.2.2.1 u1.2.2.2.2.1 u1.2.2.2.2.2.1 u1.2.2.2.2.2.2.1 u1.2.2.2.2.2.2.2.1 u1.2.2.2.2.2.2.2.2.1 u1.2.2.2.2.2.2.2.2.2.1 u1.2.2.2.2.2.2.2.2.2.2.1 u1.2.2.2.2.2.2.2.2.2.2.2.1 u1.2.2.2.2.2.2.2.2.2.2.2.2.1 u1.2.2.2.2.2.2.2.2.2.2.2.2.2.1 u1.2.2.2.2.2.2.2.2.2.2.2.2.2.2 mVariable mFactor mLeast mMost mLength mWord mKept mMany mMore mLeads mMet mTodo mMay mTries) H := hP
  have hD : va_D A (moW K h a u1.2.1 u1.2.2.1 mBounds u1.2.2.2.1 u1.2.2.2.2.1 u1.2.2.2.2.2.1 u1.2.2.2.2.2.2.1 u1.2.2.2.2.2.2.2.1 u1.2.2.2.2.2.2.2.2.1 u1.2.2.2.2.2.2.2.2.2.1 u1.2.2.2.2.2.2.2.2.2.2.1 u1.2.2.2.2.2.2.2.2.2.2.2.1 u1.2.2.2.2.2.2.2.2.2.2.2.2.1 u1.2.2.2.2.2.2.2.2.2.2.2.2.2.1 u1.2.2.2.2.2.2.2.2.2.2.2.2.2.2 mVariable mFactor mLeast mMost mLength mWord mKept mMany mMore mLeads mMet mTodo mMay mTries) := hD
  exact Kr _ (Option.some.inj hf).symm _ _ _ _ d_Mo_and_7 hP hD hS
set_option maxHeartbeats 4000000 in
set_option maxRecDepth 100000 in
theorem c_Mo_and (l : Launch)  {p0 : Int32} {p1 : Int32}  {r : Int32 × Int32 × Int32 × (Nat → Int32) × (Nat → Int32) × (Nat → Bool) × (Nat → Int32) × (Nat → Int32) × (Nat → Int32) × (Nat → Int32) × (Nat → Int32) × (Nat → Int32) × (Nat → Int64) × (Nat → Bool) × Int32} (sz : Nat) (hf : f_Mo_and n p0 p1 mLanguages mSize mGoes mLast mLeft mNext mGroup mFresh mLeader mNumber mRight mEnds mWay = some r) : Met l y_Mo_and w0_Mo_and ({ frames := 5, cells := 0, slots := 0, locals := 127 }) (wPre D K [.ref h, .int p0, .int p1] (moW K h a mErr mLanguages mBounds mSize mGoes mLast mLeft mNext mGroup mFresh mLeader mNumber mRight mEnds mWay mVariable mFactor mLeast mMost mLength mWord mKept mMany mMore mLeads mMet mTodo mMay mTries) sz) (wPost D K (some (.int r.1)) (moW K h a r.2.1 r.2.2.1 mBounds r.2.2.2.1 r.2.2.2.2.1 r.2.2.2.2.2.1 r.2.2.2.2.2.2.1 r.2.2.2.2.2.2.2.1 r.2.2.2.2.2.2.2.2.1 r.2.2.2.2.2.2.2.2.2.1 r.2.2.2.2.2.2.2.2.2.2.1 r.2.2.2.2.2.2.2.2.2.2.2.1 r.2.2.2.2.2.2.2.2.2.2.2.2.1 r.2.2.2.2.2.2.2.2.2.2.2.2.2.1 r.2.2.2.2.2.2.2.2.2.2.2.2.2.2 mVariable mFactor mLeast mMost mLength mWord mKept mMany mMore mLeads mMet mTodo mMay mTries) (va_A (moW K h a mErr mLanguages mBounds mSize mGoes mLast mLeft mNext mGroup mFresh mLeader mNumber mRight mEnds mWay mVariable mFactor mLeast mMost mLength mWord mKept mMany mMore mLeads mMet mTodo mMay mTries) sz)) 0 0 (va_A (moW K h a mErr mLanguages mBounds mSize mGoes mLast mLeft mNext mGroup mFresh mLeader mNumber mRight mEnds mWay mVariable mFactor mLeast mMost mLength mWord mKept mMany mMore mLeads mMet mTodo mMay mTries) sz) := by
  refine Met.ofW (cc := b_Mo_and) (maxL := 3) (ret := (some .int)) (by decide) rfl ?_
  intro p e s m args below meth c s₁ B hml hv
  obtain ⟨rfl, hsz, hP, hK, hD0⟩ := hv
  subst hsz
  have hl := lv_entry [.ref h, .int p0, .int p1] (n := 3) (Nat.le_of_ble_eq_true rfl)
  rw [lg_entry_eq]
  generalize (lg_sl [.ref h, .int p0, .int p1] ++ List.replicate (3 - (lg_sl [.ref h, .int p0, .int p1]).length) Slot.unset).toArray = ls at hl ⊢
  refine w_Mo_and (A := va_A (moW K h a mErr mLanguages mBounds mSize mGoes mLast mLeft mNext mGroup mFresh mLeader mNumber mRight mEnds mWay mVariable mFactor mLeast mMost mLength mWord mKept mMany mMore mLeads mMet mTodo mMay mTries) s.heap.size) (H0 := s.heap) B.exec B.bytes hml (fun w hw => atoms_spec (ws := w0_Mo_and) B.pre w (List.mem_cons_of_mem _ hw)) (findClass_of_methodNamed B.named) hK (Nat.le_refl _) (Nat.le_refl _) (Nat.zero_le _) (Nat.zero_le _) (fun q h => Or.inr h) (fun r er pc ls H locs hd hP hD hS => ?_) hf ls hP (hD0.self (sz := s.heap.size)) va_S.rf hl
  subst er
  exact W.iret B.exec B.bytes B.returns (fun t ht hW => ⟨⟨rfl, by rw [ht]; exact hP, va_K.moved hW.alike hK, hD⟩, hS.F ht⟩) hS.2.2 hd (hlocks := B.notSynchronized)
theorem pd_Mo_again : y_Mo_again.cls ≠ "java/lang/invoke/MethodHandle" ∧ y_Mo_again.cls ≠ "java/lang/invoke/VarHandle" ∧ (parseMethodDescriptor y_Mo_again.desc).map (fun d => d.parameters.length) = some 1 := by decide +kernel
def f_Mo_again (n : Nat) (p0 : Int32) (mLanguages : Int32) (mSize : Nat → Int32) (mGoes : Nat → Int32) (mLast : Nat → Bool) (mLeft : Nat → Int32) (mNext : Nat → Int32) (mGroup : Nat → Int32) (mFresh : Nat → Int32) (mLeader : Nat → Int32) (mNumber : Nat → Int32) (mRight : Nat → Int64) (mEnds : Nat → Bool) (mWay : Int32) : Option (Int32 × Int32 × Int32 × (Nat → Int32) × (Nat → Int32) × (Nat → Bool) × (Nat → Int32) × (Nat → Int32) × (Nat → Int32) × (Nat → Int32) × (Nat → Int32) × (Nat → Int32) × (Nat → Int64) × (Nat → Bool) × Int32) :=
  (f_Mo_made n 3 p0 p0 mLanguages mSize mGoes mLast mLeft mNext mGroup mFresh mLeader mNumber mRight mEnds mWay).bind fun u1 =>
  some (u1.1, u1.2.1, u1.2.2.1, u1.2.2.2.1, u1.2.2.2.2.1, u1.2.2.2.2.2.1, u1.2.2.2.2.2.2.1, u1.2.2.2.2.2.2.2.1, u1.2.2.2.2.2.2.2.2.1, u1.2.2.2.2.2.2.2.2.2.1, u1.2.2.2.2.2.2.2.2.2.2.1, u1.2.2.2.2.2.2.2.2.2.2.2.1, u1.2.2.2.2.2.2.2.2.2.2.2.2.1, u1.2.2.2.2.2.2.2.2.2.2.2.2.2.1, u1.2.2.2.2.2.2.2.2.2.2.2.2.2.2)
set_option maxHeartbeats 4000000 in
set_option maxRecDepth 100000 in
theorem w_Mo_again  {p0 : Int32}  (hx : p.tables.exec = Jvm.exec) (hb : c.code = b_Mo_again) (hml : c.maxLocals = 2) (hts : ∀ w ∈ gW, w.before args s = true) (hown : s.vm.findClass "RegularSolverModel" = some m.cls) (hK : va_K D vwCl (tG K) s) (hRf : 5 ≤ R.frames) (hRl : 127 ≤ R.locals) (hRc : cells ≤ R.cells) (hRs : slots ≤ R.slots) (hA : ∀ q, H0.size ≤ q → A q) {out : Int32 × Int32 × Int32 × (Nat → Int32) × (Nat → Int32) × (Nat → Bool) × (Nat → Int32) × (Nat → Int32) × (Nat → Int32) × (Nat → Int32) × (Nat → Int32) × (Nat → Int32) × (Nat → Int64) × (Nat → Bool) × Int32} (Kr : ∀ (r : Int32 × Int32 × Int32 × (Nat → Int32) × (Nat → Int32) × (Nat → Bool) × (Nat → Int32) × (Nat → Int32) × (Nat → Int32) × (Nat → Int32) × (Nat → Int32) × (Nat → Int32) × (Nat → Int64) × (Nat → Bool) × Int32), out = r → ∀ (pc : Nat) (ls : Array Slot) (H : Heap) (locs : List Loc), decode b_Mo_again pc = .ok (.ireturn, 1) → va_P D vwCl (moW K h a r.2.1 r.2.2.1 mBounds r.2.2.2.1 r.2.2.2.2.1 r.2.2.2.2.2.1 r.2.2.2.2.2.2.1 r.2.2.2.2.2.2.2.1 r.2.2.2.2.2.2.2.2.1 r.2.2.2.2.2.2.2.2.2.1 r.2.2.2.2.2.2.2.2.2.2.1 r.2.2.2.2.2.2.2.2.2.2.2.1 r.2.2.2.2.2.2.2.2.2.2.2.2.1 r.2.2.2.2.2.2.2.2.2.2.2.2.2.1 r.2.2.2.2.2.2.2.2.2.2.2.2.2.2 mVariable mFactor mLeast mMost mLength mWord mKept mMany mMore mLeads mMet mTodo mMay mTries) H → va_D A (moW K h a r.2.1 r.2.2.1 mBounds r.2.2.2.1 r.2.2.2.2.1 r.2.2.2.2.2.1 r.2.2.2.2.2.2.1 r.2.2.2.2.2.2.2.1 r.2.2.2.2.2.2.2.2.1 r.2.2.2.2.2.2.2.2.2.1 r.2.2.2.2.2.2.2.2.2.2.1 r.2.2.2.2.2.2.2.2.2.2.2.1 r.2.2.2.2.2.2.2.2.2.2.2.2.1 r.2.2.2.2.2.2.2.2.2.2.2.2.2.1 r.2.2.2.2.2.2.2.2.2.2.2.2.2.2 mVariable mFactor mLeast mMost mLength mWord mKept mMany mMore mLeads mMet mTodo mMay mTries) → va_S A H0 H locs → W p l e R s m args below meth c H locs cells slots Q (F0 m pc ls [.int r.1])) (hf : f_Mo_again n p0 mLanguages mSize mGoes mLast mLeft mNext mGroup mFresh mLeader mNumber mRight mEnds mWay = some out) (ls : Array Slot) (hP : va_P D vwCl (moW K h a mErr mLanguages mBounds mSize mGoes mLast mLeft mNext mGroup mFresh mLeader mNumber mRight mEnds mWay mVariable mFactor mLeast mMost mLength mWord mKept mMany mMore mLeads mMet mTodo mMay mTries) H) (hD : va_D A (moW K h a mErr mLanguages mBounds mSize mGoes mLast mLeft mNext mGroup mFresh mLeader mNumber mRight mEnds mWay mVariable mFactor mLeast mMost mLength mWord mKept mMany mMore mLeads mMet mTodo mMay mTries)) (hS : va_S A H0 H locs) (hl : lv_has ls 2 [(0, .ref h), (1, .int p0)]) : W p l e R s m args below meth c H locs cells slots Q (F0 m 0 ls []) := by
  unfold f_Mo_again at hf
  refine lv_aload_n hx hb d_Mo_again_0 rfl (lv_at hl 0 rfl) ?_
  refine lv_iconst (v := 3) hx hb d_Mo_again_1 (by decide) ?_
  refine lv_iload_n hx hb d_Mo_again_2 rfl (lv_at hl 1 rfl) ?_
  refine lv_iload_n hx hb d_Mo_again_3 rfl (lv_at hl 1 rfl) ?_
  obtain ⟨u1, eu1, hf⟩ := obd hf
  refine w_call (va_runV (As := [.int 3, .int p0, .int p0]) (rest := []) ⟨hx, hb, hml, hown, hts⟩ (c_Mo_made l H.size eu1) (gV 3 hts cd_Mo_made ml_Mo_145 im_Mo_made se_Mo_made ini_Mo rfl rfl pd_Mo_made ⟨Nat.le_trans (Nat.le_of_ble_eq_true rfl) hRf, Nat.le_trans (Nat.le_of_ble_eq_true rfl) hRl⟩) ⟨wPre_blind, va_recv hK hP (ci := 0) (q0 := 0) rfl rfl, wPre_of hP hK hD⟩ rfl rfl hl.1 rfl (lv_room (Nat.le_of_ble_eq_true rfl)) d_Mo_again_4 ⟨hRc, hRs⟩) hD hS hA (fun H locs hP hD hS => ?_)
  have hP : va_P D vwCl (moW K h a u1.2.1 u1.2.2.1 mBounds u1.2.2.2.1 u1.2.2.2.2.1 u1.2.2.2.2.2.1 u1.2.2.2.2.2.2.1 u1.2.2.2.2.2.2.2.1 u1.2.2.2.2.2.2.2.2.1 u1.2.2.2.2.2.2.2.2.2.1 u1.2.2.2.2.2.2.2.2.2.2.1 u1.2.2.2.2.2.2.2.2.2.2.2.1 u1.2.2.2.2.2.2.2.2.2.2.2.2.1 u1.2.2.2.2.2.2.2.2.2.2.2.2.2.1 u1.2.2.2.2.2.2.2.2.2.2.2.2.2.2 mVariable mFactor mLeast mMost mLength mWord mKept mMany mMore mLeads mMet mTodo mMay mTries) H := hP
  have hD : va_D A (moW K h a u1.2.1 u1.2.2.1 mBounds u1.2.2.2.1 u1.2.2.2.2.1 u1.2.2.2.2.2.1 u1.2.2.2.2.2.2.1 u1.2.2.2.2.2.2.2.1 u1.2.2.2.2.2.2.2.2.1 u1.2.2.2.2.2.2.2.2.2.1 u1.2.2.2.2.2.2.2.2.2.2.1 u1.2.2.2.2.2.2.2.2.2.2.2.1 u1.2.2.2.2.2.2.2.2.2.2.2.2.1 u1.2.2.2.2.2.2.2.2.2.2.2.2.2.1 u1.2.2.2.2.2.2.2.2.2.2.2.2.2.2 mVariable mFactor mLeast mMost mLength mWord mKept mMany mMore mLeads mMet mTodo mMay mTries) := hD
  exact Kr _ (Option.some.inj hf).symm _ _ _ _ d_Mo_again_7 hP hD hS
set_option maxHeartbeats 4000000 in
set_option maxRecDepth 100000 in
theorem c_Mo_again (l : Launch)  {p0 : Int32}  {r : Int32 × Int32 × Int32 × (Nat → Int32) × (Nat → Int32) × (Nat → Bool) × (Nat → Int32) × (Nat → Int32) × (Nat → Int32) × (Nat → Int32) × (Nat → Int32) × (Nat → Int32) × (Nat → Int64) × (Nat → Bool) × Int32} (sz : Nat) (hf : f_Mo_again n p0 mLanguages mSize mGoes mLast mLeft mNext mGroup mFresh mLeader mNumber mRight mEnds mWay = some r) : Met l y_Mo_again w0_Mo_again ({ frames := 5, cells := 0, slots := 0, locals := 127 }) (wPre D K [.ref h, .int p0] (moW K h a mErr mLanguages mBounds mSize mGoes mLast mLeft mNext mGroup mFresh mLeader mNumber mRight mEnds mWay mVariable mFactor mLeast mMost mLength mWord mKept mMany mMore mLeads mMet mTodo mMay mTries) sz) (wPost D K (some (.int r.1)) (moW K h a r.2.1 r.2.2.1 mBounds r.2.2.2.1 r.2.2.2.2.1 r.2.2.2.2.2.1 r.2.2.2.2.2.2.1 r.2.2.2.2.2.2.2.1 r.2.2.2.2.2.2.2.2.1 r.2.2.2.2.2.2.2.2.2.1 r.2.2.2.2.2.2.2.2.2.2.1 r.2.2.2.2.2.2.2.2.2.2.2.1 r.2.2.2.2.2.2.2.2.2.2.2.2.1 r.2.2.2.2.2.2.2.2.2.2.2.2.2.1 r.2.2.2.2.2.2.2.2.2.2.2.2.2.2 mVariable mFactor mLeast mMost mLength mWord mKept mMany mMore mLeads mMet mTodo mMay mTries) (va_A (moW K h a mErr mLanguages mBounds mSize mGoes mLast mLeft mNext mGroup mFresh mLeader mNumber mRight mEnds mWay mVariable mFactor mLeast mMost mLength mWord mKept mMany mMore mLeads mMet mTodo mMay mTries) sz)) 0 0 (va_A (moW K h a mErr mLanguages mBounds mSize mGoes mLast mLeft mNext mGroup mFresh mLeader mNumber mRight mEnds mWay mVariable mFactor mLeast mMost mLength mWord mKept mMany mMore mLeads mMet mTodo mMay mTries) sz) := by
  refine Met.ofW (cc := b_Mo_again) (maxL := 2) (ret := (some .int)) (by decide) rfl ?_
  intro p e s m args below meth c s₁ B hml hv
  obtain ⟨rfl, hsz, hP, hK, hD0⟩ := hv
  subst hsz
  have hl := lv_entry [.ref h, .int p0] (n := 2) (Nat.le_of_ble_eq_true rfl)
  rw [lg_entry_eq]
  generalize (lg_sl [.ref h, .int p0] ++ List.replicate (2 - (lg_sl [.ref h, .int p0]).length) Slot.unset).toArray = ls at hl ⊢
  refine w_Mo_again (A := va_A (moW K h a mErr mLanguages mBounds mSize mGoes mLast mLeft mNext mGroup mFresh mLeader mNumber mRight mEnds mWay mVariable mFactor mLeast mMost mLength mWord mKept mMany mMore mLeads mMet mTodo mMay mTries) s.heap.size) (H0 := s.heap) B.exec B.bytes hml (fun w hw => atoms_spec (ws := w0_Mo_again) B.pre w (List.mem_cons_of_mem _ hw)) (findClass_of_methodNamed B.named) hK (Nat.le_refl _) (Nat.le_refl _) (Nat.zero_le _) (Nat.zero_le _) (fun q h => Or.inr h) (fun r er pc ls H locs hd hP hD hS => ?_) hf ls hP (hD0.self (sz := s.heap.size)) va_S.rf hl
  subst er
  exact W.iret B.exec B.bytes B.returns (fun t ht hW => ⟨⟨rfl, by rw [ht]; exact hP, va_K.moved hW.alike hK, hD⟩, hS.F ht⟩) hS.2.2 hd (hlocks := B.notSynchronized)
theorem pd_Mo_not : y_Mo_not.cls ≠ "java/lang/invoke/MethodHandle" ∧ y_Mo_not.cls ≠ "java/lang/invoke/VarHandle" ∧ (parseMethodDescriptor y_Mo_not.desc).map (fun d => d.parameters.length) = some 1 := by decide +kernel
def f_Mo_not_93 (n : Nat) (v3 : Int32) (v2 : Int32) (v1 : Int32) : Nat → Int32 → (Nat → Int32) → Option (Int32 × (Nat → Int32))
  | 0, _, _ => none
  | k + 1, v4, mGoes =>
    if 4 ≤ v4 then
      some (v4, mGoes)
    else
      (f_Mo_go n v1 v3 v4 mGoes).bind fun u26 =>
      ogd (gin ((4 * ((64 * v2) + v3)) + v4) 15360) <|
      f_Mo_not_93 n v3 v2 v1 k (v4 + 1) (upd mGoes ((4 * ((64 * v2) + v3)) + v4).toNatClampNeg u26)
set_option maxHeartbeats 4000000 in
set_option maxRecDepth 100000 in
theorem w_Mo_not_93  {v3 : Int32} {v2 : Int32} {v1 : Int32} (hx : p.tables.exec = Jvm.exec) (hb : c.code = b_Mo_not) (hml : c.maxLocals = 5) (hts : ∀ w ∈ gW, w.before args s = true) (hown : s.vm.findClass "RegularSolverModel" = some m.cls) (hK : va_K D vwCl (tG K) s) (hRf : 2 ≤ R.frames) (hRl : 46 ≤ R.locals) (hRc : cells ≤ R.cells) (hRs : slots ≤ R.slots) (hA : ∀ q, H0.size ≤ q → A q)  {out : Int32 × (Nat → Int32)} (Kx : ∀ (u : Int32 × (Nat → Int32)), out = u → ∀ (ls : Array Slot) (H : Heap) (locs : List Loc), va_P D vwCl (moW K h a mErr mLanguages mBounds mSize u.2 mLast mLeft mNext mGroup mFresh mLeader mNumber mRight mEnds mWay mVariable mFactor mLeast mMost mLength mWord mKept mMany mMore mLeads mMet mTodo mMay mTries) H → va_D A (moW K h a mErr mLanguages mBounds mSize u.2 mLast mLeft mNext mGroup mFresh mLeader mNumber mRight mEnds mWay mVariable mFactor mLeast mMost mLength mWord mKept mMany mMore mLeads mMet mTodo mMay mTries) → va_S A H0 H locs → lv_has ls 5 [(3, .int v3), (2, .int v2), (0, .ref h), (1, .int v1)] → W p l e R s m args below meth c H locs cells slots Q (F0 m 129 ls [])) :
    ∀ (k : Nat) (v4 : Int32) (mGoes : Nat → Int32), f_Mo_not_93 n v3 v2 v1 k v4 mGoes = some out → ∀ (ls : Array Slot) (H : Heap) (locs : List Loc), va_P D vwCl (moW K h a mErr mLanguages mBounds mSize mGoes mLast mLeft mNext mGroup mFresh mLeader mNumber mRight mEnds mWay mVariable mFactor mLeast mMost mLength mWord mKept mMany mMore mLeads mMet mTodo mMay mTries) H → va_D A (moW K h a mErr mLanguages mBounds mSize mGoes mLast mLeft mNext mGroup mFresh mLeader mNumber mRight mEnds mWay mVariable mFactor mLeast mMost mLength mWord mKept mMany mMore mLeads mMet mTodo mMay mTries) → va_S A H0 H locs → lv_has ls 5 [(4, .int v4), (3, .int v3), (2, .int v2), (0, .ref h), (1, .int v1)] → W p l e R s m args below meth c H locs cells slots Q (F0 m 93 ls []) := by
  intro k
  induction k with
  | zero => intro _ _ hf; exact nomatch (show none = some out from hf)
  | succ k ih =>
    intro v4 mGoes hf ls H locs hP hD hS hl
    rw [f_Mo_not_93] at hf
    refine lv_iload hx hb d_Mo_not_93 (lv_at hl 0 rfl) ?_
    refine lv_iconst (v := 4) hx hb d_Mo_not_95 (by decide) ?_
    refine lv_icmp_ge (tgt := 129) hx hb d_Mo_not_96 (by decide) (fun c25 => ?_) (fun c25 => ?_)
    · rw [if_pos c25] at hf
      exact Kx _ (Option.some.inj hf).symm _ _ _ hP hD hS (show lv_has ls 5 [(3, .int v3), (2, .int v2), (0, .ref h), (1, .int v1)] from lv_sub hl [1, 2, 3, 4] rfl)
    · rw [if_neg c25] at hf
      refine lv_aload_n hx hb d_Mo_not_99 rfl (lv_at hl 3 rfl) ?_
      refine va_get (D := D) (ci := 0) (v := .ref (a 1)) (C := R_Mo) (T := T_Mo) (N := 29) hx hb hts in_Mo hown hK hP 0 rfl rfl 4 (by decide) (hts _ fl_Mo_13) (fun _ h9 => h9) rfl d_Mo_not_100 ?_
      refine lv_iconst (v := 4) hx hb d_Mo_not_103 (by decide) ?_
      refine lv_bipush (v := 64) hx hb d_Mo_not_104 (by decide) ?_
      refine lv_iload_n hx hb d_Mo_not_106 rfl (lv_at hl 2 rfl) ?_
      refine lv_imul hx hb d_Mo_not_107 ?_
      refine lv_iload_n hx hb d_Mo_not_108 rfl (lv_at hl 1 rfl) ?_
      refine lv_iadd hx hb d_Mo_not_109 ?_
      refine lv_imul hx hb d_Mo_not_110 ?_
      refine lv_iload hx hb d_Mo_not_111 (lv_at hl 0 rfl) ?_
      refine lv_iadd hx hb d_Mo_not_113 ?_
      refine lv_aload_n hx hb d_Mo_not_114 rfl (lv_at hl 3 rfl) ?_
      refine lv_iload_n hx hb d_Mo_not_115 rfl (lv_at hl 4 rfl) ?_
      refine lv_iload_n hx hb d_Mo_not_116 rfl (lv_at hl 1 rfl) ?_
      refine lv_iload hx hb d_Mo_not_117 (lv_at hl 0 rfl) ?_
      obtain ⟨u26, eu26, hf⟩ := obd hf
      refine p_call (W.runV (As := [.int v1, .int v3, .int v4]) (rest := [.int ((4 * ((64 * v2) + v3)) + v4), .ref (a 1)]) ⟨hx, hb, hml, hown, hts⟩ (c_Mo_go l eu26) (gV 3 hts cd_Mo_go ml_Mo_98 im_Mo_go se_Mo_go ini_Mo rfl rfl pd_Mo_go ⟨Nat.le_trans (Nat.le_of_ble_eq_true rfl) hRf, Nat.le_trans (Nat.le_of_ble_eq_true rfl) hRl⟩) ⟨pPre_blind, va_recv hK hP (ci := 0) (q0 := 0) rfl rfl, pPre_of hP hK⟩ rfl rfl hl.1 rfl (lv_room (Nat.le_of_ble_eq_true rfl)) d_Mo_not_119 ⟨hRc, hRs⟩) ?_
      obtain ⟨g27, hf⟩ := ogi hf
      refine va_iast hx hb hK hP hD hS 2 0 rfl rfl (gin_in g27) d_Mo_not_122 (fun H locs hP hD hS => ?_)
      have hP : va_P D vwCl (moW K h a mErr mLanguages mBounds mSize (upd mGoes ((4 * ((64 * v2) + v3)) + v4).toNatClampNeg u26) mLast mLeft mNext mGroup mFresh mLeader mNumber mRight mEnds mWay mVariable mFactor mLeast mMost mLength mWord mKept mMany mMore mLeads mMet mTodo mMay mTries) H := hP
      have hD : va_D A (moW K h a mErr mLanguages mBounds mSize (upd mGoes ((4 * ((64 * v2) + v3)) + v4).toNatClampNeg u26) mLast mLeft mNext mGroup mFresh mLeader mNumber mRight mEnds mWay mVariable mFactor mLeast mMost mLength mWord mKept mMany mMore mLeads mMet mTodo mMay mTries) := hD
      refine lv_iinc (v := v4 + 1) (lv' := [(4, .int (v4 + 1)), (3, .int v3), (2, .int v2), (0, .ref h), (1, .int v1)]) hx hb d_Mo_not_123 hl (k := 0) rfl (by first | rfl | (congr 1)) (by decide) rfl (fun ls hl => ?_)
      refine lv_goto (tgt := 93) hx hb d_Mo_not_126 (by decide) ?_
      exact ih _ _ hf _ _ _ hP hD hS (show lv_has ls 5 [(4, .int (v4 + 1)), (3, .int v3), (2, .int v2), (0, .ref h), (1, .int v1)] from lv_sub hl [0, 1, 2, 3, 4] rfl)
def f_Mo_not_55 (n : Nat) (v2 : Int32) (v1 : Int32) (mSize : Nat → Int32) : Nat → Int32 → (Nat → Int32) → (Nat → Bool) → Option (Int32 × (Nat → Int32) × (Nat → Bool))
  | 0, _, _, _ => none
  | k + 1, v3, mGoes, mLast =>
    ogd (gin v1 60) <|
    if (mSize v1.toNatClampNeg) ≤ v3 then
      some (v3, mGoes, mLast)
    else
      (f_Mo_isLast n v1 v3 mLast).bind fun u22 =>
      if u22 = true then
        ogd (gin ((64 * v2) + v3) 3840) <|
        (f_Mo_not_93 n v3 v2 v1 n 0 mGoes).bind fun u28 =>
        f_Mo_not_55 n v2 v1 mSize k (v3 + 1) u28.2 (va_up mLast ((64 * v2) + v3).toNatClampNeg false)
      else
        ogd (gin ((64 * v2) + v3) 3840) <|
        (f_Mo_not_93 n v3 v2 v1 n 0 mGoes).bind fun u30 =>
        f_Mo_not_55 n v2 v1 mSize k (v3 + 1) u30.2 (va_up mLast ((64 * v2) + v3).toNatClampNeg true)
set_option maxHeartbeats 4000000 in
set_option maxRecDepth 100000 in
theorem w_Mo_not_55  {v2 : Int32} {v1 : Int32} (hx : p.tables.exec = Jvm.exec) (hb : c.code = b_Mo_not) (hml : c.maxLocals = 5) (hts : ∀ w ∈ gW, w.before args s = true) (hown : s.vm.findClass "RegularSolverModel" = some m.cls) (hK : va_K D vwCl (tG K) s) (hRf : 2 ≤ R.frames) (hRl : 46 ≤ R.locals) (hRc : cells ≤ R.cells) (hRs : slots ≤ R.slots) (hA : ∀ q, H0.size ≤ q → A q)  {out : Int32 × (Nat → Int32) × (Nat → Bool)} (Kx : ∀ (u : Int32 × (Nat → Int32) × (Nat → Bool)), out = u → ∀ (ls : Array Slot) (H : Heap) (locs : List Loc), va_P D vwCl (moW K h a mErr mLanguages mBounds mSize u.2.1 u.2.2 mLeft mNext mGroup mFresh mLeader mNumber mRight mEnds mWay mVariable mFactor mLeast mMost mLength mWord mKept mMany mMore mLeads mMet mTodo mMay mTries) H → va_D A (moW K h a mErr mLanguages mBounds mSize u.2.1 u.2.2 mLeft mNext mGroup mFresh mLeader mNumber mRight mEnds mWay mVariable mFactor mLeast mMost mLength mWord mKept mMany mMore mLeads mMet mTodo mMay mTries) → va_S A H0 H locs → lv_has ls 5 [(0, .ref h)] → W p l e R s m args below meth c H locs cells slots Q (F0 m 135 ls [])) :
    ∀ (k : Nat) (v3 : Int32) (mGoes : Nat → Int32) (mLast : Nat → Bool), f_Mo_not_55 n v2 v1 mSize k v3 mGoes mLast = some out → ∀ (ls : Array Slot) (H : Heap) (locs : List Loc), va_P D vwCl (moW K h a mErr mLanguages mBounds mSize mGoes mLast mLeft mNext mGroup mFresh mLeader mNumber mRight mEnds mWay mVariable mFactor mLeast mMost mLength mWord mKept mMany mMore mLeads mMet mTodo mMay mTries) H → va_D A (moW K h a mErr mLanguages mBounds mSize mGoes mLast mLeft mNext mGroup mFresh mLeader mNumber mRight mEnds mWay mVariable mFactor mLeast mMost mLength mWord mKept mMany mMore mLeads mMet mTodo mMay mTries) → va_S A H0 H locs → lv_has ls 5 [(3, .int v3), (2, .int v2), (0, .ref h), (1, .int v1)] → W p l e R s m args below meth c H locs cells slots Q (F0 m 55 ls []) := by
  intro k
  induction k with
  | zero => intro _ _ _ hf; exact nomatch (show none = some out from hf)
  | succ k ih =>
    intro v3 mGoes mLast hf ls H locs hP hD hS hl
    rw [f_Mo_not_55] at hf
    refine lv_iload_n hx hb d_Mo_not_55 rfl (lv_at hl 0 rfl) ?_
    refine lv_aload_n hx hb d_Mo_not_56 rfl (lv_at hl 2 rfl) ?_
    refine va_get (D := D) (ci := 0) (v := .ref (a 0)) (C := R_Mo) (T := T_Mo) (N := 29) hx hb hts in_Mo hown hK hP 0 rfl rfl 3 (by decide) (hts _ fl_Mo_9) (fun _ h9 => h9) rfl d_Mo_not_57 ?_
    refine lv_iload_n hx hb d_Mo_not_60 rfl (lv_at hl 3 rfl) ?_
    obtain ⟨g20, hf⟩ := ogi hf
    refine va_iald hx hb hK hP 1 0 rfl rfl (gin_in g20) d_Mo_not_61 ?_
    refine lv_icmp_ge (tgt := 135) hx hb d_Mo_not_62 (by decide) (fun c21 => ?_) (fun c21 => ?_)
    · rw [if_pos c21] at hf
      exact Kx _ (Option.some.inj hf).symm _ _ _ hP hD hS (show lv_has ls 5 [(0, .ref h)] from lv_sub hl [2] rfl)
    · rw [if_neg c21] at hf
      refine lv_aload_n hx hb d_Mo_not_65 rfl (lv_at hl 2 rfl) ?_
      refine va_get (D := D) (ci := 0) (v := .ref (a 2)) (C := R_Mo) (T := T_Mo) (N := 29) hx hb hts in_Mo hown hK hP 0 rfl rfl 5 (by decide) (hts _ fl_Mo_16) (fun _ h9 => h9) rfl d_Mo_not_66 ?_
      refine lv_bipush (v := 64) hx hb d_Mo_not_69 (by decide) ?_
      refine lv_iload_n hx hb d_Mo_not_71 rfl (lv_at hl 1 rfl) ?_
      refine lv_imul hx hb d_Mo_not_72 ?_
      refine lv_iload_n hx hb d_Mo_not_73 rfl (lv_at hl 0 rfl) ?_
      refine lv_iadd hx hb d_Mo_not_74 ?_
      refine lv_aload_n hx hb d_Mo_not_75 rfl (lv_at hl 2 rfl) ?_
      refine lv_iload_n hx hb d_Mo_not_76 rfl (lv_at hl 3 rfl) ?_
      refine lv_iload_n hx hb d_Mo_not_77 rfl (lv_at hl 0 rfl) ?_
      obtain ⟨u22, eu22, hf⟩ := obd hf
      refine p_call (W.runV (As := [.int v1, .int v3]) (rest := [.int ((64 * v2) + v3), .ref (a 2)]) ⟨hx, hb, hml, hown, hts⟩ (c_Mo_isLast l eu22) (gV 2 hts cd_Mo_isLast ml_Mo_102 im_Mo_isLast se_Mo_isLast ini_Mo rfl rfl pd_Mo_isLast ⟨Nat.le_trans (Nat.le_of_ble_eq_true rfl) hRf, Nat.le_trans (Nat.le_of_ble_eq_true rfl) hRl⟩) ⟨pPre_blind, va_recv hK hP (ci := 0) (q0 := 0) rfl rfl, pPre_of hP hK⟩ rfl rfl hl.1 rfl (lv_room (Nat.le_of_ble_eq_true rfl)) d_Mo_not_78 ⟨hRc, hRs⟩) ?_
      refine bz_ne (tgt := 88) hx hb d_Mo_not_81 (by decide) (fun c23 => ?_) (fun c23 => ?_)
      · rw [if_pos c23] at hf
        refine lv_iconst (v := 0) hx hb d_Mo_not_88 (by decide) ?_
        obtain ⟨g24, hf⟩ := ogi hf
        refine bz_ast (b := false) hx hb hK hP hD hS 3 2 rfl rfl (gin_in g24) d_Mo_not_89 (fun H locs hP hD hS => ?_)
        have hP : va_P D vwCl (moW K h a mErr mLanguages mBounds mSize mGoes (va_up mLast ((64 * v2) + v3).toNatClampNeg false) mLeft mNext mGroup mFresh mLeader mNumber mRight mEnds mWay mVariable mFactor mLeast mMost mLength mWord mKept mMany mMore mLeads mMet mTodo mMay mTries) H := hP
        have hD : va_D A (moW K h a mErr mLanguages mBounds mSize mGoes (va_up mLast ((64 * v2) + v3).toNatClampNeg false) mLeft mNext mGroup mFresh mLeader mNumber mRight mEnds mWay mVariable mFactor mLeast mMost mLength mWord mKept mMany mMore mLeads mMet mTodo mMay mTries) := hD
        refine lv_iconst (v := 0) hx hb d_Mo_not_90 (by decide) ?_
        refine lv_istore (lv' := [(4, .int 0), (3, .int v3), (2, .int v2), (0, .ref h), (1, .int v1)]) hx hb d_Mo_not_91 hl (by decide) rfl (fun ls hl => ?_)
        obtain ⟨u28, eu28, hf⟩ := obd hf
        refine w_Mo_not_93 hx hb hml hts hown hK hRf hRl hRc hRs hA  (fun u28q eu ls H locs hP hD hS hl => ?_) _ _ _ eu28 _ _ _ hP hD hS (show lv_has ls 5 [(4, .int 0), (3, .int v3), (2, .int v2), (0, .ref h), (1, .int v1)] from lv_sub hl [0, 1, 2, 3, 4] rfl)
        subst eu
        refine lv_iinc (v := v3 + 1) (lv' := [(3, .int (v3 + 1)), (2, .int v2), (0, .ref h), (1, .int v1)]) hx hb d_Mo_not_129 hl (k := 0) rfl (by first | rfl | (congr 1)) (by decide) rfl (fun ls hl => ?_)
        refine lv_goto (tgt := 55) hx hb d_Mo_not_132 (by decide) ?_
        exact ih _ _ _ hf _ _ _ hP hD hS (show lv_has ls 5 [(3, .int (v3 + 1)), (2, .int v2), (0, .ref h), (1, .int v1)] from lv_sub hl [0, 1, 2, 3] rfl)
      · rw [if_neg c23] at hf
        refine lv_iconst (v := 1) hx hb d_Mo_not_84 (by decide) ?_
        refine lv_goto (tgt := 89) hx hb d_Mo_not_85 (by decide) ?_
        obtain ⟨g29, hf⟩ := ogi hf
        refine bz_ast (b := true) hx hb hK hP hD hS 3 2 rfl rfl (gin_in g29) d_Mo_not_89 (fun H locs hP hD hS => ?_)
        have hP : va_P D vwCl (moW K h a mErr mLanguages mBounds mSize mGoes (va_up mLast ((64 * v2) + v3).toNatClampNeg true) mLeft mNext mGroup mFresh mLeader mNumber mRight mEnds mWay mVariable mFactor mLeast mMost mLength mWord mKept mMany mMore mLeads mMet mTodo mMay mTries) H := hP
        have hD : va_D A (moW K h a mErr mLanguages mBounds mSize mGoes (va_up mLast ((64 * v2) + v3).toNatClampNeg true) mLeft mNext mGroup mFresh mLeader mNumber mRight mEnds mWay mVariable mFactor mLeast mMost mLength mWord mKept mMany mMore mLeads mMet mTodo mMay mTries) := hD
        refine lv_iconst (v := 0) hx hb d_Mo_not_90 (by decide) ?_
        refine lv_istore (lv' := [(4, .int 0), (3, .int v3), (2, .int v2), (0, .ref h), (1, .int v1)]) hx hb d_Mo_not_91 hl (by decide) rfl (fun ls hl => ?_)
        obtain ⟨u30, eu30, hf⟩ := obd hf
        refine w_Mo_not_93 hx hb hml hts hown hK hRf hRl hRc hRs hA  (fun u30q eu ls H locs hP hD hS hl => ?_) _ _ _ eu30 _ _ _ hP hD hS (show lv_has ls 5 [(4, .int 0), (3, .int v3), (2, .int v2), (0, .ref h), (1, .int v1)] from lv_sub hl [0, 1, 2, 3, 4] rfl)
        subst eu
        refine lv_iinc (v := v3 + 1) (lv' := [(3, .int (v3 + 1)), (2, .int v2), (0, .ref h), (1, .int v1)]) hx hb d_Mo_not_129 hl (k := 0) rfl (by first | rfl | (congr 1)) (by decide) rfl (fun ls hl => ?_)
        refine lv_goto (tgt := 55) hx hb d_Mo_not_132 (by decide) ?_
        exact ih _ _ _ hf _ _ _ hP hD hS (show lv_has ls 5 [(3, .int (v3 + 1)), (2, .int v2), (0, .ref h), (1, .int v1)] from lv_sub hl [0, 1, 2, 3] rfl)
def f_Mo_not (n : Nat) (p0 : Int32) (mLanguages : Int32) (mSize : Nat → Int32) (mGoes : Nat → Int32) (mLast : Nat → Bool) : Option (Int32 × Int32 × Int32 × (Nat → Int32) × (Nat → Int32) × (Nat → Bool)) :=
  (f_Mo_isLanguage n p0 mLanguages).bind fun u1 =>
  if u1 = true then
    (f_Mo_fails n false 1 0).bind fun u3 =>
    if u3.1 = true then
      some (0, u3.2, mLanguages, mSize, mGoes, mLast)
    else
      (f_Mo_full n 2 u3.2 mLanguages).bind fun u5 =>
      if u5.1 = true then
        some (0, u5.2, mLanguages, mSize, mGoes, mLast)
      else
        ogd (gin p0 60) <|
        ogd (gin mLanguages 60) <|
        (f_Mo_not_55 n mLanguages p0 (upd mSize mLanguages.toNatClampNeg (mSize p0.toNatClampNeg)) n 0 mGoes mLast).bind fun u31 =>
        some (mLanguages, u5.2, mLanguages + 1, upd mSize mLanguages.toNatClampNeg (mSize p0.toNatClampNeg), u31.2.1, u31.2.2)
  else
    (f_Mo_fails n true 1 0).bind fun u32 =>
    if u32.1 = true then
      some (0, u32.2, mLanguages, mSize, mGoes, mLast)
    else
      (f_Mo_full n 2 u32.2 mLanguages).bind fun u34 =>
      if u34.1 = true then
        some (0, u34.2, mLanguages, mSize, mGoes, mLast)
      else
        ogd (gin p0 60) <|
        ogd (gin mLanguages 60) <|
        (f_Mo_not_55 n mLanguages p0 (upd mSize mLanguages.toNatClampNeg (mSize p0.toNatClampNeg)) n 0 mGoes mLast).bind fun u38 =>
        some (mLanguages, u34.2, mLanguages + 1, upd mSize mLanguages.toNatClampNeg (mSize p0.toNatClampNeg), u38.2.1, u38.2.2)
set_option maxHeartbeats 4000000 in
set_option maxRecDepth 100000 in
theorem w_Mo_not  {p0 : Int32}  (hx : p.tables.exec = Jvm.exec) (hb : c.code = b_Mo_not) (hml : c.maxLocals = 5) (hts : ∀ w ∈ gW, w.before args s = true) (hown : s.vm.findClass "RegularSolverModel" = some m.cls) (hK : va_K D vwCl (tG K) s) (hRf : 2 ≤ R.frames) (hRl : 46 ≤ R.locals) (hRc : cells ≤ R.cells) (hRs : slots ≤ R.slots) (hA : ∀ q, H0.size ≤ q → A q) {out : Int32 × Int32 × Int32 × (Nat → Int32) × (Nat → Int32) × (Nat → Bool)} (Kr : ∀ (r : Int32 × Int32 × Int32 × (Nat → Int32) × (Nat → Int32) × (Nat → Bool)), out = r → ∀ (pc : Nat) (ls : Array Slot) (H : Heap) (locs : List Loc), decode b_Mo_not pc = .ok (.ireturn, 1) → va_P D vwCl (moW K h a r.2.1 r.2.2.1 mBounds r.2.2.2.1 r.2.2.2.2.1 r.2.2.2.2.2 mLeft mNext mGroup mFresh mLeader mNumber mRight mEnds mWay mVariable mFactor mLeast mMost mLength mWord mKept mMany mMore mLeads mMet mTodo mMay mTries) H → va_D A (moW K h a r.2.1 r.2.2.1 mBounds r.2.2.2.1 r.2.2.2.2.1 r.2.2.2.2.2 mLeft mNext mGroup mFresh mLeader mNumber mRight mEnds mWay mVariable mFactor mLeast mMost mLength mWord mKept mMany mMore mLeads mMet mTodo mMay mTries) → va_S A H0 H locs → W p l e R s m args below meth c H locs cells slots Q (F0 m pc ls [.int r.1])) (hf : f_Mo_not n p0 mLanguages mSize mGoes mLast = some out) (ls : Array Slot) (hP : va_P D vwCl (moW K h a mErr mLanguages mBounds mSize mGoes mLast mLeft mNext mGroup mFresh mLeader mNumber mRight mEnds mWay mVariable mFactor mLeast mMost mLength mWord mKept mMany mMore mLeads mMet mTodo mMay mTries) H) (hD : va_D A (moW K h a mErr mLanguages mBounds mSize mGoes mLast mLeft mNext mGroup mFresh mLeader mNumber mRight mEnds mWay mVariable mFactor mLeast mMost mLength mWord mKept mMany mMore mLeads mMet mTodo mMay mTries)) (hS : va_S A H0 H locs) (hl : lv_has ls 5 [(0, .ref h), (1, .int p0)]) : W p l e R s m args below meth c H locs cells slots Q (F0 m 0 ls []) := by
  unfold f_Mo_not at hf
  refine lv_aload_n hx hb d_Mo_not_0 rfl (lv_at hl 0 rfl) ?_
  refine lv_iconst (v := 0) hx hb d_Mo_not_1 (by decide) ?_
  refine va_put (D := D) (ci := 0) (v := .int 0) (ty := .int) (C := R_Mo) (T := T_Mo) (N := 29) hx hb hts in_Mo t_Mo t_Mo_ok n_Mo hown hK hP hD hS 0 rfl rfl 0 (by decide) (hts _ fl_Mo_84) (fun _ h9 => h9) rfl (by decide +kernel) rfl rfl (Nat.le_of_ble_eq_true rfl) d_Mo_not_2 (fun H locs hP hD hS => ?_)
  have hP : va_P D vwCl (moW K h a 0 mLanguages mBounds mSize mGoes mLast mLeft mNext mGroup mFresh mLeader mNumber mRight mEnds mWay mVariable mFactor mLeast mMost mLength mWord mKept mMany mMore mLeads mMet mTodo mMay mTries) H := hP
  have hD : va_D A (moW K h a 0 mLanguages mBounds mSize mGoes mLast mLeft mNext mGroup mFresh mLeader mNumber mRight mEnds mWay mVariable mFactor mLeast mMost mLength mWord mKept mMany mMore mLeads mMet mTodo mMay mTries) := hD
  refine lv_aload_n hx hb d_Mo_not_5 rfl (lv_at hl 0 rfl) ?_
  refine lv_aload_n hx hb d_Mo_not_6 rfl (lv_at hl 0 rfl) ?_
  refine lv_iload_n hx hb d_Mo_not_7 rfl (lv_at hl 1 rfl) ?_
  obtain ⟨u1, eu1, hf⟩ := obd hf
  refine p_call (W.runV (As := [.int p0]) (rest := [.ref h]) ⟨hx, hb, hml, hown, hts⟩ (c_Mo_isLanguage l eu1) (gV 1 hts cd_Mo_isLanguage ml_Mo_138 im_Mo_isLanguage se_Mo_isLanguage ini_Mo rfl rfl pd_Mo_isLanguage ⟨Nat.le_trans (Nat.le_of_ble_eq_true rfl) hRf, Nat.le_trans (Nat.le_of_ble_eq_true rfl) hRl⟩) ⟨pPre_blind, va_recv hK hP (ci := 0) (q0 := 0) rfl rfl, pPre_of hP hK⟩ rfl rfl hl.1 rfl (lv_room (Nat.le_of_ble_eq_true rfl)) d_Mo_not_8 ⟨hRc, hRs⟩) ?_
  refine bz_ne (tgt := 18) hx hb d_Mo_not_11 (by decide) (fun c2 => ?_) (fun c2 => ?_)
  · rw [if_pos c2] at hf
    refine lv_iconst (v := 0) hx hb d_Mo_not_18 (by decide) ?_
    refine lv_iconst (v := 1) hx hb d_Mo_not_19 (by decide) ?_
    obtain ⟨u3, eu3, hf⟩ := obd hf
    refine w_call (va_runV (As := [.int (bI false), .int 1]) (rest := []) ⟨hx, hb, hml, hown, hts⟩ (c_Mo_fails l H.size eu3) (gV 2 hts cd_Mo_fails ml_Mo_124 im_Mo_fails se_Mo_fails ini_Mo rfl rfl pd_Mo_fails ⟨Nat.le_trans (Nat.le_of_ble_eq_true rfl) hRf, Nat.le_trans (Nat.le_of_ble_eq_true rfl) hRl⟩) ⟨wPre_blind, va_recv hK hP (ci := 0) (q0 := 0) rfl rfl, wPre_of hP hK hD⟩ rfl rfl hl.1 rfl (lv_room (Nat.le_of_ble_eq_true rfl)) d_Mo_not_20 ⟨hRc, hRs⟩) hD hS hA (fun H locs hP hD hS => ?_)
    have hP : va_P D vwCl (moW K h a u3.2 mLanguages mBounds mSize mGoes mLast mLeft mNext mGroup mFresh mLeader mNumber mRight mEnds mWay mVariable mFactor mLeast mMost mLength mWord mKept mMany mMore mLeads mMet mTodo mMay mTries) H := hP
    have hD : va_D A (moW K h a u3.2 mLanguages mBounds mSize mGoes mLast mLeft mNext mGroup mFresh mLeader mNumber mRight mEnds mWay mVariable mFactor mLeast mMost mLength mWord mKept mMany mMore mLeads mMet mTodo mMay mTries) := hD
    refine bz_ne (tgt := 34) hx hb d_Mo_not_23 (by decide) (fun c4 => ?_) (fun c4 => ?_)
    · rw [if_pos c4] at hf
      refine lv_iconst (v := 0) hx hb d_Mo_not_34 (by decide) ?_
      exact Kr _ (Option.some.inj hf).symm _ _ _ _ d_Mo_not_35 hP hD hS
    · rw [if_neg c4] at hf
      refine lv_aload_n hx hb d_Mo_not_26 rfl (lv_at hl 0 rfl) ?_
      refine lv_iconst (v := 2) hx hb d_Mo_not_27 (by decide) ?_
      obtain ⟨u5, eu5, hf⟩ := obd hf
      refine w_call (va_runV (As := [.int 2]) (rest := []) ⟨hx, hb, hml, hown, hts⟩ (c_Mo_full l H.size eu5) (gV 1 hts cd_Mo_full ml_Mo_130 im_Mo_full se_Mo_full ini_Mo rfl rfl pd_Mo_full ⟨Nat.le_trans (Nat.le_of_ble_eq_true rfl) hRf, Nat.le_trans (Nat.le_of_ble_eq_true rfl) hRl⟩) ⟨wPre_blind, va_recv hK hP (ci := 0) (q0 := 0) rfl rfl, wPre_of hP hK hD⟩ rfl rfl hl.1 rfl (lv_room (Nat.le_of_ble_eq_true rfl)) d_Mo_not_28 ⟨hRc, hRs⟩) hD hS hA (fun H locs hP hD hS => ?_)
      have hP : va_P D vwCl (moW K h a u5.2 mLanguages mBounds mSize mGoes mLast mLeft mNext mGroup mFresh mLeader mNumber mRight mEnds mWay mVariable mFactor mLeast mMost mLength mWord mKept mMany mMore mLeads mMet mTodo mMay mTries) H := hP
      have hD : va_D A (moW K h a u5.2 mLanguages mBounds mSize mGoes mLast mLeft mNext mGroup mFresh mLeader mNumber mRight mEnds mWay mVariable mFactor mLeast mMost mLength mWord mKept mMany mMore mLeads mMet mTodo mMay mTries) := hD
      refine bz_eq (tgt := 36) hx hb d_Mo_not_31 (by decide) (fun c6 => ?_) (fun c6 => ?_)
      · rw [if_neg c6] at hf
        refine lv_aload_n hx hb d_Mo_not_36 rfl (lv_at hl 0 rfl) ?_
        refine va_get (D := D) (ci := 0) (v := .int mLanguages) (C := R_Mo) (T := T_Mo) (N := 29) hx hb hts in_Mo hown hK hP 0 rfl rfl 1 (by decide) (hts _ fl_Mo_88) (fun _ h9 => h9) rfl d_Mo_not_37 ?_
        refine lv_istore_n (lv' := [(2, .int mLanguages), (0, .ref h), (1, .int p0)]) hx hb d_Mo_not_40 rfl hl (by decide) rfl (fun ls hl => ?_)
        refine lv_aload_n hx hb d_Mo_not_41 rfl (lv_at hl 1 rfl) ?_
        refine va_get (D := D) (ci := 0) (v := .ref (a 0)) (C := R_Mo) (T := T_Mo) (N := 29) hx hb hts in_Mo hown hK hP 0 rfl rfl 3 (by decide) (hts _ fl_Mo_9) (fun _ h9 => h9) rfl d_Mo_not_42 ?_
        refine lv_iload_n hx hb d_Mo_not_45 rfl (lv_at hl 0 rfl) ?_
        refine lv_aload_n hx hb d_Mo_not_46 rfl (lv_at hl 1 rfl) ?_
        refine va_get (D := D) (ci := 0) (v := .ref (a 0)) (C := R_Mo) (T := T_Mo) (N := 29) hx hb hts in_Mo hown hK hP 0 rfl rfl 3 (by decide) (hts _ fl_Mo_9) (fun _ h9 => h9) rfl d_Mo_not_47 ?_
        refine lv_iload_n hx hb d_Mo_not_50 rfl (lv_at hl 2 rfl) ?_
        obtain ⟨g7, hf⟩ := ogi hf
        refine va_iald hx hb hK hP 1 0 rfl rfl (gin_in g7) d_Mo_not_51 ?_
        obtain ⟨g8, hf⟩ := ogi hf
        refine va_iast hx hb hK hP hD hS 1 0 rfl rfl (gin_in g8) d_Mo_not_52 (fun H locs hP hD hS => ?_)
        have hP : va_P D vwCl (moW K h a u5.2 mLanguages mBounds (upd mSize mLanguages.toNatClampNeg (mSize p0.toNatClampNeg)) mGoes mLast mLeft mNext mGroup mFresh mLeader mNumber mRight mEnds mWay mVariable mFactor mLeast mMost mLength mWord mKept mMany mMore mLeads mMet mTodo mMay mTries) H := hP
        have hD : va_D A (moW K h a u5.2 mLanguages mBounds (upd mSize mLanguages.toNatClampNeg (mSize p0.toNatClampNeg)) mGoes mLast mLeft mNext mGroup mFresh mLeader mNumber mRight mEnds mWay mVariable mFactor mLeast mMost mLength mWord mKept mMany mMore mLeads mMet mTodo mMay mTries) := hD
        refine lv_iconst (v := 0) hx hb d_Mo_not_53 (by decide) ?_
        refine lv_istore_n (lv' := [(3, .int 0), (2, .int mLanguages), (0, .ref h), (1, .int p0)]) hx hb d_Mo_not_54 rfl hl (by decide) rfl (fun ls hl => ?_)
        obtain ⟨u31, eu31, hf⟩ := obd hf
        refine w_Mo_not_55 hx hb hml hts hown hK hRf hRl hRc hRs hA  (fun u31q eu ls H locs hP hD hS hl => ?_) _ _ _ _ eu31 _ _ _ hP hD hS (show lv_has ls 5 [(3, .int 0), (2, .int mLanguages), (0, .ref h), (1, .int p0)] from lv_sub hl [0, 1, 2, 3] rfl)
        subst eu
        refine lv_aload_n hx hb d_Mo_not_135 rfl (lv_at hl 0 rfl) ?_
        refine lv_dup hx hb d_Mo_not_136 rfl ?_
        refine va_get (D := D) (ci := 0) (v := .int mLanguages) (C := R_Mo) (T := T_Mo) (N := 29) hx hb hts in_Mo hown hK hP 0 rfl rfl 1 (by decide) (hts _ fl_Mo_88) (fun _ h9 => h9) rfl d_Mo_not_137 ?_
        refine lv_dup_x1 hx hb d_Mo_not_140 rfl rfl ?_
        refine lv_iconst (v := 1) hx hb d_Mo_not_141 (by decide) ?_
        refine lv_iadd hx hb d_Mo_not_142 ?_
        refine va_put (D := D) (ci := 0) (v := .int (mLanguages + 1)) (ty := .int) (C := R_Mo) (T := T_Mo) (N := 29) hx hb hts in_Mo t_Mo t_Mo_ok n_Mo hown hK hP hD hS 0 rfl rfl 1 (by decide) (hts _ fl_Mo_88) (fun _ h9 => h9) rfl (by decide +kernel) rfl rfl (Nat.le_of_ble_eq_true rfl) d_Mo_not_143 (fun H locs hP hD hS => ?_)
        have hP : va_P D vwCl (moW K h a u5.2 (mLanguages + 1) mBounds (upd mSize mLanguages.toNatClampNeg (mSize p0.toNatClampNeg)) u31.2.1 u31.2.2 mLeft mNext mGroup mFresh mLeader mNumber mRight mEnds mWay mVariable mFactor mLeast mMost mLength mWord mKept mMany mMore mLeads mMet mTodo mMay mTries) H := hP
        have hD : va_D A (moW K h a u5.2 (mLanguages + 1) mBounds (upd mSize mLanguages.toNatClampNeg (mSize p0.toNatClampNeg)) u31.2.1 u31.2.2 mLeft mNext mGroup mFresh mLeader mNumber mRight mEnds mWay mVariable mFactor mLeast mMost mLength mWord mKept mMany mMore mLeads mMet mTodo mMay mTries) := hD
        exact Kr _ (Option.some.inj hf).symm _ _ _ _ d_Mo_not_146 hP hD hS
      · rw [if_pos c6] at hf
        refine lv_iconst (v := 0) hx hb d_Mo_not_34 (by decide) ?_
        exact Kr _ (Option.some.inj hf).symm _ _ _ _ d_Mo_not_35 hP hD hS
  · rw [if_neg c2] at hf
    refine lv_iconst (v := 1) hx hb d_Mo_not_14 (by decide) ?_
    refine lv_goto (tgt := 19) hx hb d_Mo_not_15 (by decide) ?_
    refine lv_iconst (v := 1) hx hb d_Mo_not_19 (by decide) ?_
    obtain ⟨u32, eu32, hf⟩ := obd hf
    refine w_call (va_runV (As := [.int (bI true), .int 1]) (rest := []) ⟨hx, hb, hml, hown, hts⟩ (c_Mo_fails l H.size eu32) (gV 2 hts cd_Mo_fails ml_Mo_124 im_Mo_fails se_Mo_fails ini_Mo rfl rfl pd_Mo_fails ⟨Nat.le_trans (Nat.le_of_ble_eq_true rfl) hRf, Nat.le_trans (Nat.le_of_ble_eq_true rfl) hRl⟩) ⟨wPre_blind, va_recv hK hP (ci := 0) (q0 := 0) rfl rfl, wPre_of hP hK hD⟩ rfl rfl hl.1 rfl (lv_room (Nat.le_of_ble_eq_true rfl)) d_Mo_not_20 ⟨hRc, hRs⟩) hD hS hA (fun H locs hP hD hS => ?_)
    have hP : va_P D vwCl (moW K h a u32.2 mLanguages mBounds mSize mGoes mLast mLeft mNext mGroup mFresh mLeader mNumber mRight mEnds mWay mVariable mFactor mLeast mMost mLength mWord mKept mMany mMore mLeads mMet mTodo mMay mTries) H := hP
    have hD : va_D A (moW K h a u32.2 mLanguages mBounds mSize mGoes mLast mLeft mNext mGroup mFresh mLeader mNumber mRight mEnds mWay mVariable mFactor mLeast mMost mLength mWord mKept mMany mMore mLeads mMet mTodo mMay mTries) := hD
    refine bz_ne (tgt := 34) hx hb d_Mo_not_23 (by decide) (fun c33 => ?_) (fun c33 => ?_)
    · rw [if_pos c33] at hf
      refine lv_iconst (v := 0) hx hb d_Mo_not_34 (by decide) ?_
      exact Kr _ (Option.some.inj hf).symm _ _ _ _ d_Mo_not_35 hP hD hS
    · rw [if_neg c33] at hf
      refine lv_aload_n hx hb d_Mo_not_26 rfl (lv_at hl 0 rfl) ?_
      refine lv_iconst (v := 2) hx hb d_Mo_not_27 (by decide) ?_
      obtain ⟨u34, eu34, hf⟩ := obd hf
      refine w_call (va_runV (As := [.int 2]) (rest := []) ⟨hx, hb, hml, hown, hts⟩ (c_Mo_full l H.size eu34) (gV 1 hts cd_Mo_full ml_Mo_130 im_Mo_full se_Mo_full ini_Mo rfl rfl pd_Mo_full ⟨Nat.le_trans (Nat.le_of_ble_eq_true rfl) hRf, Nat.le_trans (Nat.le_of_ble_eq_true rfl) hRl⟩) ⟨wPre_blind, va_recv hK hP (ci := 0) (q0 := 0) rfl rfl, wPre_of hP hK hD⟩ rfl rfl hl.1 rfl (lv_room (Nat.le_of_ble_eq_true rfl)) d_Mo_not_28 ⟨hRc, hRs⟩) hD hS hA (fun H locs hP hD hS => ?_)
      have hP : va_P D vwCl (moW K h a u34.2 mLanguages mBounds mSize mGoes mLast mLeft mNext mGroup mFresh mLeader mNumber mRight mEnds mWay mVariable mFactor mLeast mMost mLength mWord mKept mMany mMore mLeads mMet mTodo mMay mTries) H := hP
      have hD : va_D A (moW K h a u34.2 mLanguages mBounds mSize mGoes mLast mLeft mNext mGroup mFresh mLeader mNumber mRight mEnds mWay mVariable mFactor mLeast mMost mLength mWord mKept mMany mMore mLeads mMet mTodo mMay mTries) := hD
      refine bz_eq (tgt := 36) hx hb d_Mo_not_31 (by decide) (fun c35 => ?_) (fun c35 => ?_)
      · rw [if_neg c35] at hf
        refine lv_aload_n hx hb d_Mo_not_36 rfl (lv_at hl 0 rfl) ?_
        refine va_get (D := D) (ci := 0) (v := .int mLanguages) (C := R_Mo) (T := T_Mo) (N := 29) hx hb hts in_Mo hown hK hP 0 rfl rfl 1 (by decide) (hts _ fl_Mo_88) (fun _ h9 => h9) rfl d_Mo_not_37 ?_
        refine lv_istore_n (lv' := [(2, .int mLanguages), (0, .ref h), (1, .int p0)]) hx hb d_Mo_not_40 rfl hl (by decide) rfl (fun ls hl => ?_)
        refine lv_aload_n hx hb d_Mo_not_41 rfl (lv_at hl 1 rfl) ?_
        refine va_get (D := D) (ci := 0) (v := .ref (a 0)) (C := R_Mo) (T := T_Mo) (N := 29) hx hb hts in_Mo hown hK hP 0 rfl rfl 3 (by decide) (hts _ fl_Mo_9) (fun _ h9 => h9) rfl d_Mo_not_42 ?_
        refine lv_iload_n hx hb d_Mo_not_45 rfl (lv_at hl 0 rfl) ?_
        refine lv_aload_n hx hb d_Mo_not_46 rfl (lv_at hl 1 rfl) ?_
        refine va_get (D := D) (ci := 0) (v := .ref (a 0)) (C := R_Mo) (T := T_Mo) (N := 29) hx hb hts in_Mo hown hK hP 0 rfl rfl 3 (by decide) (hts _ fl_Mo_9) (fun _ h9 => h9) rfl d_Mo_not_47 ?_
        refine lv_iload_n hx hb d_Mo_not_50 rfl (lv_at hl 2 rfl) ?_
        obtain ⟨g36, hf⟩ := ogi hf
        refine va_iald hx hb hK hP 1 0 rfl rfl (gin_in g36) d_Mo_not_51 ?_
        obtain ⟨g37, hf⟩ := ogi hf
        refine va_iast hx hb hK hP hD hS 1 0 rfl rfl (gin_in g37) d_Mo_not_52 (fun H locs hP hD hS => ?_)
        have hP : va_P D vwCl (moW K h a u34.2 mLanguages mBounds (upd mSize mLanguages.toNatClampNeg (mSize p0.toNatClampNeg)) mGoes mLast mLeft mNext mGroup mFresh mLeader mNumber mRight mEnds mWay mVariable mFactor mLeast mMost mLength mWord mKept mMany mMore mLeads mMet mTodo mMay mTries) H := hP
        have hD : va_D A (moW K h a u34.2 mLanguages mBounds (upd mSize mLanguages.toNatClampNeg (mSize p0.toNatClampNeg)) mGoes mLast mLeft mNext mGroup mFresh mLeader mNumber mRight mEnds mWay mVariable mFactor mLeast mMost mLength mWord mKept mMany mMore mLeads mMet mTodo mMay mTries) := hD
        refine lv_iconst (v := 0) hx hb d_Mo_not_53 (by decide) ?_
        refine lv_istore_n (lv' := [(3, .int 0), (2, .int mLanguages), (0, .ref h), (1, .int p0)]) hx hb d_Mo_not_54 rfl hl (by decide) rfl (fun ls hl => ?_)
        obtain ⟨u38, eu38, hf⟩ := obd hf
        refine w_Mo_not_55 hx hb hml hts hown hK hRf hRl hRc hRs hA  (fun u38q eu ls H locs hP hD hS hl => ?_) _ _ _ _ eu38 _ _ _ hP hD hS (show lv_has ls 5 [(3, .int 0), (2, .int mLanguages), (0, .ref h), (1, .int p0)] from lv_sub hl [0, 1, 2, 3] rfl)
        subst eu
        refine lv_aload_n hx hb d_Mo_not_135 rfl (lv_at hl 0 rfl) ?_
        refine lv_dup hx hb d_Mo_not_136 rfl ?_
        refine va_get (D := D) (ci := 0) (v := .int mLanguages) (C := R_Mo) (T := T_Mo) (N := 29) hx hb hts in_Mo hown hK hP 0 rfl rfl 1 (by decide) (hts _ fl_Mo_88) (fun _ h9 => h9) rfl d_Mo_not_137 ?_
        refine lv_dup_x1 hx hb d_Mo_not_140 rfl rfl ?_
        refine lv_iconst (v := 1) hx hb d_Mo_not_141 (by decide) ?_
        refine lv_iadd hx hb d_Mo_not_142 ?_
        refine va_put (D := D) (ci := 0) (v := .int (mLanguages + 1)) (ty := .int) (C := R_Mo) (T := T_Mo) (N := 29) hx hb hts in_Mo t_Mo t_Mo_ok n_Mo hown hK hP hD hS 0 rfl rfl 1 (by decide) (hts _ fl_Mo_88) (fun _ h9 => h9) rfl (by decide +kernel) rfl rfl (Nat.le_of_ble_eq_true rfl) d_Mo_not_143 (fun H locs hP hD hS => ?_)
        have hP : va_P D vwCl (moW K h a u34.2 (mLanguages + 1) mBounds (upd mSize mLanguages.toNatClampNeg (mSize p0.toNatClampNeg)) u38.2.1 u38.2.2 mLeft mNext mGroup mFresh mLeader mNumber mRight mEnds mWay mVariable mFactor mLeast mMost mLength mWord mKept mMany mMore mLeads mMet mTodo mMay mTries) H := hP
        have hD : va_D A (moW K h a u34.2 (mLanguages + 1) mBounds (upd mSize mLanguages.toNatClampNeg (mSize p0.toNatClampNeg)) u38.2.1 u38.2.2 mLeft mNext mGroup mFresh mLeader mNumber mRight mEnds mWay mVariable mFactor mLeast mMost mLength mWord mKept mMany mMore mLeads mMet mTodo mMay mTries) := hD
        exact Kr _ (Option.some.inj hf).symm _ _ _ _ d_Mo_not_146 hP hD hS
      · rw [if_pos c35] at hf
        refine lv_iconst (v := 0) hx hb d_Mo_not_34 (by decide) ?_
        exact Kr _ (Option.some.inj hf).symm _ _ _ _ d_Mo_not_35 hP hD hS
set_option maxHeartbeats 4000000 in
set_option maxRecDepth 100000 in
theorem c_Mo_not (l : Launch)  {p0 : Int32}  {r : Int32 × Int32 × Int32 × (Nat → Int32) × (Nat → Int32) × (Nat → Bool)} (sz : Nat) (hf : f_Mo_not n p0 mLanguages mSize mGoes mLast = some r) : Met l y_Mo_not w0_Mo_not ({ frames := 2, cells := 0, slots := 0, locals := 46 }) (wPre D K [.ref h, .int p0] (moW K h a mErr mLanguages mBounds mSize mGoes mLast mLeft mNext mGroup mFresh mLeader mNumber mRight mEnds mWay mVariable mFactor mLeast mMost mLength mWord mKept mMany mMore mLeads mMet mTodo mMay mTries) sz) (wPost D K (some (.int r.1)) (moW K h a r.2.1 r.2.2.1 mBounds r.2.2.2.1 r.2.2.2.2.1 r.2.2.2.2.2 mLeft mNext mGroup mFresh mLeader mNumber mRight mEnds mWay mVariable mFactor mLeast mMost mLength mWord mKept mMany mMore mLeads mMet mTodo mMay mTries) (va_A (moW K h a mErr mLanguages mBounds mSize mGoes mLast mLeft mNext mGroup mFresh mLeader mNumber mRight mEnds mWay mVariable mFactor mLeast mMost mLength mWord mKept mMany mMore mLeads mMet mTodo mMay mTries) sz)) 0 0 (va_A (moW K h a mErr mLanguages mBounds mSize mGoes mLast mLeft mNext mGroup mFresh mLeader mNumber mRight mEnds mWay mVariable mFactor mLeast mMost mLength mWord mKept mMany mMore mLeads mMet mTodo mMay mTries) sz) := by
  refine Met.ofW (cc := b_Mo_not) (maxL := 5) (ret := (some .int)) (by decide) rfl ?_
  intro p e s m args below meth c s₁ B hml hv
  obtain ⟨rfl, hsz, hP, hK, hD0⟩ := hv
  subst hsz
  have hl := lv_entry [.ref h, .int p0] (n := 5) (Nat.le_of_ble_eq_true rfl)
  rw [lg_entry_eq]
  generalize (lg_sl [.ref h, .int p0] ++ List.replicate (5 - (lg_sl [.ref h, .int p0]).length) Slot.unset).toArray = ls at hl ⊢
  refine w_Mo_not (A := va_A (moW K h a mErr mLanguages mBounds mSize mGoes mLast mLeft mNext mGroup mFresh mLeader mNumber mRight mEnds mWay mVariable mFactor mLeast mMost mLength mWord mKept mMany mMore mLeads mMet mTodo mMay mTries) s.heap.size) (H0 := s.heap) B.exec B.bytes hml (fun w hw => atoms_spec (ws := w0_Mo_not) B.pre w (List.mem_cons_of_mem _ hw)) (findClass_of_methodNamed B.named) hK (Nat.le_refl _) (Nat.le_refl _) (Nat.zero_le _) (Nat.zero_le _) (fun q h => Or.inr h) (fun r er pc ls H locs hd hP hD hS => ?_) hf ls hP (hD0.self (sz := s.heap.size)) va_S.rf hl
  subst er
  exact W.iret B.exec B.bytes B.returns (fun t ht hW => ⟨⟨rfl, by rw [ht]; exact hP, va_K.moved hW.alike hK, hD⟩, hS.F ht⟩) hS.2.2 hd (hlocks := B.notSynchronized)
end
