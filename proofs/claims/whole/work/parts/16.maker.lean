abbrev b_Mk_addAt : ByteArray := prog_7_method_5_code
def y_Mk_addAt : MethodName := ⟨"RegularSolver$Maker", "addAt", "(IIJ)I"⟩
abbrev w0_Mk_addAt : List Cond := Cond.code y_Mk_addAt b_Mk_addAt 5 (some .int) :: gW
theorem cd_Mk_addAt : Cond.code y_Mk_addAt b_Mk_addAt 5 (some .int) ∈ gW := gm 354 (by decide +kernel) (by decide +kernel)
theorem d_Mk_addAt_0 : decode b_Mk_addAt 0 = .ok (.aload_n 0, 1) := by decide +kernel
theorem d_Mk_addAt_1 : decode b_Mk_addAt 1 = .ok (.getfield 25, 3) := by decide +kernel
theorem d_Mk_addAt_4 : decode b_Mk_addAt 4 = .ok (.sipush 800, 3) := by decide +kernel
theorem d_Mk_addAt_7 : decode b_Mk_addAt 7 = .ok (.if_icmp .lt 5, 3) := by decide +kernel
theorem d_Mk_addAt_10 : decode b_Mk_addAt 10 = .ok (.iconst (-1), 1) := by decide +kernel
theorem d_Mk_addAt_11 : decode b_Mk_addAt 11 = .ok (.ireturn, 1) := by decide +kernel
theorem d_Mk_addAt_12 : decode b_Mk_addAt 12 = .ok (.aload_n 0, 1) := by decide +kernel
theorem d_Mk_addAt_13 : decode b_Mk_addAt 13 = .ok (.getfield 11, 3) := by decide +kernel
theorem d_Mk_addAt_16 : decode b_Mk_addAt 16 = .ok (.aload_n 0, 1) := by decide +kernel
theorem d_Mk_addAt_17 : decode b_Mk_addAt 17 = .ok (.getfield 25, 3) := by decide +kernel
theorem d_Mk_addAt_20 : decode b_Mk_addAt 20 = .ok (.iload_n 2, 1) := by decide +kernel
theorem d_Mk_addAt_21 : decode b_Mk_addAt 21 = .ok (.iastore, 1) := by decide +kernel
theorem d_Mk_addAt_22 : decode b_Mk_addAt 22 = .ok (.aload_n 0, 1) := by decide +kernel
theorem d_Mk_addAt_23 : decode b_Mk_addAt 23 = .ok (.getfield 15, 3) := by decide +kernel
theorem d_Mk_addAt_26 : decode b_Mk_addAt 26 = .ok (.aload_n 0, 1) := by decide +kernel
theorem d_Mk_addAt_27 : decode b_Mk_addAt 27 = .ok (.getfield 25, 3) := by decide +kernel
theorem d_Mk_addAt_30 : decode b_Mk_addAt 30 = .ok (.lload_n 3, 1) := by decide +kernel
theorem d_Mk_addAt_31 : decode b_Mk_addAt 31 = .ok (.lastore, 1) := by decide +kernel
theorem d_Mk_addAt_32 : decode b_Mk_addAt 32 = .ok (.aload_n 0, 1) := by decide +kernel
theorem d_Mk_addAt_33 : decode b_Mk_addAt 33 = .ok (.getfield 22, 3) := by decide +kernel
theorem d_Mk_addAt_36 : decode b_Mk_addAt 36 = .ok (.iload_n 1, 1) := by decide +kernel
theorem d_Mk_addAt_37 : decode b_Mk_addAt 37 = .ok (.aload_n 0, 1) := by decide +kernel
theorem d_Mk_addAt_38 : decode b_Mk_addAt 38 = .ok (.getfield 25, 3) := by decide +kernel
theorem d_Mk_addAt_41 : decode b_Mk_addAt 41 = .ok (.iastore, 1) := by decide +kernel
theorem d_Mk_addAt_42 : decode b_Mk_addAt 42 = .ok (.aload_n 0, 1) := by decide +kernel
theorem d_Mk_addAt_43 : decode b_Mk_addAt 43 = .ok (.dup, 1) := by decide +kernel
theorem d_Mk_addAt_44 : decode b_Mk_addAt 44 = .ok (.getfield 25, 3) := by decide +kernel
theorem d_Mk_addAt_47 : decode b_Mk_addAt 47 = .ok (.iconst 1, 1) := by decide +kernel
theorem d_Mk_addAt_48 : decode b_Mk_addAt 48 = .ok (.iadd, 1) := by decide +kernel
theorem d_Mk_addAt_49 : decode b_Mk_addAt 49 = .ok (.putfield 25, 3) := by decide +kernel
theorem d_Mk_addAt_52 : decode b_Mk_addAt 52 = .ok (.aload_n 0, 1) := by decide +kernel
theorem d_Mk_addAt_53 : decode b_Mk_addAt 53 = .ok (.getfield 25, 3) := by decide +kernel
theorem d_Mk_addAt_56 : decode b_Mk_addAt 56 = .ok (.iconst 1, 1) := by decide +kernel
theorem d_Mk_addAt_57 : decode b_Mk_addAt 57 = .ok (.isub, 1) := by decide +kernel
theorem d_Mk_addAt_58 : decode b_Mk_addAt 58 = .ok (.ireturn, 1) := by decide +kernel
abbrev b_Mk_numberOf : ByteArray := prog_7_method_4_code
def y_Mk_numberOf : MethodName := ⟨"RegularSolver$Maker", "numberOf", "(IJ)I"⟩
abbrev w0_Mk_numberOf : List Cond := Cond.code y_Mk_numberOf b_Mk_numberOf 7 (some .int) :: gW
theorem cd_Mk_numberOf : Cond.code y_Mk_numberOf b_Mk_numberOf 7 (some .int) ∈ gW := gm 349 (by decide +kernel) (by decide +kernel)
theorem d_Mk_numberOf_0 : decode b_Mk_numberOf 0 = .ok (.lload_n 2, 1) := by decide +kernel
theorem d_Mk_numberOf_1 : decode b_Mk_numberOf 1 = .ok (.ldc2_w 89, 3) := by decide +kernel
theorem d_Mk_numberOf_4 : decode b_Mk_numberOf 4 = .ok (.lmul, 1) := by decide +kernel
theorem d_Mk_numberOf_5 : decode b_Mk_numberOf 5 = .ok (.iload_n 1, 1) := by decide +kernel
theorem d_Mk_numberOf_6 : decode b_Mk_numberOf 6 = .ok (.i2l, 1) := by decide +kernel
theorem d_Mk_numberOf_7 : decode b_Mk_numberOf 7 = .ok (.ladd, 1) := by decide +kernel
theorem d_Mk_numberOf_8 : decode b_Mk_numberOf 8 = .ok (.ldc2_w 89, 3) := by decide +kernel
theorem d_Mk_numberOf_11 : decode b_Mk_numberOf 11 = .ok (.lmul, 1) := by decide +kernel
theorem d_Mk_numberOf_12 : decode b_Mk_numberOf 12 = .ok (.bipush 53, 2) := by decide +kernel
theorem d_Mk_numberOf_14 : decode b_Mk_numberOf 14 = .ok (.lushr, 1) := by decide +kernel
theorem d_Mk_numberOf_15 : decode b_Mk_numberOf 15 = .ok (.l2i, 1) := by decide +kernel
theorem d_Mk_numberOf_16 : decode b_Mk_numberOf 16 = .ok (.istore 4, 2) := by decide +kernel
theorem d_Mk_numberOf_18 : decode b_Mk_numberOf 18 = .ok (.iconst 0, 1) := by decide +kernel
theorem d_Mk_numberOf_19 : decode b_Mk_numberOf 19 = .ok (.istore 5, 2) := by decide +kernel
theorem d_Mk_numberOf_21 : decode b_Mk_numberOf 21 = .ok (.iload 5, 2) := by decide +kernel
theorem d_Mk_numberOf_23 : decode b_Mk_numberOf 23 = .ok (.sipush 2048, 3) := by decide +kernel
theorem d_Mk_numberOf_26 : decode b_Mk_numberOf 26 = .ok (.if_icmp .ge 69, 3) := by decide +kernel
theorem d_Mk_numberOf_29 : decode b_Mk_numberOf 29 = .ok (.aload_n 0, 1) := by decide +kernel
theorem d_Mk_numberOf_30 : decode b_Mk_numberOf 30 = .ok (.getfield 22, 3) := by decide +kernel
theorem d_Mk_numberOf_33 : decode b_Mk_numberOf 33 = .ok (.iload 4, 2) := by decide +kernel
theorem d_Mk_numberOf_35 : decode b_Mk_numberOf 35 = .ok (.iaload, 1) := by decide +kernel
theorem d_Mk_numberOf_36 : decode b_Mk_numberOf 36 = .ok (.istore 6, 2) := by decide +kernel
theorem d_Mk_numberOf_38 : decode b_Mk_numberOf 38 = .ok (.iload 6, 2) := by decide +kernel
theorem d_Mk_numberOf_40 : decode b_Mk_numberOf 40 = .ok (.iconst (-1), 1) := by decide +kernel
theorem d_Mk_numberOf_41 : decode b_Mk_numberOf 41 = .ok (.if_icmp .ne 12, 3) := by decide +kernel
theorem d_Mk_numberOf_44 : decode b_Mk_numberOf 44 = .ok (.aload_n 0, 1) := by decide +kernel
theorem d_Mk_numberOf_45 : decode b_Mk_numberOf 45 = .ok (.iload 4, 2) := by decide +kernel
theorem d_Mk_numberOf_47 : decode b_Mk_numberOf 47 = .ok (.iload_n 1, 1) := by decide +kernel
theorem d_Mk_numberOf_48 : decode b_Mk_numberOf 48 = .ok (.lload_n 2, 1) := by decide +kernel
theorem d_Mk_numberOf_49 : decode b_Mk_numberOf 49 = .ok (.invokevirtual 91, 3) := by decide +kernel
theorem d_Mk_numberOf_52 : decode b_Mk_numberOf 52 = .ok (.ireturn, 1) := by decide +kernel
theorem d_Mk_numberOf_53 : decode b_Mk_numberOf 53 = .ok (.aload_n 0, 1) := by decide +kernel
theorem d_Mk_numberOf_54 : decode b_Mk_numberOf 54 = .ok (.getfield 11, 3) := by decide +kernel
theorem d_Mk_numberOf_57 : decode b_Mk_numberOf 57 = .ok (.iload 6, 2) := by decide +kernel
theorem d_Mk_numberOf_59 : decode b_Mk_numberOf 59 = .ok (.iaload, 1) := by decide +kernel
theorem d_Mk_numberOf_60 : decode b_Mk_numberOf 60 = .ok (.iload_n 1, 1) := by decide +kernel
theorem d_Mk_numberOf_61 : decode b_Mk_numberOf 61 = .ok (.if_icmp .ne 18, 3) := by decide +kernel
theorem d_Mk_numberOf_64 : decode b_Mk_numberOf 64 = .ok (.aload_n 0, 1) := by decide +kernel
theorem d_Mk_numberOf_65 : decode b_Mk_numberOf 65 = .ok (.getfield 15, 3) := by decide +kernel
theorem d_Mk_numberOf_68 : decode b_Mk_numberOf 68 = .ok (.iload 6, 2) := by decide +kernel
theorem d_Mk_numberOf_70 : decode b_Mk_numberOf 70 = .ok (.laload, 1) := by decide +kernel
theorem d_Mk_numberOf_71 : decode b_Mk_numberOf 71 = .ok (.lload_n 2, 1) := by decide +kernel
theorem d_Mk_numberOf_72 : decode b_Mk_numberOf 72 = .ok (.lcmp, 1) := by decide +kernel
theorem d_Mk_numberOf_73 : decode b_Mk_numberOf 73 = .ok (.ifCond .ne 6, 3) := by decide +kernel
theorem d_Mk_numberOf_76 : decode b_Mk_numberOf 76 = .ok (.iload 6, 2) := by decide +kernel
theorem d_Mk_numberOf_78 : decode b_Mk_numberOf 78 = .ok (.ireturn, 1) := by decide +kernel
theorem d_Mk_numberOf_79 : decode b_Mk_numberOf 79 = .ok (.iload 4, 2) := by decide +kernel
theorem d_Mk_numberOf_81 : decode b_Mk_numberOf 81 = .ok (.iconst 1, 1) := by decide +kernel
theorem d_Mk_numberOf_82 : decode b_Mk_numberOf 82 = .ok (.iadd, 1) := by decide +kernel
theorem d_Mk_numberOf_83 : decode b_Mk_numberOf 83 = .ok (.sipush 2048, 3) := by decide +kernel
theorem d_Mk_numberOf_86 : decode b_Mk_numberOf 86 = .ok (.irem, 1) := by decide +kernel
theorem d_Mk_numberOf_87 : decode b_Mk_numberOf 87 = .ok (.istore 4, 2) := by decide +kernel
theorem d_Mk_numberOf_89 : decode b_Mk_numberOf 89 = .ok (.iinc 5 1, 3) := by decide +kernel
theorem d_Mk_numberOf_92 : decode b_Mk_numberOf 92 = .ok (.goto (-71), 3) := by decide +kernel
theorem d_Mk_numberOf_95 : decode b_Mk_numberOf 95 = .ok (.iconst (-1), 1) := by decide +kernel
theorem d_Mk_numberOf_96 : decode b_Mk_numberOf 96 = .ok (.ireturn, 1) := by decide +kernel
abbrev b_Mk_markAt : ByteArray := prog_7_method_9_code
def y_Mk_markAt : MethodName := ⟨"RegularSolver$Maker", "markAt", "(I)I"⟩
abbrev w0_Mk_markAt : List Cond := Cond.code y_Mk_markAt b_Mk_markAt 4 (some .int) :: gW
theorem cd_Mk_markAt : Cond.code y_Mk_markAt b_Mk_markAt 4 (some .int) ∈ gW := gm 419 (by decide +kernel) (by decide +kernel)
theorem d_Mk_markAt_0 : decode b_Mk_markAt 0 = .ok (.aload_n 0, 1) := by decide +kernel
theorem d_Mk_markAt_1 : decode b_Mk_markAt 1 = .ok (.getfield 29, 3) := by decide +kernel
theorem d_Mk_markAt_4 : decode b_Mk_markAt 4 = .ok (.iload_n 1, 1) := by decide +kernel
theorem d_Mk_markAt_5 : decode b_Mk_markAt 5 = .ok (.iaload, 1) := by decide +kernel
theorem d_Mk_markAt_6 : decode b_Mk_markAt 6 = .ok (.istore_n 2, 1) := by decide +kernel
theorem d_Mk_markAt_7 : decode b_Mk_markAt 7 = .ok (.iconst 0, 1) := by decide +kernel
theorem d_Mk_markAt_8 : decode b_Mk_markAt 8 = .ok (.istore_n 3, 1) := by decide +kernel
theorem d_Mk_markAt_9 : decode b_Mk_markAt 9 = .ok (.iload_n 3, 1) := by decide +kernel
theorem d_Mk_markAt_10 : decode b_Mk_markAt 10 = .ok (.iconst 4, 1) := by decide +kernel
theorem d_Mk_markAt_11 : decode b_Mk_markAt 11 = .ok (.if_icmp .ge 30, 3) := by decide +kernel
theorem d_Mk_markAt_14 : decode b_Mk_markAt 14 = .ok (.iload_n 2, 1) := by decide +kernel
theorem d_Mk_markAt_15 : decode b_Mk_markAt 15 = .ok (.bipush 6, 2) := by decide +kernel
theorem d_Mk_markAt_17 : decode b_Mk_markAt 17 = .ok (.ishl, 1) := by decide +kernel
theorem d_Mk_markAt_18 : decode b_Mk_markAt 18 = .ok (.aload_n 0, 1) := by decide +kernel
theorem d_Mk_markAt_19 : decode b_Mk_markAt 19 = .ok (.getfield 29, 3) := by decide +kernel
theorem d_Mk_markAt_22 : decode b_Mk_markAt 22 = .ok (.aload_n 0, 1) := by decide +kernel
theorem d_Mk_markAt_23 : decode b_Mk_markAt 23 = .ok (.getfield 19, 3) := by decide +kernel
theorem d_Mk_markAt_26 : decode b_Mk_markAt 26 = .ok (.iconst 4, 1) := by decide +kernel
theorem d_Mk_markAt_27 : decode b_Mk_markAt 27 = .ok (.iload_n 1, 1) := by decide +kernel
theorem d_Mk_markAt_28 : decode b_Mk_markAt 28 = .ok (.imul, 1) := by decide +kernel
theorem d_Mk_markAt_29 : decode b_Mk_markAt 29 = .ok (.iload_n 3, 1) := by decide +kernel
theorem d_Mk_markAt_30 : decode b_Mk_markAt 30 = .ok (.iadd, 1) := by decide +kernel
theorem d_Mk_markAt_31 : decode b_Mk_markAt 31 = .ok (.iaload, 1) := by decide +kernel
theorem d_Mk_markAt_32 : decode b_Mk_markAt 32 = .ok (.iaload, 1) := by decide +kernel
theorem d_Mk_markAt_33 : decode b_Mk_markAt 33 = .ok (.ior, 1) := by decide +kernel
theorem d_Mk_markAt_34 : decode b_Mk_markAt 34 = .ok (.istore_n 2, 1) := by decide +kernel
theorem d_Mk_markAt_35 : decode b_Mk_markAt 35 = .ok (.iinc 3 1, 3) := by decide +kernel
theorem d_Mk_markAt_38 : decode b_Mk_markAt 38 = .ok (.goto (-29), 3) := by decide +kernel
theorem d_Mk_markAt_41 : decode b_Mk_markAt 41 = .ok (.iload_n 2, 1) := by decide +kernel
theorem d_Mk_markAt_42 : decode b_Mk_markAt 42 = .ok (.ireturn, 1) := by decide +kernel
abbrev b_Mk_addClassAt : ByteArray := prog_7_method_11_code
def y_Mk_addClassAt : MethodName := ⟨"RegularSolver$Maker", "addClassAt", "(III)I"⟩
abbrev w0_Mk_addClassAt : List Cond := Cond.code y_Mk_addClassAt b_Mk_addClassAt 4 (some .int) :: gW
theorem cd_Mk_addClassAt : Cond.code y_Mk_addClassAt b_Mk_addClassAt 4 (some .int) ∈ gW := gm 428 (by decide +kernel) (by decide +kernel)
theorem d_Mk_addClassAt_0 : decode b_Mk_addClassAt 0 = .ok (.aload_n 0, 1) := by decide +kernel
theorem d_Mk_addClassAt_1 : decode b_Mk_addClassAt 1 = .ok (.getfield 44, 3) := by decide +kernel
theorem d_Mk_addClassAt_4 : decode b_Mk_addClassAt 4 = .ok (.bipush 64, 2) := by decide +kernel
theorem d_Mk_addClassAt_6 : decode b_Mk_addClassAt 6 = .ok (.if_icmp .lt 5, 3) := by decide +kernel
theorem d_Mk_addClassAt_9 : decode b_Mk_addClassAt 9 = .ok (.iconst (-1), 1) := by decide +kernel
theorem d_Mk_addClassAt_10 : decode b_Mk_addClassAt 10 = .ok (.ireturn, 1) := by decide +kernel
theorem d_Mk_addClassAt_11 : decode b_Mk_addClassAt 11 = .ok (.aload_n 0, 1) := by decide +kernel
theorem d_Mk_addClassAt_12 : decode b_Mk_addClassAt 12 = .ok (.getfield 35, 3) := by decide +kernel
theorem d_Mk_addClassAt_15 : decode b_Mk_addClassAt 15 = .ok (.aload_n 0, 1) := by decide +kernel
theorem d_Mk_addClassAt_16 : decode b_Mk_addClassAt 16 = .ok (.getfield 44, 3) := by decide +kernel
theorem d_Mk_addClassAt_19 : decode b_Mk_addClassAt 19 = .ok (.iload_n 2, 1) := by decide +kernel
theorem d_Mk_addClassAt_20 : decode b_Mk_addClassAt 20 = .ok (.iastore, 1) := by decide +kernel
theorem d_Mk_addClassAt_21 : decode b_Mk_addClassAt 21 = .ok (.aload_n 0, 1) := by decide +kernel
theorem d_Mk_addClassAt_22 : decode b_Mk_addClassAt 22 = .ok (.getfield 38, 3) := by decide +kernel
theorem d_Mk_addClassAt_25 : decode b_Mk_addClassAt 25 = .ok (.aload_n 0, 1) := by decide +kernel
theorem d_Mk_addClassAt_26 : decode b_Mk_addClassAt 26 = .ok (.getfield 44, 3) := by decide +kernel
theorem d_Mk_addClassAt_29 : decode b_Mk_addClassAt 29 = .ok (.iload_n 3, 1) := by decide +kernel
theorem d_Mk_addClassAt_30 : decode b_Mk_addClassAt 30 = .ok (.iastore, 1) := by decide +kernel
theorem d_Mk_addClassAt_31 : decode b_Mk_addClassAt 31 = .ok (.aload_n 0, 1) := by decide +kernel
theorem d_Mk_addClassAt_32 : decode b_Mk_addClassAt 32 = .ok (.getfield 41, 3) := by decide +kernel
theorem d_Mk_addClassAt_35 : decode b_Mk_addClassAt 35 = .ok (.iload_n 1, 1) := by decide +kernel
theorem d_Mk_addClassAt_36 : decode b_Mk_addClassAt 36 = .ok (.aload_n 0, 1) := by decide +kernel
theorem d_Mk_addClassAt_37 : decode b_Mk_addClassAt 37 = .ok (.getfield 44, 3) := by decide +kernel
theorem d_Mk_addClassAt_40 : decode b_Mk_addClassAt 40 = .ok (.iastore, 1) := by decide +kernel
theorem d_Mk_addClassAt_41 : decode b_Mk_addClassAt 41 = .ok (.aload_n 0, 1) := by decide +kernel
theorem d_Mk_addClassAt_42 : decode b_Mk_addClassAt 42 = .ok (.dup, 1) := by decide +kernel
theorem d_Mk_addClassAt_43 : decode b_Mk_addClassAt 43 = .ok (.getfield 44, 3) := by decide +kernel
theorem d_Mk_addClassAt_46 : decode b_Mk_addClassAt 46 = .ok (.iconst 1, 1) := by decide +kernel
theorem d_Mk_addClassAt_47 : decode b_Mk_addClassAt 47 = .ok (.iadd, 1) := by decide +kernel
theorem d_Mk_addClassAt_48 : decode b_Mk_addClassAt 48 = .ok (.putfield 44, 3) := by decide +kernel
theorem d_Mk_addClassAt_51 : decode b_Mk_addClassAt 51 = .ok (.aload_n 0, 1) := by decide +kernel
theorem d_Mk_addClassAt_52 : decode b_Mk_addClassAt 52 = .ok (.getfield 44, 3) := by decide +kernel
theorem d_Mk_addClassAt_55 : decode b_Mk_addClassAt 55 = .ok (.iconst 1, 1) := by decide +kernel
theorem d_Mk_addClassAt_56 : decode b_Mk_addClassAt 56 = .ok (.isub, 1) := by decide +kernel
theorem d_Mk_addClassAt_57 : decode b_Mk_addClassAt 57 = .ok (.ireturn, 1) := by decide +kernel
abbrev b_Mk_classOfMark : ByteArray := prog_7_method_10_code
def y_Mk_classOfMark : MethodName := ⟨"RegularSolver$Maker", "classOfMark", "(II)I"⟩
abbrev w0_Mk_classOfMark : List Cond := Cond.code y_Mk_classOfMark b_Mk_classOfMark 6 (some .int) :: gW
theorem cd_Mk_classOfMark : Cond.code y_Mk_classOfMark b_Mk_classOfMark 6 (some .int) ∈ gW := gm 423 (by decide +kernel) (by decide +kernel)
theorem d_Mk_classOfMark_0 : decode b_Mk_classOfMark 0 = .ok (.iload_n 1, 1) := by decide +kernel
theorem d_Mk_classOfMark_1 : decode b_Mk_classOfMark 1 = .ok (.ldc 110, 2) := by decide +kernel
theorem d_Mk_classOfMark_3 : decode b_Mk_classOfMark 3 = .ok (.imul, 1) := by decide +kernel
theorem d_Mk_classOfMark_4 : decode b_Mk_classOfMark 4 = .ok (.bipush 24, 2) := by decide +kernel
theorem d_Mk_classOfMark_6 : decode b_Mk_classOfMark 6 = .ok (.iushr, 1) := by decide +kernel
theorem d_Mk_classOfMark_7 : decode b_Mk_classOfMark 7 = .ok (.istore_n 3, 1) := by decide +kernel
theorem d_Mk_classOfMark_8 : decode b_Mk_classOfMark 8 = .ok (.iconst 0, 1) := by decide +kernel
theorem d_Mk_classOfMark_9 : decode b_Mk_classOfMark 9 = .ok (.istore 4, 2) := by decide +kernel
theorem d_Mk_classOfMark_11 : decode b_Mk_classOfMark 11 = .ok (.iload 4, 2) := by decide +kernel
theorem d_Mk_classOfMark_13 : decode b_Mk_classOfMark 13 = .ok (.sipush 256, 3) := by decide +kernel
theorem d_Mk_classOfMark_16 : decode b_Mk_classOfMark 16 = .ok (.if_icmp .ge 53, 3) := by decide +kernel
theorem d_Mk_classOfMark_19 : decode b_Mk_classOfMark 19 = .ok (.aload_n 0, 1) := by decide +kernel
theorem d_Mk_classOfMark_20 : decode b_Mk_classOfMark 20 = .ok (.getfield 41, 3) := by decide +kernel
theorem d_Mk_classOfMark_23 : decode b_Mk_classOfMark 23 = .ok (.iload_n 3, 1) := by decide +kernel
theorem d_Mk_classOfMark_24 : decode b_Mk_classOfMark 24 = .ok (.iaload, 1) := by decide +kernel
theorem d_Mk_classOfMark_25 : decode b_Mk_classOfMark 25 = .ok (.istore 5, 2) := by decide +kernel
theorem d_Mk_classOfMark_27 : decode b_Mk_classOfMark 27 = .ok (.iload 5, 2) := by decide +kernel
theorem d_Mk_classOfMark_29 : decode b_Mk_classOfMark 29 = .ok (.iconst (-1), 1) := by decide +kernel
theorem d_Mk_classOfMark_30 : decode b_Mk_classOfMark 30 = .ok (.if_icmp .ne 11, 3) := by decide +kernel
theorem d_Mk_classOfMark_33 : decode b_Mk_classOfMark 33 = .ok (.aload_n 0, 1) := by decide +kernel
theorem d_Mk_classOfMark_34 : decode b_Mk_classOfMark 34 = .ok (.iload_n 3, 1) := by decide +kernel
theorem d_Mk_classOfMark_35 : decode b_Mk_classOfMark 35 = .ok (.iload_n 1, 1) := by decide +kernel
theorem d_Mk_classOfMark_36 : decode b_Mk_classOfMark 36 = .ok (.iload_n 2, 1) := by decide +kernel
theorem d_Mk_classOfMark_37 : decode b_Mk_classOfMark 37 = .ok (.invokevirtual 111, 3) := by decide +kernel
theorem d_Mk_classOfMark_40 : decode b_Mk_classOfMark 40 = .ok (.ireturn, 1) := by decide +kernel
theorem d_Mk_classOfMark_41 : decode b_Mk_classOfMark 41 = .ok (.aload_n 0, 1) := by decide +kernel
theorem d_Mk_classOfMark_42 : decode b_Mk_classOfMark 42 = .ok (.getfield 35, 3) := by decide +kernel
theorem d_Mk_classOfMark_45 : decode b_Mk_classOfMark 45 = .ok (.iload 5, 2) := by decide +kernel
theorem d_Mk_classOfMark_47 : decode b_Mk_classOfMark 47 = .ok (.iaload, 1) := by decide +kernel
theorem d_Mk_classOfMark_48 : decode b_Mk_classOfMark 48 = .ok (.iload_n 1, 1) := by decide +kernel
theorem d_Mk_classOfMark_49 : decode b_Mk_classOfMark 49 = .ok (.if_icmp .ne 6, 3) := by decide +kernel
theorem d_Mk_classOfMark_52 : decode b_Mk_classOfMark 52 = .ok (.iload 5, 2) := by decide +kernel
theorem d_Mk_classOfMark_54 : decode b_Mk_classOfMark 54 = .ok (.ireturn, 1) := by decide +kernel
theorem d_Mk_classOfMark_55 : decode b_Mk_classOfMark 55 = .ok (.iload_n 3, 1) := by decide +kernel
theorem d_Mk_classOfMark_56 : decode b_Mk_classOfMark 56 = .ok (.iconst 1, 1) := by decide +kernel
theorem d_Mk_classOfMark_57 : decode b_Mk_classOfMark 57 = .ok (.iadd, 1) := by decide +kernel
theorem d_Mk_classOfMark_58 : decode b_Mk_classOfMark 58 = .ok (.sipush 256, 3) := by decide +kernel
theorem d_Mk_classOfMark_61 : decode b_Mk_classOfMark 61 = .ok (.irem, 1) := by decide +kernel
theorem d_Mk_classOfMark_62 : decode b_Mk_classOfMark 62 = .ok (.istore_n 3, 1) := by decide +kernel
theorem d_Mk_classOfMark_63 : decode b_Mk_classOfMark 63 = .ok (.iinc 4 1, 3) := by decide +kernel
theorem d_Mk_classOfMark_66 : decode b_Mk_classOfMark 66 = .ok (.goto (-55), 3) := by decide +kernel
theorem d_Mk_classOfMark_69 : decode b_Mk_classOfMark 69 = .ok (.iconst (-1), 1) := by decide +kernel
theorem d_Mk_classOfMark_70 : decode b_Mk_classOfMark 70 = .ok (.ireturn, 1) := by decide +kernel
abbrev b_Mk_splitByMarks : ByteArray := prog_7_method_8_code
def y_Mk_splitByMarks : MethodName := ⟨"RegularSolver$Maker", "splitByMarks", "()Z"⟩
abbrev w0_Mk_splitByMarks : List Cond := Cond.code y_Mk_splitByMarks b_Mk_splitByMarks 3 (some .boolean) :: gW
theorem cd_Mk_splitByMarks : Cond.code y_Mk_splitByMarks b_Mk_splitByMarks 3 (some .boolean) ∈ gW := gm 415 (by decide +kernel) (by decide +kernel)
theorem d_Mk_splitByMarks_0 : decode b_Mk_splitByMarks 0 = .ok (.aload_n 0, 1) := by decide +kernel
theorem d_Mk_splitByMarks_1 : decode b_Mk_splitByMarks 1 = .ok (.getfield 41, 3) := by decide +kernel
theorem d_Mk_splitByMarks_4 : decode b_Mk_splitByMarks 4 = .ok (.iconst (-1), 1) := by decide +kernel
theorem d_Mk_splitByMarks_5 : decode b_Mk_splitByMarks 5 = .ok (.invokestatic 63, 3) := by decide +kernel
theorem d_Mk_splitByMarks_8 : decode b_Mk_splitByMarks 8 = .ok (.aload_n 0, 1) := by decide +kernel
theorem d_Mk_splitByMarks_9 : decode b_Mk_splitByMarks 9 = .ok (.iconst 0, 1) := by decide +kernel
theorem d_Mk_splitByMarks_10 : decode b_Mk_splitByMarks 10 = .ok (.putfield 44, 3) := by decide +kernel
theorem d_Mk_splitByMarks_13 : decode b_Mk_splitByMarks 13 = .ok (.iconst 0, 1) := by decide +kernel
theorem d_Mk_splitByMarks_14 : decode b_Mk_splitByMarks 14 = .ok (.istore_n 1, 1) := by decide +kernel
theorem d_Mk_splitByMarks_15 : decode b_Mk_splitByMarks 15 = .ok (.iload_n 1, 1) := by decide +kernel
theorem d_Mk_splitByMarks_16 : decode b_Mk_splitByMarks 16 = .ok (.aload_n 0, 1) := by decide +kernel
theorem d_Mk_splitByMarks_17 : decode b_Mk_splitByMarks 17 = .ok (.getfield 25, 3) := by decide +kernel
theorem d_Mk_splitByMarks_20 : decode b_Mk_splitByMarks 20 = .ok (.if_icmp .ge 34, 3) := by decide +kernel
theorem d_Mk_splitByMarks_23 : decode b_Mk_splitByMarks 23 = .ok (.aload_n 0, 1) := by decide +kernel
theorem d_Mk_splitByMarks_24 : decode b_Mk_splitByMarks 24 = .ok (.aload_n 0, 1) := by decide +kernel
theorem d_Mk_splitByMarks_25 : decode b_Mk_splitByMarks 25 = .ok (.iload_n 1, 1) := by decide +kernel
theorem d_Mk_splitByMarks_26 : decode b_Mk_splitByMarks 26 = .ok (.invokevirtual 102, 3) := by decide +kernel
theorem d_Mk_splitByMarks_29 : decode b_Mk_splitByMarks 29 = .ok (.iload_n 1, 1) := by decide +kernel
theorem d_Mk_splitByMarks_30 : decode b_Mk_splitByMarks 30 = .ok (.invokevirtual 106, 3) := by decide +kernel
theorem d_Mk_splitByMarks_33 : decode b_Mk_splitByMarks 33 = .ok (.istore_n 2, 1) := by decide +kernel
theorem d_Mk_splitByMarks_34 : decode b_Mk_splitByMarks 34 = .ok (.iload_n 2, 1) := by decide +kernel
theorem d_Mk_splitByMarks_35 : decode b_Mk_splitByMarks 35 = .ok (.iconst (-1), 1) := by decide +kernel
theorem d_Mk_splitByMarks_36 : decode b_Mk_splitByMarks 36 = .ok (.if_icmp .ne 5, 3) := by decide +kernel
theorem d_Mk_splitByMarks_39 : decode b_Mk_splitByMarks 39 = .ok (.iconst 0, 1) := by decide +kernel
theorem d_Mk_splitByMarks_40 : decode b_Mk_splitByMarks 40 = .ok (.ireturn, 1) := by decide +kernel
theorem d_Mk_splitByMarks_41 : decode b_Mk_splitByMarks 41 = .ok (.aload_n 0, 1) := by decide +kernel
theorem d_Mk_splitByMarks_42 : decode b_Mk_splitByMarks 42 = .ok (.getfield 32, 3) := by decide +kernel
theorem d_Mk_splitByMarks_45 : decode b_Mk_splitByMarks 45 = .ok (.iload_n 1, 1) := by decide +kernel
theorem d_Mk_splitByMarks_46 : decode b_Mk_splitByMarks 46 = .ok (.iload_n 2, 1) := by decide +kernel
theorem d_Mk_splitByMarks_47 : decode b_Mk_splitByMarks 47 = .ok (.iastore, 1) := by decide +kernel
theorem d_Mk_splitByMarks_48 : decode b_Mk_splitByMarks 48 = .ok (.iinc 1 1, 3) := by decide +kernel
theorem d_Mk_splitByMarks_51 : decode b_Mk_splitByMarks 51 = .ok (.goto (-36), 3) := by decide +kernel
theorem d_Mk_splitByMarks_54 : decode b_Mk_splitByMarks 54 = .ok (.aload_n 0, 1) := by decide +kernel
theorem d_Mk_splitByMarks_55 : decode b_Mk_splitByMarks 55 = .ok (.getfield 29, 3) := by decide +kernel
theorem d_Mk_splitByMarks_58 : decode b_Mk_splitByMarks 58 = .ok (.astore_n 1, 1) := by decide +kernel
theorem d_Mk_splitByMarks_59 : decode b_Mk_splitByMarks 59 = .ok (.aload_n 0, 1) := by decide +kernel
theorem d_Mk_splitByMarks_60 : decode b_Mk_splitByMarks 60 = .ok (.aload_n 0, 1) := by decide +kernel
theorem d_Mk_splitByMarks_61 : decode b_Mk_splitByMarks 61 = .ok (.getfield 32, 3) := by decide +kernel
theorem d_Mk_splitByMarks_64 : decode b_Mk_splitByMarks 64 = .ok (.putfield 29, 3) := by decide +kernel
theorem d_Mk_splitByMarks_67 : decode b_Mk_splitByMarks 67 = .ok (.aload_n 0, 1) := by decide +kernel
theorem d_Mk_splitByMarks_68 : decode b_Mk_splitByMarks 68 = .ok (.aload_n 1, 1) := by decide +kernel
theorem d_Mk_splitByMarks_69 : decode b_Mk_splitByMarks 69 = .ok (.putfield 32, 3) := by decide +kernel
theorem d_Mk_splitByMarks_72 : decode b_Mk_splitByMarks 72 = .ok (.iconst 1, 1) := by decide +kernel
theorem d_Mk_splitByMarks_73 : decode b_Mk_splitByMarks 73 = .ok (.ireturn, 1) := by decide +kernel
abbrev b_Mk_splitToTheEnd : ByteArray := prog_7_method_7_code
def y_Mk_splitToTheEnd : MethodName := ⟨"RegularSolver$Maker", "splitToTheEnd", "()Z"⟩
abbrev w0_Mk_splitToTheEnd : List Cond := Cond.code y_Mk_splitToTheEnd b_Mk_splitToTheEnd 3 (some .boolean) :: gW
theorem cd_Mk_splitToTheEnd : Cond.code y_Mk_splitToTheEnd b_Mk_splitToTheEnd 3 (some .boolean) ∈ gW := gm 411 (by decide +kernel) (by decide +kernel)
theorem d_Mk_splitToTheEnd_0 : decode b_Mk_splitToTheEnd 0 = .ok (.iconst 0, 1) := by decide +kernel
theorem d_Mk_splitToTheEnd_1 : decode b_Mk_splitToTheEnd 1 = .ok (.istore_n 1, 1) := by decide +kernel
theorem d_Mk_splitToTheEnd_2 : decode b_Mk_splitToTheEnd 2 = .ok (.iload_n 1, 1) := by decide +kernel
theorem d_Mk_splitToTheEnd_3 : decode b_Mk_splitToTheEnd 3 = .ok (.bipush 64, 2) := by decide +kernel
theorem d_Mk_splitToTheEnd_5 : decode b_Mk_splitToTheEnd 5 = .ok (.if_icmp .ge 33, 3) := by decide +kernel
theorem d_Mk_splitToTheEnd_8 : decode b_Mk_splitToTheEnd 8 = .ok (.aload_n 0, 1) := by decide +kernel
theorem d_Mk_splitToTheEnd_9 : decode b_Mk_splitToTheEnd 9 = .ok (.getfield 44, 3) := by decide +kernel
theorem d_Mk_splitToTheEnd_12 : decode b_Mk_splitToTheEnd 12 = .ok (.istore_n 2, 1) := by decide +kernel
theorem d_Mk_splitToTheEnd_13 : decode b_Mk_splitToTheEnd 13 = .ok (.aload_n 0, 1) := by decide +kernel
theorem d_Mk_splitToTheEnd_14 : decode b_Mk_splitToTheEnd 14 = .ok (.invokevirtual 99, 3) := by decide +kernel
theorem d_Mk_splitToTheEnd_17 : decode b_Mk_splitToTheEnd 17 = .ok (.ifCond .ne 5, 3) := by decide +kernel
theorem d_Mk_splitToTheEnd_20 : decode b_Mk_splitToTheEnd 20 = .ok (.iconst 0, 1) := by decide +kernel
theorem d_Mk_splitToTheEnd_21 : decode b_Mk_splitToTheEnd 21 = .ok (.ireturn, 1) := by decide +kernel
theorem d_Mk_splitToTheEnd_22 : decode b_Mk_splitToTheEnd 22 = .ok (.aload_n 0, 1) := by decide +kernel
theorem d_Mk_splitToTheEnd_23 : decode b_Mk_splitToTheEnd 23 = .ok (.getfield 44, 3) := by decide +kernel
theorem d_Mk_splitToTheEnd_26 : decode b_Mk_splitToTheEnd 26 = .ok (.iload_n 2, 1) := by decide +kernel
theorem d_Mk_splitToTheEnd_27 : decode b_Mk_splitToTheEnd 27 = .ok (.if_icmp .ne 5, 3) := by decide +kernel
theorem d_Mk_splitToTheEnd_30 : decode b_Mk_splitToTheEnd 30 = .ok (.iconst 1, 1) := by decide +kernel
theorem d_Mk_splitToTheEnd_31 : decode b_Mk_splitToTheEnd 31 = .ok (.ireturn, 1) := by decide +kernel
theorem d_Mk_splitToTheEnd_32 : decode b_Mk_splitToTheEnd 32 = .ok (.iinc 1 1, 3) := by decide +kernel
theorem d_Mk_splitToTheEnd_35 : decode b_Mk_splitToTheEnd 35 = .ok (.goto (-33), 3) := by decide +kernel
theorem d_Mk_splitToTheEnd_38 : decode b_Mk_splitToTheEnd 38 = .ok (.iconst 1, 1) := by decide +kernel
theorem d_Mk_splitToTheEnd_39 : decode b_Mk_splitToTheEnd 39 = .ok (.ireturn, 1) := by decide +kernel
theorem pd_Mk_addAt : y_Mk_addAt.cls ≠ "java/lang/invoke/MethodHandle" ∧ y_Mk_addAt.cls ≠ "java/lang/invoke/VarHandle" ∧ (parseMethodDescriptor y_Mk_addAt.desc).map (fun d => d.parameters.length) = some 3 := by decide +kernel
theorem pd_Mk_numberOf : y_Mk_numberOf.cls ≠ "java/lang/invoke/MethodHandle" ∧ y_Mk_numberOf.cls ≠ "java/lang/invoke/VarHandle" ∧ (parseMethodDescriptor y_Mk_numberOf.desc).map (fun d => d.parameters.length) = some 2 := by decide +kernel
theorem pd_Mk_markAt : y_Mk_markAt.cls ≠ "java/lang/invoke/MethodHandle" ∧ y_Mk_markAt.cls ≠ "java/lang/invoke/VarHandle" ∧ (parseMethodDescriptor y_Mk_markAt.desc).map (fun d => d.parameters.length) = some 1 := by decide +kernel
theorem pd_Mk_addClassAt : y_Mk_addClassAt.cls ≠ "java/lang/invoke/MethodHandle" ∧ y_Mk_addClassAt.cls ≠ "java/lang/invoke/VarHandle" ∧ (parseMethodDescriptor y_Mk_addClassAt.desc).map (fun d => d.parameters.length) = some 3 := by decide +kernel
theorem pd_Mk_classOfMark : y_Mk_classOfMark.cls ≠ "java/lang/invoke/MethodHandle" ∧ y_Mk_classOfMark.cls ≠ "java/lang/invoke/VarHandle" ∧ (parseMethodDescriptor y_Mk_classOfMark.desc).map (fun d => d.parameters.length) = some 2 := by decide +kernel
theorem pd_Mk_splitByMarks : y_Mk_splitByMarks.cls ≠ "java/lang/invoke/MethodHandle" ∧ y_Mk_splitByMarks.cls ≠ "java/lang/invoke/VarHandle" ∧ (parseMethodDescriptor y_Mk_splitByMarks.desc).map (fun d => d.parameters.length) = some 0 := by decide +kernel
theorem pd_Mk_splitToTheEnd : y_Mk_splitToTheEnd.cls ≠ "java/lang/invoke/MethodHandle" ∧ y_Mk_splitToTheEnd.cls ≠ "java/lang/invoke/VarHandle" ∧ (parseMethodDescriptor y_Mk_splitToTheEnd.desc).map (fun d => d.parameters.length) = some 0 := by decide +kernel
theorem fl_Mk_25 : (Cond.fieldLink "RegularSolver$Maker" 25 "RegularSolver$Maker" "reached" "I") ∈ gW := gm 43 (by decide +kernel) (by decide +kernel)
theorem fl_Mk_11 : (Cond.fieldLink "RegularSolver$Maker" 11 "RegularSolver$Maker" "heads" "[I") ∈ gW := gm 39 (by decide +kernel) (by decide +kernel)
theorem fl_Mk_15 : (Cond.fieldLink "RegularSolver$Maker" 15 "RegularSolver$Maker" "tails" "[J") ∈ gW := gm 40 (by decide +kernel) (by decide +kernel)
theorem fl_Mk_22 : (Cond.fieldLink "RegularSolver$Maker" 22 "RegularSolver$Maker" "slots" "[I") ∈ gW := gm 42 (by decide +kernel) (by decide +kernel)
theorem kl_Mk_89 : (Cond.constantLong "RegularSolver$Maker" 89 (-7046029254386353131)) ∈ gW := gm 350 (by decide +kernel) (by decide +kernel)
theorem ml_Mk_91 : (Cond.methodLink "RegularSolver$Maker" 91 ({ cls := "RegularSolver$Maker", name := "addAt", desc := "(IIJ)I" } : MethodName)) ∈ gW := gm 351 (by decide +kernel) (by decide +kernel)
theorem ini_Mk : (Cond.initialized "RegularSolver$Maker") ∈ gW := gm 2 (by decide +kernel) (by decide +kernel)
theorem im_Mk_addAt : (Cond.instanceMethod ({ cls := "RegularSolver$Maker", name := "addAt", desc := "(IIJ)I" } : MethodName)) ∈ gW := gm 353 (by decide +kernel) (by decide +kernel)
theorem se_Mk_addAt : (Cond.selects "RegularSolver$Maker" ({ cls := "RegularSolver$Maker", name := "addAt", desc := "(IIJ)I" } : MethodName) ({ cls := "RegularSolver$Maker", name := "addAt", desc := "(IIJ)I" } : MethodName)) ∈ gW := gs (by decide +kernel) (by decide +kernel)
theorem fl_Mk_29 : (Cond.fieldLink "RegularSolver$Maker" 29 "RegularSolver$Maker" "classOf" "[I") ∈ gW := gm 44 (by decide +kernel) (by decide +kernel)
theorem fl_Mk_19 : (Cond.fieldLink "RegularSolver$Maker" 19 "RegularSolver$Maker" "next" "[I") ∈ gW := gm 41 (by decide +kernel) (by decide +kernel)
theorem fl_Mk_44 : (Cond.fieldLink "RegularSolver$Maker" 44 "RegularSolver$Maker" "classes" "I") ∈ gW := gm 49 (by decide +kernel) (by decide +kernel)
theorem fl_Mk_35 : (Cond.fieldLink "RegularSolver$Maker" 35 "RegularSolver$Maker" "markOf" "[I") ∈ gW := gm 46 (by decide +kernel) (by decide +kernel)
theorem fl_Mk_38 : (Cond.fieldLink "RegularSolver$Maker" 38 "RegularSolver$Maker" "firstOf" "[I") ∈ gW := gm 47 (by decide +kernel) (by decide +kernel)
theorem fl_Mk_41 : (Cond.fieldLink "RegularSolver$Maker" 41 "RegularSolver$Maker" "markSlots" "[I") ∈ gW := gm 48 (by decide +kernel) (by decide +kernel)
theorem ki_Mk_110 : (Cond.constant "RegularSolver$Maker" 110 (-1640531535)) ∈ gW := gm 424 (by decide +kernel) (by decide +kernel)
theorem ml_Mk_111 : (Cond.methodLink "RegularSolver$Maker" 111 ({ cls := "RegularSolver$Maker", name := "addClassAt", desc := "(III)I" } : MethodName)) ∈ gW := gm 425 (by decide +kernel) (by decide +kernel)
theorem im_Mk_addClassAt : (Cond.instanceMethod ({ cls := "RegularSolver$Maker", name := "addClassAt", desc := "(III)I" } : MethodName)) ∈ gW := gm 427 (by decide +kernel) (by decide +kernel)
theorem se_Mk_addClassAt : (Cond.selects "RegularSolver$Maker" ({ cls := "RegularSolver$Maker", name := "addClassAt", desc := "(III)I" } : MethodName) ({ cls := "RegularSolver$Maker", name := "addClassAt", desc := "(III)I" } : MethodName)) ∈ gW := gs (by decide +kernel) (by decide +kernel)
theorem ml_Mk_63 : (Cond.methodLink "RegularSolver$Maker" 63 ({ cls := "java/util/Arrays", name := "fill", desc := "([II)V" } : MethodName)) ∈ gW := gm 319 (by decide +kernel) (by decide +kernel)
theorem st_Ar_fillI : (Cond.static ({ cls := "java/util/Arrays", name := "fill", desc := "([II)V" } : MethodName)) ∈ gW := gm 320 (by decide +kernel) (by decide +kernel)
theorem ml_Mk_102 : (Cond.methodLink "RegularSolver$Maker" 102 ({ cls := "RegularSolver$Maker", name := "markAt", desc := "(I)I" } : MethodName)) ∈ gW := gm 416 (by decide +kernel) (by decide +kernel)
theorem im_Mk_markAt : (Cond.instanceMethod ({ cls := "RegularSolver$Maker", name := "markAt", desc := "(I)I" } : MethodName)) ∈ gW := gm 418 (by decide +kernel) (by decide +kernel)
theorem se_Mk_markAt : (Cond.selects "RegularSolver$Maker" ({ cls := "RegularSolver$Maker", name := "markAt", desc := "(I)I" } : MethodName) ({ cls := "RegularSolver$Maker", name := "markAt", desc := "(I)I" } : MethodName)) ∈ gW := gs (by decide +kernel) (by decide +kernel)
theorem ml_Mk_106 : (Cond.methodLink "RegularSolver$Maker" 106 ({ cls := "RegularSolver$Maker", name := "classOfMark", desc := "(II)I" } : MethodName)) ∈ gW := gm 420 (by decide +kernel) (by decide +kernel)
theorem im_Mk_classOfMark : (Cond.instanceMethod ({ cls := "RegularSolver$Maker", name := "classOfMark", desc := "(II)I" } : MethodName)) ∈ gW := gm 422 (by decide +kernel) (by decide +kernel)
theorem se_Mk_classOfMark : (Cond.selects "RegularSolver$Maker" ({ cls := "RegularSolver$Maker", name := "classOfMark", desc := "(II)I" } : MethodName) ({ cls := "RegularSolver$Maker", name := "classOfMark", desc := "(II)I" } : MethodName)) ∈ gW := gs (by decide +kernel) (by decide +kernel)
theorem fl_Mk_32 : (Cond.fieldLink "RegularSolver$Maker" 32 "RegularSolver$Maker" "finerOf" "[I") ∈ gW := gm 45 (by decide +kernel) (by decide +kernel)
theorem ml_Mk_99 : (Cond.methodLink "RegularSolver$Maker" 99 ({ cls := "RegularSolver$Maker", name := "splitByMarks", desc := "()Z" } : MethodName)) ∈ gW := gm 412 (by decide +kernel) (by decide +kernel)
theorem im_Mk_splitByMarks : (Cond.instanceMethod ({ cls := "RegularSolver$Maker", name := "splitByMarks", desc := "()Z" } : MethodName)) ∈ gW := gm 414 (by decide +kernel) (by decide +kernel)
theorem se_Mk_splitByMarks : (Cond.selects "RegularSolver$Maker" ({ cls := "RegularSolver$Maker", name := "splitByMarks", desc := "()Z" } : MethodName) ({ cls := "RegularSolver$Maker", name := "splitByMarks", desc := "()Z" } : MethodName)) ∈ gW := gs (by decide +kernel) (by decide +kernel)
section
variable {p : Program} {l : Launch} {e : Env} {R : Room} {s : State} {m : MethodId} {args : Array Value} {below : List Frame} {meth : Method} {c : Code} {H : Heap} {locs : List Loc} {cells slots : Nat} {Q : State → Prop} {A : Nat → Prop} {H0 : Heap}
variable {n : Nat} {D : va_G} {K : Nat → ClassId} {mq : Nat} {m0 : Nat} {m1 : Nat} {m2 : Nat} {m3 : Nat} {m5 : Nat} {m6 : Nat} {m7 : Nat} {m8 : Nat} {m9 : Nat} {kHeads : Nat → Int32} {kTails : Nat → Int64} {kNext : Nat → Int32} {kSlots : Nat → Int32} {kReached : Int32} {kClassOf : Nat → Int32} {kFinerOf : Nat → Int32} {kMarkOf : Nat → Int32} {kFirstOf : Nat → Int32} {kMarkSlots : Nat → Int32} {kClasses : Int32}
def f_Mk_addAt (n : Nat) (p0 : Int32) (p1 : Int32) (p2 : Int64) (kHeads : Nat → Int32) (kTails : Nat → Int64) (kSlots : Nat → Int32) (kReached : Int32) : Option (Int32 × (Nat → Int32) × (Nat → Int64) × (Nat → Int32) × Int32) :=
  if kReached < 800 then
    ogd (gin kReached 800) <|
    ogd (gin kReached 800) <|
    ogd (gin p0 2048) <|
    some ((kReached + 1) - 1, upd kHeads kReached.toNatClampNeg p1, vp_updL kTails kReached.toNatClampNeg p2, upd kSlots p0.toNatClampNeg kReached, kReached + 1)
  else
    some ((-1), kHeads, kTails, kSlots, kReached)
set_option maxHeartbeats 4000000 in
set_option maxRecDepth 100000 in
theorem w_Mk_addAt  {p0 : Int32} {p1 : Int32} {p2 : Int64}  (hx : p.tables.exec = Jvm.exec) (hb : c.code = b_Mk_addAt) (hml : c.maxLocals = 5) (hts : ∀ w ∈ gW, w.before args s = true) (hown : s.vm.findClass "RegularSolver$Maker" = some m.cls) (hK : va_K D vwCl (tG K) s) (hRf : 0 ≤ R.frames) (hRl : 0 ≤ R.locals) (hRc : cells ≤ R.cells) (hRs : slots ≤ R.slots) (hA : ∀ q, H0.size ≤ q → A q) {out : Int32 × (Nat → Int32) × (Nat → Int64) × (Nat → Int32) × Int32} (Kr : ∀ (r : Int32 × (Nat → Int32) × (Nat → Int64) × (Nat → Int32) × Int32), out = r → ∀ (m5 : Nat) (m6 : Nat), ∀ (pc : Nat) (ls : Array Slot) (H : Heap) (locs : List Loc), decode b_Mk_addAt pc = .ok (.ireturn, 1) → va_P D vwCl (mkW K mq m0 m1 m2 m3 m5 m6 m7 m8 m9 r.2.1 r.2.2.1 kNext r.2.2.2.1 r.2.2.2.2 kClassOf kFinerOf kMarkOf kFirstOf kMarkSlots kClasses) H → va_D A (mkW K mq m0 m1 m2 m3 m5 m6 m7 m8 m9 r.2.1 r.2.2.1 kNext r.2.2.2.1 r.2.2.2.2 kClassOf kFinerOf kMarkOf kFirstOf kMarkSlots kClasses) → va_S A H0 H locs → W p l e R s m args below meth c H locs cells slots Q (F0 m pc ls [.int r.1])) (hf : f_Mk_addAt n p0 p1 p2 kHeads kTails kSlots kReached = some out) (ls : Array Slot) (hP : va_P D vwCl (mkW K mq m0 m1 m2 m3 m5 m6 m7 m8 m9 kHeads kTails kNext kSlots kReached kClassOf kFinerOf kMarkOf kFirstOf kMarkSlots kClasses) H) (hD : va_D A (mkW K mq m0 m1 m2 m3 m5 m6 m7 m8 m9 kHeads kTails kNext kSlots kReached kClassOf kFinerOf kMarkOf kFirstOf kMarkSlots kClasses)) (hS : va_S A H0 H locs) (hl : lv_has ls 5 [(0, .ref mq), (1, .int p0), (2, .int p1), (3, .long p2)]) : W p l e R s m args below meth c H locs cells slots Q (F0 m 0 ls []) := by
  unfold f_Mk_addAt at hf
  refine lv_aload_n hx hb d_Mk_addAt_0 rfl (lv_at hl 0 rfl) ?_
  refine va_get (D := D) (ci := 6) (v := .int kReached) (C := R_Mk) (T := T_Mk) (N := 11) hx hb hts in_Mk hown hK hP 0 rfl rfl 4 (by decide) (hts _ fl_Mk_25) (fun _ h9 => h9) rfl d_Mk_addAt_1 ?_
  refine lv_sipush (v := 800) hx hb d_Mk_addAt_4 (by decide) ?_
  refine lv_icmp_lt (tgt := 12) hx hb d_Mk_addAt_7 (by decide) (fun c1 => ?_) (fun c1 => ?_)
  · rw [if_pos c1] at hf
    refine lv_aload_n hx hb d_Mk_addAt_12 rfl (lv_at hl 0 rfl) ?_
    refine va_get (D := D) (ci := 6) (v := .ref m0) (C := R_Mk) (T := T_Mk) (N := 11) hx hb hts in_Mk hown hK hP 0 rfl rfl 0 (by decide) (hts _ fl_Mk_11) (fun _ h9 => h9) rfl d_Mk_addAt_13 ?_
    refine lv_aload_n hx hb d_Mk_addAt_16 rfl (lv_at hl 0 rfl) ?_
    refine va_get (D := D) (ci := 6) (v := .int kReached) (C := R_Mk) (T := T_Mk) (N := 11) hx hb hts in_Mk hown hK hP 0 rfl rfl 4 (by decide) (hts _ fl_Mk_25) (fun _ h9 => h9) rfl d_Mk_addAt_17 ?_
    refine lv_iload_n hx hb d_Mk_addAt_20 rfl (lv_at hl 2 rfl) ?_
    obtain ⟨g2, hf⟩ := ogi hf
    refine va_iast hx hb hK hP hD hS 1 0 rfl rfl (gin_in g2) d_Mk_addAt_21 (fun H locs hP hD hS => ?_)
    have hP : va_P D vwCl (mkW K mq m0 m1 m2 m3 m5 m6 m7 m8 m9 (upd kHeads kReached.toNatClampNeg p1) kTails kNext kSlots kReached kClassOf kFinerOf kMarkOf kFirstOf kMarkSlots kClasses) H := hP
    have hD : va_D A (mkW K mq m0 m1 m2 m3 m5 m6 m7 m8 m9 (upd kHeads kReached.toNatClampNeg p1) kTails kNext kSlots kReached kClassOf kFinerOf kMarkOf kFirstOf kMarkSlots kClasses) := hD
    refine lv_aload_n hx hb d_Mk_addAt_22 rfl (lv_at hl 0 rfl) ?_
    refine va_get (D := D) (ci := 6) (v := .ref m1) (C := R_Mk) (T := T_Mk) (N := 11) hx hb hts in_Mk hown hK hP 0 rfl rfl 1 (by decide) (hts _ fl_Mk_15) (fun _ h9 => h9) rfl d_Mk_addAt_23 ?_
    refine lv_aload_n hx hb d_Mk_addAt_26 rfl (lv_at hl 0 rfl) ?_
    refine va_get (D := D) (ci := 6) (v := .int kReached) (C := R_Mk) (T := T_Mk) (N := 11) hx hb hts in_Mk hown hK hP 0 rfl rfl 4 (by decide) (hts _ fl_Mk_25) (fun _ h9 => h9) rfl d_Mk_addAt_27 ?_
    refine lv_lload_n hx hb d_Mk_addAt_30 rfl (lv_at hl 3 rfl) ?_
    obtain ⟨g3, hf⟩ := ogi hf
    refine va_last hx hb hK hP hD hS 2 1 rfl rfl (gin_in g3) d_Mk_addAt_31 (fun H locs hP hD hS => ?_)
    have hP : va_P D vwCl (mkW K mq m0 m1 m2 m3 m5 m6 m7 m8 m9 (upd kHeads kReached.toNatClampNeg p1) (vp_updL kTails kReached.toNatClampNeg p2) kNext kSlots kReached kClassOf kFinerOf kMarkOf kFirstOf kMarkSlots kClasses) H := hP
    have hD : va_D A (mkW K mq m0 m1 m2 m3 m5 m6 m7 m8 m9 (upd kHeads kReached.toNatClampNeg p1) (vp_updL kTails kReached.toNatClampNeg p2) kNext kSlots kReached kClassOf kFinerOf kMarkOf kFirstOf kMarkSlots kClasses) := hD
    refine lv_aload_n hx hb d_Mk_addAt_32 rfl (lv_at hl 0 rfl) ?_
    refine va_get (D := D) (ci := 6) (v := .ref m3) (C := R_Mk) (T := T_Mk) (N := 11) hx hb hts in_Mk hown hK hP 0 rfl rfl 3 (by decide) (hts _ fl_Mk_22) (fun _ h9 => h9) rfl d_Mk_addAt_33 ?_
    refine lv_iload_n hx hb d_Mk_addAt_36 rfl (lv_at hl 1 rfl) ?_
    refine lv_aload_n hx hb d_Mk_addAt_37 rfl (lv_at hl 0 rfl) ?_
    refine va_get (D := D) (ci := 6) (v := .int kReached) (C := R_Mk) (T := T_Mk) (N := 11) hx hb hts in_Mk hown hK hP 0 rfl rfl 4 (by decide) (hts _ fl_Mk_25) (fun _ h9 => h9) rfl d_Mk_addAt_38 ?_
    obtain ⟨g4, hf⟩ := ogi hf
    refine va_iast hx hb hK hP hD hS 4 0 rfl rfl (gin_in g4) d_Mk_addAt_41 (fun H locs hP hD hS => ?_)
    have hP : va_P D vwCl (mkW K mq m0 m1 m2 m3 m5 m6 m7 m8 m9 (upd kHeads kReached.toNatClampNeg p1) (vp_updL kTails kReached.toNatClampNeg p2) kNext (upd kSlots p0.toNatClampNeg kReached) kReached kClassOf kFinerOf kMarkOf kFirstOf kMarkSlots kClasses) H := hP
    have hD : va_D A (mkW K mq m0 m1 m2 m3 m5 m6 m7 m8 m9 (upd kHeads kReached.toNatClampNeg p1) (vp_updL kTails kReached.toNatClampNeg p2) kNext (upd kSlots p0.toNatClampNeg kReached) kReached kClassOf kFinerOf kMarkOf kFirstOf kMarkSlots kClasses) := hD
    refine lv_aload_n hx hb d_Mk_addAt_42 rfl (lv_at hl 0 rfl) ?_
    refine lv_dup hx hb d_Mk_addAt_43 rfl ?_
    refine va_get (D := D) (ci := 6) (v := .int kReached) (C := R_Mk) (T := T_Mk) (N := 11) hx hb hts in_Mk hown hK hP 0 rfl rfl 4 (by decide) (hts _ fl_Mk_25) (fun _ h9 => h9) rfl d_Mk_addAt_44 ?_
    refine lv_iconst (v := 1) hx hb d_Mk_addAt_47 (by decide) ?_
    refine lv_iadd hx hb d_Mk_addAt_48 ?_
    refine va_put (D := D) (ci := 6) (v := .int (kReached + 1)) (ty := .int) (C := R_Mk) (T := T_Mk) (N := 11) hx hb hts in_Mk t_Mk t_Mk_ok n_Mk hown hK hP hD hS 0 rfl rfl 4 (by decide) (hts _ fl_Mk_25) (fun _ h9 => h9) rfl (by decide +kernel) rfl rfl (Nat.le_of_ble_eq_true rfl) d_Mk_addAt_49 (fun H locs hP hD hS => ?_)
    have hP : va_P D vwCl (mkW K mq m0 m1 m2 m3 m5 m6 m7 m8 m9 (upd kHeads kReached.toNatClampNeg p1) (vp_updL kTails kReached.toNatClampNeg p2) kNext (upd kSlots p0.toNatClampNeg kReached) (kReached + 1) kClassOf kFinerOf kMarkOf kFirstOf kMarkSlots kClasses) H := hP
    have hD : va_D A (mkW K mq m0 m1 m2 m3 m5 m6 m7 m8 m9 (upd kHeads kReached.toNatClampNeg p1) (vp_updL kTails kReached.toNatClampNeg p2) kNext (upd kSlots p0.toNatClampNeg kReached) (kReached + 1) kClassOf kFinerOf kMarkOf kFirstOf kMarkSlots kClasses) := hD
    refine lv_aload_n hx hb d_Mk_addAt_52 rfl (lv_at hl 0 rfl) ?_
    refine va_get (D := D) (ci := 6) (v := .int (kReached + 1)) (C := R_Mk) (T := T_Mk) (N := 11) hx hb hts in_Mk hown hK hP 0 rfl rfl 4 (by decide) (hts _ fl_Mk_25) (fun _ h9 => h9) rfl d_Mk_addAt_53 ?_
    refine lv_iconst (v := 1) hx hb d_Mk_addAt_56 (by decide) ?_
    refine lv_isub hx hb d_Mk_addAt_57 ?_
    exact Kr _ (Option.some.inj hf).symm _ _ _ _ _ _ d_Mk_addAt_58 hP hD hS
  · rw [if_neg c1] at hf
    refine lv_iconst (v := -1) hx hb d_Mk_addAt_10 (by decide) ?_
    exact Kr _ (Option.some.inj hf).symm _ _ _ _ _ _ d_Mk_addAt_11 hP hD hS
set_option maxHeartbeats 4000000 in
set_option maxRecDepth 100000 in
theorem c_Mk_addAt (l : Launch)  {p0 : Int32} {p1 : Int32} {p2 : Int64}  {r : Int32 × (Nat → Int32) × (Nat → Int64) × (Nat → Int32) × Int32} (sz : Nat) (hf : f_Mk_addAt n p0 p1 p2 kHeads kTails kSlots kReached = some r) : Met l y_Mk_addAt w0_Mk_addAt ({ frames := 0, cells := 0, slots := 0, locals := 0 }) (wPre D K [.ref mq, .int p0, .int p1, .long p2] (mkW K mq m0 m1 m2 m3 m5 m6 m7 m8 m9 kHeads kTails kNext kSlots kReached kClassOf kFinerOf kMarkOf kFirstOf kMarkSlots kClasses) sz) (wPostG D K (fun _ : Nat × Nat => (some (.int r.1))) (fun g => (mkW K mq m0 m1 m2 m3 g.1 g.2 m7 m8 m9 r.2.1 r.2.2.1 kNext r.2.2.2.1 r.2.2.2.2 kClassOf kFinerOf kMarkOf kFirstOf kMarkSlots kClasses)) (va_A (mkW K mq m0 m1 m2 m3 m5 m6 m7 m8 m9 kHeads kTails kNext kSlots kReached kClassOf kFinerOf kMarkOf kFirstOf kMarkSlots kClasses) sz)) 0 0 (va_A (mkW K mq m0 m1 m2 m3 m5 m6 m7 m8 m9 kHeads kTails kNext kSlots kReached kClassOf kFinerOf kMarkOf kFirstOf kMarkSlots kClasses) sz) := by
  refine Met.ofW (cc := b_Mk_addAt) (maxL := 5) (ret := (some .int)) (by decide) rfl ?_
  intro p e s m args below meth c s₁ B hml hv
  obtain ⟨rfl, hsz, hP, hK, hD0⟩ := hv
  subst hsz
  have hl := lv_entry [.ref mq, .int p0, .int p1, .long p2] (n := 5) (Nat.le_of_ble_eq_true rfl)
  rw [lg_entry_eq]
  generalize (lg_sl [.ref mq, .int p0, .int p1, .long p2] ++ List.replicate (5 - (lg_sl [.ref mq, .int p0, .int p1, .long p2]).length) Slot.unset).toArray = ls at hl ⊢
  refine w_Mk_addAt (A := va_A (mkW K mq m0 m1 m2 m3 m5 m6 m7 m8 m9 kHeads kTails kNext kSlots kReached kClassOf kFinerOf kMarkOf kFirstOf kMarkSlots kClasses) s.heap.size) (H0 := s.heap) B.exec B.bytes hml (fun w hw => atoms_spec (ws := w0_Mk_addAt) B.pre w (List.mem_cons_of_mem _ hw)) (findClass_of_methodNamed B.named) hK (Nat.le_refl _) (Nat.le_refl _) (Nat.zero_le _) (Nat.zero_le _) (fun q h => Or.inr h) (fun r er m5 m6 pc ls H locs hd hP hD hS => ?_) hf ls hP (hD0.self (sz := s.heap.size)) va_S.rf hl
  subst er
  exact W.iret B.exec B.bytes B.returns (fun t ht hW => ⟨⟨(m5, m6), rfl, by rw [ht]; exact hP, va_K.moved hW.alike hK, hD⟩, hS.F ht⟩) hS.2.2 hd (hlocks := B.notSynchronized)
end
section
variable {p : Program} {l : Launch} {e : Env} {R : Room} {s : State} {m : MethodId} {args : Array Value} {below : List Frame} {meth : Method} {c : Code} {H : Heap} {locs : List Loc} {cells slots : Nat} {Q : State → Prop} {A : Nat → Prop} {H0 : Heap}
variable {n : Nat} {D : va_G} {K : Nat → ClassId} {mq : Nat} {m0 : Nat} {m1 : Nat} {m2 : Nat} {m3 : Nat} {m5 : Nat} {m6 : Nat} {m7 : Nat} {m8 : Nat} {m9 : Nat} {kHeads : Nat → Int32} {kTails : Nat → Int64} {kNext : Nat → Int32} {kSlots : Nat → Int32} {kReached : Int32} {kClassOf : Nat → Int32} {kFinerOf : Nat → Int32} {kMarkOf : Nat → Int32} {kFirstOf : Nat → Int32} {kMarkSlots : Nat → Int32} {kClasses : Int32}
def f_Mk_numberOf_21 (n : Nat) (v1 : Int32) (v2 : Int64) : Nat → Int32 → Int32 → (Nat → Int32) → (Nat → Int64) → (Nat → Int32) → Int32 → Option ((Int32 × (Nat → Int32) × (Nat → Int64) × (Nat → Int32) × Int32) ⊕ (Int32 × Int32 × (Nat → Int32) × (Nat → Int64) × (Nat → Int32) × Int32))
  | 0, _, _, _, _, _, _ => none
  | k + 1, v5, v4, kHeads, kTails, kSlots, kReached =>
    if 2048 ≤ v5 then
      some (.inr (v5, v4, kHeads, kTails, kSlots, kReached))
    else
      ogd (gin v4 2048) <|
      if (kSlots v4.toNatClampNeg) = (-1) then
        (f_Mk_addAt n v4 v1 v2 kHeads kTails kSlots kReached).bind fun u17 =>
        some (.inl (u17.1, u17.2.1, u17.2.2.1, u17.2.2.2.1, u17.2.2.2.2))
      else
        ogd (gin (kSlots v4.toNatClampNeg) 800) <|
        if (kHeads (kSlots v4.toNatClampNeg).toNatClampNeg) = v1 then
          ogd (gin (kSlots v4.toNatClampNeg) 800) <|
          if (kTails (kSlots v4.toNatClampNeg).toNatClampNeg) = v2 then
            some (.inl (kSlots v4.toNatClampNeg, kHeads, kTails, kSlots, kReached))
          else
            f_Mk_numberOf_21 n v1 v2 k (v5 + 1) ((v4 + 1) - (v4 + 1) / 2048 * 2048) kHeads kTails kSlots kReached
        else
          f_Mk_numberOf_21 n v1 v2 k (v5 + 1) ((v4 + 1) - (v4 + 1) / 2048 * 2048) kHeads kTails kSlots kReached
set_option maxHeartbeats 4000000 in
set_option maxRecDepth 100000 in
theorem w_Mk_numberOf_21  {v1 : Int32} {v2 : Int64} (hx : p.tables.exec = Jvm.exec) (hb : c.code = b_Mk_numberOf) (hml : c.maxLocals = 7) (hts : ∀ w ∈ gW, w.before args s = true) (hown : s.vm.findClass "RegularSolver$Maker" = some m.cls) (hK : va_K D vwCl (tG K) s) (hRf : 1 ≤ R.frames) (hRl : 24 ≤ R.locals) (hRc : cells ≤ R.cells) (hRs : slots ≤ R.slots) (hA : ∀ q, H0.size ≤ q → A q)  {out : (Int32 × (Nat → Int32) × (Nat → Int64) × (Nat → Int32) × Int32) ⊕ (Int32 × Int32 × (Nat → Int32) × (Nat → Int64) × (Nat → Int32) × Int32)} (Kr : ∀ (r : Int32 × (Nat → Int32) × (Nat → Int64) × (Nat → Int32) × Int32), out = .inl r → ∀ (m5 : Nat) (m6 : Nat), ∀ (pc : Nat) (ls : Array Slot) (H : Heap) (locs : List Loc), decode b_Mk_numberOf pc = .ok (.ireturn, 1) → va_P D vwCl (mkW K mq m0 m1 m2 m3 m5 m6 m7 m8 m9 r.2.1 r.2.2.1 kNext r.2.2.2.1 r.2.2.2.2 kClassOf kFinerOf kMarkOf kFirstOf kMarkSlots kClasses) H → va_D A (mkW K mq m0 m1 m2 m3 m5 m6 m7 m8 m9 r.2.1 r.2.2.1 kNext r.2.2.2.1 r.2.2.2.2 kClassOf kFinerOf kMarkOf kFirstOf kMarkSlots kClasses) → va_S A H0 H locs → W p l e R s m args below meth c H locs cells slots Q (F0 m pc ls [.int r.1])) (Kx : ∀ (u : Int32 × Int32 × (Nat → Int32) × (Nat → Int64) × (Nat → Int32) × Int32), out = .inr u → ∀ (m5 : Nat) (m6 : Nat), ∀ (ls : Array Slot) (H : Heap) (locs : List Loc), va_P D vwCl (mkW K mq m0 m1 m2 m3 m5 m6 m7 m8 m9 u.2.2.1 u.2.2.2.1 kNext u.2.2.2.2.1 u.2.2.2.2.2 kClassOf kFinerOf kMarkOf kFirstOf kMarkSlots kClasses) H → va_D A (mkW K mq m0 m1 m2 m3 m5 m6 m7 m8 m9 u.2.2.1 u.2.2.2.1 kNext u.2.2.2.2.1 u.2.2.2.2.2 kClassOf kFinerOf kMarkOf kFirstOf kMarkSlots kClasses) → va_S A H0 H locs → lv_has ls 7 [] → W p l e R s m args below meth c H locs cells slots Q (F0 m 95 ls [])) :
    ∀ (k : Nat) (v5 : Int32) (v4 : Int32) (kHeads : Nat → Int32) (kTails : Nat → Int64) (kSlots : Nat → Int32) (kReached : Int32), f_Mk_numberOf_21 n v1 v2 k v5 v4 kHeads kTails kSlots kReached = some out → ∀ (m5 : Nat) (m6 : Nat), ∀ (ls : Array Slot) (H : Heap) (locs : List Loc), va_P D vwCl (mkW K mq m0 m1 m2 m3 m5 m6 m7 m8 m9 kHeads kTails kNext kSlots kReached kClassOf kFinerOf kMarkOf kFirstOf kMarkSlots kClasses) H → va_D A (mkW K mq m0 m1 m2 m3 m5 m6 m7 m8 m9 kHeads kTails kNext kSlots kReached kClassOf kFinerOf kMarkOf kFirstOf kMarkSlots kClasses) → va_S A H0 H locs → lv_has ls 7 [(5, .int v5), (4, .int v4), (0, .ref mq), (1, .int v1), (2, .long v2)] → W p l e R s m args below meth c H locs cells slots Q (F0 m 21 ls []) := by
  intro k
  induction k with
  | zero => intro _ _ _ _ _ _ hf; exact nomatch (show none = some out from hf)
  | succ k ih =>
    intro v5 v4 kHeads kTails kSlots kReached hf m5 m6 ls H locs hP hD hS hl
    rw [f_Mk_numberOf_21] at hf
    refine lv_iload hx hb d_Mk_numberOf_21 (lv_at hl 0 rfl) ?_
    refine lv_sipush (v := 2048) hx hb d_Mk_numberOf_23 (by decide) ?_
    refine lv_icmp_ge (tgt := 95) hx hb d_Mk_numberOf_26 (by decide) (fun c10 => ?_) (fun c10 => ?_)
    · rw [if_pos c10] at hf
      exact Kx _ (Option.some.inj hf).symm _ _ _ _ _ hP hD hS (show lv_has ls 7 [] from lv_sub hl [] rfl)
    · rw [if_neg c10] at hf
      refine lv_aload_n hx hb d_Mk_numberOf_29 rfl (lv_at hl 2 rfl) ?_
      refine va_get (D := D) (ci := 6) (v := .ref m3) (C := R_Mk) (T := T_Mk) (N := 11) hx hb hts in_Mk hown hK hP 0 rfl rfl 3 (by decide) (hts _ fl_Mk_22) (fun _ h9 => h9) rfl d_Mk_numberOf_30 ?_
      refine lv_iload hx hb d_Mk_numberOf_33 (lv_at hl 1 rfl) ?_
      obtain ⟨g11, hf⟩ := ogi hf
      refine va_iald hx hb hK hP 4 0 rfl rfl (gin_in g11) d_Mk_numberOf_35 ?_
      refine lv_istore (lv' := [(6, .int (kSlots v4.toNatClampNeg)), (5, .int v5), (4, .int v4), (0, .ref mq), (1, .int v1), (2, .long v2)]) hx hb d_Mk_numberOf_36 hl (by decide) rfl (fun ls hl => ?_)
      refine lv_iload hx hb d_Mk_numberOf_38 (lv_at hl 0 rfl) ?_
      refine lv_iconst (v := -1) hx hb d_Mk_numberOf_40 (by decide) ?_
      refine lv_icmp_ne (tgt := 53) hx hb d_Mk_numberOf_41 (by decide) (fun c12 => ?_) (fun c12 => ?_)
      · rw [if_neg c12] at hf
        refine lv_aload_n hx hb d_Mk_numberOf_53 rfl (lv_at hl 3 rfl) ?_
        refine va_get (D := D) (ci := 6) (v := .ref m0) (C := R_Mk) (T := T_Mk) (N := 11) hx hb hts in_Mk hown hK hP 0 rfl rfl 0 (by decide) (hts _ fl_Mk_11) (fun _ h9 => h9) rfl d_Mk_numberOf_54 ?_
        refine lv_iload hx hb d_Mk_numberOf_57 (lv_at hl 0 rfl) ?_
        obtain ⟨g13, hf⟩ := ogi hf
        refine va_iald hx hb hK hP 1 0 rfl rfl (gin_in g13) d_Mk_numberOf_59 ?_
        refine lv_iload_n hx hb d_Mk_numberOf_60 rfl (lv_at hl 4 rfl) ?_
        refine lv_icmp_ne (tgt := 79) hx hb d_Mk_numberOf_61 (by decide) (fun c14 => ?_) (fun c14 => ?_)
        · rw [if_neg c14] at hf
          refine lv_iload hx hb d_Mk_numberOf_79 (lv_at hl 2 rfl) ?_
          refine lv_iconst (v := 1) hx hb d_Mk_numberOf_81 (by decide) ?_
          refine lv_iadd hx hb d_Mk_numberOf_82 ?_
          refine lv_sipush (v := 2048) hx hb d_Mk_numberOf_83 (by decide) ?_
          refine lv_irem hx hb d_Mk_numberOf_86 (by decide) ?_
          refine lv_istore (lv' := [(4, .int ((v4 + 1) - (v4 + 1) / 2048 * 2048)), (6, .int (kSlots v4.toNatClampNeg)), (5, .int v5), (0, .ref mq), (1, .int v1), (2, .long v2)]) hx hb d_Mk_numberOf_87 hl (by decide) rfl (fun ls hl => ?_)
          refine lv_iinc (v := v5 + 1) (lv' := [(5, .int (v5 + 1)), (4, .int ((v4 + 1) - (v4 + 1) / 2048 * 2048)), (6, .int (kSlots v4.toNatClampNeg)), (0, .ref mq), (1, .int v1), (2, .long v2)]) hx hb d_Mk_numberOf_89 hl (k := 2) rfl (by first | rfl | (congr 1)) (by decide) rfl (fun ls hl => ?_)
          refine lv_goto (tgt := 21) hx hb d_Mk_numberOf_92 (by decide) ?_
          exact ih _ _ _ _ _ _ hf _ _ _ _ _ hP hD hS (show lv_has ls 7 [(5, .int (v5 + 1)), (4, .int ((v4 + 1) - (v4 + 1) / 2048 * 2048)), (0, .ref mq), (1, .int v1), (2, .long v2)] from lv_sub hl [0, 1, 3, 4, 5] rfl)
        · rw [if_pos c14] at hf
          refine lv_aload_n hx hb d_Mk_numberOf_64 rfl (lv_at hl 3 rfl) ?_
          refine va_get (D := D) (ci := 6) (v := .ref m1) (C := R_Mk) (T := T_Mk) (N := 11) hx hb hts in_Mk hown hK hP 0 rfl rfl 1 (by decide) (hts _ fl_Mk_15) (fun _ h9 => h9) rfl d_Mk_numberOf_65 ?_
          refine lv_iload hx hb d_Mk_numberOf_68 (lv_at hl 0 rfl) ?_
          obtain ⟨g15, hf⟩ := ogi hf
          refine va_lald hx hb hK hP 2 1 rfl rfl (gin_in g15) d_Mk_numberOf_70 ?_
          refine lv_lload_n hx hb d_Mk_numberOf_71 rfl (lv_at hl 5 rfl) ?_
          refine W.lcmp hx hb d_Mk_numberOf_72 ?_
          refine lc_ne (tgt := 79) hx hb d_Mk_numberOf_73 (by decide) (fun c16 => ?_) (fun c16 => ?_)
          · rw [if_neg c16] at hf
            refine lv_iload hx hb d_Mk_numberOf_79 (lv_at hl 2 rfl) ?_
            refine lv_iconst (v := 1) hx hb d_Mk_numberOf_81 (by decide) ?_
            refine lv_iadd hx hb d_Mk_numberOf_82 ?_
            refine lv_sipush (v := 2048) hx hb d_Mk_numberOf_83 (by decide) ?_
            refine lv_irem hx hb d_Mk_numberOf_86 (by decide) ?_
            refine lv_istore (lv' := [(4, .int ((v4 + 1) - (v4 + 1) / 2048 * 2048)), (6, .int (kSlots v4.toNatClampNeg)), (5, .int v5), (0, .ref mq), (1, .int v1), (2, .long v2)]) hx hb d_Mk_numberOf_87 hl (by decide) rfl (fun ls hl => ?_)
            refine lv_iinc (v := v5 + 1) (lv' := [(5, .int (v5 + 1)), (4, .int ((v4 + 1) - (v4 + 1) / 2048 * 2048)), (6, .int (kSlots v4.toNatClampNeg)), (0, .ref mq), (1, .int v1), (2, .long v2)]) hx hb d_Mk_numberOf_89 hl (k := 2) rfl (by first | rfl | (congr 1)) (by decide) rfl (fun ls hl => ?_)
            refine lv_goto (tgt := 21) hx hb d_Mk_numberOf_92 (by decide) ?_
            exact ih _ _ _ _ _ _ hf _ _ _ _ _ hP hD hS (show lv_has ls 7 [(5, .int (v5 + 1)), (4, .int ((v4 + 1) - (v4 + 1) / 2048 * 2048)), (0, .ref mq), (1, .int v1), (2, .long v2)] from lv_sub hl [0, 1, 3, 4, 5] rfl)
          · rw [if_pos c16] at hf
            refine lv_iload hx hb d_Mk_numberOf_76 (lv_at hl 0 rfl) ?_
            exact Kr _ (Option.some.inj hf).symm _ _ _ _ _ _ d_Mk_numberOf_78 hP hD hS
      · rw [if_pos c12] at hf
        refine lv_aload_n hx hb d_Mk_numberOf_44 rfl (lv_at hl 3 rfl) ?_
        refine lv_iload hx hb d_Mk_numberOf_45 (lv_at hl 2 rfl) ?_
        refine lv_iload_n hx hb d_Mk_numberOf_47 rfl (lv_at hl 4 rfl) ?_
        refine lv_lload_n hx hb d_Mk_numberOf_48 rfl (lv_at hl 5 rfl) ?_
        obtain ⟨u17, eu17, hf⟩ := obd hf
        refine w_callA (va_runV (As := [.int v4, .int v1, .long v2]) (rest := []) ⟨hx, hb, hml, hown, hts⟩ (c_Mk_addAt l H.size eu17) (gV 3 hts cd_Mk_addAt ml_Mk_91 im_Mk_addAt se_Mk_addAt ini_Mk rfl rfl pd_Mk_addAt ⟨Nat.le_trans (Nat.le_of_ble_eq_true rfl) hRf, Nat.le_trans (Nat.le_of_ble_eq_true rfl) hRl⟩) ⟨wPre_blind, va_recv hK hP (ci := 6) (q0 := 0) rfl rfl, wPre_of hP hK hD⟩ rfl rfl hl.1 rfl (lv_room (Nat.le_of_ble_eq_true rfl)) d_Mk_numberOf_49 ⟨hRc, hRs⟩) hD hS hA (fun g18 H1 locs hP1 hD1 hk1 hS1 => ?_)
        obtain ⟨hP, hD⟩ : _ ∧ _ := ⟨hP1, hD1.weaken (fun _ q _ h => va_sub hD hS hA q.1 h)⟩
        have hS := hS1
        generalize H1 = H at hP hS ⊢
        have hP : va_P D vwCl (mkW K mq m0 m1 m2 m3 g18.1 g18.2 m7 m8 m9 u17.2.1 u17.2.2.1 kNext u17.2.2.2.1 u17.2.2.2.2 kClassOf kFinerOf kMarkOf kFirstOf kMarkSlots kClasses) H := hP
        have hD : va_D A (mkW K mq m0 m1 m2 m3 g18.1 g18.2 m7 m8 m9 u17.2.1 u17.2.2.1 kNext u17.2.2.2.1 u17.2.2.2.2 kClassOf kFinerOf kMarkOf kFirstOf kMarkSlots kClasses) := hD
        exact Kr _ (Option.some.inj hf).symm _ _ _ _ _ _ d_Mk_numberOf_52 hP hD hS
def f_Mk_numberOf (n : Nat) (p0 : Int32) (p1 : Int64) (kHeads : Nat → Int32) (kTails : Nat → Int64) (kSlots : Nat → Int32) (kReached : Int32) : Option (Int32 × (Nat → Int32) × (Nat → Int64) × (Nat → Int32) × Int32) :=
  (f_Mk_numberOf_21 n p0 p1 n 0 ((lushr (((p1 * (-7046029254386353131)) + p0.toInt64) * (-7046029254386353131)) 53).toInt32) kHeads kTails kSlots kReached).bind fun u19 => u19.elim (fun r => some r) fun x19 =>
  some ((-1), x19.2.2.1, x19.2.2.2.1, x19.2.2.2.2.1, x19.2.2.2.2.2)
set_option maxHeartbeats 4000000 in
set_option maxRecDepth 100000 in
theorem w_Mk_numberOf  {p0 : Int32} {p1 : Int64}  (hx : p.tables.exec = Jvm.exec) (hb : c.code = b_Mk_numberOf) (hml : c.maxLocals = 7) (hts : ∀ w ∈ gW, w.before args s = true) (hown : s.vm.findClass "RegularSolver$Maker" = some m.cls) (hK : va_K D vwCl (tG K) s) (hRf : 1 ≤ R.frames) (hRl : 24 ≤ R.locals) (hRc : cells ≤ R.cells) (hRs : slots ≤ R.slots) (hA : ∀ q, H0.size ≤ q → A q) {out : Int32 × (Nat → Int32) × (Nat → Int64) × (Nat → Int32) × Int32} (Kr : ∀ (r : Int32 × (Nat → Int32) × (Nat → Int64) × (Nat → Int32) × Int32), out = r → ∀ (m5 : Nat) (m6 : Nat), ∀ (pc : Nat) (ls : Array Slot) (H : Heap) (locs : List Loc), decode b_Mk_numberOf pc = .ok (.ireturn, 1) → va_P D vwCl (mkW K mq m0 m1 m2 m3 m5 m6 m7 m8 m9 r.2.1 r.2.2.1 kNext r.2.2.2.1 r.2.2.2.2 kClassOf kFinerOf kMarkOf kFirstOf kMarkSlots kClasses) H → va_D A (mkW K mq m0 m1 m2 m3 m5 m6 m7 m8 m9 r.2.1 r.2.2.1 kNext r.2.2.2.1 r.2.2.2.2 kClassOf kFinerOf kMarkOf kFirstOf kMarkSlots kClasses) → va_S A H0 H locs → W p l e R s m args below meth c H locs cells slots Q (F0 m pc ls [.int r.1])) (hf : f_Mk_numberOf n p0 p1 kHeads kTails kSlots kReached = some out) (ls : Array Slot) (hP : va_P D vwCl (mkW K mq m0 m1 m2 m3 m5 m6 m7 m8 m9 kHeads kTails kNext kSlots kReached kClassOf kFinerOf kMarkOf kFirstOf kMarkSlots kClasses) H) (hD : va_D A (mkW K mq m0 m1 m2 m3 m5 m6 m7 m8 m9 kHeads kTails kNext kSlots kReached kClassOf kFinerOf kMarkOf kFirstOf kMarkSlots kClasses)) (hS : va_S A H0 H locs) (hl : lv_has ls 7 [(0, .ref mq), (1, .int p0), (2, .long p1)]) : W p l e R s m args below meth c H locs cells slots Q (F0 m 0 ls []) := by
  unfold f_Mk_numberOf at hf
  refine lv_lload_n hx hb d_Mk_numberOf_0 rfl (lv_at hl 2 rfl) ?_
  refine lv_ldc2 (v := (-7046029254386353131)) hx hb hown (hts _ kl_Mk_89) d_Mk_numberOf_1 ?_
  refine lv_lmul hx hb d_Mk_numberOf_4 ?_
  refine lv_iload_n hx hb d_Mk_numberOf_5 rfl (lv_at hl 1 rfl) ?_
  refine lv_i2l (v := p0.toInt64) hx hb d_Mk_numberOf_6 rfl ?_
  refine lv_ladd hx hb d_Mk_numberOf_7 ?_
  refine lv_ldc2 (v := (-7046029254386353131)) hx hb hown (hts _ kl_Mk_89) d_Mk_numberOf_8 ?_
  refine lv_lmul hx hb d_Mk_numberOf_11 ?_
  refine lv_bipush (v := 53) hx hb d_Mk_numberOf_12 (by decide) ?_
  refine lv_lushr (v := lushr (((p1 * (-7046029254386353131)) + p0.toInt64) * (-7046029254386353131)) 53) hx hb d_Mk_numberOf_14 rfl ?_
  refine lv_l2i (v := (lushr (((p1 * (-7046029254386353131)) + p0.toInt64) * (-7046029254386353131)) 53).toInt32) hx hb d_Mk_numberOf_15 rfl ?_
  refine lv_istore (lv' := [(4, .int ((lushr (((p1 * (-7046029254386353131)) + p0.toInt64) * (-7046029254386353131)) 53).toInt32)), (0, .ref mq), (1, .int p0), (2, .long p1)]) hx hb d_Mk_numberOf_16 hl (by decide) rfl (fun ls hl => ?_)
  refine lv_iconst (v := 0) hx hb d_Mk_numberOf_18 (by decide) ?_
  refine lv_istore (lv' := [(5, .int 0), (4, .int ((lushr (((p1 * (-7046029254386353131)) + p0.toInt64) * (-7046029254386353131)) 53).toInt32)), (0, .ref mq), (1, .int p0), (2, .long p1)]) hx hb d_Mk_numberOf_19 hl (by decide) rfl (fun ls hl => ?_)
  obtain ⟨u19, eu19, hf⟩ := obd hf
  refine w_Mk_numberOf_21 hx hb hml hts hown hK hRf hRl hRc hRs hA (fun r er m5 m6 pc ls H locs hd hP hD hS => Kr r (by subst er; exact (Option.some.inj hf).symm) m5 m6 pc ls H locs hd hP hD hS) (fun x19 eu m5 m6 ls H locs hP hD hS hl => ?_) _ _ _ _ _ _ _ eu19 _ _ _ _ _ hP hD hS (show lv_has ls 7 [(5, .int 0), (4, .int ((lushr (((p1 * (-7046029254386353131)) + p0.toInt64) * (-7046029254386353131)) 53).toInt32)), (0, .ref mq), (1, .int p0), (2, .long p1)] from lv_sub hl [0, 1, 2, 3, 4] rfl)
  subst eu
  replace hf := oel hf
  refine lv_iconst (v := -1) hx hb d_Mk_numberOf_95 (by decide) ?_
  exact Kr _ (Option.some.inj hf).symm _ _ _ _ _ _ d_Mk_numberOf_96 hP hD hS
set_option maxHeartbeats 4000000 in
set_option maxRecDepth 100000 in
theorem c_Mk_numberOf (l : Launch)  {p0 : Int32} {p1 : Int64}  {r : Int32 × (Nat → Int32) × (Nat → Int64) × (Nat → Int32) × Int32} (sz : Nat) (hf : f_Mk_numberOf n p0 p1 kHeads kTails kSlots kReached = some r) : Met l y_Mk_numberOf w0_Mk_numberOf ({ frames := 1, cells := 0, slots := 0, locals := 24 }) (wPre D K [.ref mq, .int p0, .long p1] (mkW K mq m0 m1 m2 m3 m5 m6 m7 m8 m9 kHeads kTails kNext kSlots kReached kClassOf kFinerOf kMarkOf kFirstOf kMarkSlots kClasses) sz) (wPostG D K (fun _ : Nat × Nat => (some (.int r.1))) (fun g => (mkW K mq m0 m1 m2 m3 g.1 g.2 m7 m8 m9 r.2.1 r.2.2.1 kNext r.2.2.2.1 r.2.2.2.2 kClassOf kFinerOf kMarkOf kFirstOf kMarkSlots kClasses)) (va_A (mkW K mq m0 m1 m2 m3 m5 m6 m7 m8 m9 kHeads kTails kNext kSlots kReached kClassOf kFinerOf kMarkOf kFirstOf kMarkSlots kClasses) sz)) 0 0 (va_A (mkW K mq m0 m1 m2 m3 m5 m6 m7 m8 m9 kHeads kTails kNext kSlots kReached kClassOf kFinerOf kMarkOf kFirstOf kMarkSlots kClasses) sz) := by
  refine Met.ofW (cc := b_Mk_numberOf) (maxL := 7) (ret := (some .int)) (by decide) rfl ?_
  intro p e s m args below meth c s₁ B hml hv
  obtain ⟨rfl, hsz, hP, hK, hD0⟩ := hv
  subst hsz
  have hl := lv_entry [.ref mq, .int p0, .long p1] (n := 7) (Nat.le_of_ble_eq_true rfl)
  rw [lg_entry_eq]
  generalize (lg_sl [.ref mq, .int p0, .long p1] ++ List.replicate (7 - (lg_sl [.ref mq, .int p0, .long p1]).length) Slot.unset).toArray = ls at hl ⊢
  refine w_Mk_numberOf (A := va_A (mkW K mq m0 m1 m2 m3 m5 m6 m7 m8 m9 kHeads kTails kNext kSlots kReached kClassOf kFinerOf kMarkOf kFirstOf kMarkSlots kClasses) s.heap.size) (H0 := s.heap) B.exec B.bytes hml (fun w hw => atoms_spec (ws := w0_Mk_numberOf) B.pre w (List.mem_cons_of_mem _ hw)) (findClass_of_methodNamed B.named) hK (Nat.le_refl _) (Nat.le_refl _) (Nat.zero_le _) (Nat.zero_le _) (fun q h => Or.inr h) (fun r er m5 m6 pc ls H locs hd hP hD hS => ?_) hf ls hP (hD0.self (sz := s.heap.size)) va_S.rf hl
  subst er
  exact W.iret B.exec B.bytes B.returns (fun t ht hW => ⟨⟨(m5, m6), rfl, by rw [ht]; exact hP, va_K.moved hW.alike hK, hD⟩, hS.F ht⟩) hS.2.2 hd (hlocks := B.notSynchronized)
end
section
variable {p : Program} {l : Launch} {e : Env} {R : Room} {s : State} {m : MethodId} {args : Array Value} {below : List Frame} {meth : Method} {c : Code} {H : Heap} {locs : List Loc} {cells slots : Nat} {Q : State → Prop} {A : Nat → Prop} {H0 : Heap}
variable {n : Nat} {D : va_G} {K : Nat → ClassId} {mq : Nat} {m0 : Nat} {m1 : Nat} {m2 : Nat} {m3 : Nat} {m5 : Nat} {m6 : Nat} {m7 : Nat} {m8 : Nat} {m9 : Nat} {kHeads : Nat → Int32} {kTails : Nat → Int64} {kNext : Nat → Int32} {kSlots : Nat → Int32} {kReached : Int32} {kClassOf : Nat → Int32} {kFinerOf : Nat → Int32} {kMarkOf : Nat → Int32} {kFirstOf : Nat → Int32} {kMarkSlots : Nat → Int32} {kClasses : Int32}
def f_Mk_markAt_9 (n : Nat) (v1 : Int32) (kNext : Nat → Int32) (kClassOf : Nat → Int32) : Nat → Int32 → Int32 → Option (Int32 × Int32)
  | 0, _, _ => none
  | k + 1, v3, v2 =>
    if 4 ≤ v3 then
      some (v3, v2)
    else
      ogd (gin ((4 * v1) + v3) 3200) <|
      ogd (gin (kNext ((4 * v1) + v3).toNatClampNeg) 800) <|
      f_Mk_markAt_9 n v1 kNext kClassOf k (v3 + 1) ((v2 <<< (6 &&& 31)) ||| (kClassOf (kNext ((4 * v1) + v3).toNatClampNeg).toNatClampNeg))
set_option maxHeartbeats 4000000 in
set_option maxRecDepth 100000 in
theorem w_Mk_markAt_9  {v1 : Int32} (hx : p.tables.exec = Jvm.exec) (hb : c.code = b_Mk_markAt) (hml : c.maxLocals = 4) (hts : ∀ w ∈ gW, w.before args s = true) (hown : s.vm.findClass "RegularSolver$Maker" = some m.cls) (hK : va_K D vwCl (tG K) s) (hRf : 0 ≤ R.frames) (hRl : 0 ≤ R.locals) (hRc : cells ≤ R.cells) (hRs : slots ≤ R.slots) (hP : va_P D vwCl (mkW K mq m0 m1 m2 m3 m5 m6 m7 m8 m9 kHeads kTails kNext kSlots kReached kClassOf kFinerOf kMarkOf kFirstOf kMarkSlots kClasses) H)  {out : Int32 × Int32} (Kx : ∀ (u : Int32 × Int32), out = u → ∀ (ls : Array Slot), lv_has ls 4 [(2, .int u.2)] → W p l e R s m args below meth c H locs cells slots Q (F0 m 41 ls [])) :
    ∀ (k : Nat) (v3 : Int32) (v2 : Int32), f_Mk_markAt_9 n v1 kNext kClassOf k v3 v2 = some out → ∀ (ls : Array Slot), lv_has ls 4 [(3, .int v3), (2, .int v2), (0, .ref mq), (1, .int v1)] → W p l e R s m args below meth c H locs cells slots Q (F0 m 9 ls []) := by
  intro k
  induction k with
  | zero => intro _ _ hf; exact nomatch (show none = some out from hf)
  | succ k ih =>
    intro v3 v2 hf ls hl
    rw [f_Mk_markAt_9] at hf
    refine lv_iload_n hx hb d_Mk_markAt_9 rfl (lv_at hl 0 rfl) ?_
    refine lv_iconst (v := 4) hx hb d_Mk_markAt_10 (by decide) ?_
    refine lv_icmp_ge (tgt := 41) hx hb d_Mk_markAt_11 (by decide) (fun c5 => ?_) (fun c5 => ?_)
    · rw [if_pos c5] at hf
      exact Kx _ (Option.some.inj hf).symm _ (show lv_has ls 4 [(2, .int v2)] from lv_sub hl [1] rfl)
    · rw [if_neg c5] at hf
      refine lv_iload_n hx hb d_Mk_markAt_14 rfl (lv_at hl 1 rfl) ?_
      refine lv_bipush (v := 6) hx hb d_Mk_markAt_15 (by decide) ?_
      refine lv_ishl hx hb d_Mk_markAt_17 ?_
      refine lv_aload_n hx hb d_Mk_markAt_18 rfl (lv_at hl 2 rfl) ?_
      refine va_get (D := D) (ci := 6) (v := .ref m5) (C := R_Mk) (T := T_Mk) (N := 11) hx hb hts in_Mk hown hK hP 0 rfl rfl 5 (by decide) (hts _ fl_Mk_29) (fun _ h9 => h9) rfl d_Mk_markAt_19 ?_
      refine lv_aload_n hx hb d_Mk_markAt_22 rfl (lv_at hl 2 rfl) ?_
      refine va_get (D := D) (ci := 6) (v := .ref m2) (C := R_Mk) (T := T_Mk) (N := 11) hx hb hts in_Mk hown hK hP 0 rfl rfl 2 (by decide) (hts _ fl_Mk_19) (fun _ h9 => h9) rfl d_Mk_markAt_23 ?_
      refine lv_iconst (v := 4) hx hb d_Mk_markAt_26 (by decide) ?_
      refine lv_iload_n hx hb d_Mk_markAt_27 rfl (lv_at hl 3 rfl) ?_
      refine lv_imul hx hb d_Mk_markAt_28 ?_
      refine lv_iload_n hx hb d_Mk_markAt_29 rfl (lv_at hl 0 rfl) ?_
      refine lv_iadd hx hb d_Mk_markAt_30 ?_
      obtain ⟨g6, hf⟩ := ogi hf
      refine va_iald hx hb hK hP 3 0 rfl rfl (gin_in g6) d_Mk_markAt_31 ?_
      obtain ⟨g7, hf⟩ := ogi hf
      refine va_iald hx hb hK hP 5 0 rfl rfl (gin_in g7) d_Mk_markAt_32 ?_
      refine lv_ior hx hb d_Mk_markAt_33 ?_
      refine lv_istore_n (lv' := [(2, .int ((v2 <<< (6 &&& 31)) ||| (kClassOf (kNext ((4 * v1) + v3).toNatClampNeg).toNatClampNeg))), (3, .int v3), (0, .ref mq), (1, .int v1)]) hx hb d_Mk_markAt_34 rfl hl (by decide) rfl (fun ls hl => ?_)
      refine lv_iinc (v := v3 + 1) (lv' := [(3, .int (v3 + 1)), (2, .int ((v2 <<< (6 &&& 31)) ||| (kClassOf (kNext ((4 * v1) + v3).toNatClampNeg).toNatClampNeg))), (0, .ref mq), (1, .int v1)]) hx hb d_Mk_markAt_35 hl (k := 1) rfl (by first | rfl | (congr 1)) (by decide) rfl (fun ls hl => ?_)
      refine lv_goto (tgt := 9) hx hb d_Mk_markAt_38 (by decide) ?_
      exact ih _ _ hf _ (show lv_has ls 4 [(3, .int (v3 + 1)), (2, .int ((v2 <<< (6 &&& 31)) ||| (kClassOf (kNext ((4 * v1) + v3).toNatClampNeg).toNatClampNeg))), (0, .ref mq), (1, .int v1)] from lv_sub hl [0, 1, 2, 3] rfl)
def f_Mk_markAt (n : Nat) (p0 : Int32) (kNext : Nat → Int32) (kClassOf : Nat → Int32) : Option (Int32) :=
  ogd (gin p0 800) <|
  (f_Mk_markAt_9 n p0 kNext kClassOf n 0 (kClassOf p0.toNatClampNeg)).bind fun u8 =>
  some u8.2
set_option maxHeartbeats 4000000 in
set_option maxRecDepth 100000 in
theorem w_Mk_markAt  {p0 : Int32}  (hx : p.tables.exec = Jvm.exec) (hb : c.code = b_Mk_markAt) (hml : c.maxLocals = 4) (hts : ∀ w ∈ gW, w.before args s = true) (hown : s.vm.findClass "RegularSolver$Maker" = some m.cls) (hK : va_K D vwCl (tG K) s) (hRf : 0 ≤ R.frames) (hRl : 0 ≤ R.locals) (hRc : cells ≤ R.cells) (hRs : slots ≤ R.slots) (hP : va_P D vwCl (mkW K mq m0 m1 m2 m3 m5 m6 m7 m8 m9 kHeads kTails kNext kSlots kReached kClassOf kFinerOf kMarkOf kFirstOf kMarkSlots kClasses) H) {out : Int32} (Kr : ∀ (r : Int32), out = r → ∀ (pc : Nat) (ls : Array Slot), decode b_Mk_markAt pc = .ok (.ireturn, 1) → W p l e R s m args below meth c H locs cells slots Q (F0 m pc ls [.int r])) (hf : f_Mk_markAt n p0 kNext kClassOf = some out) (ls : Array Slot) (hl : lv_has ls 4 [(0, .ref mq), (1, .int p0)]) : W p l e R s m args below meth c H locs cells slots Q (F0 m 0 ls []) := by
  unfold f_Mk_markAt at hf
  refine lv_aload_n hx hb d_Mk_markAt_0 rfl (lv_at hl 0 rfl) ?_
  refine va_get (D := D) (ci := 6) (v := .ref m5) (C := R_Mk) (T := T_Mk) (N := 11) hx hb hts in_Mk hown hK hP 0 rfl rfl 5 (by decide) (hts _ fl_Mk_29) (fun _ h9 => h9) rfl d_Mk_markAt_1 ?_
  refine lv_iload_n hx hb d_Mk_markAt_4 rfl (lv_at hl 1 rfl) ?_
  obtain ⟨g1, hf⟩ := ogi hf
  refine va_iald hx hb hK hP 5 0 rfl rfl (gin_in g1) d_Mk_markAt_5 ?_
  refine lv_istore_n (lv' := [(2, .int (kClassOf p0.toNatClampNeg)), (0, .ref mq), (1, .int p0)]) hx hb d_Mk_markAt_6 rfl hl (by decide) rfl (fun ls hl => ?_)
  refine lv_iconst (v := 0) hx hb d_Mk_markAt_7 (by decide) ?_
  refine lv_istore_n (lv' := [(3, .int 0), (2, .int (kClassOf p0.toNatClampNeg)), (0, .ref mq), (1, .int p0)]) hx hb d_Mk_markAt_8 rfl hl (by decide) rfl (fun ls hl => ?_)
  obtain ⟨u8, eu8, hf⟩ := obd hf
  refine w_Mk_markAt_9 hx hb hml hts hown hK hRf hRl hRc hRs hP  (fun u8q eu ls hl => ?_) _ _ _ eu8 _ (show lv_has ls 4 [(3, .int 0), (2, .int (kClassOf p0.toNatClampNeg)), (0, .ref mq), (1, .int p0)] from lv_sub hl [0, 1, 2, 3] rfl)
  subst eu
  refine lv_iload_n hx hb d_Mk_markAt_41 rfl (lv_at hl 0 rfl) ?_
  exact Kr _ (Option.some.inj hf).symm _ _ d_Mk_markAt_42
set_option maxHeartbeats 4000000 in
set_option maxRecDepth 100000 in
theorem c_Mk_markAt (l : Launch)  {p0 : Int32}  {r : Int32} (hf : f_Mk_markAt n p0 kNext kClassOf = some r) : Met l y_Mk_markAt w0_Mk_markAt ({ frames := 0, cells := 0, slots := 0, locals := 0 }) (pPre D K [.ref mq, .int p0] ((mkW K mq m0 m1 m2 m3 m5 m6 m7 m8 m9 kHeads kTails kNext kSlots kReached kClassOf kFinerOf kMarkOf kFirstOf kMarkSlots kClasses))) (pPost (some (.int r))) 0 0 (fun _ => False) := by
  refine Met.ofW (cc := b_Mk_markAt) (maxL := 4) (ret := (some .int)) (by decide) rfl ?_
  intro p e s m args below meth c s₁ B hml hv
  obtain ⟨rfl, hP, hK⟩ := hv
  have hl := lv_entry [.ref mq, .int p0] (n := 4) (Nat.le_of_ble_eq_true rfl)
  rw [lg_entry_eq]
  generalize (lg_sl [.ref mq, .int p0] ++ List.replicate (4 - (lg_sl [.ref mq, .int p0]).length) Slot.unset).toArray = ls at hl ⊢
  refine w_Mk_markAt B.exec B.bytes hml (fun w hw => atoms_spec (ws := w0_Mk_markAt) B.pre w (List.mem_cons_of_mem _ hw)) (findClass_of_methodNamed B.named) hK (Nat.le_refl _) (Nat.le_refl _) (Nat.zero_le _) (Nat.zero_le _) hP (fun r er pc ls hd => ?_) hf ls hl
  subst er
  exact W.iret B.exec B.bytes B.returns (fun t ht hW => ⟨rfl, ht⟩) (fun q h => by cases h) hd (hlocks := B.notSynchronized)
end
section
variable {p : Program} {l : Launch} {e : Env} {R : Room} {s : State} {m : MethodId} {args : Array Value} {below : List Frame} {meth : Method} {c : Code} {H : Heap} {locs : List Loc} {cells slots : Nat} {Q : State → Prop} {A : Nat → Prop} {H0 : Heap}
variable {n : Nat} {D : va_G} {K : Nat → ClassId} {mq : Nat} {m0 : Nat} {m1 : Nat} {m2 : Nat} {m3 : Nat} {m5 : Nat} {m6 : Nat} {m7 : Nat} {m8 : Nat} {m9 : Nat} {kHeads : Nat → Int32} {kTails : Nat → Int64} {kNext : Nat → Int32} {kSlots : Nat → Int32} {kReached : Int32} {kClassOf : Nat → Int32} {kFinerOf : Nat → Int32} {kMarkOf : Nat → Int32} {kFirstOf : Nat → Int32} {kMarkSlots : Nat → Int32} {kClasses : Int32}
def f_Mk_addClassAt (n : Nat) (p0 : Int32) (p1 : Int32) (p2 : Int32) (kMarkOf : Nat → Int32) (kFirstOf : Nat → Int32) (kMarkSlots : Nat → Int32) (kClasses : Int32) : Option (Int32 × (Nat → Int32) × (Nat → Int32) × (Nat → Int32) × Int32) :=
  if kClasses < 64 then
    ogd (gin kClasses 64) <|
    ogd (gin kClasses 64) <|
    ogd (gin p0 256) <|
    some ((kClasses + 1) - 1, upd kMarkOf kClasses.toNatClampNeg p1, upd kFirstOf kClasses.toNatClampNeg p2, upd kMarkSlots p0.toNatClampNeg kClasses, kClasses + 1)
  else
    some ((-1), kMarkOf, kFirstOf, kMarkSlots, kClasses)
set_option maxHeartbeats 4000000 in
set_option maxRecDepth 100000 in
theorem w_Mk_addClassAt  {p0 : Int32} {p1 : Int32} {p2 : Int32}  (hx : p.tables.exec = Jvm.exec) (hb : c.code = b_Mk_addClassAt) (hml : c.maxLocals = 4) (hts : ∀ w ∈ gW, w.before args s = true) (hown : s.vm.findClass "RegularSolver$Maker" = some m.cls) (hK : va_K D vwCl (tG K) s) (hRf : 0 ≤ R.frames) (hRl : 0 ≤ R.locals) (hRc : cells ≤ R.cells) (hRs : slots ≤ R.slots) (hA : ∀ q, H0.size ≤ q → A q) {out : Int32 × (Nat → Int32) × (Nat → Int32) × (Nat → Int32) × Int32} (Kr : ∀ (r : Int32 × (Nat → Int32) × (Nat → Int32) × (Nat → Int32) × Int32), out = r → ∀ (m5 : Nat) (m6 : Nat), ∀ (pc : Nat) (ls : Array Slot) (H : Heap) (locs : List Loc), decode b_Mk_addClassAt pc = .ok (.ireturn, 1) → va_P D vwCl (mkW K mq m0 m1 m2 m3 m5 m6 m7 m8 m9 kHeads kTails kNext kSlots kReached kClassOf kFinerOf r.2.1 r.2.2.1 r.2.2.2.1 r.2.2.2.2) H → va_D A (mkW K mq m0 m1 m2 m3 m5 m6 m7 m8 m9 kHeads kTails kNext kSlots kReached kClassOf kFinerOf r.2.1 r.2.2.1 r.2.2.2.1 r.2.2.2.2) → va_S A H0 H locs → W p l e R s m args below meth c H locs cells slots Q (F0 m pc ls [.int r.1])) (hf : f_Mk_addClassAt n p0 p1 p2 kMarkOf kFirstOf kMarkSlots kClasses = some out) (ls : Array Slot) (hP : va_P D vwCl (mkW K mq m0 m1 m2 m3 m5 m6 m7 m8 m9 kHeads kTails kNext kSlots kReached kClassOf kFinerOf kMarkOf kFirstOf kMarkSlots kClasses) H) (hD : va_D A (mkW K mq m0 m1 m2 m3 m5 m6 m7 m8 m9 kHeads kTails kNext kSlots kReached kClassOf kFinerOf kMarkOf kFirstOf kMarkSlots kClasses)) (hS : va_S A H0 H locs) (hl : lv_has ls 4 [(0, .ref mq), (1, .int p0), (2, .int p1), (3, .int p2)]) : W p l e R s m args below meth c H locs cells slots Q (F0 m 0 ls []) := by
  unfold f_Mk_addClassAt at hf
  refine lv_aload_n hx hb d_Mk_addClassAt_0 rfl (lv_at hl 0 rfl) ?_
  refine va_get (D := D) (ci := 6) (v := .int kClasses) (C := R_Mk) (T := T_Mk) (N := 11) hx hb hts in_Mk hown hK hP 0 rfl rfl 10 (by decide) (hts _ fl_Mk_44) (fun _ h9 => h9) rfl d_Mk_addClassAt_1 ?_
  refine lv_bipush (v := 64) hx hb d_Mk_addClassAt_4 (by decide) ?_
  refine lv_icmp_lt (tgt := 11) hx hb d_Mk_addClassAt_6 (by decide) (fun c1 => ?_) (fun c1 => ?_)
  · rw [if_pos c1] at hf
    refine lv_aload_n hx hb d_Mk_addClassAt_11 rfl (lv_at hl 0 rfl) ?_
    refine va_get (D := D) (ci := 6) (v := .ref m7) (C := R_Mk) (T := T_Mk) (N := 11) hx hb hts in_Mk hown hK hP 0 rfl rfl 7 (by decide) (hts _ fl_Mk_35) (fun _ h9 => h9) rfl d_Mk_addClassAt_12 ?_
    refine lv_aload_n hx hb d_Mk_addClassAt_15 rfl (lv_at hl 0 rfl) ?_
    refine va_get (D := D) (ci := 6) (v := .int kClasses) (C := R_Mk) (T := T_Mk) (N := 11) hx hb hts in_Mk hown hK hP 0 rfl rfl 10 (by decide) (hts _ fl_Mk_44) (fun _ h9 => h9) rfl d_Mk_addClassAt_16 ?_
    refine lv_iload_n hx hb d_Mk_addClassAt_19 rfl (lv_at hl 2 rfl) ?_
    obtain ⟨g2, hf⟩ := ogi hf
    refine va_iast hx hb hK hP hD hS 7 0 rfl rfl (gin_in g2) d_Mk_addClassAt_20 (fun H locs hP hD hS => ?_)
    have hP : va_P D vwCl (mkW K mq m0 m1 m2 m3 m5 m6 m7 m8 m9 kHeads kTails kNext kSlots kReached kClassOf kFinerOf (upd kMarkOf kClasses.toNatClampNeg p1) kFirstOf kMarkSlots kClasses) H := hP
    have hD : va_D A (mkW K mq m0 m1 m2 m3 m5 m6 m7 m8 m9 kHeads kTails kNext kSlots kReached kClassOf kFinerOf (upd kMarkOf kClasses.toNatClampNeg p1) kFirstOf kMarkSlots kClasses) := hD
    refine lv_aload_n hx hb d_Mk_addClassAt_21 rfl (lv_at hl 0 rfl) ?_
    refine va_get (D := D) (ci := 6) (v := .ref m8) (C := R_Mk) (T := T_Mk) (N := 11) hx hb hts in_Mk hown hK hP 0 rfl rfl 8 (by decide) (hts _ fl_Mk_38) (fun _ h9 => h9) rfl d_Mk_addClassAt_22 ?_
    refine lv_aload_n hx hb d_Mk_addClassAt_25 rfl (lv_at hl 0 rfl) ?_
    refine va_get (D := D) (ci := 6) (v := .int kClasses) (C := R_Mk) (T := T_Mk) (N := 11) hx hb hts in_Mk hown hK hP 0 rfl rfl 10 (by decide) (hts _ fl_Mk_44) (fun _ h9 => h9) rfl d_Mk_addClassAt_26 ?_
    refine lv_iload_n hx hb d_Mk_addClassAt_29 rfl (lv_at hl 3 rfl) ?_
    obtain ⟨g3, hf⟩ := ogi hf
    refine va_iast hx hb hK hP hD hS 8 0 rfl rfl (gin_in g3) d_Mk_addClassAt_30 (fun H locs hP hD hS => ?_)
    have hP : va_P D vwCl (mkW K mq m0 m1 m2 m3 m5 m6 m7 m8 m9 kHeads kTails kNext kSlots kReached kClassOf kFinerOf (upd kMarkOf kClasses.toNatClampNeg p1) (upd kFirstOf kClasses.toNatClampNeg p2) kMarkSlots kClasses) H := hP
    have hD : va_D A (mkW K mq m0 m1 m2 m3 m5 m6 m7 m8 m9 kHeads kTails kNext kSlots kReached kClassOf kFinerOf (upd kMarkOf kClasses.toNatClampNeg p1) (upd kFirstOf kClasses.toNatClampNeg p2) kMarkSlots kClasses) := hD
    refine lv_aload_n hx hb d_Mk_addClassAt_31 rfl (lv_at hl 0 rfl) ?_
    refine va_get (D := D) (ci := 6) (v := .ref m9) (C := R_Mk) (T := T_Mk) (N := 11) hx hb hts in_Mk hown hK hP 0 rfl rfl 9 (by decide) (hts _ fl_Mk_41) (fun _ h9 => h9) rfl d_Mk_addClassAt_32 ?_
    refine lv_iload_n hx hb d_Mk_addClassAt_35 rfl (lv_at hl 1 rfl) ?_
    refine lv_aload_n hx hb d_Mk_addClassAt_36 rfl (lv_at hl 0 rfl) ?_
    refine va_get (D := D) (ci := 6) (v := .int kClasses) (C := R_Mk) (T := T_Mk) (N := 11) hx hb hts in_Mk hown hK hP 0 rfl rfl 10 (by decide) (hts _ fl_Mk_44) (fun _ h9 => h9) rfl d_Mk_addClassAt_37 ?_
    obtain ⟨g4, hf⟩ := ogi hf
    refine va_iast hx hb hK hP hD hS 9 0 rfl rfl (gin_in g4) d_Mk_addClassAt_40 (fun H locs hP hD hS => ?_)
    have hP : va_P D vwCl (mkW K mq m0 m1 m2 m3 m5 m6 m7 m8 m9 kHeads kTails kNext kSlots kReached kClassOf kFinerOf (upd kMarkOf kClasses.toNatClampNeg p1) (upd kFirstOf kClasses.toNatClampNeg p2) (upd kMarkSlots p0.toNatClampNeg kClasses) kClasses) H := hP
    have hD : va_D A (mkW K mq m0 m1 m2 m3 m5 m6 m7 m8 m9 kHeads kTails kNext kSlots kReached kClassOf kFinerOf (upd kMarkOf kClasses.toNatClampNeg p1) (upd kFirstOf kClasses.toNatClampNeg p2) (upd kMarkSlots p0.toNatClampNeg kClasses) kClasses) := hD
    refine lv_aload_n hx hb d_Mk_addClassAt_41 rfl (lv_at hl 0 rfl) ?_
    refine lv_dup hx hb d_Mk_addClassAt_42 rfl ?_
    refine va_get (D := D) (ci := 6) (v := .int kClasses) (C := R_Mk) (T := T_Mk) (N := 11) hx hb hts in_Mk hown hK hP 0 rfl rfl 10 (by decide) (hts _ fl_Mk_44) (fun _ h9 => h9) rfl d_Mk_addClassAt_43 ?_
    refine lv_iconst (v := 1) hx hb d_Mk_addClassAt_46 (by decide) ?_
    refine lv_iadd hx hb d_Mk_addClassAt_47 ?_
    refine va_put (D := D) (ci := 6) (v := .int (kClasses + 1)) (ty := .int) (C := R_Mk) (T := T_Mk) (N := 11) hx hb hts in_Mk t_Mk t_Mk_ok n_Mk hown hK hP hD hS 0 rfl rfl 10 (by decide) (hts _ fl_Mk_44) (fun _ h9 => h9) rfl (by decide +kernel) rfl rfl (Nat.le_of_ble_eq_true rfl) d_Mk_addClassAt_48 (fun H locs hP hD hS => ?_)
    have hP : va_P D vwCl (mkW K mq m0 m1 m2 m3 m5 m6 m7 m8 m9 kHeads kTails kNext kSlots kReached kClassOf kFinerOf (upd kMarkOf kClasses.toNatClampNeg p1) (upd kFirstOf kClasses.toNatClampNeg p2) (upd kMarkSlots p0.toNatClampNeg kClasses) (kClasses + 1)) H := hP
    have hD : va_D A (mkW K mq m0 m1 m2 m3 m5 m6 m7 m8 m9 kHeads kTails kNext kSlots kReached kClassOf kFinerOf (upd kMarkOf kClasses.toNatClampNeg p1) (upd kFirstOf kClasses.toNatClampNeg p2) (upd kMarkSlots p0.toNatClampNeg kClasses) (kClasses + 1)) := hD
    refine lv_aload_n hx hb d_Mk_addClassAt_51 rfl (lv_at hl 0 rfl) ?_
    refine va_get (D := D) (ci := 6) (v := .int (kClasses + 1)) (C := R_Mk) (T := T_Mk) (N := 11) hx hb hts in_Mk hown hK hP 0 rfl rfl 10 (by decide) (hts _ fl_Mk_44) (fun _ h9 => h9) rfl d_Mk_addClassAt_52 ?_
    refine lv_iconst (v := 1) hx hb d_Mk_addClassAt_55 (by decide) ?_
    refine lv_isub hx hb d_Mk_addClassAt_56 ?_
    exact Kr _ (Option.some.inj hf).symm _ _ _ _ _ _ d_Mk_addClassAt_57 hP hD hS
  · rw [if_neg c1] at hf
    refine lv_iconst (v := -1) hx hb d_Mk_addClassAt_9 (by decide) ?_
    exact Kr _ (Option.some.inj hf).symm _ _ _ _ _ _ d_Mk_addClassAt_10 hP hD hS
set_option maxHeartbeats 4000000 in
set_option maxRecDepth 100000 in
theorem c_Mk_addClassAt (l : Launch)  {p0 : Int32} {p1 : Int32} {p2 : Int32}  {r : Int32 × (Nat → Int32) × (Nat → Int32) × (Nat → Int32) × Int32} (sz : Nat) (hf : f_Mk_addClassAt n p0 p1 p2 kMarkOf kFirstOf kMarkSlots kClasses = some r) : Met l y_Mk_addClassAt w0_Mk_addClassAt ({ frames := 0, cells := 0, slots := 0, locals := 0 }) (wPre D K [.ref mq, .int p0, .int p1, .int p2] (mkW K mq m0 m1 m2 m3 m5 m6 m7 m8 m9 kHeads kTails kNext kSlots kReached kClassOf kFinerOf kMarkOf kFirstOf kMarkSlots kClasses) sz) (wPostG D K (fun _ : Nat × Nat => (some (.int r.1))) (fun g => (mkW K mq m0 m1 m2 m3 g.1 g.2 m7 m8 m9 kHeads kTails kNext kSlots kReached kClassOf kFinerOf r.2.1 r.2.2.1 r.2.2.2.1 r.2.2.2.2)) (va_A (mkW K mq m0 m1 m2 m3 m5 m6 m7 m8 m9 kHeads kTails kNext kSlots kReached kClassOf kFinerOf kMarkOf kFirstOf kMarkSlots kClasses) sz)) 0 0 (va_A (mkW K mq m0 m1 m2 m3 m5 m6 m7 m8 m9 kHeads kTails kNext kSlots kReached kClassOf kFinerOf kMarkOf kFirstOf kMarkSlots kClasses) sz) := by
  refine Met.ofW (cc := b_Mk_addClassAt) (maxL := 4) (ret := (some .int)) (by decide) rfl ?_
  intro p e s m args below meth c s₁ B hml hv
  obtain ⟨rfl, hsz, hP, hK, hD0⟩ := hv
  subst hsz
  have hl := lv_entry [.ref mq, .int p0, .int p1, .int p2] (n := 4) (Nat.le_of_ble_eq_true rfl)
  rw [lg_entry_eq]
  generalize (lg_sl [.ref mq, .int p0, .int p1, .int p2] ++ List.replicate (4 - (lg_sl [.ref mq, .int p0, .int p1, .int p2]).length) Slot.unset).toArray = ls at hl ⊢
  refine w_Mk_addClassAt (A := va_A (mkW K mq m0 m1 m2 m3 m5 m6 m7 m8 m9 kHeads kTails kNext kSlots kReached kClassOf kFinerOf kMarkOf kFirstOf kMarkSlots kClasses) s.heap.size) (H0 := s.heap) B.exec B.bytes hml (fun w hw => atoms_spec (ws := w0_Mk_addClassAt) B.pre w (List.mem_cons_of_mem _ hw)) (findClass_of_methodNamed B.named) hK (Nat.le_refl _) (Nat.le_refl _) (Nat.zero_le _) (Nat.zero_le _) (fun q h => Or.inr h) (fun r er m5 m6 pc ls H locs hd hP hD hS => ?_) hf ls hP (hD0.self (sz := s.heap.size)) va_S.rf hl
  subst er
  exact W.iret B.exec B.bytes B.returns (fun t ht hW => ⟨⟨(m5, m6), rfl, by rw [ht]; exact hP, va_K.moved hW.alike hK, hD⟩, hS.F ht⟩) hS.2.2 hd (hlocks := B.notSynchronized)
end
section
variable {p : Program} {l : Launch} {e : Env} {R : Room} {s : State} {m : MethodId} {args : Array Value} {below : List Frame} {meth : Method} {c : Code} {H : Heap} {locs : List Loc} {cells slots : Nat} {Q : State → Prop} {A : Nat → Prop} {H0 : Heap}
variable {n : Nat} {D : va_G} {K : Nat → ClassId} {mq : Nat} {m0 : Nat} {m1 : Nat} {m2 : Nat} {m3 : Nat} {m5 : Nat} {m6 : Nat} {m7 : Nat} {m8 : Nat} {m9 : Nat} {kHeads : Nat → Int32} {kTails : Nat → Int64} {kNext : Nat → Int32} {kSlots : Nat → Int32} {kReached : Int32} {kClassOf : Nat → Int32} {kFinerOf : Nat → Int32} {kMarkOf : Nat → Int32} {kFirstOf : Nat → Int32} {kMarkSlots : Nat → Int32} {kClasses : Int32}
def f_Mk_classOfMark_11 (n : Nat) (v1 : Int32) (v2 : Int32) : Nat → Int32 → Int32 → (Nat → Int32) → (Nat → Int32) → (Nat → Int32) → Int32 → Option ((Int32 × (Nat → Int32) × (Nat → Int32) × (Nat → Int32) × Int32) ⊕ (Int32 × Int32 × (Nat → Int32) × (Nat → Int32) × (Nat → Int32) × Int32))
  | 0, _, _, _, _, _, _ => none
  | k + 1, v4, v3, kMarkOf, kFirstOf, kMarkSlots, kClasses =>
    if 256 ≤ v4 then
      some (.inr (v4, v3, kMarkOf, kFirstOf, kMarkSlots, kClasses))
    else
      ogd (gin v3 256) <|
      if (kMarkSlots v3.toNatClampNeg) = (-1) then
        (f_Mk_addClassAt n v3 v1 v2 kMarkOf kFirstOf kMarkSlots kClasses).bind fun u13 =>
        some (.inl (u13.1, u13.2.1, u13.2.2.1, u13.2.2.2.1, u13.2.2.2.2))
      else
        ogd (gin (kMarkSlots v3.toNatClampNeg) 64) <|
        if (kMarkOf (kMarkSlots v3.toNatClampNeg).toNatClampNeg) = v1 then
          some (.inl (kMarkSlots v3.toNatClampNeg, kMarkOf, kFirstOf, kMarkSlots, kClasses))
        else
          f_Mk_classOfMark_11 n v1 v2 k (v4 + 1) ((v3 + 1) - (v3 + 1) / 256 * 256) kMarkOf kFirstOf kMarkSlots kClasses
set_option maxHeartbeats 4000000 in
set_option maxRecDepth 100000 in
theorem w_Mk_classOfMark_11  {v1 : Int32} {v2 : Int32} (hx : p.tables.exec = Jvm.exec) (hb : c.code = b_Mk_classOfMark) (hml : c.maxLocals = 6) (hts : ∀ w ∈ gW, w.before args s = true) (hown : s.vm.findClass "RegularSolver$Maker" = some m.cls) (hK : va_K D vwCl (tG K) s) (hRf : 1 ≤ R.frames) (hRl : 23 ≤ R.locals) (hRc : cells ≤ R.cells) (hRs : slots ≤ R.slots) (hA : ∀ q, H0.size ≤ q → A q)  {out : (Int32 × (Nat → Int32) × (Nat → Int32) × (Nat → Int32) × Int32) ⊕ (Int32 × Int32 × (Nat → Int32) × (Nat → Int32) × (Nat → Int32) × Int32)} (Kr : ∀ (r : Int32 × (Nat → Int32) × (Nat → Int32) × (Nat → Int32) × Int32), out = .inl r → ∀ (m5 : Nat) (m6 : Nat), ∀ (pc : Nat) (ls : Array Slot) (H : Heap) (locs : List Loc), decode b_Mk_classOfMark pc = .ok (.ireturn, 1) → va_P D vwCl (mkW K mq m0 m1 m2 m3 m5 m6 m7 m8 m9 kHeads kTails kNext kSlots kReached kClassOf kFinerOf r.2.1 r.2.2.1 r.2.2.2.1 r.2.2.2.2) H → va_D A (mkW K mq m0 m1 m2 m3 m5 m6 m7 m8 m9 kHeads kTails kNext kSlots kReached kClassOf kFinerOf r.2.1 r.2.2.1 r.2.2.2.1 r.2.2.2.2) → va_S A H0 H locs → W p l e R s m args below meth c H locs cells slots Q (F0 m pc ls [.int r.1])) (Kx : ∀ (u : Int32 × Int32 × (Nat → Int32) × (Nat → Int32) × (Nat → Int32) × Int32), out = .inr u → ∀ (m5 : Nat) (m6 : Nat), ∀ (ls : Array Slot) (H : Heap) (locs : List Loc), va_P D vwCl (mkW K mq m0 m1 m2 m3 m5 m6 m7 m8 m9 kHeads kTails kNext kSlots kReached kClassOf kFinerOf u.2.2.1 u.2.2.2.1 u.2.2.2.2.1 u.2.2.2.2.2) H → va_D A (mkW K mq m0 m1 m2 m3 m5 m6 m7 m8 m9 kHeads kTails kNext kSlots kReached kClassOf kFinerOf u.2.2.1 u.2.2.2.1 u.2.2.2.2.1 u.2.2.2.2.2) → va_S A H0 H locs → lv_has ls 6 [] → W p l e R s m args below meth c H locs cells slots Q (F0 m 69 ls [])) :
    ∀ (k : Nat) (v4 : Int32) (v3 : Int32) (kMarkOf : Nat → Int32) (kFirstOf : Nat → Int32) (kMarkSlots : Nat → Int32) (kClasses : Int32), f_Mk_classOfMark_11 n v1 v2 k v4 v3 kMarkOf kFirstOf kMarkSlots kClasses = some out → ∀ (m5 : Nat) (m6 : Nat), ∀ (ls : Array Slot) (H : Heap) (locs : List Loc), va_P D vwCl (mkW K mq m0 m1 m2 m3 m5 m6 m7 m8 m9 kHeads kTails kNext kSlots kReached kClassOf kFinerOf kMarkOf kFirstOf kMarkSlots kClasses) H → va_D A (mkW K mq m0 m1 m2 m3 m5 m6 m7 m8 m9 kHeads kTails kNext kSlots kReached kClassOf kFinerOf kMarkOf kFirstOf kMarkSlots kClasses) → va_S A H0 H locs → lv_has ls 6 [(4, .int v4), (3, .int v3), (0, .ref mq), (1, .int v1), (2, .int v2)] → W p l e R s m args below meth c H locs cells slots Q (F0 m 11 ls []) := by
  intro k
  induction k with
  | zero => intro _ _ _ _ _ _ hf; exact nomatch (show none = some out from hf)
  | succ k ih =>
    intro v4 v3 kMarkOf kFirstOf kMarkSlots kClasses hf m5 m6 ls H locs hP hD hS hl
    rw [f_Mk_classOfMark_11] at hf
    refine lv_iload hx hb d_Mk_classOfMark_11 (lv_at hl 0 rfl) ?_
    refine lv_sipush (v := 256) hx hb d_Mk_classOfMark_13 (by decide) ?_
    refine lv_icmp_ge (tgt := 69) hx hb d_Mk_classOfMark_16 (by decide) (fun c8 => ?_) (fun c8 => ?_)
    · rw [if_pos c8] at hf
      exact Kx _ (Option.some.inj hf).symm _ _ _ _ _ hP hD hS (show lv_has ls 6 [] from lv_sub hl [] rfl)
    · rw [if_neg c8] at hf
      refine lv_aload_n hx hb d_Mk_classOfMark_19 rfl (lv_at hl 2 rfl) ?_
      refine va_get (D := D) (ci := 6) (v := .ref m9) (C := R_Mk) (T := T_Mk) (N := 11) hx hb hts in_Mk hown hK hP 0 rfl rfl 9 (by decide) (hts _ fl_Mk_41) (fun _ h9 => h9) rfl d_Mk_classOfMark_20 ?_
      refine lv_iload_n hx hb d_Mk_classOfMark_23 rfl (lv_at hl 1 rfl) ?_
      obtain ⟨g9, hf⟩ := ogi hf
      refine va_iald hx hb hK hP 9 0 rfl rfl (gin_in g9) d_Mk_classOfMark_24 ?_
      refine lv_istore (lv' := [(5, .int (kMarkSlots v3.toNatClampNeg)), (4, .int v4), (3, .int v3), (0, .ref mq), (1, .int v1), (2, .int v2)]) hx hb d_Mk_classOfMark_25 hl (by decide) rfl (fun ls hl => ?_)
      refine lv_iload hx hb d_Mk_classOfMark_27 (lv_at hl 0 rfl) ?_
      refine lv_iconst (v := -1) hx hb d_Mk_classOfMark_29 (by decide) ?_
      refine lv_icmp_ne (tgt := 41) hx hb d_Mk_classOfMark_30 (by decide) (fun c10 => ?_) (fun c10 => ?_)
      · rw [if_neg c10] at hf
        refine lv_aload_n hx hb d_Mk_classOfMark_41 rfl (lv_at hl 3 rfl) ?_
        refine va_get (D := D) (ci := 6) (v := .ref m7) (C := R_Mk) (T := T_Mk) (N := 11) hx hb hts in_Mk hown hK hP 0 rfl rfl 7 (by decide) (hts _ fl_Mk_35) (fun _ h9 => h9) rfl d_Mk_classOfMark_42 ?_
        refine lv_iload hx hb d_Mk_classOfMark_45 (lv_at hl 0 rfl) ?_
        obtain ⟨g11, hf⟩ := ogi hf
        refine va_iald hx hb hK hP 7 0 rfl rfl (gin_in g11) d_Mk_classOfMark_47 ?_
        refine lv_iload_n hx hb d_Mk_classOfMark_48 rfl (lv_at hl 4 rfl) ?_
        refine lv_icmp_ne (tgt := 55) hx hb d_Mk_classOfMark_49 (by decide) (fun c12 => ?_) (fun c12 => ?_)
        · rw [if_neg c12] at hf
          refine lv_iload_n hx hb d_Mk_classOfMark_55 rfl (lv_at hl 2 rfl) ?_
          refine lv_iconst (v := 1) hx hb d_Mk_classOfMark_56 (by decide) ?_
          refine lv_iadd hx hb d_Mk_classOfMark_57 ?_
          refine lv_sipush (v := 256) hx hb d_Mk_classOfMark_58 (by decide) ?_
          refine lv_irem hx hb d_Mk_classOfMark_61 (by decide) ?_
          refine lv_istore_n (lv' := [(3, .int ((v3 + 1) - (v3 + 1) / 256 * 256)), (5, .int (kMarkSlots v3.toNatClampNeg)), (4, .int v4), (0, .ref mq), (1, .int v1), (2, .int v2)]) hx hb d_Mk_classOfMark_62 rfl hl (by decide) rfl (fun ls hl => ?_)
          refine lv_iinc (v := v4 + 1) (lv' := [(4, .int (v4 + 1)), (3, .int ((v3 + 1) - (v3 + 1) / 256 * 256)), (5, .int (kMarkSlots v3.toNatClampNeg)), (0, .ref mq), (1, .int v1), (2, .int v2)]) hx hb d_Mk_classOfMark_63 hl (k := 2) rfl (by first | rfl | (congr 1)) (by decide) rfl (fun ls hl => ?_)
          refine lv_goto (tgt := 11) hx hb d_Mk_classOfMark_66 (by decide) ?_
          exact ih _ _ _ _ _ _ hf _ _ _ _ _ hP hD hS (show lv_has ls 6 [(4, .int (v4 + 1)), (3, .int ((v3 + 1) - (v3 + 1) / 256 * 256)), (0, .ref mq), (1, .int v1), (2, .int v2)] from lv_sub hl [0, 1, 3, 4, 5] rfl)
        · rw [if_pos c12] at hf
          refine lv_iload hx hb d_Mk_classOfMark_52 (lv_at hl 0 rfl) ?_
          exact Kr _ (Option.some.inj hf).symm _ _ _ _ _ _ d_Mk_classOfMark_54 hP hD hS
      · rw [if_pos c10] at hf
        refine lv_aload_n hx hb d_Mk_classOfMark_33 rfl (lv_at hl 3 rfl) ?_
        refine lv_iload_n hx hb d_Mk_classOfMark_34 rfl (lv_at hl 2 rfl) ?_
        refine lv_iload_n hx hb d_Mk_classOfMark_35 rfl (lv_at hl 4 rfl) ?_
        refine lv_iload_n hx hb d_Mk_classOfMark_36 rfl (lv_at hl 5 rfl) ?_
        obtain ⟨u13, eu13, hf⟩ := obd hf
        refine w_callA (va_runV (As := [.int v3, .int v1, .int v2]) (rest := []) ⟨hx, hb, hml, hown, hts⟩ (c_Mk_addClassAt l H.size eu13) (gV 3 hts cd_Mk_addClassAt ml_Mk_111 im_Mk_addClassAt se_Mk_addClassAt ini_Mk rfl rfl pd_Mk_addClassAt ⟨Nat.le_trans (Nat.le_of_ble_eq_true rfl) hRf, Nat.le_trans (Nat.le_of_ble_eq_true rfl) hRl⟩) ⟨wPre_blind, va_recv hK hP (ci := 6) (q0 := 0) rfl rfl, wPre_of hP hK hD⟩ rfl rfl hl.1 rfl (lv_room (Nat.le_of_ble_eq_true rfl)) d_Mk_classOfMark_37 ⟨hRc, hRs⟩) hD hS hA (fun g14 H1 locs hP1 hD1 hk1 hS1 => ?_)
        obtain ⟨hP, hD⟩ : _ ∧ _ := ⟨hP1, hD1.weaken (fun _ q _ h => va_sub hD hS hA q.1 h)⟩
        have hS := hS1
        generalize H1 = H at hP hS ⊢
        have hP : va_P D vwCl (mkW K mq m0 m1 m2 m3 g14.1 g14.2 m7 m8 m9 kHeads kTails kNext kSlots kReached kClassOf kFinerOf u13.2.1 u13.2.2.1 u13.2.2.2.1 u13.2.2.2.2) H := hP
        have hD : va_D A (mkW K mq m0 m1 m2 m3 g14.1 g14.2 m7 m8 m9 kHeads kTails kNext kSlots kReached kClassOf kFinerOf u13.2.1 u13.2.2.1 u13.2.2.2.1 u13.2.2.2.2) := hD
        exact Kr _ (Option.some.inj hf).symm _ _ _ _ _ _ d_Mk_classOfMark_40 hP hD hS
def f_Mk_classOfMark (n : Nat) (p0 : Int32) (p1 : Int32) (kMarkOf : Nat → Int32) (kFirstOf : Nat → Int32) (kMarkSlots : Nat → Int32) (kClasses : Int32) : Option (Int32 × (Nat → Int32) × (Nat → Int32) × (Nat → Int32) × Int32) :=
  (f_Mk_classOfMark_11 n p0 p1 n 0 (iushr (p0 * (-1640531535)) 24) kMarkOf kFirstOf kMarkSlots kClasses).bind fun u15 => u15.elim (fun r => some r) fun x15 =>
  some ((-1), x15.2.2.1, x15.2.2.2.1, x15.2.2.2.2.1, x15.2.2.2.2.2)
set_option maxHeartbeats 4000000 in
set_option maxRecDepth 100000 in
theorem w_Mk_classOfMark  {p0 : Int32} {p1 : Int32}  (hx : p.tables.exec = Jvm.exec) (hb : c.code = b_Mk_classOfMark) (hml : c.maxLocals = 6) (hts : ∀ w ∈ gW, w.before args s = true) (hown : s.vm.findClass "RegularSolver$Maker" = some m.cls) (hK : va_K D vwCl (tG K) s) (hRf : 1 ≤ R.frames) (hRl : 23 ≤ R.locals) (hRc : cells ≤ R.cells) (hRs : slots ≤ R.slots) (hA : ∀ q, H0.size ≤ q → A q) {out : Int32 × (Nat → Int32) × (Nat → Int32) × (Nat → Int32) × Int32} (Kr : ∀ (r : Int32 × (Nat → Int32) × (Nat → Int32) × (Nat → Int32) × Int32), out = r → ∀ (m5 : Nat) (m6 : Nat), ∀ (pc : Nat) (ls : Array Slot) (H : Heap) (locs : List Loc), decode b_Mk_classOfMark pc = .ok (.ireturn, 1) → va_P D vwCl (mkW K mq m0 m1 m2 m3 m5 m6 m7 m8 m9 kHeads kTails kNext kSlots kReached kClassOf kFinerOf r.2.1 r.2.2.1 r.2.2.2.1 r.2.2.2.2) H → va_D A (mkW K mq m0 m1 m2 m3 m5 m6 m7 m8 m9 kHeads kTails kNext kSlots kReached kClassOf kFinerOf r.2.1 r.2.2.1 r.2.2.2.1 r.2.2.2.2) → va_S A H0 H locs → W p l e R s m args below meth c H locs cells slots Q (F0 m pc ls [.int r.1])) (hf : f_Mk_classOfMark n p0 p1 kMarkOf kFirstOf kMarkSlots kClasses = some out) (ls : Array Slot) (hP : va_P D vwCl (mkW K mq m0 m1 m2 m3 m5 m6 m7 m8 m9 kHeads kTails kNext kSlots kReached kClassOf kFinerOf kMarkOf kFirstOf kMarkSlots kClasses) H) (hD : va_D A (mkW K mq m0 m1 m2 m3 m5 m6 m7 m8 m9 kHeads kTails kNext kSlots kReached kClassOf kFinerOf kMarkOf kFirstOf kMarkSlots kClasses)) (hS : va_S A H0 H locs) (hl : lv_has ls 6 [(0, .ref mq), (1, .int p0), (2, .int p1)]) : W p l e R s m args below meth c H locs cells slots Q (F0 m 0 ls []) := by
  unfold f_Mk_classOfMark at hf
  refine lv_iload_n hx hb d_Mk_classOfMark_0 rfl (lv_at hl 1 rfl) ?_
  refine lv_ldc (v := (-1640531535)) hx hb hown (hts _ ki_Mk_110) d_Mk_classOfMark_1 ?_
  refine lv_imul hx hb d_Mk_classOfMark_3 ?_
  refine lv_bipush (v := 24) hx hb d_Mk_classOfMark_4 (by decide) ?_
  refine lv_iushr (v := iushr (p0 * (-1640531535)) 24) hx hb d_Mk_classOfMark_6 rfl ?_
  refine lv_istore_n (lv' := [(3, .int (iushr (p0 * (-1640531535)) 24)), (0, .ref mq), (1, .int p0), (2, .int p1)]) hx hb d_Mk_classOfMark_7 rfl hl (by decide) rfl (fun ls hl => ?_)
  refine lv_iconst (v := 0) hx hb d_Mk_classOfMark_8 (by decide) ?_
  refine lv_istore (lv' := [(4, .int 0), (3, .int (iushr (p0 * (-1640531535)) 24)), (0, .ref mq), (1, .int p0), (2, .int p1)]) hx hb d_Mk_classOfMark_9 hl (by decide) rfl (fun ls hl => ?_)
  obtain ⟨u15, eu15, hf⟩ := obd hf
  refine w_Mk_classOfMark_11 hx hb hml hts hown hK hRf hRl hRc hRs hA (fun r er m5 m6 pc ls H locs hd hP hD hS => Kr r (by subst er; exact (Option.some.inj hf).symm) m5 m6 pc ls H locs hd hP hD hS) (fun x15 eu m5 m6 ls H locs hP hD hS hl => ?_) _ _ _ _ _ _ _ eu15 _ _ _ _ _ hP hD hS (show lv_has ls 6 [(4, .int 0), (3, .int (iushr (p0 * (-1640531535)) 24)), (0, .ref mq), (1, .int p0), (2, .int p1)] from lv_sub hl [0, 1, 2, 3, 4] rfl)
  subst eu
  replace hf := oel hf
  refine lv_iconst (v := -1) hx hb d_Mk_classOfMark_69 (by decide) ?_
  exact Kr _ (Option.some.inj hf).symm _ _ _ _ _ _ d_Mk_classOfMark_70 hP hD hS
set_option maxHeartbeats 4000000 in
set_option maxRecDepth 100000 in
theorem c_Mk_classOfMark (l : Launch)  {p0 : Int32} {p1 : Int32}  {r : Int32 × (Nat → Int32) × (Nat → Int32) × (Nat → Int32) × Int32} (sz : Nat) (hf : f_Mk_classOfMark n p0 p1 kMarkOf kFirstOf kMarkSlots kClasses = some r) : Met l y_Mk_classOfMark w0_Mk_classOfMark ({ frames := 1, cells := 0, slots := 0, locals := 23 }) (wPre D K [.ref mq, .int p0, .int p1] (mkW K mq m0 m1 m2 m3 m5 m6 m7 m8 m9 kHeads kTails kNext kSlots kReached kClassOf kFinerOf kMarkOf kFirstOf kMarkSlots kClasses) sz) (wPostG D K (fun _ : Nat × Nat => (some (.int r.1))) (fun g => (mkW K mq m0 m1 m2 m3 g.1 g.2 m7 m8 m9 kHeads kTails kNext kSlots kReached kClassOf kFinerOf r.2.1 r.2.2.1 r.2.2.2.1 r.2.2.2.2)) (va_A (mkW K mq m0 m1 m2 m3 m5 m6 m7 m8 m9 kHeads kTails kNext kSlots kReached kClassOf kFinerOf kMarkOf kFirstOf kMarkSlots kClasses) sz)) 0 0 (va_A (mkW K mq m0 m1 m2 m3 m5 m6 m7 m8 m9 kHeads kTails kNext kSlots kReached kClassOf kFinerOf kMarkOf kFirstOf kMarkSlots kClasses) sz) := by
  refine Met.ofW (cc := b_Mk_classOfMark) (maxL := 6) (ret := (some .int)) (by decide) rfl ?_
  intro p e s m args below meth c s₁ B hml hv
  obtain ⟨rfl, hsz, hP, hK, hD0⟩ := hv
  subst hsz
  have hl := lv_entry [.ref mq, .int p0, .int p1] (n := 6) (Nat.le_of_ble_eq_true rfl)
  rw [lg_entry_eq]
  generalize (lg_sl [.ref mq, .int p0, .int p1] ++ List.replicate (6 - (lg_sl [.ref mq, .int p0, .int p1]).length) Slot.unset).toArray = ls at hl ⊢
  refine w_Mk_classOfMark (A := va_A (mkW K mq m0 m1 m2 m3 m5 m6 m7 m8 m9 kHeads kTails kNext kSlots kReached kClassOf kFinerOf kMarkOf kFirstOf kMarkSlots kClasses) s.heap.size) (H0 := s.heap) B.exec B.bytes hml (fun w hw => atoms_spec (ws := w0_Mk_classOfMark) B.pre w (List.mem_cons_of_mem _ hw)) (findClass_of_methodNamed B.named) hK (Nat.le_refl _) (Nat.le_refl _) (Nat.zero_le _) (Nat.zero_le _) (fun q h => Or.inr h) (fun r er m5 m6 pc ls H locs hd hP hD hS => ?_) hf ls hP (hD0.self (sz := s.heap.size)) va_S.rf hl
  subst er
  exact W.iret B.exec B.bytes B.returns (fun t ht hW => ⟨⟨(m5, m6), rfl, by rw [ht]; exact hP, va_K.moved hW.alike hK, hD⟩, hS.F ht⟩) hS.2.2 hd (hlocks := B.notSynchronized)
end
section
variable {p : Program} {l : Launch} {e : Env} {R : Room} {s : State} {m : MethodId} {args : Array Value} {below : List Frame} {meth : Method} {c : Code} {H : Heap} {locs : List Loc} {cells slots : Nat} {Q : State → Prop} {A : Nat → Prop} {H0 : Heap}
variable {n : Nat} {D : va_G} {K : Nat → ClassId} {mq : Nat} {m0 : Nat} {m1 : Nat} {m2 : Nat} {m3 : Nat} {m5 : Nat} {m6 : Nat} {m7 : Nat} {m8 : Nat} {m9 : Nat} {kHeads : Nat → Int32} {kTails : Nat → Int64} {kNext : Nat → Int32} {kSlots : Nat → Int32} {kReached : Int32} {kClassOf : Nat → Int32} {kFinerOf : Nat → Int32} {kMarkOf : Nat → Int32} {kFirstOf : Nat → Int32} {kMarkSlots : Nat → Int32} {kClasses : Int32}
def f_Mk_splitByMarks_15 (n : Nat) (kNext : Nat → Int32) (kReached : Int32) (kClassOf : Nat → Int32) : Nat → Int32 → (Nat → Int32) → (Nat → Int32) → (Nat → Int32) → (Nat → Int32) → Int32 → Option ((Bool × (Nat → Int32) × (Nat → Int32) × (Nat → Int32) × (Nat → Int32) × (Nat → Int32) × Int32) ⊕ (Int32 × (Nat → Int32) × (Nat → Int32) × (Nat → Int32) × (Nat → Int32) × Int32))
  | 0, _, _, _, _, _, _ => none
  | k + 1, v1, kFinerOf, kMarkOf, kFirstOf, kMarkSlots, kClasses =>
    if kReached ≤ v1 then
      some (.inr (v1, kFinerOf, kMarkOf, kFirstOf, kMarkSlots, kClasses))
    else
      (f_Mk_markAt n v1 kNext kClassOf).bind fun u10 =>
      (f_Mk_classOfMark n u10 v1 kMarkOf kFirstOf kMarkSlots kClasses).bind fun u11 =>
      if u11.1 = (-1) then
        some (.inl (false, kClassOf, kFinerOf, u11.2.1, u11.2.2.1, u11.2.2.2.1, u11.2.2.2.2))
      else
        ogd (gin v1 800) <|
        f_Mk_splitByMarks_15 n kNext kReached kClassOf k (v1 + 1) (upd kFinerOf v1.toNatClampNeg u11.1) u11.2.1 u11.2.2.1 u11.2.2.2.1 u11.2.2.2.2
set_option maxHeartbeats 4000000 in
set_option maxRecDepth 100000 in
theorem w_Mk_splitByMarks_15   (hx : p.tables.exec = Jvm.exec) (hb : c.code = b_Mk_splitByMarks) (hml : c.maxLocals = 3) (hts : ∀ w ∈ gW, w.before args s = true) (hown : s.vm.findClass "RegularSolver$Maker" = some m.cls) (hK : va_K D vwCl (tG K) s) (hRf : 2 ≤ R.frames) (hRl : 48 ≤ R.locals) (hRc : cells ≤ R.cells) (hRs : slots ≤ R.slots) (hA : ∀ q, H0.size ≤ q → A q)  {out : (Bool × (Nat → Int32) × (Nat → Int32) × (Nat → Int32) × (Nat → Int32) × (Nat → Int32) × Int32) ⊕ (Int32 × (Nat → Int32) × (Nat → Int32) × (Nat → Int32) × (Nat → Int32) × Int32)} (Kr : ∀ (r : Bool × (Nat → Int32) × (Nat → Int32) × (Nat → Int32) × (Nat → Int32) × (Nat → Int32) × Int32), out = .inl r → ∀ (m5 : Nat) (m6 : Nat), ∀ (pc : Nat) (ls : Array Slot) (H : Heap) (locs : List Loc), decode b_Mk_splitByMarks pc = .ok (.ireturn, 1) → va_P D vwCl (mkW K mq m0 m1 m2 m3 m5 m6 m7 m8 m9 kHeads kTails kNext kSlots kReached r.2.1 r.2.2.1 r.2.2.2.1 r.2.2.2.2.1 r.2.2.2.2.2.1 r.2.2.2.2.2.2) H → va_D A (mkW K mq m0 m1 m2 m3 m5 m6 m7 m8 m9 kHeads kTails kNext kSlots kReached r.2.1 r.2.2.1 r.2.2.2.1 r.2.2.2.2.1 r.2.2.2.2.2.1 r.2.2.2.2.2.2) → va_S A H0 H locs → W p l e R s m args below meth c H locs cells slots Q (F0 m pc ls [.int (bI r.1)])) (Kx : ∀ (u : Int32 × (Nat → Int32) × (Nat → Int32) × (Nat → Int32) × (Nat → Int32) × Int32), out = .inr u → ∀ (m5 : Nat) (m6 : Nat), ∀ (ls : Array Slot) (H : Heap) (locs : List Loc), va_P D vwCl (mkW K mq m0 m1 m2 m3 m5 m6 m7 m8 m9 kHeads kTails kNext kSlots kReached kClassOf u.2.1 u.2.2.1 u.2.2.2.1 u.2.2.2.2.1 u.2.2.2.2.2) H → va_D A (mkW K mq m0 m1 m2 m3 m5 m6 m7 m8 m9 kHeads kTails kNext kSlots kReached kClassOf u.2.1 u.2.2.1 u.2.2.2.1 u.2.2.2.2.1 u.2.2.2.2.2) → va_S A H0 H locs → lv_has ls 3 [(0, .ref mq)] → W p l e R s m args below meth c H locs cells slots Q (F0 m 54 ls [])) :
    ∀ (k : Nat) (v1 : Int32) (kFinerOf : Nat → Int32) (kMarkOf : Nat → Int32) (kFirstOf : Nat → Int32) (kMarkSlots : Nat → Int32) (kClasses : Int32), f_Mk_splitByMarks_15 n kNext kReached kClassOf k v1 kFinerOf kMarkOf kFirstOf kMarkSlots kClasses = some out → ∀ (m5 : Nat) (m6 : Nat), ∀ (ls : Array Slot) (H : Heap) (locs : List Loc), va_P D vwCl (mkW K mq m0 m1 m2 m3 m5 m6 m7 m8 m9 kHeads kTails kNext kSlots kReached kClassOf kFinerOf kMarkOf kFirstOf kMarkSlots kClasses) H → va_D A (mkW K mq m0 m1 m2 m3 m5 m6 m7 m8 m9 kHeads kTails kNext kSlots kReached kClassOf kFinerOf kMarkOf kFirstOf kMarkSlots kClasses) → va_S A H0 H locs → lv_has ls 3 [(1, .int v1), (0, .ref mq)] → W p l e R s m args below meth c H locs cells slots Q (F0 m 15 ls []) := by
  intro k
  induction k with
  | zero => intro _ _ _ _ _ _ hf; exact nomatch (show none = some out from hf)
  | succ k ih =>
    intro v1 kFinerOf kMarkOf kFirstOf kMarkSlots kClasses hf m5 m6 ls H locs hP hD hS hl
    rw [f_Mk_splitByMarks_15] at hf
    refine lv_iload_n hx hb d_Mk_splitByMarks_15 rfl (lv_at hl 0 rfl) ?_
    refine lv_aload_n hx hb d_Mk_splitByMarks_16 rfl (lv_at hl 1 rfl) ?_
    refine va_get (D := D) (ci := 6) (v := .int kReached) (C := R_Mk) (T := T_Mk) (N := 11) hx hb hts in_Mk hown hK hP 0 rfl rfl 4 (by decide) (hts _ fl_Mk_25) (fun _ h9 => h9) rfl d_Mk_splitByMarks_17 ?_
    refine lv_icmp_ge (tgt := 54) hx hb d_Mk_splitByMarks_20 (by decide) (fun c9 => ?_) (fun c9 => ?_)
    · rw [if_pos c9] at hf
      exact Kx _ (Option.some.inj hf).symm _ _ _ _ _ hP hD hS (show lv_has ls 3 [(0, .ref mq)] from lv_sub hl [1] rfl)
    · rw [if_neg c9] at hf
      refine lv_aload_n hx hb d_Mk_splitByMarks_23 rfl (lv_at hl 1 rfl) ?_
      refine lv_aload_n hx hb d_Mk_splitByMarks_24 rfl (lv_at hl 1 rfl) ?_
      refine lv_iload_n hx hb d_Mk_splitByMarks_25 rfl (lv_at hl 0 rfl) ?_
      obtain ⟨u10, eu10, hf⟩ := obd hf
      refine p_call (W.runV (As := [.int v1]) (rest := [.ref mq]) ⟨hx, hb, hml, hown, hts⟩ (c_Mk_markAt l eu10) (gV 1 hts cd_Mk_markAt ml_Mk_102 im_Mk_markAt se_Mk_markAt ini_Mk rfl rfl pd_Mk_markAt ⟨Nat.le_trans (Nat.le_of_ble_eq_true rfl) hRf, Nat.le_trans (Nat.le_of_ble_eq_true rfl) hRl⟩) ⟨pPre_blind, va_recv hK hP (ci := 6) (q0 := 0) rfl rfl, pPre_of hP hK⟩ rfl rfl hl.1 rfl (lv_room (Nat.le_of_ble_eq_true rfl)) d_Mk_splitByMarks_26 ⟨hRc, hRs⟩) ?_
      refine lv_iload_n hx hb d_Mk_splitByMarks_29 rfl (lv_at hl 0 rfl) ?_
      obtain ⟨u11, eu11, hf⟩ := obd hf
      refine w_callA (va_runV (As := [.int u10, .int v1]) (rest := []) ⟨hx, hb, hml, hown, hts⟩ (c_Mk_classOfMark l H.size eu11) (gV 2 hts cd_Mk_classOfMark ml_Mk_106 im_Mk_classOfMark se_Mk_classOfMark ini_Mk rfl rfl pd_Mk_classOfMark ⟨Nat.le_trans (Nat.le_of_ble_eq_true rfl) hRf, Nat.le_trans (Nat.le_of_ble_eq_true rfl) hRl⟩) ⟨wPre_blind, va_recv hK hP (ci := 6) (q0 := 0) rfl rfl, wPre_of hP hK hD⟩ rfl rfl hl.1 rfl (lv_room (Nat.le_of_ble_eq_true rfl)) d_Mk_splitByMarks_30 ⟨hRc, hRs⟩) hD hS hA (fun g12 H1 locs hP1 hD1 hk1 hS1 => ?_)
      obtain ⟨hP, hD⟩ : _ ∧ _ := ⟨hP1, hD1.weaken (fun _ q _ h => va_sub hD hS hA q.1 h)⟩
      have hS := hS1
      generalize H1 = H at hP hS ⊢
      have hP : va_P D vwCl (mkW K mq m0 m1 m2 m3 g12.1 g12.2 m7 m8 m9 kHeads kTails kNext kSlots kReached kClassOf kFinerOf u11.2.1 u11.2.2.1 u11.2.2.2.1 u11.2.2.2.2) H := hP
      have hD : va_D A (mkW K mq m0 m1 m2 m3 g12.1 g12.2 m7 m8 m9 kHeads kTails kNext kSlots kReached kClassOf kFinerOf u11.2.1 u11.2.2.1 u11.2.2.2.1 u11.2.2.2.2) := hD
      refine lv_istore_n (lv' := [(2, .int u11.1), (1, .int v1), (0, .ref mq)]) hx hb d_Mk_splitByMarks_33 rfl hl (by decide) rfl (fun ls hl => ?_)
      refine lv_iload_n hx hb d_Mk_splitByMarks_34 rfl (lv_at hl 0 rfl) ?_
      refine lv_iconst (v := -1) hx hb d_Mk_splitByMarks_35 (by decide) ?_
      refine lv_icmp_ne (tgt := 41) hx hb d_Mk_splitByMarks_36 (by decide) (fun c13 => ?_) (fun c13 => ?_)
      · rw [if_neg c13] at hf
        refine lv_aload_n hx hb d_Mk_splitByMarks_41 rfl (lv_at hl 2 rfl) ?_
        refine va_get (D := D) (ci := 6) (v := .ref g12.2) (C := R_Mk) (T := T_Mk) (N := 11) hx hb hts in_Mk hown hK hP 0 rfl rfl 6 (by decide) (hts _ fl_Mk_32) (fun _ h9 => h9) rfl d_Mk_splitByMarks_42 ?_
        refine lv_iload_n hx hb d_Mk_splitByMarks_45 rfl (lv_at hl 1 rfl) ?_
        refine lv_iload_n hx hb d_Mk_splitByMarks_46 rfl (lv_at hl 0 rfl) ?_
        obtain ⟨g14, hf⟩ := ogi hf
        refine va_iast hx hb hK hP hD hS 6 0 rfl rfl (gin_in g14) d_Mk_splitByMarks_47 (fun H locs hP hD hS => ?_)
        have hP : va_P D vwCl (mkW K mq m0 m1 m2 m3 g12.1 g12.2 m7 m8 m9 kHeads kTails kNext kSlots kReached kClassOf (upd kFinerOf v1.toNatClampNeg u11.1) u11.2.1 u11.2.2.1 u11.2.2.2.1 u11.2.2.2.2) H := hP
        have hD : va_D A (mkW K mq m0 m1 m2 m3 g12.1 g12.2 m7 m8 m9 kHeads kTails kNext kSlots kReached kClassOf (upd kFinerOf v1.toNatClampNeg u11.1) u11.2.1 u11.2.2.1 u11.2.2.2.1 u11.2.2.2.2) := hD
        refine lv_iinc (v := v1 + 1) (lv' := [(1, .int (v1 + 1)), (2, .int u11.1), (0, .ref mq)]) hx hb d_Mk_splitByMarks_48 hl (k := 1) rfl (by first | rfl | (congr 1)) (by decide) rfl (fun ls hl => ?_)
        refine lv_goto (tgt := 15) hx hb d_Mk_splitByMarks_51 (by decide) ?_
        exact ih _ _ _ _ _ _ hf _ _ _ _ _ hP hD hS (show lv_has ls 3 [(1, .int (v1 + 1)), (0, .ref mq)] from lv_sub hl [0, 2] rfl)
      · rw [if_pos c13] at hf
        refine lv_iconst (v := 0) hx hb d_Mk_splitByMarks_39 (by decide) ?_
        exact Kr _ (Option.some.inj hf).symm _ _ _ _ _ _ d_Mk_splitByMarks_40 hP hD hS
def f_Mk_splitByMarks (n : Nat) (kNext : Nat → Int32) (kReached : Int32) (kClassOf : Nat → Int32) (kFinerOf : Nat → Int32) (kMarkOf : Nat → Int32) (kFirstOf : Nat → Int32) (kMarkSlots : Nat → Int32) : Option (Bool × (Nat → Int32) × (Nat → Int32) × (Nat → Int32) × (Nat → Int32) × (Nat → Int32) × Int32) :=
  (f_Ar_fillI n (-1) 256 kMarkSlots).bind fun u1 =>
  (f_Mk_splitByMarks_15 n kNext kReached kClassOf n 0 kFinerOf kMarkOf kFirstOf u1 0).bind fun u15 => u15.elim (fun r => some r) fun x15 =>
  some (true, x15.2.1, kClassOf, x15.2.2.1, x15.2.2.2.1, x15.2.2.2.2.1, x15.2.2.2.2.2)
set_option maxHeartbeats 4000000 in
set_option maxRecDepth 100000 in
theorem w_Mk_splitByMarks    (hx : p.tables.exec = Jvm.exec) (hb : c.code = b_Mk_splitByMarks) (hml : c.maxLocals = 3) (hts : ∀ w ∈ gW, w.before args s = true) (hown : s.vm.findClass "RegularSolver$Maker" = some m.cls) (hK : va_K D vwCl (tG K) s) (hRf : 2 ≤ R.frames) (hRl : 48 ≤ R.locals) (hRc : cells ≤ R.cells) (hRs : slots ≤ R.slots) (hA : ∀ q, H0.size ≤ q → A q) {out : Bool × (Nat → Int32) × (Nat → Int32) × (Nat → Int32) × (Nat → Int32) × (Nat → Int32) × Int32} (Kr : ∀ (r : Bool × (Nat → Int32) × (Nat → Int32) × (Nat → Int32) × (Nat → Int32) × (Nat → Int32) × Int32), out = r → ∀ (m5 : Nat) (m6 : Nat), ∀ (pc : Nat) (ls : Array Slot) (H : Heap) (locs : List Loc), decode b_Mk_splitByMarks pc = .ok (.ireturn, 1) → va_P D vwCl (mkW K mq m0 m1 m2 m3 m5 m6 m7 m8 m9 kHeads kTails kNext kSlots kReached r.2.1 r.2.2.1 r.2.2.2.1 r.2.2.2.2.1 r.2.2.2.2.2.1 r.2.2.2.2.2.2) H → va_D A (mkW K mq m0 m1 m2 m3 m5 m6 m7 m8 m9 kHeads kTails kNext kSlots kReached r.2.1 r.2.2.1 r.2.2.2.1 r.2.2.2.2.1 r.2.2.2.2.2.1 r.2.2.2.2.2.2) → va_S A H0 H locs → W p l e R s m args below meth c H locs cells slots Q (F0 m pc ls [.int (bI r.1)])) (hf : f_Mk_splitByMarks n kNext kReached kClassOf kFinerOf kMarkOf kFirstOf kMarkSlots = some out) (ls : Array Slot) (hP : va_P D vwCl (mkW K mq m0 m1 m2 m3 m5 m6 m7 m8 m9 kHeads kTails kNext kSlots kReached kClassOf kFinerOf kMarkOf kFirstOf kMarkSlots kClasses) H) (hD : va_D A (mkW K mq m0 m1 m2 m3 m5 m6 m7 m8 m9 kHeads kTails kNext kSlots kReached kClassOf kFinerOf kMarkOf kFirstOf kMarkSlots kClasses)) (hS : va_S A H0 H locs) (hl : lv_has ls 3 [(0, .ref mq)]) : W p l e R s m args below meth c H locs cells slots Q (F0 m 0 ls []) := by
  unfold f_Mk_splitByMarks at hf
  refine lv_aload_n hx hb d_Mk_splitByMarks_0 rfl (lv_at hl 0 rfl) ?_
  refine va_get (D := D) (ci := 6) (v := .ref m9) (C := R_Mk) (T := T_Mk) (N := 11) hx hb hts in_Mk hown hK hP 0 rfl rfl 9 (by decide) (hts _ fl_Mk_41) (fun _ h9 => h9) rfl d_Mk_splitByMarks_1 ?_
  refine lv_iconst (v := -1) hx hb d_Mk_splitByMarks_4 (by decide) ?_
  obtain ⟨u1, eu1, hf⟩ := obd hf
  refine w_callA (va_runS (As := [.ref m9, .int (-1)]) (rest := []) ⟨hx, hb, hml, hown, hts⟩ (Met_G (c_Ar_fillI l H.size eu1)) (gS 2 hts cd_Ar_fillI ml_Mk_63 st_Ar_fillI ini_Ar rfl rfl pd_Ar_fillI ⟨Nat.le_trans (Nat.le_of_ble_eq_true rfl) hRf, Nat.le_trans (Nat.le_of_ble_eq_true rfl) hRl⟩) ⟨wPre_blind, wPre_of (vaC hP 9 rfl) hK (vdC hD 9 rfl)⟩ rfl rfl hl.1 rfl (lv_room (Nat.le_of_ble_eq_true rfl)) d_Mk_splitByMarks_5 ⟨hRc, hRs⟩) (vdC hD 9 rfl) hS hA (fun g2 H1 locs hP1 hD1 hk1 hS1 => ?_)
  obtain ⟨hP, hD⟩ := va_keepC 9 rfl hP hD hk1 hP1
  have hS := hS1
  generalize H1 = H at hP hS ⊢
  have hP : va_P D vwCl (mkW K mq m0 m1 m2 m3 m5 m6 m7 m8 m9 kHeads kTails kNext kSlots kReached kClassOf kFinerOf kMarkOf kFirstOf u1 kClasses) H := hP
  have hD : va_D A (mkW K mq m0 m1 m2 m3 m5 m6 m7 m8 m9 kHeads kTails kNext kSlots kReached kClassOf kFinerOf kMarkOf kFirstOf u1 kClasses) := hD
  refine lv_aload_n hx hb d_Mk_splitByMarks_8 rfl (lv_at hl 0 rfl) ?_
  refine lv_iconst (v := 0) hx hb d_Mk_splitByMarks_9 (by decide) ?_
  refine va_put (D := D) (ci := 6) (v := .int 0) (ty := .int) (C := R_Mk) (T := T_Mk) (N := 11) hx hb hts in_Mk t_Mk t_Mk_ok n_Mk hown hK hP hD hS 0 rfl rfl 10 (by decide) (hts _ fl_Mk_44) (fun _ h9 => h9) rfl (by decide +kernel) rfl rfl (Nat.le_of_ble_eq_true rfl) d_Mk_splitByMarks_10 (fun H locs hP hD hS => ?_)
  have hP : va_P D vwCl (mkW K mq m0 m1 m2 m3 m5 m6 m7 m8 m9 kHeads kTails kNext kSlots kReached kClassOf kFinerOf kMarkOf kFirstOf u1 0) H := hP
  have hD : va_D A (mkW K mq m0 m1 m2 m3 m5 m6 m7 m8 m9 kHeads kTails kNext kSlots kReached kClassOf kFinerOf kMarkOf kFirstOf u1 0) := hD
  refine lv_iconst (v := 0) hx hb d_Mk_splitByMarks_13 (by decide) ?_
  refine lv_istore_n (lv' := [(1, .int 0), (0, .ref mq)]) hx hb d_Mk_splitByMarks_14 rfl hl (by decide) rfl (fun ls hl => ?_)
  obtain ⟨u15, eu15, hf⟩ := obd hf
  refine w_Mk_splitByMarks_15 hx hb hml hts hown hK hRf hRl hRc hRs hA (fun r er m5 m6 pc ls H locs hd hP hD hS => Kr r (by subst er; exact (Option.some.inj hf).symm) m5 m6 pc ls H locs hd hP hD hS) (fun x15 eu m5 m6 ls H locs hP hD hS hl => ?_) _ _ _ _ _ _ _ eu15 _ _ _ _ _ hP hD hS (show lv_has ls 3 [(1, .int 0), (0, .ref mq)] from lv_sub hl [0, 1] rfl)
  subst eu
  replace hf := oel hf
  refine lv_aload_n hx hb d_Mk_splitByMarks_54 rfl (lv_at hl 0 rfl) ?_
  refine va_get (D := D) (ci := 6) (v := .ref m5) (C := R_Mk) (T := T_Mk) (N := 11) hx hb hts in_Mk hown hK hP 0 rfl rfl 5 (by decide) (hts _ fl_Mk_29) (fun _ h9 => h9) rfl d_Mk_splitByMarks_55 ?_
  refine lv_astore_n (lv' := [(1, .ref m5), (0, .ref mq)]) hx hb d_Mk_splitByMarks_58 rfl hl (by decide) rfl (fun ls hl => ?_)
  refine lv_aload_n hx hb d_Mk_splitByMarks_59 rfl (lv_at hl 1 rfl) ?_
  refine lv_aload_n hx hb d_Mk_splitByMarks_60 rfl (lv_at hl 1 rfl) ?_
  refine va_get (D := D) (ci := 6) (v := .ref m6) (C := R_Mk) (T := T_Mk) (N := 11) hx hb hts in_Mk hown hK hP 0 rfl rfl 6 (by decide) (hts _ fl_Mk_32) (fun _ h9 => h9) rfl d_Mk_splitByMarks_61 ?_
  refine va_put (D := D) (ci := 6) (v := .ref m6) (ty := (.array .int)) (C := R_Mk) (T := T_Mk) (N := 11) hx hb hts in_Mk t_Mk t_Mk_ok n_Mk hown hK hP hD hS 0 rfl rfl 5 (by decide) (hts _ fl_Mk_29) (fun _ h9 => h9) rfl (by decide +kernel) rfl rfl (Nat.le_of_ble_eq_true rfl) d_Mk_splitByMarks_64 (fun H locs hP hD hS => ?_)
  refine lv_aload_n hx hb d_Mk_splitByMarks_67 rfl (lv_at hl 1 rfl) ?_
  refine lv_aload_n hx hb d_Mk_splitByMarks_68 rfl (lv_at hl 0 rfl) ?_
  refine va_put (D := D) (ci := 6) (v := .ref m5) (ty := (.array .int)) (C := R_Mk) (T := T_Mk) (N := 11) hx hb hts in_Mk t_Mk t_Mk_ok n_Mk hown hK hP hD hS 0 rfl rfl 6 (by decide) (hts _ fl_Mk_32) (fun _ h9 => h9) rfl (by decide +kernel) rfl rfl (Nat.le_of_ble_eq_true rfl) d_Mk_splitByMarks_69 (fun H locs hP hD hS => ?_)
  have hP : va_P D vwCl (mkW K mq m0 m1 m2 m3 m6 m5 m7 m8 m9 kHeads kTails kNext kSlots kReached x15.2.1 kClassOf x15.2.2.1 x15.2.2.2.1 x15.2.2.2.2.1 x15.2.2.2.2.2) H := hP.sub [0, 1, 2, 3, 4, 6, 5, 7, 8, 9] rfl
  have hD : va_D A (mkW K mq m0 m1 m2 m3 m6 m5 m7 m8 m9 kHeads kTails kNext kSlots kReached x15.2.1 kClassOf x15.2.2.1 x15.2.2.2.1 x15.2.2.2.2.1 x15.2.2.2.2.2) := hD.sub [0, 1, 2, 3, 4, 6, 5, 7, 8, 9] (by decide) rfl
  refine lv_iconst (v := 1) hx hb d_Mk_splitByMarks_72 (by decide) ?_
  exact Kr _ (Option.some.inj hf).symm _ _ _ _ _ _ d_Mk_splitByMarks_73 hP hD hS
set_option maxHeartbeats 4000000 in
set_option maxRecDepth 100000 in
theorem c_Mk_splitByMarks (l : Launch)    {r : Bool × (Nat → Int32) × (Nat → Int32) × (Nat → Int32) × (Nat → Int32) × (Nat → Int32) × Int32} (sz : Nat) (hf : f_Mk_splitByMarks n kNext kReached kClassOf kFinerOf kMarkOf kFirstOf kMarkSlots = some r) : Met l y_Mk_splitByMarks w0_Mk_splitByMarks ({ frames := 2, cells := 0, slots := 0, locals := 48 }) (wPre D K [.ref mq] (mkW K mq m0 m1 m2 m3 m5 m6 m7 m8 m9 kHeads kTails kNext kSlots kReached kClassOf kFinerOf kMarkOf kFirstOf kMarkSlots kClasses) sz) (wPostG D K (fun _ : Nat × Nat => (some (.int (bI r.1)))) (fun g => (mkW K mq m0 m1 m2 m3 g.1 g.2 m7 m8 m9 kHeads kTails kNext kSlots kReached r.2.1 r.2.2.1 r.2.2.2.1 r.2.2.2.2.1 r.2.2.2.2.2.1 r.2.2.2.2.2.2)) (va_A (mkW K mq m0 m1 m2 m3 m5 m6 m7 m8 m9 kHeads kTails kNext kSlots kReached kClassOf kFinerOf kMarkOf kFirstOf kMarkSlots kClasses) sz)) 0 0 (va_A (mkW K mq m0 m1 m2 m3 m5 m6 m7 m8 m9 kHeads kTails kNext kSlots kReached kClassOf kFinerOf kMarkOf kFirstOf kMarkSlots kClasses) sz) := by
  refine Met.ofW (cc := b_Mk_splitByMarks) (maxL := 3) (ret := (some .boolean)) (by decide) rfl ?_
  intro p e s m args below meth c s₁ B hml hv
  obtain ⟨rfl, hsz, hP, hK, hD0⟩ := hv
  subst hsz
  have hl := lv_entry [.ref mq] (n := 3) (Nat.le_of_ble_eq_true rfl)
  rw [lg_entry_eq]
  generalize (lg_sl [.ref mq] ++ List.replicate (3 - (lg_sl [.ref mq]).length) Slot.unset).toArray = ls at hl ⊢
  refine w_Mk_splitByMarks (A := va_A (mkW K mq m0 m1 m2 m3 m5 m6 m7 m8 m9 kHeads kTails kNext kSlots kReached kClassOf kFinerOf kMarkOf kFirstOf kMarkSlots kClasses) s.heap.size) (H0 := s.heap) B.exec B.bytes hml (fun w hw => atoms_spec (ws := w0_Mk_splitByMarks) B.pre w (List.mem_cons_of_mem _ hw)) (findClass_of_methodNamed B.named) hK (Nat.le_refl _) (Nat.le_refl _) (Nat.zero_le _) (Nat.zero_le _) (fun q h => Or.inr h) (fun r er m5 m6 pc ls H locs hd hP hD hS => ?_) hf ls hP (hD0.self (sz := s.heap.size)) va_S.rf hl
  subst er
  exact W.zret B.exec B.bytes B.returns (bI_nar _) (fun t ht hW => ⟨⟨(m5, m6), rfl, by rw [ht]; exact hP, va_K.moved hW.alike hK, hD⟩, hS.F ht⟩) hS.2.2 hd (hlocks := B.notSynchronized)
end
section
variable {p : Program} {l : Launch} {e : Env} {R : Room} {s : State} {m : MethodId} {args : Array Value} {below : List Frame} {meth : Method} {c : Code} {H : Heap} {locs : List Loc} {cells slots : Nat} {Q : State → Prop} {A : Nat → Prop} {H0 : Heap}
variable {n : Nat} {D : va_G} {K : Nat → ClassId} {mq : Nat} {m0 : Nat} {m1 : Nat} {m2 : Nat} {m3 : Nat} {m5 : Nat} {m6 : Nat} {m7 : Nat} {m8 : Nat} {m9 : Nat} {kHeads : Nat → Int32} {kTails : Nat → Int64} {kNext : Nat → Int32} {kSlots : Nat → Int32} {kReached : Int32} {kClassOf : Nat → Int32} {kFinerOf : Nat → Int32} {kMarkOf : Nat → Int32} {kFirstOf : Nat → Int32} {kMarkSlots : Nat → Int32} {kClasses : Int32}
def f_Mk_splitToTheEnd_2 (n : Nat) (kNext : Nat → Int32) (kReached : Int32) : Nat → Int32 → (Nat → Int32) → (Nat → Int32) → (Nat → Int32) → (Nat → Int32) → (Nat → Int32) → Int32 → Option ((Bool × (Nat → Int32) × (Nat → Int32) × (Nat → Int32) × (Nat → Int32) × (Nat → Int32) × Int32) ⊕ (Int32 × (Nat → Int32) × (Nat → Int32) × (Nat → Int32) × (Nat → Int32) × (Nat → Int32) × Int32))
  | 0, _, _, _, _, _, _, _ => none
  | k + 1, v1, kClassOf, kFinerOf, kMarkOf, kFirstOf, kMarkSlots, kClasses =>
    if 64 ≤ v1 then
      some (.inr (v1, kClassOf, kFinerOf, kMarkOf, kFirstOf, kMarkSlots, kClasses))
    else
      (f_Mk_splitByMarks n kNext kReached kClassOf kFinerOf kMarkOf kFirstOf kMarkSlots).bind fun u7 =>
      if u7.1 = true then
        if u7.2.2.2.2.2.2 = kClasses then
          some (.inl (true, u7.2.1, u7.2.2.1, u7.2.2.2.1, u7.2.2.2.2.1, u7.2.2.2.2.2.1, u7.2.2.2.2.2.2))
        else
          f_Mk_splitToTheEnd_2 n kNext kReached k (v1 + 1) u7.2.1 u7.2.2.1 u7.2.2.2.1 u7.2.2.2.2.1 u7.2.2.2.2.2.1 u7.2.2.2.2.2.2
      else
        some (.inl (false, u7.2.1, u7.2.2.1, u7.2.2.2.1, u7.2.2.2.2.1, u7.2.2.2.2.2.1, u7.2.2.2.2.2.2))
set_option maxHeartbeats 4000000 in
set_option maxRecDepth 100000 in
theorem w_Mk_splitToTheEnd_2   (hx : p.tables.exec = Jvm.exec) (hb : c.code = b_Mk_splitToTheEnd) (hml : c.maxLocals = 3) (hts : ∀ w ∈ gW, w.before args s = true) (hown : s.vm.findClass "RegularSolver$Maker" = some m.cls) (hK : va_K D vwCl (tG K) s) (hRf : 3 ≤ R.frames) (hRl : 70 ≤ R.locals) (hRc : cells ≤ R.cells) (hRs : slots ≤ R.slots) (hA : ∀ q, H0.size ≤ q → A q)  {out : (Bool × (Nat → Int32) × (Nat → Int32) × (Nat → Int32) × (Nat → Int32) × (Nat → Int32) × Int32) ⊕ (Int32 × (Nat → Int32) × (Nat → Int32) × (Nat → Int32) × (Nat → Int32) × (Nat → Int32) × Int32)} (Kr : ∀ (r : Bool × (Nat → Int32) × (Nat → Int32) × (Nat → Int32) × (Nat → Int32) × (Nat → Int32) × Int32), out = .inl r → ∀ (m5 : Nat) (m6 : Nat), ∀ (pc : Nat) (ls : Array Slot) (H : Heap) (locs : List Loc), decode b_Mk_splitToTheEnd pc = .ok (.ireturn, 1) → va_P D vwCl (mkW K mq m0 m1 m2 m3 m5 m6 m7 m8 m9 kHeads kTails kNext kSlots kReached r.2.1 r.2.2.1 r.2.2.2.1 r.2.2.2.2.1 r.2.2.2.2.2.1 r.2.2.2.2.2.2) H → va_D A (mkW K mq m0 m1 m2 m3 m5 m6 m7 m8 m9 kHeads kTails kNext kSlots kReached r.2.1 r.2.2.1 r.2.2.2.1 r.2.2.2.2.1 r.2.2.2.2.2.1 r.2.2.2.2.2.2) → va_S A H0 H locs → W p l e R s m args below meth c H locs cells slots Q (F0 m pc ls [.int (bI r.1)])) (Kx : ∀ (u : Int32 × (Nat → Int32) × (Nat → Int32) × (Nat → Int32) × (Nat → Int32) × (Nat → Int32) × Int32), out = .inr u → ∀ (m5 : Nat) (m6 : Nat), ∀ (ls : Array Slot) (H : Heap) (locs : List Loc), va_P D vwCl (mkW K mq m0 m1 m2 m3 m5 m6 m7 m8 m9 kHeads kTails kNext kSlots kReached u.2.1 u.2.2.1 u.2.2.2.1 u.2.2.2.2.1 u.2.2.2.2.2.1 u.2.2.2.2.2.2) H → va_D A (mkW K mq m0 m1 m2 m3 m5 m6 m7 m8 m9 kHeads kTails kNext kSlots kReached u.2.1 u.2.2.1 u.2.2.2.1 u.2.2.2.2.1 u.2.2.2.2.2.1 u.2.2.2.2.2.2) → va_S A H0 H locs → lv_has ls 3 [] → W p l e R s m args below meth c H locs cells slots Q (F0 m 38 ls [])) :
    ∀ (k : Nat) (v1 : Int32) (kClassOf : Nat → Int32) (kFinerOf : Nat → Int32) (kMarkOf : Nat → Int32) (kFirstOf : Nat → Int32) (kMarkSlots : Nat → Int32) (kClasses : Int32), f_Mk_splitToTheEnd_2 n kNext kReached k v1 kClassOf kFinerOf kMarkOf kFirstOf kMarkSlots kClasses = some out → ∀ (m5 : Nat) (m6 : Nat), ∀ (ls : Array Slot) (H : Heap) (locs : List Loc), va_P D vwCl (mkW K mq m0 m1 m2 m3 m5 m6 m7 m8 m9 kHeads kTails kNext kSlots kReached kClassOf kFinerOf kMarkOf kFirstOf kMarkSlots kClasses) H → va_D A (mkW K mq m0 m1 m2 m3 m5 m6 m7 m8 m9 kHeads kTails kNext kSlots kReached kClassOf kFinerOf kMarkOf kFirstOf kMarkSlots kClasses) → va_S A H0 H locs → lv_has ls 3 [(1, .int v1), (0, .ref mq)] → W p l e R s m args below meth c H locs cells slots Q (F0 m 2 ls []) := by
  intro k
  induction k with
  | zero => intro _ _ _ _ _ _ _ hf; exact nomatch (show none = some out from hf)
  | succ k ih =>
    intro v1 kClassOf kFinerOf kMarkOf kFirstOf kMarkSlots kClasses hf m5 m6 ls H locs hP hD hS hl
    rw [f_Mk_splitToTheEnd_2] at hf
    refine lv_iload_n hx hb d_Mk_splitToTheEnd_2 rfl (lv_at hl 0 rfl) ?_
    refine lv_bipush (v := 64) hx hb d_Mk_splitToTheEnd_3 (by decide) ?_
    refine lv_icmp_ge (tgt := 38) hx hb d_Mk_splitToTheEnd_5 (by decide) (fun c6 => ?_) (fun c6 => ?_)
    · rw [if_pos c6] at hf
      exact Kx _ (Option.some.inj hf).symm _ _ _ _ _ hP hD hS (show lv_has ls 3 [] from lv_sub hl [] rfl)
    · rw [if_neg c6] at hf
      refine lv_aload_n hx hb d_Mk_splitToTheEnd_8 rfl (lv_at hl 1 rfl) ?_
      refine va_get (D := D) (ci := 6) (v := .int kClasses) (C := R_Mk) (T := T_Mk) (N := 11) hx hb hts in_Mk hown hK hP 0 rfl rfl 10 (by decide) (hts _ fl_Mk_44) (fun _ h9 => h9) rfl d_Mk_splitToTheEnd_9 ?_
      refine lv_istore_n (lv' := [(2, .int kClasses), (1, .int v1), (0, .ref mq)]) hx hb d_Mk_splitToTheEnd_12 rfl hl (by decide) rfl (fun ls hl => ?_)
      refine lv_aload_n hx hb d_Mk_splitToTheEnd_13 rfl (lv_at hl 2 rfl) ?_
      obtain ⟨u7, eu7, hf⟩ := obd hf
      refine w_callA (va_runV (As := []) (rest := []) ⟨hx, hb, hml, hown, hts⟩ (c_Mk_splitByMarks l H.size eu7) (gV 0 hts cd_Mk_splitByMarks ml_Mk_99 im_Mk_splitByMarks se_Mk_splitByMarks ini_Mk rfl rfl pd_Mk_splitByMarks ⟨Nat.le_trans (Nat.le_of_ble_eq_true rfl) hRf, Nat.le_trans (Nat.le_of_ble_eq_true rfl) hRl⟩) ⟨wPre_blind, va_recv hK hP (ci := 6) (q0 := 0) rfl rfl, wPre_of hP hK hD⟩ rfl rfl hl.1 rfl (lv_room (Nat.le_of_ble_eq_true rfl)) d_Mk_splitToTheEnd_14 ⟨hRc, hRs⟩) hD hS hA (fun g8 H1 locs hP1 hD1 hk1 hS1 => ?_)
      obtain ⟨hP, hD⟩ : _ ∧ _ := ⟨hP1, hD1.weaken (fun _ q _ h => va_sub hD hS hA q.1 h)⟩
      have hS := hS1
      generalize H1 = H at hP hS ⊢
      have hP : va_P D vwCl (mkW K mq m0 m1 m2 m3 g8.1 g8.2 m7 m8 m9 kHeads kTails kNext kSlots kReached u7.2.1 u7.2.2.1 u7.2.2.2.1 u7.2.2.2.2.1 u7.2.2.2.2.2.1 u7.2.2.2.2.2.2) H := hP
      have hD : va_D A (mkW K mq m0 m1 m2 m3 g8.1 g8.2 m7 m8 m9 kHeads kTails kNext kSlots kReached u7.2.1 u7.2.2.1 u7.2.2.2.1 u7.2.2.2.2.1 u7.2.2.2.2.2.1 u7.2.2.2.2.2.2) := hD
      refine bz_ne (tgt := 22) hx hb d_Mk_splitToTheEnd_17 (by decide) (fun c9 => ?_) (fun c9 => ?_)
      · rw [if_pos c9] at hf
        refine lv_aload_n hx hb d_Mk_splitToTheEnd_22 rfl (lv_at hl 2 rfl) ?_
        refine va_get (D := D) (ci := 6) (v := .int u7.2.2.2.2.2.2) (C := R_Mk) (T := T_Mk) (N := 11) hx hb hts in_Mk hown hK hP 0 rfl rfl 10 (by decide) (hts _ fl_Mk_44) (fun _ h9 => h9) rfl d_Mk_splitToTheEnd_23 ?_
        refine lv_iload_n hx hb d_Mk_splitToTheEnd_26 rfl (lv_at hl 0 rfl) ?_
        refine lv_icmp_ne (tgt := 32) hx hb d_Mk_splitToTheEnd_27 (by decide) (fun c10 => ?_) (fun c10 => ?_)
        · rw [if_neg c10] at hf
          refine lv_iinc (v := v1 + 1) (lv' := [(1, .int (v1 + 1)), (2, .int kClasses), (0, .ref mq)]) hx hb d_Mk_splitToTheEnd_32 hl (k := 1) rfl (by first | rfl | (congr 1)) (by decide) rfl (fun ls hl => ?_)
          refine lv_goto (tgt := 2) hx hb d_Mk_splitToTheEnd_35 (by decide) ?_
          exact ih _ _ _ _ _ _ _ hf _ _ _ _ _ hP hD hS (show lv_has ls 3 [(1, .int (v1 + 1)), (0, .ref mq)] from lv_sub hl [0, 2] rfl)
        · rw [if_pos c10] at hf
          refine lv_iconst (v := 1) hx hb d_Mk_splitToTheEnd_30 (by decide) ?_
          exact Kr _ (Option.some.inj hf).symm _ _ _ _ _ _ d_Mk_splitToTheEnd_31 hP hD hS
      · rw [if_neg c9] at hf
        refine lv_iconst (v := 0) hx hb d_Mk_splitToTheEnd_20 (by decide) ?_
        exact Kr _ (Option.some.inj hf).symm _ _ _ _ _ _ d_Mk_splitToTheEnd_21 hP hD hS
def f_Mk_splitToTheEnd (n : Nat) (kNext : Nat → Int32) (kReached : Int32) (kClassOf : Nat → Int32) (kFinerOf : Nat → Int32) (kMarkOf : Nat → Int32) (kFirstOf : Nat → Int32) (kMarkSlots : Nat → Int32) (kClasses : Int32) : Option (Bool × (Nat → Int32) × (Nat → Int32) × (Nat → Int32) × (Nat → Int32) × (Nat → Int32) × Int32) :=
  (f_Mk_splitToTheEnd_2 n kNext kReached n 0 kClassOf kFinerOf kMarkOf kFirstOf kMarkSlots kClasses).bind fun u11 => u11.elim (fun r => some r) fun x11 =>
  some (true, x11.2.1, x11.2.2.1, x11.2.2.2.1, x11.2.2.2.2.1, x11.2.2.2.2.2.1, x11.2.2.2.2.2.2)
set_option maxHeartbeats 4000000 in
set_option maxRecDepth 100000 in
theorem w_Mk_splitToTheEnd    (hx : p.tables.exec = Jvm.exec) (hb : c.code = b_Mk_splitToTheEnd) (hml : c.maxLocals = 3) (hts : ∀ w ∈ gW, w.before args s = true) (hown : s.vm.findClass "RegularSolver$Maker" = some m.cls) (hK : va_K D vwCl (tG K) s) (hRf : 3 ≤ R.frames) (hRl : 70 ≤ R.locals) (hRc : cells ≤ R.cells) (hRs : slots ≤ R.slots) (hA : ∀ q, H0.size ≤ q → A q) {out : Bool × (Nat → Int32) × (Nat → Int32) × (Nat → Int32) × (Nat → Int32) × (Nat → Int32) × Int32} (Kr : ∀ (r : Bool × (Nat → Int32) × (Nat → Int32) × (Nat → Int32) × (Nat → Int32) × (Nat → Int32) × Int32), out = r → ∀ (m5 : Nat) (m6 : Nat), ∀ (pc : Nat) (ls : Array Slot) (H : Heap) (locs : List Loc), decode b_Mk_splitToTheEnd pc = .ok (.ireturn, 1) → va_P D vwCl (mkW K mq m0 m1 m2 m3 m5 m6 m7 m8 m9 kHeads kTails kNext kSlots kReached r.2.1 r.2.2.1 r.2.2.2.1 r.2.2.2.2.1 r.2.2.2.2.2.1 r.2.2.2.2.2.2) H → va_D A (mkW K mq m0 m1 m2 m3 m5 m6 m7 m8 m9 kHeads kTails kNext kSlots kReached r.2.1 r.2.2.1 r.2.2.2.1 r.2.2.2.2.1 r.2.2.2.2.2.1 r.2.2.2.2.2.2) → va_S A H0 H locs → W p l e R s m args below meth c H locs cells slots Q (F0 m pc ls [.int (bI r.1)])) (hf : f_Mk_splitToTheEnd n kNext kReached kClassOf kFinerOf kMarkOf kFirstOf kMarkSlots kClasses = some out) (ls : Array Slot) (hP : va_P D vwCl (mkW K mq m0 m1 m2 m3 m5 m6 m7 m8 m9 kHeads kTails kNext kSlots kReached kClassOf kFinerOf kMarkOf kFirstOf kMarkSlots kClasses) H) (hD : va_D A (mkW K mq m0 m1 m2 m3 m5 m6 m7 m8 m9 kHeads kTails kNext kSlots kReached kClassOf kFinerOf kMarkOf kFirstOf kMarkSlots kClasses)) (hS : va_S A H0 H locs) (hl : lv_has ls 3 [(0, .ref mq)]) : W p l e R s m args below meth c H locs cells slots Q (F0 m 0 ls []) := by
  unfold f_Mk_splitToTheEnd at hf
  refine lv_iconst (v := 0) hx hb d_Mk_splitToTheEnd_0 (by decide) ?_
  refine lv_istore_n (lv' := [(1, .int 0), (0, .ref mq)]) hx hb d_Mk_splitToTheEnd_1 rfl hl (by decide) rfl (fun ls hl => ?_)
  obtain ⟨u11, eu11, hf⟩ := obd hf
  refine w_Mk_splitToTheEnd_2 hx hb hml hts hown hK hRf hRl hRc hRs hA (fun r er m5 m6 pc ls H locs hd hP hD hS => Kr r (by subst er; exact (Option.some.inj hf).symm) m5 m6 pc ls H locs hd hP hD hS) (fun x11 eu m5 m6 ls H locs hP hD hS hl => ?_) _ _ _ _ _ _ _ _ eu11 _ _ _ _ _ hP hD hS (show lv_has ls 3 [(1, .int 0), (0, .ref mq)] from lv_sub hl [0, 1] rfl)
  subst eu
  replace hf := oel hf
  refine lv_iconst (v := 1) hx hb d_Mk_splitToTheEnd_38 (by decide) ?_
  exact Kr _ (Option.some.inj hf).symm _ _ _ _ _ _ d_Mk_splitToTheEnd_39 hP hD hS
set_option maxHeartbeats 4000000 in
set_option maxRecDepth 100000 in
theorem c_Mk_splitToTheEnd (l : Launch)    {r : Bool × (Nat → Int32) × (Nat → Int32) × (Nat → Int32) × (Nat → Int32) × (Nat → Int32) × Int32} (sz : Nat) (hf : f_Mk_splitToTheEnd n kNext kReached kClassOf kFinerOf kMarkOf kFirstOf kMarkSlots kClasses = some r) : Met l y_Mk_splitToTheEnd w0_Mk_splitToTheEnd ({ frames := 3, cells := 0, slots := 0, locals := 70 }) (wPre D K [.ref mq] (mkW K mq m0 m1 m2 m3 m5 m6 m7 m8 m9 kHeads kTails kNext kSlots kReached kClassOf kFinerOf kMarkOf kFirstOf kMarkSlots kClasses) sz) (wPostG D K (fun _ : Nat × Nat => (some (.int (bI r.1)))) (fun g => (mkW K mq m0 m1 m2 m3 g.1 g.2 m7 m8 m9 kHeads kTails kNext kSlots kReached r.2.1 r.2.2.1 r.2.2.2.1 r.2.2.2.2.1 r.2.2.2.2.2.1 r.2.2.2.2.2.2)) (va_A (mkW K mq m0 m1 m2 m3 m5 m6 m7 m8 m9 kHeads kTails kNext kSlots kReached kClassOf kFinerOf kMarkOf kFirstOf kMarkSlots kClasses) sz)) 0 0 (va_A (mkW K mq m0 m1 m2 m3 m5 m6 m7 m8 m9 kHeads kTails kNext kSlots kReached kClassOf kFinerOf kMarkOf kFirstOf kMarkSlots kClasses) sz) := by
  refine Met.ofW (cc := b_Mk_splitToTheEnd) (maxL := 3) (ret := (some .boolean)) (by decide) rfl ?_
  intro p e s m args below meth c s₁ B hml hv
  obtain ⟨rfl, hsz, hP, hK, hD0⟩ := hv
  subst hsz
  have hl := lv_entry [.ref mq] (n := 3) (Nat.le_of_ble_eq_true rfl)
  rw [lg_entry_eq]
  generalize (lg_sl [.ref mq] ++ List.replicate (3 - (lg_sl [.ref mq]).length) Slot.unset).toArray = ls at hl ⊢
  refine w_Mk_splitToTheEnd (A := va_A (mkW K mq m0 m1 m2 m3 m5 m6 m7 m8 m9 kHeads kTails kNext kSlots kReached kClassOf kFinerOf kMarkOf kFirstOf kMarkSlots kClasses) s.heap.size) (H0 := s.heap) B.exec B.bytes hml (fun w hw => atoms_spec (ws := w0_Mk_splitToTheEnd) B.pre w (List.mem_cons_of_mem _ hw)) (findClass_of_methodNamed B.named) hK (Nat.le_refl _) (Nat.le_refl _) (Nat.zero_le _) (Nat.zero_le _) (fun q h => Or.inr h) (fun r er m5 m6 pc ls H locs hd hP hD hS => ?_) hf ls hP (hD0.self (sz := s.heap.size)) va_S.rf hl
  subst er
  exact W.zret B.exec B.bytes B.returns (bI_nar _) (fun t ht hW => ⟨⟨(m5, m6), rfl, by rw [ht]; exact hP, va_K.moved hW.alike hK, hD⟩, hS.F ht⟩) hS.2.2 hd (hlocks := B.notSynchronized)
end
