abbrev b_Se_place : ByteArray := prog_10_method_13_code
def y_Se_place : MethodName := ⟨"RegularSolver$Search", "place", "(I)Z"⟩
abbrev w0_Se_place : List Cond := Cond.code y_Se_place b_Se_place 5 (some .boolean) :: gW
theorem cd_Se_place : Cond.code y_Se_place b_Se_place 5 (some .boolean) ∈ gW := gm 769 (by decide +kernel) (by decide +kernel)
theorem d_Se_place_0 : decode b_Se_place 0 = .ok (.iload_n 1, 1) := by decide +kernel
theorem d_Se_place_1 : decode b_Se_place 1 = .ok (.iconst 4, 1) := by decide +kernel
theorem d_Se_place_2 : decode b_Se_place 2 = .ok (.if_icmp .lt 5, 3) := by decide +kernel
theorem d_Se_place_5 : decode b_Se_place 5 = .ok (.iconst 1, 1) := by decide +kernel
theorem d_Se_place_6 : decode b_Se_place 6 = .ok (.ireturn, 1) := by decide +kernel
theorem d_Se_place_7 : decode b_Se_place 7 = .ok (.aload_n 0, 1) := by decide +kernel
theorem d_Se_place_8 : decode b_Se_place 8 = .ok (.iload_n 1, 1) := by decide +kernel
theorem d_Se_place_9 : decode b_Se_place 9 = .ok (.invokevirtual 97, 3) := by decide +kernel
theorem d_Se_place_12 : decode b_Se_place 12 = .ok (.lstore_n 2, 1) := by decide +kernel
theorem d_Se_place_13 : decode b_Se_place 13 = .ok (.iconst 0, 1) := by decide +kernel
theorem d_Se_place_14 : decode b_Se_place 14 = .ok (.istore 4, 2) := by decide +kernel
theorem d_Se_place_16 : decode b_Se_place 16 = .ok (.iload 4, 2) := by decide +kernel
theorem d_Se_place_18 : decode b_Se_place 18 = .ok (.bipush 31, 2) := by decide +kernel
theorem d_Se_place_20 : decode b_Se_place 20 = .ok (.if_icmp .gt 49, 3) := by decide +kernel
theorem d_Se_place_23 : decode b_Se_place 23 = .ok (.lload_n 2, 1) := by decide +kernel
theorem d_Se_place_24 : decode b_Se_place 24 = .ok (.iload 4, 2) := by decide +kernel
theorem d_Se_place_26 : decode b_Se_place 26 = .ok (.lushr, 1) := by decide +kernel
theorem d_Se_place_27 : decode b_Se_place 27 = .ok (.lconst 0, 1) := by decide +kernel
theorem d_Se_place_28 : decode b_Se_place 28 = .ok (.lcmp, 1) := by decide +kernel
theorem d_Se_place_29 : decode b_Se_place 29 = .ok (.ifCond .eq 40, 3) := by decide +kernel
theorem d_Se_place_32 : decode b_Se_place 32 = .ok (.lload_n 2, 1) := by decide +kernel
theorem d_Se_place_33 : decode b_Se_place 33 = .ok (.iload 4, 2) := by decide +kernel
theorem d_Se_place_35 : decode b_Se_place 35 = .ok (.lushr, 1) := by decide +kernel
theorem d_Se_place_36 : decode b_Se_place 36 = .ok (.lconst 1, 1) := by decide +kernel
theorem d_Se_place_37 : decode b_Se_place 37 = .ok (.land, 1) := by decide +kernel
theorem d_Se_place_38 : decode b_Se_place 38 = .ok (.lconst 0, 1) := by decide +kernel
theorem d_Se_place_39 : decode b_Se_place 39 = .ok (.lcmp, 1) := by decide +kernel
theorem d_Se_place_40 : decode b_Se_place 40 = .ok (.ifCond .eq 23, 3) := by decide +kernel
theorem d_Se_place_43 : decode b_Se_place 43 = .ok (.aload_n 0, 1) := by decide +kernel
theorem d_Se_place_44 : decode b_Se_place 44 = .ok (.getfield 43, 3) := by decide +kernel
theorem d_Se_place_47 : decode b_Se_place 47 = .ok (.iload_n 1, 1) := by decide +kernel
theorem d_Se_place_48 : decode b_Se_place 48 = .ok (.iload 4, 2) := by decide +kernel
theorem d_Se_place_50 : decode b_Se_place 50 = .ok (.iastore, 1) := by decide +kernel
theorem d_Se_place_51 : decode b_Se_place 51 = .ok (.aload_n 0, 1) := by decide +kernel
theorem d_Se_place_52 : decode b_Se_place 52 = .ok (.iload_n 1, 1) := by decide +kernel
theorem d_Se_place_53 : decode b_Se_place 53 = .ok (.iconst 1, 1) := by decide +kernel
theorem d_Se_place_54 : decode b_Se_place 54 = .ok (.iadd, 1) := by decide +kernel
theorem d_Se_place_55 : decode b_Se_place 55 = .ok (.invokevirtual 78, 3) := by decide +kernel
theorem d_Se_place_58 : decode b_Se_place 58 = .ok (.ifCond .eq 5, 3) := by decide +kernel
theorem d_Se_place_61 : decode b_Se_place 61 = .ok (.iconst 1, 1) := by decide +kernel
theorem d_Se_place_62 : decode b_Se_place 62 = .ok (.ireturn, 1) := by decide +kernel
theorem d_Se_place_63 : decode b_Se_place 63 = .ok (.iinc 4 1, 3) := by decide +kernel
theorem d_Se_place_66 : decode b_Se_place 66 = .ok (.goto (-50), 3) := by decide +kernel
theorem d_Se_place_69 : decode b_Se_place 69 = .ok (.iconst 0, 1) := by decide +kernel
theorem d_Se_place_70 : decode b_Se_place 70 = .ok (.ireturn, 1) := by decide +kernel
abbrev b_Se_findLengths : ByteArray := prog_10_method_9_code
def y_Se_findLengths : MethodName := ⟨"RegularSolver$Search", "findLengths", "()Z"⟩
abbrev w0_Se_findLengths : List Cond := Cond.code y_Se_findLengths b_Se_findLengths 2 (some .boolean) :: gW
theorem cd_Se_findLengths : Cond.code y_Se_findLengths b_Se_findLengths 2 (some .boolean) ∈ gW := gm 747 (by decide +kernel) (by decide +kernel)
theorem d_Se_findLengths_0 : decode b_Se_findLengths 0 = .ok (.iconst 0, 1) := by decide +kernel
theorem d_Se_findLengths_1 : decode b_Se_findLengths 1 = .ok (.istore_n 1, 1) := by decide +kernel
theorem d_Se_findLengths_2 : decode b_Se_findLengths 2 = .ok (.iload_n 1, 1) := by decide +kernel
theorem d_Se_findLengths_3 : decode b_Se_findLengths 3 = .ok (.aload_n 0, 1) := by decide +kernel
theorem d_Se_findLengths_4 : decode b_Se_findLengths 4 = .ok (.getfield 29, 3) := by decide +kernel
theorem d_Se_findLengths_7 : decode b_Se_findLengths 7 = .ok (.if_icmp .ge 14, 3) := by decide +kernel
theorem d_Se_findLengths_10 : decode b_Se_findLengths 10 = .ok (.aload_n 0, 1) := by decide +kernel
theorem d_Se_findLengths_11 : decode b_Se_findLengths 11 = .ok (.iload_n 1, 1) := by decide +kernel
theorem d_Se_findLengths_12 : decode b_Se_findLengths 12 = .ok (.invokevirtual 74, 3) := by decide +kernel
theorem d_Se_findLengths_15 : decode b_Se_findLengths 15 = .ok (.iinc 1 1, 3) := by decide +kernel
theorem d_Se_findLengths_18 : decode b_Se_findLengths 18 = .ok (.goto (-16), 3) := by decide +kernel
theorem d_Se_findLengths_21 : decode b_Se_findLengths 21 = .ok (.aload_n 0, 1) := by decide +kernel
theorem d_Se_findLengths_22 : decode b_Se_findLengths 22 = .ok (.iconst 0, 1) := by decide +kernel
theorem d_Se_findLengths_23 : decode b_Se_findLengths 23 = .ok (.invokevirtual 78, 3) := by decide +kernel
theorem d_Se_findLengths_26 : decode b_Se_findLengths 26 = .ok (.ireturn, 1) := by decide +kernel
abbrev b_Se_allowLengths : ByteArray := prog_10_method_7_code
def y_Se_allowLengths : MethodName := ⟨"RegularSolver$Search", "allowLengths", "(I)Z"⟩
abbrev w0_Se_allowLengths : List Cond := Cond.code y_Se_allowLengths b_Se_allowLengths 7 (some .boolean) :: gW
theorem cd_Se_allowLengths : Cond.code y_Se_allowLengths b_Se_allowLengths 7 (some .boolean) ∈ gW := gm 735 (by decide +kernel) (by decide +kernel)
theorem d_Se_allowLengths_0 : decode b_Se_allowLengths 0 = .ok (.iconst 1, 1) := by decide +kernel
theorem d_Se_allowLengths_1 : decode b_Se_allowLengths 1 = .ok (.istore_n 2, 1) := by decide +kernel
theorem d_Se_allowLengths_2 : decode b_Se_allowLengths 2 = .ok (.iconst 0, 1) := by decide +kernel
theorem d_Se_allowLengths_3 : decode b_Se_allowLengths 3 = .ok (.istore_n 3, 1) := by decide +kernel
theorem d_Se_allowLengths_4 : decode b_Se_allowLengths 4 = .ok (.iload_n 3, 1) := by decide +kernel
theorem d_Se_allowLengths_5 : decode b_Se_allowLengths 5 = .ok (.iconst 4, 1) := by decide +kernel
theorem d_Se_allowLengths_6 : decode b_Se_allowLengths 6 = .ok (.if_icmp .ge 76, 3) := by decide +kernel
theorem d_Se_allowLengths_9 : decode b_Se_allowLengths 9 = .ok (.aload_n 0, 1) := by decide +kernel
theorem d_Se_allowLengths_10 : decode b_Se_allowLengths 10 = .ok (.getfield 11, 3) := by decide +kernel
theorem d_Se_allowLengths_13 : decode b_Se_allowLengths 13 = .ok (.iload_n 3, 1) := by decide +kernel
theorem d_Se_allowLengths_14 : decode b_Se_allowLengths 14 = .ok (.aaload, 1) := by decide +kernel
theorem d_Se_allowLengths_15 : decode b_Se_allowLengths 15 = .ok (.astore 4, 2) := by decide +kernel
theorem d_Se_allowLengths_17 : decode b_Se_allowLengths 17 = .ok (.aload 4, 2) := by decide +kernel
theorem d_Se_allowLengths_19 : decode b_Se_allowLengths 19 = .ok (.ifnonnull 7, 3) := by decide +kernel
theorem d_Se_allowLengths_22 : decode b_Se_allowLengths 22 = .ok (.lconst 1, 1) := by decide +kernel
theorem d_Se_allowLengths_23 : decode b_Se_allowLengths 23 = .ok (.goto 9, 3) := by decide +kernel
theorem d_Se_allowLengths_26 : decode b_Se_allowLengths 26 = .ok (.aload 4, 2) := by decide +kernel
theorem d_Se_allowLengths_28 : decode b_Se_allowLengths 28 = .ok (.iload_n 1, 1) := by decide +kernel
theorem d_Se_allowLengths_29 : decode b_Se_allowLengths 29 = .ok (.invokevirtual 67, 3) := by decide +kernel
theorem d_Se_allowLengths_32 : decode b_Se_allowLengths 32 = .ok (.lstore 5, 2) := by decide +kernel
theorem d_Se_allowLengths_34 : decode b_Se_allowLengths 34 = .ok (.aload_n 0, 1) := by decide +kernel
theorem d_Se_allowLengths_35 : decode b_Se_allowLengths 35 = .ok (.getfield 33, 3) := by decide +kernel
theorem d_Se_allowLengths_38 : decode b_Se_allowLengths 38 = .ok (.iload_n 3, 1) := by decide +kernel
theorem d_Se_allowLengths_39 : decode b_Se_allowLengths 39 = .ok (.aload_n 0, 1) := by decide +kernel
theorem d_Se_allowLengths_40 : decode b_Se_allowLengths 40 = .ok (.iload_n 3, 1) := by decide +kernel
theorem d_Se_allowLengths_41 : decode b_Se_allowLengths 41 = .ok (.invokevirtual 71, 3) := by decide +kernel
theorem d_Se_allowLengths_44 : decode b_Se_allowLengths 44 = .ok (.ifCond .eq 8, 3) := by decide +kernel
theorem d_Se_allowLengths_47 : decode b_Se_allowLengths 47 = .ok (.lload 5, 2) := by decide +kernel
theorem d_Se_allowLengths_49 : decode b_Se_allowLengths 49 = .ok (.goto 9, 3) := by decide +kernel
theorem d_Se_allowLengths_52 : decode b_Se_allowLengths 52 = .ok (.lload 5, 2) := by decide +kernel
theorem d_Se_allowLengths_54 : decode b_Se_allowLengths 54 = .ok (.lload 5, 2) := by decide +kernel
theorem d_Se_allowLengths_56 : decode b_Se_allowLengths 56 = .ok (.lneg, 1) := by decide +kernel
theorem d_Se_allowLengths_57 : decode b_Se_allowLengths 57 = .ok (.land, 1) := by decide +kernel
theorem d_Se_allowLengths_58 : decode b_Se_allowLengths 58 = .ok (.lastore, 1) := by decide +kernel
theorem d_Se_allowLengths_59 : decode b_Se_allowLengths 59 = .ok (.iload_n 2, 1) := by decide +kernel
theorem d_Se_allowLengths_60 : decode b_Se_allowLengths 60 = .ok (.ifCond .eq 14, 3) := by decide +kernel
theorem d_Se_allowLengths_63 : decode b_Se_allowLengths 63 = .ok (.lload 5, 2) := by decide +kernel
theorem d_Se_allowLengths_65 : decode b_Se_allowLengths 65 = .ok (.lconst 0, 1) := by decide +kernel
theorem d_Se_allowLengths_66 : decode b_Se_allowLengths 66 = .ok (.lcmp, 1) := by decide +kernel
theorem d_Se_allowLengths_67 : decode b_Se_allowLengths 67 = .ok (.ifCond .eq 7, 3) := by decide +kernel
theorem d_Se_allowLengths_70 : decode b_Se_allowLengths 70 = .ok (.iconst 1, 1) := by decide +kernel
theorem d_Se_allowLengths_71 : decode b_Se_allowLengths 71 = .ok (.goto 4, 3) := by decide +kernel
theorem d_Se_allowLengths_74 : decode b_Se_allowLengths 74 = .ok (.iconst 0, 1) := by decide +kernel
theorem d_Se_allowLengths_75 : decode b_Se_allowLengths 75 = .ok (.istore_n 2, 1) := by decide +kernel
theorem d_Se_allowLengths_76 : decode b_Se_allowLengths 76 = .ok (.iinc 3 1, 3) := by decide +kernel
theorem d_Se_allowLengths_79 : decode b_Se_allowLengths 79 = .ok (.goto (-75), 3) := by decide +kernel
theorem d_Se_allowLengths_82 : decode b_Se_allowLengths 82 = .ok (.iload_n 2, 1) := by decide +kernel
theorem d_Se_allowLengths_83 : decode b_Se_allowLengths 83 = .ok (.ireturn, 1) := by decide +kernel
abbrev b_Se_keepWords : ByteArray := prog_10_method_18_code
def y_Se_keepWords : MethodName := ⟨"RegularSolver$Search", "keepWords", "()V"⟩
abbrev w0_Se_keepWords : List Cond := Cond.code y_Se_keepWords b_Se_keepWords 3 none :: gW
theorem cd_Se_keepWords : Cond.code y_Se_keepWords b_Se_keepWords 3 none ∈ gW := gm 797 (by decide +kernel) (by decide +kernel)
theorem d_Se_keepWords_0 : decode b_Se_keepWords 0 = .ok (.iconst 0, 1) := by decide +kernel
theorem d_Se_keepWords_1 : decode b_Se_keepWords 1 = .ok (.istore_n 1, 1) := by decide +kernel
theorem d_Se_keepWords_2 : decode b_Se_keepWords 2 = .ok (.iload_n 1, 1) := by decide +kernel
theorem d_Se_keepWords_3 : decode b_Se_keepWords 3 = .ok (.iconst 4, 1) := by decide +kernel
theorem d_Se_keepWords_4 : decode b_Se_keepWords 4 = .ok (.if_icmp .ge 52, 3) := by decide +kernel
theorem d_Se_keepWords_7 : decode b_Se_keepWords 7 = .ok (.aload_n 0, 1) := by decide +kernel
theorem d_Se_keepWords_8 : decode b_Se_keepWords 8 = .ok (.getfield 11, 3) := by decide +kernel
theorem d_Se_keepWords_11 : decode b_Se_keepWords 11 = .ok (.iload_n 1, 1) := by decide +kernel
theorem d_Se_keepWords_12 : decode b_Se_keepWords 12 = .ok (.aaload, 1) := by decide +kernel
theorem d_Se_keepWords_13 : decode b_Se_keepWords 13 = .ok (.astore_n 2, 1) := by decide +kernel
theorem d_Se_keepWords_14 : decode b_Se_keepWords 14 = .ok (.aload_n 0, 1) := by decide +kernel
theorem d_Se_keepWords_15 : decode b_Se_keepWords 15 = .ok (.getfield 50, 3) := by decide +kernel
theorem d_Se_keepWords_18 : decode b_Se_keepWords 18 = .ok (.iload_n 1, 1) := by decide +kernel
theorem d_Se_keepWords_19 : decode b_Se_keepWords 19 = .ok (.aload_n 0, 1) := by decide +kernel
theorem d_Se_keepWords_20 : decode b_Se_keepWords 20 = .ok (.getfield 43, 3) := by decide +kernel
theorem d_Se_keepWords_23 : decode b_Se_keepWords 23 = .ok (.iload_n 1, 1) := by decide +kernel
theorem d_Se_keepWords_24 : decode b_Se_keepWords 24 = .ok (.iaload, 1) := by decide +kernel
theorem d_Se_keepWords_25 : decode b_Se_keepWords 25 = .ok (.iastore, 1) := by decide +kernel
theorem d_Se_keepWords_26 : decode b_Se_keepWords 26 = .ok (.aload_n 0, 1) := by decide +kernel
theorem d_Se_keepWords_27 : decode b_Se_keepWords 27 = .ok (.getfield 53, 3) := by decide +kernel
theorem d_Se_keepWords_30 : decode b_Se_keepWords 30 = .ok (.iload_n 1, 1) := by decide +kernel
theorem d_Se_keepWords_31 : decode b_Se_keepWords 31 = .ok (.aload_n 2, 1) := by decide +kernel
theorem d_Se_keepWords_32 : decode b_Se_keepWords 32 = .ok (.ifnonnull 7, 3) := by decide +kernel
theorem d_Se_keepWords_35 : decode b_Se_keepWords 35 = .ok (.lconst 0, 1) := by decide +kernel
theorem d_Se_keepWords_36 : decode b_Se_keepWords 36 = .ok (.goto 13, 3) := by decide +kernel
theorem d_Se_keepWords_39 : decode b_Se_keepWords 39 = .ok (.aload_n 2, 1) := by decide +kernel
theorem d_Se_keepWords_40 : decode b_Se_keepWords 40 = .ok (.aload_n 0, 1) := by decide +kernel
theorem d_Se_keepWords_41 : decode b_Se_keepWords 41 = .ok (.getfield 43, 3) := by decide +kernel
theorem d_Se_keepWords_44 : decode b_Se_keepWords 44 = .ok (.iload_n 1, 1) := by decide +kernel
theorem d_Se_keepWords_45 : decode b_Se_keepWords 45 = .ok (.iaload, 1) := by decide +kernel
theorem d_Se_keepWords_46 : decode b_Se_keepWords 46 = .ok (.invokevirtual 120, 3) := by decide +kernel
theorem d_Se_keepWords_49 : decode b_Se_keepWords 49 = .ok (.lastore, 1) := by decide +kernel
theorem d_Se_keepWords_50 : decode b_Se_keepWords 50 = .ok (.iinc 1 1, 3) := by decide +kernel
theorem d_Se_keepWords_53 : decode b_Se_keepWords 53 = .ok (.goto (-51), 3) := by decide +kernel
theorem d_Se_keepWords_56 : decode b_Se_keepWords 56 = .ok (.return_, 1) := by decide +kernel
abbrev b_Se_find : ByteArray := prog_10_method_6_code
def y_Se_find : MethodName := ⟨"RegularSolver$Search", "find", "(I)Z"⟩
abbrev w0_Se_find : List Cond := Cond.code y_Se_find b_Se_find 2 (some .boolean) :: gW
theorem cd_Se_find : Cond.code y_Se_find b_Se_find 2 (some .boolean) ∈ gW := gm 731 (by decide +kernel) (by decide +kernel)
theorem d_Se_find_0 : decode b_Se_find 0 = .ok (.aload_n 0, 1) := by decide +kernel
theorem d_Se_find_1 : decode b_Se_find 1 = .ok (.aload_n 0, 1) := by decide +kernel
theorem d_Se_find_2 : decode b_Se_find 2 = .ok (.iload_n 1, 1) := by decide +kernel
theorem d_Se_find_3 : decode b_Se_find 3 = .ok (.invokevirtual 56, 3) := by decide +kernel
theorem d_Se_find_6 : decode b_Se_find 6 = .ok (.ifCond .eq 14, 3) := by decide +kernel
theorem d_Se_find_9 : decode b_Se_find 9 = .ok (.aload_n 0, 1) := by decide +kernel
theorem d_Se_find_10 : decode b_Se_find 10 = .ok (.invokevirtual 60, 3) := by decide +kernel
theorem d_Se_find_13 : decode b_Se_find 13 = .ok (.ifCond .eq 7, 3) := by decide +kernel
theorem d_Se_find_16 : decode b_Se_find 16 = .ok (.iconst 1, 1) := by decide +kernel
theorem d_Se_find_17 : decode b_Se_find 17 = .ok (.goto 4, 3) := by decide +kernel
theorem d_Se_find_20 : decode b_Se_find 20 = .ok (.iconst 0, 1) := by decide +kernel
theorem d_Se_find_21 : decode b_Se_find 21 = .ok (.putfield 46, 3) := by decide +kernel
theorem d_Se_find_24 : decode b_Se_find 24 = .ok (.aload_n 0, 1) := by decide +kernel
theorem d_Se_find_25 : decode b_Se_find 25 = .ok (.getfield 46, 3) := by decide +kernel
theorem d_Se_find_28 : decode b_Se_find 28 = .ok (.ifCond .eq 7, 3) := by decide +kernel
theorem d_Se_find_31 : decode b_Se_find 31 = .ok (.aload_n 0, 1) := by decide +kernel
theorem d_Se_find_32 : decode b_Se_find 32 = .ok (.invokevirtual 64, 3) := by decide +kernel
theorem d_Se_find_35 : decode b_Se_find 35 = .ok (.aload_n 0, 1) := by decide +kernel
theorem d_Se_find_36 : decode b_Se_find 36 = .ok (.getfield 46, 3) := by decide +kernel
theorem d_Se_find_39 : decode b_Se_find 39 = .ok (.ireturn, 1) := by decide +kernel
theorem pd_Se_place : y_Se_place.cls ≠ "java/lang/invoke/MethodHandle" ∧ y_Se_place.cls ≠ "java/lang/invoke/VarHandle" ∧ (parseMethodDescriptor y_Se_place.desc).map (fun d => d.parameters.length) = some 1 := by decide +kernel
theorem pd_Se_findLengths : y_Se_findLengths.cls ≠ "java/lang/invoke/MethodHandle" ∧ y_Se_findLengths.cls ≠ "java/lang/invoke/VarHandle" ∧ (parseMethodDescriptor y_Se_findLengths.desc).map (fun d => d.parameters.length) = some 0 := by decide +kernel
theorem pd_Se_allowLengths : y_Se_allowLengths.cls ≠ "java/lang/invoke/MethodHandle" ∧ y_Se_allowLengths.cls ≠ "java/lang/invoke/VarHandle" ∧ (parseMethodDescriptor y_Se_allowLengths.desc).map (fun d => d.parameters.length) = some 1 := by decide +kernel
theorem pd_Se_keepWords : y_Se_keepWords.cls ≠ "java/lang/invoke/MethodHandle" ∧ y_Se_keepWords.cls ≠ "java/lang/invoke/VarHandle" ∧ (parseMethodDescriptor y_Se_keepWords.desc).map (fun d => d.parameters.length) = some 0 := by decide +kernel
theorem pd_Se_find : y_Se_find.cls ≠ "java/lang/invoke/MethodHandle" ∧ y_Se_find.cls ≠ "java/lang/invoke/VarHandle" ∧ (parseMethodDescriptor y_Se_find.desc).map (fun d => d.parameters.length) = some 1 := by decide +kernel
theorem ml_Se_97 : (Cond.methodLink "RegularSolver$Search" 97 ({ cls := "RegularSolver$Search", name := "openLengths", desc := "(I)J" } : MethodName)) ∈ gW := gm 770 (by decide +kernel) (by decide +kernel)
theorem im_Se_openLengths : (Cond.instanceMethod ({ cls := "RegularSolver$Search", name := "openLengths", desc := "(I)J" } : MethodName)) ∈ gW := gm 772 (by decide +kernel) (by decide +kernel)
theorem se_Se_openLengths : (Cond.selects "RegularSolver$Search" ({ cls := "RegularSolver$Search", name := "openLengths", desc := "(I)J" } : MethodName) ({ cls := "RegularSolver$Search", name := "openLengths", desc := "(I)J" } : MethodName)) ∈ gW := gs (by decide +kernel) (by decide +kernel)
theorem ml_Se_78 : (Cond.methodLink "RegularSolver$Search" 78 ({ cls := "RegularSolver$Search", name := "place", desc := "(I)Z" } : MethodName)) ∈ gW := gm 766 (by decide +kernel) (by decide +kernel)
theorem im_Se_place : (Cond.instanceMethod ({ cls := "RegularSolver$Search", name := "place", desc := "(I)Z" } : MethodName)) ∈ gW := gm 768 (by decide +kernel) (by decide +kernel)
theorem se_Se_place : (Cond.selects "RegularSolver$Search" ({ cls := "RegularSolver$Search", name := "place", desc := "(I)Z" } : MethodName) ({ cls := "RegularSolver$Search", name := "place", desc := "(I)Z" } : MethodName)) ∈ gW := gs (by decide +kernel) (by decide +kernel)
theorem ml_Se_74 : (Cond.methodLink "RegularSolver$Search" 74 ({ cls := "RegularSolver$Search", name := "sumRests", desc := "(I)V" } : MethodName)) ∈ gW := gm 748 (by decide +kernel) (by decide +kernel)
theorem im_Se_sumRests : (Cond.instanceMethod ({ cls := "RegularSolver$Search", name := "sumRests", desc := "(I)V" } : MethodName)) ∈ gW := gm 750 (by decide +kernel) (by decide +kernel)
theorem se_Se_sumRests : (Cond.selects "RegularSolver$Search" ({ cls := "RegularSolver$Search", name := "sumRests", desc := "(I)V" } : MethodName) ({ cls := "RegularSolver$Search", name := "sumRests", desc := "(I)V" } : MethodName)) ∈ gW := gs (by decide +kernel) (by decide +kernel)
theorem ml_Se_71 : (Cond.methodLink "RegularSolver$Search" 71 ({ cls := "RegularSolver$Search", name := "isWeighed", desc := "(I)Z" } : MethodName)) ∈ gW := gm 740 (by decide +kernel) (by decide +kernel)
theorem im_Se_isWeighed : (Cond.instanceMethod ({ cls := "RegularSolver$Search", name := "isWeighed", desc := "(I)Z" } : MethodName)) ∈ gW := gm 742 (by decide +kernel) (by decide +kernel)
theorem se_Se_isWeighed : (Cond.selects "RegularSolver$Search" ({ cls := "RegularSolver$Search", name := "isWeighed", desc := "(I)Z" } : MethodName) ({ cls := "RegularSolver$Search", name := "isWeighed", desc := "(I)Z" } : MethodName)) ∈ gW := gs (by decide +kernel) (by decide +kernel)
theorem ml_Se_67 : (Cond.methodLink "RegularSolver$Search" 67 ({ cls := "RegularSolver$Automaton", name := "lengthsUpTo", desc := "(I)J" } : MethodName)) ∈ gW := gm 736 (by decide +kernel) (by decide +kernel)
theorem im_Au_lengthsUpTo : (Cond.instanceMethod ({ cls := "RegularSolver$Automaton", name := "lengthsUpTo", desc := "(I)J" } : MethodName)) ∈ gW := gm 737 (by decide +kernel) (by decide +kernel)
theorem se_Au_lengthsUpTo : (Cond.selects "RegularSolver$Automaton" ({ cls := "RegularSolver$Automaton", name := "lengthsUpTo", desc := "(I)J" } : MethodName) ({ cls := "RegularSolver$Automaton", name := "lengthsUpTo", desc := "(I)J" } : MethodName)) ∈ gW := gm 738 (by decide +kernel) (by decide +kernel)
theorem fl_Se_50 : (Cond.fieldLink "RegularSolver$Search" 50 "RegularSolver$Search" "keptLengths" "[I") ∈ gW := gm 121 (by decide +kernel) (by decide +kernel)
theorem fl_Se_53 : (Cond.fieldLink "RegularSolver$Search" 53 "RegularSolver$Search" "keptWords" "[J") ∈ gW := gm 123 (by decide +kernel) (by decide +kernel)
theorem ml_Se_120 : (Cond.methodLink "RegularSolver$Search" 120 ({ cls := "RegularSolver$Automaton", name := "leastWord", desc := "(I)J" } : MethodName)) ∈ gW := gm 798 (by decide +kernel) (by decide +kernel)
theorem im_Au_leastWord : (Cond.instanceMethod ({ cls := "RegularSolver$Automaton", name := "leastWord", desc := "(I)J" } : MethodName)) ∈ gW := gm 646 (by decide +kernel) (by decide +kernel)
theorem se_Au_leastWord : (Cond.selects "RegularSolver$Automaton" ({ cls := "RegularSolver$Automaton", name := "leastWord", desc := "(I)J" } : MethodName) ({ cls := "RegularSolver$Automaton", name := "leastWord", desc := "(I)J" } : MethodName)) ∈ gW := gm 647 (by decide +kernel) (by decide +kernel)
theorem ml_Se_56 : (Cond.methodLink "RegularSolver$Search" 56 ({ cls := "RegularSolver$Search", name := "allowLengths", desc := "(I)Z" } : MethodName)) ∈ gW := gm 732 (by decide +kernel) (by decide +kernel)
theorem im_Se_allowLengths : (Cond.instanceMethod ({ cls := "RegularSolver$Search", name := "allowLengths", desc := "(I)Z" } : MethodName)) ∈ gW := gm 734 (by decide +kernel) (by decide +kernel)
theorem se_Se_allowLengths : (Cond.selects "RegularSolver$Search" ({ cls := "RegularSolver$Search", name := "allowLengths", desc := "(I)Z" } : MethodName) ({ cls := "RegularSolver$Search", name := "allowLengths", desc := "(I)Z" } : MethodName)) ∈ gW := gs (by decide +kernel) (by decide +kernel)
theorem ml_Se_64 : (Cond.methodLink "RegularSolver$Search" 64 ({ cls := "RegularSolver$Search", name := "keepWords", desc := "()V" } : MethodName)) ∈ gW := gm 794 (by decide +kernel) (by decide +kernel)
theorem im_Se_keepWords : (Cond.instanceMethod ({ cls := "RegularSolver$Search", name := "keepWords", desc := "()V" } : MethodName)) ∈ gW := gm 796 (by decide +kernel) (by decide +kernel)
theorem se_Se_keepWords : (Cond.selects "RegularSolver$Search" ({ cls := "RegularSolver$Search", name := "keepWords", desc := "()V" } : MethodName) ({ cls := "RegularSolver$Search", name := "keepWords", desc := "()V" } : MethodName)) ∈ gW := gs (by decide +kernel) (by decide +kernel)
theorem ml_Se_60 : (Cond.methodLink "RegularSolver$Search" 60 ({ cls := "RegularSolver$Search", name := "findLengths", desc := "()Z" } : MethodName)) ∈ gW := gm 744 (by decide +kernel) (by decide +kernel)
theorem im_Se_findLengths : (Cond.instanceMethod ({ cls := "RegularSolver$Search", name := "findLengths", desc := "()Z" } : MethodName)) ∈ gW := gm 746 (by decide +kernel) (by decide +kernel)
theorem se_Se_findLengths : (Cond.selects "RegularSolver$Search" ({ cls := "RegularSolver$Search", name := "findLengths", desc := "()Z" } : MethodName) ({ cls := "RegularSolver$Search", name := "findLengths", desc := "()Z" } : MethodName)) ∈ gW := gs (by decide +kernel) (by decide +kernel)
section
variable {p : Program} {l : Launch} {e : Env} {R : Room} {s : State} {m : MethodId} {args : Array Value} {below : List Frame} {meth : Method} {c : Code} {H : Heap} {locs : List Loc} {cells slots : Nat} {Q : State → Prop} {A : Nat → Prop} {H0 : Heap}
variable {n : Nat} {D : va_G} {K : Nat → ClassId} {sq : Nat} {sA : Nat} {sF : Nat} {sLe : Nat} {sMo : Nat} {sAl : Nat} {sRL : Nat} {sRM : Nat} {sLn : Nat} {sKL : Nat} {sKW : Nat} {fF : Nat → Nat} {fL : Nat → Nat} {fM : Nat → Nat} {sAssigned : Nat → Option Nat} {sLeast : Nat → Int32} {sMost : Nat → Int32} {sCount : Int32} {sAllowed : Nat → Int64} {sLengths : Nat → Int32} {sKept : Bool} {sKeptLengths : Nat → Int32} {sKeptWords : Nat → Int64} {gF : Nat → Nat → Int32} {gL : Nat → Nat → Int32} {gM : Nat → Nat → Int32}
def f_Se_place_0_16 (n : Nat) (v2 : Int64) (v1 : Int32) : Nat → Int32 → (Nat → Int32) → Option (Int32 × (Nat → Int32))
  | 0, _, _ => none
  | k + 1, v4, sLengths =>
    if 31 < v4 then
      some (v4, sLengths)
    else
      if (lushr v2 v4) = 0 then
        some (v4, sLengths)
      else
        if ((lushr v2 v4) &&& 1) = 0 then
          f_Se_place_0_16 n v2 v1 k (v4 + 1) sLengths
        else
          ogd (gin v1 4) <|
          none
set_option maxHeartbeats 4000000 in
set_option maxRecDepth 100000 in
theorem w_Se_place_0_16  {v2 : Int64} {v1 : Int32} (hx : p.tables.exec = Jvm.exec) (hb : c.code = b_Se_place) (hml : c.maxLocals = 5) (hts : ∀ w ∈ gW, w.before args s = true) (hown : s.vm.findClass "RegularSolver$Search" = some m.cls) (hK : va_K D vwCl (tG K) s) (hRf : 3 ≤ R.frames) (hRl : 81 ≤ R.locals) (hRc : cells ≤ R.cells) (hRs : slots ≤ R.slots) (hA : ∀ q, H0.size ≤ q → A q)  {out : Int32 × (Nat → Int32)} (Kx : ∀ (u : Int32 × (Nat → Int32)), out = u → ∀ (ls : Array Slot) (H : Heap) (locs : List Loc), va_P D vwCl ((seW K sq sA sF sLe sMo sAl sRL sRM sLn sKL sKW fF fL fM sAssigned sLeast sMost sCount sAllowed u.2 sKept sKeptLengths sKeptWords) ++ (grW K fF 4 gF) ++ (grW K fL 5 gL) ++ (grW K fM 5 gM)) H → va_D A ((seW K sq sA sF sLe sMo sAl sRL sRM sLn sKL sKW fF fL fM sAssigned sLeast sMost sCount sAllowed u.2 sKept sKeptLengths sKeptWords) ++ (grW K fF 4 gF) ++ (grW K fL 5 gL) ++ (grW K fM 5 gM)) → va_S A H0 H locs → lv_has ls 5 [] → W p l e R s m args below meth c H locs cells slots Q (F0 m 69 ls [])) :
    ∀ (k : Nat) (v4 : Int32) (sLengths : Nat → Int32), f_Se_place_0_16 n v2 v1 k v4 sLengths = some out → ∀ (ls : Array Slot) (H : Heap) (locs : List Loc), va_P D vwCl ((seW K sq sA sF sLe sMo sAl sRL sRM sLn sKL sKW fF fL fM sAssigned sLeast sMost sCount sAllowed sLengths sKept sKeptLengths sKeptWords) ++ (grW K fF 4 gF) ++ (grW K fL 5 gL) ++ (grW K fM 5 gM)) H → va_D A ((seW K sq sA sF sLe sMo sAl sRL sRM sLn sKL sKW fF fL fM sAssigned sLeast sMost sCount sAllowed sLengths sKept sKeptLengths sKeptWords) ++ (grW K fF 4 gF) ++ (grW K fL 5 gL) ++ (grW K fM 5 gM)) → va_S A H0 H locs → lv_has ls 5 [(4, .int v4), (2, .long v2), (0, .ref sq), (1, .int v1)] → W p l e R s m args below meth c H locs cells slots Q (F0 m 16 ls []) := by
  intro k
  induction k with
  | zero => intro _ _ hf; exact nomatch (show none = some out from hf)
  | succ k ih =>
    intro v4 sLengths hf ls H locs hP hD hS hl
    rw [f_Se_place_0_16] at hf
    refine lv_iload hx hb d_Se_place_16 (lv_at hl 0 rfl) ?_
    refine lv_bipush (v := 31) hx hb d_Se_place_18 (by decide) ?_
    refine lv_icmp_gt (tgt := 69) hx hb d_Se_place_20 (by decide) (fun c7 => ?_) (fun c7 => ?_)
    · rw [if_pos c7] at hf
      exact Kx _ (Option.some.inj hf).symm _ _ _ hP hD hS (show lv_has ls 5 [] from lv_sub hl [] rfl)
    · rw [if_neg c7] at hf
      refine lv_lload_n hx hb d_Se_place_23 rfl (lv_at hl 1 rfl) ?_
      refine lv_iload hx hb d_Se_place_24 (lv_at hl 0 rfl) ?_
      refine lv_lushr (v := lushr v2 v4) hx hb d_Se_place_26 rfl ?_
      refine lv_lconst (v := 0) hx hb d_Se_place_27 (by decide) ?_
      refine W.lcmp hx hb d_Se_place_28 ?_
      refine lc_eq (tgt := 69) hx hb d_Se_place_29 (by decide) (fun c8 => ?_) (fun c8 => ?_)
      · rw [if_pos c8] at hf
        exact Kx _ (Option.some.inj hf).symm _ _ _ hP hD hS (show lv_has ls 5 [] from lv_sub hl [] rfl)
      · rw [if_neg c8] at hf
        refine lv_lload_n hx hb d_Se_place_32 rfl (lv_at hl 1 rfl) ?_
        refine lv_iload hx hb d_Se_place_33 (lv_at hl 0 rfl) ?_
        refine lv_lushr (v := lushr v2 v4) hx hb d_Se_place_35 rfl ?_
        refine lv_lconst (v := 1) hx hb d_Se_place_36 (by decide) ?_
        refine lv_land hx hb d_Se_place_37 ?_
        refine lv_lconst (v := 0) hx hb d_Se_place_38 (by decide) ?_
        refine W.lcmp hx hb d_Se_place_39 ?_
        refine lc_eq (tgt := 63) hx hb d_Se_place_40 (by decide) (fun c9 => ?_) (fun c9 => ?_)
        · rw [if_pos c9] at hf
          refine lv_iinc (v := v4 + 1) (lv' := [(4, .int (v4 + 1)), (2, .long v2), (0, .ref sq), (1, .int v1)]) hx hb d_Se_place_63 hl (k := 0) rfl (by first | rfl | (congr 1)) (by decide) rfl (fun ls hl => ?_)
          refine lv_goto (tgt := 16) hx hb d_Se_place_66 (by decide) ?_
          exact ih _ _ hf _ _ _ hP hD hS (show lv_has ls 5 [(4, .int (v4 + 1)), (2, .long v2), (0, .ref sq), (1, .int v1)] from lv_sub hl [0, 1, 2, 3] rfl)
        · rw [if_neg c9] at hf
          refine lv_aload_n hx hb d_Se_place_43 rfl (lv_at hl 2 rfl) ?_
          refine va_get (D := D) (ci := 9) (v := .ref sLn) (C := R_Se) (T := T_Se) (N := 12) hx hb hts in_Se hown hK hP 0 rfl rfl 8 (by decide) (hts _ fl_Se_43) (fun _ h9 => h9) rfl d_Se_place_44 ?_
          refine lv_iload_n hx hb d_Se_place_47 rfl (lv_at hl 3 rfl) ?_
          refine lv_iload hx hb d_Se_place_48 (lv_at hl 0 rfl) ?_
          obtain ⟨g10, hf⟩ := ogi hf
          refine va_iast hx hb hK hP hD hS 8 0 rfl rfl (gin_in g10) d_Se_place_50 (fun H locs hP hD hS => ?_)
          have hP : va_P D vwCl ((seW K sq sA sF sLe sMo sAl sRL sRM sLn sKL sKW fF fL fM sAssigned sLeast sMost sCount sAllowed (upd sLengths v1.toNatClampNeg v4) sKept sKeptLengths sKeptWords) ++ (grW K fF 4 gF) ++ (grW K fL 5 gL) ++ (grW K fM 5 gM)) H := hP
          have hD : va_D A ((seW K sq sA sF sLe sMo sAl sRL sRM sLn sKL sKW fF fL fM sAssigned sLeast sMost sCount sAllowed (upd sLengths v1.toNatClampNeg v4) sKept sKeptLengths sKeptWords) ++ (grW K fF 4 gF) ++ (grW K fL 5 gL) ++ (grW K fM 5 gM)) := hD
          refine lv_aload_n hx hb d_Se_place_51 rfl (lv_at hl 2 rfl) ?_
          refine lv_iload_n hx hb d_Se_place_52 rfl (lv_at hl 3 rfl) ?_
          refine lv_iconst (v := 1) hx hb d_Se_place_53 (by decide) ?_
          refine lv_iadd hx hb d_Se_place_54 ?_
          exact nomatch hf
def f_Se_place_0 (n : Nat) (p0 : Int32) (sLeast : Nat → Int32) (sMost : Nat → Int32) (sCount : Int32) (sAllowed : Nat → Int64) (sLengths : Nat → Int32) (gF : Nat → Nat → Int32) (gL : Nat → Nat → Int32) (gM : Nat → Nat → Int32) : Option (Bool × (Nat → Int32)) :=
  if p0 < 4 then
    (f_Se_openLengths n p0 sLeast sMost sCount sAllowed sLengths gF gL gM).bind fun u2 =>
    (f_Se_place_0_16 n u2 p0 n 0 sLengths).bind fun u11 =>
    some (false, u11.2)
  else
    some (true, sLengths)
set_option maxHeartbeats 4000000 in
set_option maxRecDepth 100000 in
theorem w_Se_place_0  {p0 : Int32}  (hx : p.tables.exec = Jvm.exec) (hb : c.code = b_Se_place) (hml : c.maxLocals = 5) (hts : ∀ w ∈ gW, w.before args s = true) (hown : s.vm.findClass "RegularSolver$Search" = some m.cls) (hK : va_K D vwCl (tG K) s) (hRf : 3 ≤ R.frames) (hRl : 81 ≤ R.locals) (hRc : cells ≤ R.cells) (hRs : slots ≤ R.slots) (hA : ∀ q, H0.size ≤ q → A q) {out : Bool × (Nat → Int32)} (Kr : ∀ (r : Bool × (Nat → Int32)), out = r → ∀ (pc : Nat) (ls : Array Slot) (H : Heap) (locs : List Loc), decode b_Se_place pc = .ok (.ireturn, 1) → va_P D vwCl ((seW K sq sA sF sLe sMo sAl sRL sRM sLn sKL sKW fF fL fM sAssigned sLeast sMost sCount sAllowed r.2 sKept sKeptLengths sKeptWords) ++ (grW K fF 4 gF) ++ (grW K fL 5 gL) ++ (grW K fM 5 gM)) H → va_D A ((seW K sq sA sF sLe sMo sAl sRL sRM sLn sKL sKW fF fL fM sAssigned sLeast sMost sCount sAllowed r.2 sKept sKeptLengths sKeptWords) ++ (grW K fF 4 gF) ++ (grW K fL 5 gL) ++ (grW K fM 5 gM)) → va_S A H0 H locs → W p l e R s m args below meth c H locs cells slots Q (F0 m pc ls [.int (bI r.1)])) (hf : f_Se_place_0 n p0 sLeast sMost sCount sAllowed sLengths gF gL gM = some out) (ls : Array Slot) (hP : va_P D vwCl ((seW K sq sA sF sLe sMo sAl sRL sRM sLn sKL sKW fF fL fM sAssigned sLeast sMost sCount sAllowed sLengths sKept sKeptLengths sKeptWords) ++ (grW K fF 4 gF) ++ (grW K fL 5 gL) ++ (grW K fM 5 gM)) H) (hD : va_D A ((seW K sq sA sF sLe sMo sAl sRL sRM sLn sKL sKW fF fL fM sAssigned sLeast sMost sCount sAllowed sLengths sKept sKeptLengths sKeptWords) ++ (grW K fF 4 gF) ++ (grW K fL 5 gL) ++ (grW K fM 5 gM))) (hS : va_S A H0 H locs) (hl : lv_has ls 5 [(0, .ref sq), (1, .int p0)]) : W p l e R s m args below meth c H locs cells slots Q (F0 m 0 ls []) := by
  unfold f_Se_place_0 at hf
  refine lv_iload_n hx hb d_Se_place_0 rfl (lv_at hl 1 rfl) ?_
  refine lv_iconst (v := 4) hx hb d_Se_place_1 (by decide) ?_
  refine lv_icmp_lt (tgt := 7) hx hb d_Se_place_2 (by decide) (fun c1 => ?_) (fun c1 => ?_)
  · rw [if_pos c1] at hf
    refine lv_aload_n hx hb d_Se_place_7 rfl (lv_at hl 0 rfl) ?_
    refine lv_iload_n hx hb d_Se_place_8 rfl (lv_at hl 1 rfl) ?_
    obtain ⟨u2, eu2, hf⟩ := obd hf
    refine p_call (W.runV (As := [.int p0]) (rest := []) ⟨hx, hb, hml, hown, hts⟩ (c_Se_openLengths l eu2) (gV 1 hts cd_Se_openLengths ml_Se_97 im_Se_openLengths se_Se_openLengths ini_Se rfl rfl pd_Se_openLengths ⟨Nat.le_trans (Nat.le_of_ble_eq_true rfl) hRf, Nat.le_trans (Nat.le_of_ble_eq_true rfl) hRl⟩) ⟨pPre_blind, va_recv hK (vaL (vaL (vaL hP))) (ci := 9) (q0 := 0) rfl rfl, pPre_of hP hK⟩ rfl rfl hl.1 rfl (lv_room (Nat.le_of_ble_eq_true rfl)) d_Se_place_9 ⟨hRc, hRs⟩) ?_
    refine lv_lstore_n (lv' := [(2, .long u2), (0, .ref sq), (1, .int p0)]) hx hb d_Se_place_12 rfl hl (by decide) rfl (fun ls hl => ?_)
    refine lv_iconst (v := 0) hx hb d_Se_place_13 (by decide) ?_
    refine lv_istore (lv' := [(4, .int 0), (2, .long u2), (0, .ref sq), (1, .int p0)]) hx hb d_Se_place_14 hl (by decide) rfl (fun ls hl => ?_)
    obtain ⟨u11, eu11, hf⟩ := obd hf
    refine w_Se_place_0_16 hx hb hml hts hown hK hRf hRl hRc hRs hA  (fun u11q eu ls H locs hP hD hS hl => ?_) _ _ _ eu11 _ _ _ hP hD hS (show lv_has ls 5 [(4, .int 0), (2, .long u2), (0, .ref sq), (1, .int p0)] from lv_sub hl [0, 1, 2, 3] rfl)
    subst eu
    refine lv_iconst (v := 0) hx hb d_Se_place_69 (by decide) ?_
    exact Kr _ (Option.some.inj hf).symm _ _ _ _ d_Se_place_70 hP hD hS
  · rw [if_neg c1] at hf
    refine lv_iconst (v := 1) hx hb d_Se_place_5 (by decide) ?_
    exact Kr _ (Option.some.inj hf).symm _ _ _ _ d_Se_place_6 hP hD hS
set_option maxHeartbeats 4000000 in
set_option maxRecDepth 100000 in
theorem c_Se_place_0 (l : Launch)  {p0 : Int32}  {r : Bool × (Nat → Int32)} (sz : Nat) (hf : f_Se_place_0 n p0 sLeast sMost sCount sAllowed sLengths gF gL gM = some r) : Met l y_Se_place w0_Se_place ({ frames := 3, cells := 0, slots := 0, locals := 81 }) (wPre D K [.ref sq, .int p0] ((seW K sq sA sF sLe sMo sAl sRL sRM sLn sKL sKW fF fL fM sAssigned sLeast sMost sCount sAllowed sLengths sKept sKeptLengths sKeptWords) ++ (grW K fF 4 gF) ++ (grW K fL 5 gL) ++ (grW K fM 5 gM)) sz) (wPost D K (some (.int (bI r.1))) ((seW K sq sA sF sLe sMo sAl sRL sRM sLn sKL sKW fF fL fM sAssigned sLeast sMost sCount sAllowed r.2 sKept sKeptLengths sKeptWords) ++ (grW K fF 4 gF) ++ (grW K fL 5 gL) ++ (grW K fM 5 gM)) (va_A ((seW K sq sA sF sLe sMo sAl sRL sRM sLn sKL sKW fF fL fM sAssigned sLeast sMost sCount sAllowed sLengths sKept sKeptLengths sKeptWords) ++ (grW K fF 4 gF) ++ (grW K fL 5 gL) ++ (grW K fM 5 gM)) sz)) 0 0 (va_A ((seW K sq sA sF sLe sMo sAl sRL sRM sLn sKL sKW fF fL fM sAssigned sLeast sMost sCount sAllowed sLengths sKept sKeptLengths sKeptWords) ++ (grW K fF 4 gF) ++ (grW K fL 5 gL) ++ (grW K fM 5 gM)) sz) := by
  refine Met.ofW (cc := b_Se_place) (maxL := 5) (ret := (some .boolean)) (by decide) rfl ?_
  intro p e s m args below meth c s₁ B hml hv
  obtain ⟨rfl, hsz, hP, hK, hD0⟩ := hv
  subst hsz
  have hl := lv_entry [.ref sq, .int p0] (n := 5) (Nat.le_of_ble_eq_true rfl)
  rw [lg_entry_eq]
  generalize (lg_sl [.ref sq, .int p0] ++ List.replicate (5 - (lg_sl [.ref sq, .int p0]).length) Slot.unset).toArray = ls at hl ⊢
  refine w_Se_place_0 (A := va_A ((seW K sq sA sF sLe sMo sAl sRL sRM sLn sKL sKW fF fL fM sAssigned sLeast sMost sCount sAllowed sLengths sKept sKeptLengths sKeptWords) ++ (grW K fF 4 gF) ++ (grW K fL 5 gL) ++ (grW K fM 5 gM)) s.heap.size) (H0 := s.heap) B.exec B.bytes hml (fun w hw => atoms_spec (ws := w0_Se_place) B.pre w (List.mem_cons_of_mem _ hw)) (findClass_of_methodNamed B.named) hK (Nat.le_refl _) (Nat.le_refl _) (Nat.zero_le _) (Nat.zero_le _) (fun q h => Or.inr h) (fun r er pc ls H locs hd hP hD hS => ?_) hf ls hP (hD0.self (sz := s.heap.size)) va_S.rf hl
  subst er
  exact W.zret B.exec B.bytes B.returns (bI_nar _) (fun t ht hW => ⟨⟨rfl, by rw [ht]; exact hP, va_K.moved hW.alike hK, hD⟩, hS.F ht⟩) hS.2.2 hd (hlocks := B.notSynchronized)
end
section
variable {p : Program} {l : Launch} {e : Env} {R : Room} {s : State} {m : MethodId} {args : Array Value} {below : List Frame} {meth : Method} {c : Code} {H : Heap} {locs : List Loc} {cells slots : Nat} {Q : State → Prop} {A : Nat → Prop} {H0 : Heap}
variable {n : Nat} {D : va_G} {K : Nat → ClassId} {sq : Nat} {sA : Nat} {sF : Nat} {sLe : Nat} {sMo : Nat} {sAl : Nat} {sRL : Nat} {sRM : Nat} {sLn : Nat} {sKL : Nat} {sKW : Nat} {fF : Nat → Nat} {fL : Nat → Nat} {fM : Nat → Nat} {sAssigned : Nat → Option Nat} {sLeast : Nat → Int32} {sMost : Nat → Int32} {sCount : Int32} {sAllowed : Nat → Int64} {sLengths : Nat → Int32} {sKept : Bool} {sKeptLengths : Nat → Int32} {sKeptWords : Nat → Int64} {gF : Nat → Nat → Int32} {gL : Nat → Nat → Int32} {gM : Nat → Nat → Int32}
def f_Se_place_1_16 (n : Nat) (v2 : Int64) (v1 : Int32) (sLeast : Nat → Int32) (sMost : Nat → Int32) (sCount : Int32) (sAllowed : Nat → Int64) (gF : Nat → Nat → Int32) (gL : Nat → Nat → Int32) (gM : Nat → Nat → Int32) : Nat → Int32 → (Nat → Int32) → Option ((Bool × (Nat → Int32)) ⊕ (Int32 × (Nat → Int32)))
  | 0, _, _ => none
  | k + 1, v4, sLengths =>
    if 31 < v4 then
      some (.inr (v4, sLengths))
    else
      if (lushr v2 v4) = 0 then
        some (.inr (v4, sLengths))
      else
        if ((lushr v2 v4) &&& 1) = 0 then
          f_Se_place_1_16 n v2 v1 sLeast sMost sCount sAllowed gF gL gM k (v4 + 1) sLengths
        else
          ogd (gin v1 4) <|
          (f_Se_place_0 n (v1 + 1) sLeast sMost sCount sAllowed (upd sLengths v1.toNatClampNeg v4) gF gL gM).bind fun u14 =>
          if u14.1 = true then
            some (.inl (true, u14.2))
          else
            f_Se_place_1_16 n v2 v1 sLeast sMost sCount sAllowed gF gL gM k (v4 + 1) u14.2
set_option maxHeartbeats 4000000 in
set_option maxRecDepth 100000 in
theorem w_Se_place_1_16  {v2 : Int64} {v1 : Int32} (hx : p.tables.exec = Jvm.exec) (hb : c.code = b_Se_place) (hml : c.maxLocals = 5) (hts : ∀ w ∈ gW, w.before args s = true) (hown : s.vm.findClass "RegularSolver$Search" = some m.cls) (hK : va_K D vwCl (tG K) s) (hRf : 4 ≤ R.frames) (hRl : 105 ≤ R.locals) (hRc : cells ≤ R.cells) (hRs : slots ≤ R.slots) (hA : ∀ q, H0.size ≤ q → A q)  {out : (Bool × (Nat → Int32)) ⊕ (Int32 × (Nat → Int32))} (Kr : ∀ (r : Bool × (Nat → Int32)), out = .inl r → ∀ (pc : Nat) (ls : Array Slot) (H : Heap) (locs : List Loc), decode b_Se_place pc = .ok (.ireturn, 1) → va_P D vwCl ((seW K sq sA sF sLe sMo sAl sRL sRM sLn sKL sKW fF fL fM sAssigned sLeast sMost sCount sAllowed r.2 sKept sKeptLengths sKeptWords) ++ (grW K fF 4 gF) ++ (grW K fL 5 gL) ++ (grW K fM 5 gM)) H → va_D A ((seW K sq sA sF sLe sMo sAl sRL sRM sLn sKL sKW fF fL fM sAssigned sLeast sMost sCount sAllowed r.2 sKept sKeptLengths sKeptWords) ++ (grW K fF 4 gF) ++ (grW K fL 5 gL) ++ (grW K fM 5 gM)) → va_S A H0 H locs → W p l e R s m args below meth c H locs cells slots Q (F0 m pc ls [.int (bI r.1)])) (Kx : ∀ (u : Int32 × (Nat → Int32)), out = .inr u → ∀ (ls : Array Slot) (H : Heap) (locs : List Loc), va_P D vwCl ((seW K sq sA sF sLe sMo sAl sRL sRM sLn sKL sKW fF fL fM sAssigned sLeast sMost sCount sAllowed u.2 sKept sKeptLengths sKeptWords) ++ (grW K fF 4 gF) ++ (grW K fL 5 gL) ++ (grW K fM 5 gM)) H → va_D A ((seW K sq sA sF sLe sMo sAl sRL sRM sLn sKL sKW fF fL fM sAssigned sLeast sMost sCount sAllowed u.2 sKept sKeptLengths sKeptWords) ++ (grW K fF 4 gF) ++ (grW K fL 5 gL) ++ (grW K fM 5 gM)) → va_S A H0 H locs → lv_has ls 5 [] → W p l e R s m args below meth c H locs cells slots Q (F0 m 69 ls [])) :
    ∀ (k : Nat) (v4 : Int32) (sLengths : Nat → Int32), f_Se_place_1_16 n v2 v1 sLeast sMost sCount sAllowed gF gL gM k v4 sLengths = some out → ∀ (ls : Array Slot) (H : Heap) (locs : List Loc), va_P D vwCl ((seW K sq sA sF sLe sMo sAl sRL sRM sLn sKL sKW fF fL fM sAssigned sLeast sMost sCount sAllowed sLengths sKept sKeptLengths sKeptWords) ++ (grW K fF 4 gF) ++ (grW K fL 5 gL) ++ (grW K fM 5 gM)) H → va_D A ((seW K sq sA sF sLe sMo sAl sRL sRM sLn sKL sKW fF fL fM sAssigned sLeast sMost sCount sAllowed sLengths sKept sKeptLengths sKeptWords) ++ (grW K fF 4 gF) ++ (grW K fL 5 gL) ++ (grW K fM 5 gM)) → va_S A H0 H locs → lv_has ls 5 [(4, .int v4), (2, .long v2), (0, .ref sq), (1, .int v1)] → W p l e R s m args below meth c H locs cells slots Q (F0 m 16 ls []) := by
  intro k
  induction k with
  | zero => intro _ _ hf; exact nomatch (show none = some out from hf)
  | succ k ih =>
    intro v4 sLengths hf ls H locs hP hD hS hl
    rw [f_Se_place_1_16] at hf
    refine lv_iload hx hb d_Se_place_16 (lv_at hl 0 rfl) ?_
    refine lv_bipush (v := 31) hx hb d_Se_place_18 (by decide) ?_
    refine lv_icmp_gt (tgt := 69) hx hb d_Se_place_20 (by decide) (fun c10 => ?_) (fun c10 => ?_)
    · rw [if_pos c10] at hf
      exact Kx _ (Option.some.inj hf).symm _ _ _ hP hD hS (show lv_has ls 5 [] from lv_sub hl [] rfl)
    · rw [if_neg c10] at hf
      refine lv_lload_n hx hb d_Se_place_23 rfl (lv_at hl 1 rfl) ?_
      refine lv_iload hx hb d_Se_place_24 (lv_at hl 0 rfl) ?_
      refine lv_lushr (v := lushr v2 v4) hx hb d_Se_place_26 rfl ?_
      refine lv_lconst (v := 0) hx hb d_Se_place_27 (by decide) ?_
      refine W.lcmp hx hb d_Se_place_28 ?_
      refine lc_eq (tgt := 69) hx hb d_Se_place_29 (by decide) (fun c11 => ?_) (fun c11 => ?_)
      · rw [if_pos c11] at hf
        exact Kx _ (Option.some.inj hf).symm _ _ _ hP hD hS (show lv_has ls 5 [] from lv_sub hl [] rfl)
      · rw [if_neg c11] at hf
        refine lv_lload_n hx hb d_Se_place_32 rfl (lv_at hl 1 rfl) ?_
        refine lv_iload hx hb d_Se_place_33 (lv_at hl 0 rfl) ?_
        refine lv_lushr (v := lushr v2 v4) hx hb d_Se_place_35 rfl ?_
        refine lv_lconst (v := 1) hx hb d_Se_place_36 (by decide) ?_
        refine lv_land hx hb d_Se_place_37 ?_
        refine lv_lconst (v := 0) hx hb d_Se_place_38 (by decide) ?_
        refine W.lcmp hx hb d_Se_place_39 ?_
        refine lc_eq (tgt := 63) hx hb d_Se_place_40 (by decide) (fun c12 => ?_) (fun c12 => ?_)
        · rw [if_pos c12] at hf
          refine lv_iinc (v := v4 + 1) (lv' := [(4, .int (v4 + 1)), (2, .long v2), (0, .ref sq), (1, .int v1)]) hx hb d_Se_place_63 hl (k := 0) rfl (by first | rfl | (congr 1)) (by decide) rfl (fun ls hl => ?_)
          refine lv_goto (tgt := 16) hx hb d_Se_place_66 (by decide) ?_
          exact ih _ _ hf _ _ _ hP hD hS (show lv_has ls 5 [(4, .int (v4 + 1)), (2, .long v2), (0, .ref sq), (1, .int v1)] from lv_sub hl [0, 1, 2, 3] rfl)
        · rw [if_neg c12] at hf
          refine lv_aload_n hx hb d_Se_place_43 rfl (lv_at hl 2 rfl) ?_
          refine va_get (D := D) (ci := 9) (v := .ref sLn) (C := R_Se) (T := T_Se) (N := 12) hx hb hts in_Se hown hK hP 0 rfl rfl 8 (by decide) (hts _ fl_Se_43) (fun _ h9 => h9) rfl d_Se_place_44 ?_
          refine lv_iload_n hx hb d_Se_place_47 rfl (lv_at hl 3 rfl) ?_
          refine lv_iload hx hb d_Se_place_48 (lv_at hl 0 rfl) ?_
          obtain ⟨g13, hf⟩ := ogi hf
          refine va_iast hx hb hK hP hD hS 8 0 rfl rfl (gin_in g13) d_Se_place_50 (fun H locs hP hD hS => ?_)
          have hP : va_P D vwCl ((seW K sq sA sF sLe sMo sAl sRL sRM sLn sKL sKW fF fL fM sAssigned sLeast sMost sCount sAllowed (upd sLengths v1.toNatClampNeg v4) sKept sKeptLengths sKeptWords) ++ (grW K fF 4 gF) ++ (grW K fL 5 gL) ++ (grW K fM 5 gM)) H := hP
          have hD : va_D A ((seW K sq sA sF sLe sMo sAl sRL sRM sLn sKL sKW fF fL fM sAssigned sLeast sMost sCount sAllowed (upd sLengths v1.toNatClampNeg v4) sKept sKeptLengths sKeptWords) ++ (grW K fF 4 gF) ++ (grW K fL 5 gL) ++ (grW K fM 5 gM)) := hD
          refine lv_aload_n hx hb d_Se_place_51 rfl (lv_at hl 2 rfl) ?_
          refine lv_iload_n hx hb d_Se_place_52 rfl (lv_at hl 3 rfl) ?_
          refine lv_iconst (v := 1) hx hb d_Se_place_53 (by decide) ?_
          refine lv_iadd hx hb d_Se_place_54 ?_
          obtain ⟨u14, eu14, hf⟩ := obd hf
          refine w_callA (va_runV (As := [.int (v1 + 1)]) (rest := []) ⟨hx, hb, hml, hown, hts⟩ (Met_G (c_Se_place_0 l H.size eu14)) (gV 1 hts cd_Se_place ml_Se_78 im_Se_place se_Se_place ini_Se rfl rfl pd_Se_place ⟨Nat.le_trans (Nat.le_of_ble_eq_true rfl) hRf, Nat.le_trans (Nat.le_of_ble_eq_true rfl) hRl⟩) ⟨wPre_blind, va_recv hK (vaL (vaL (vaL hP))) (ci := 9) (q0 := 0) rfl rfl, wPre_of hP hK hD⟩ rfl rfl hl.1 rfl (lv_room (Nat.le_of_ble_eq_true rfl)) d_Se_place_55 ⟨hRc, hRs⟩) hD hS hA (fun g15 H1 locs hP1 hD1 hk1 hS1 => ?_)
          obtain ⟨hP, hD⟩ : _ ∧ _ := ⟨hP1, hD1.weaken (fun _ q _ h => va_sub hD hS hA q.1 h)⟩
          have hS := hS1
          generalize H1 = H at hP hS ⊢
          have hP : va_P D vwCl ((seW K sq sA sF sLe sMo sAl sRL sRM sLn sKL sKW fF fL fM sAssigned sLeast sMost sCount sAllowed u14.2 sKept sKeptLengths sKeptWords) ++ (grW K fF 4 gF) ++ (grW K fL 5 gL) ++ (grW K fM 5 gM)) H := hP
          have hD : va_D A ((seW K sq sA sF sLe sMo sAl sRL sRM sLn sKL sKW fF fL fM sAssigned sLeast sMost sCount sAllowed u14.2 sKept sKeptLengths sKeptWords) ++ (grW K fF 4 gF) ++ (grW K fL 5 gL) ++ (grW K fM 5 gM)) := hD
          refine bz_eq (tgt := 63) hx hb d_Se_place_58 (by decide) (fun c16 => ?_) (fun c16 => ?_)
          · rw [if_neg c16] at hf
            refine lv_iinc (v := v4 + 1) (lv' := [(4, .int (v4 + 1)), (2, .long v2), (0, .ref sq), (1, .int v1)]) hx hb d_Se_place_63 hl (k := 0) rfl (by first | rfl | (congr 1)) (by decide) rfl (fun ls hl => ?_)
            refine lv_goto (tgt := 16) hx hb d_Se_place_66 (by decide) ?_
            exact ih _ _ hf _ _ _ hP hD hS (show lv_has ls 5 [(4, .int (v4 + 1)), (2, .long v2), (0, .ref sq), (1, .int v1)] from lv_sub hl [0, 1, 2, 3] rfl)
          · rw [if_pos c16] at hf
            refine lv_iconst (v := 1) hx hb d_Se_place_61 (by decide) ?_
            exact Kr _ (Option.some.inj hf).symm _ _ _ _ d_Se_place_62 hP hD hS
def f_Se_place_1 (n : Nat) (p0 : Int32) (sLeast : Nat → Int32) (sMost : Nat → Int32) (sCount : Int32) (sAllowed : Nat → Int64) (sLengths : Nat → Int32) (gF : Nat → Nat → Int32) (gL : Nat → Nat → Int32) (gM : Nat → Nat → Int32) : Option (Bool × (Nat → Int32)) :=
  if p0 < 4 then
    (f_Se_openLengths n p0 sLeast sMost sCount sAllowed sLengths gF gL gM).bind fun u2 =>
    (f_Se_place_1_16 n u2 p0 sLeast sMost sCount sAllowed gF gL gM n 0 sLengths).bind fun u17 => u17.elim (fun r => some r) fun x17 =>
    some (false, x17.2)
  else
    some (true, sLengths)
set_option maxHeartbeats 4000000 in
set_option maxRecDepth 100000 in
theorem w_Se_place_1  {p0 : Int32}  (hx : p.tables.exec = Jvm.exec) (hb : c.code = b_Se_place) (hml : c.maxLocals = 5) (hts : ∀ w ∈ gW, w.before args s = true) (hown : s.vm.findClass "RegularSolver$Search" = some m.cls) (hK : va_K D vwCl (tG K) s) (hRf : 4 ≤ R.frames) (hRl : 105 ≤ R.locals) (hRc : cells ≤ R.cells) (hRs : slots ≤ R.slots) (hA : ∀ q, H0.size ≤ q → A q) {out : Bool × (Nat → Int32)} (Kr : ∀ (r : Bool × (Nat → Int32)), out = r → ∀ (pc : Nat) (ls : Array Slot) (H : Heap) (locs : List Loc), decode b_Se_place pc = .ok (.ireturn, 1) → va_P D vwCl ((seW K sq sA sF sLe sMo sAl sRL sRM sLn sKL sKW fF fL fM sAssigned sLeast sMost sCount sAllowed r.2 sKept sKeptLengths sKeptWords) ++ (grW K fF 4 gF) ++ (grW K fL 5 gL) ++ (grW K fM 5 gM)) H → va_D A ((seW K sq sA sF sLe sMo sAl sRL sRM sLn sKL sKW fF fL fM sAssigned sLeast sMost sCount sAllowed r.2 sKept sKeptLengths sKeptWords) ++ (grW K fF 4 gF) ++ (grW K fL 5 gL) ++ (grW K fM 5 gM)) → va_S A H0 H locs → W p l e R s m args below meth c H locs cells slots Q (F0 m pc ls [.int (bI r.1)])) (hf : f_Se_place_1 n p0 sLeast sMost sCount sAllowed sLengths gF gL gM = some out) (ls : Array Slot) (hP : va_P D vwCl ((seW K sq sA sF sLe sMo sAl sRL sRM sLn sKL sKW fF fL fM sAssigned sLeast sMost sCount sAllowed sLengths sKept sKeptLengths sKeptWords) ++ (grW K fF 4 gF) ++ (grW K fL 5 gL) ++ (grW K fM 5 gM)) H) (hD : va_D A ((seW K sq sA sF sLe sMo sAl sRL sRM sLn sKL sKW fF fL fM sAssigned sLeast sMost sCount sAllowed sLengths sKept sKeptLengths sKeptWords) ++ (grW K fF 4 gF) ++ (grW K fL 5 gL) ++ (grW K fM 5 gM))) (hS : va_S A H0 H locs) (hl : lv_has ls 5 [(0, .ref sq), (1, .int p0)]) : W p l e R s m args below meth c H locs cells slots Q (F0 m 0 ls []) := by
  unfold f_Se_place_1 at hf
  refine lv_iload_n hx hb d_Se_place_0 rfl (lv_at hl 1 rfl) ?_
  refine lv_iconst (v := 4) hx hb d_Se_place_1 (by decide) ?_
  refine lv_icmp_lt (tgt := 7) hx hb d_Se_place_2 (by decide) (fun c1 => ?_) (fun c1 => ?_)
  · rw [if_pos c1] at hf
    refine lv_aload_n hx hb d_Se_place_7 rfl (lv_at hl 0 rfl) ?_
    refine lv_iload_n hx hb d_Se_place_8 rfl (lv_at hl 1 rfl) ?_
    obtain ⟨u2, eu2, hf⟩ := obd hf
    refine p_call (W.runV (As := [.int p0]) (rest := []) ⟨hx, hb, hml, hown, hts⟩ (c_Se_openLengths l eu2) (gV 1 hts cd_Se_openLengths ml_Se_97 im_Se_openLengths se_Se_openLengths ini_Se rfl rfl pd_Se_openLengths ⟨Nat.le_trans (Nat.le_of_ble_eq_true rfl) hRf, Nat.le_trans (Nat.le_of_ble_eq_true rfl) hRl⟩) ⟨pPre_blind, va_recv hK (vaL (vaL (vaL hP))) (ci := 9) (q0 := 0) rfl rfl, pPre_of hP hK⟩ rfl rfl hl.1 rfl (lv_room (Nat.le_of_ble_eq_true rfl)) d_Se_place_9 ⟨hRc, hRs⟩) ?_
    refine lv_lstore_n (lv' := [(2, .long u2), (0, .ref sq), (1, .int p0)]) hx hb d_Se_place_12 rfl hl (by decide) rfl (fun ls hl => ?_)
    refine lv_iconst (v := 0) hx hb d_Se_place_13 (by decide) ?_
    refine lv_istore (lv' := [(4, .int 0), (2, .long u2), (0, .ref sq), (1, .int p0)]) hx hb d_Se_place_14 hl (by decide) rfl (fun ls hl => ?_)
    obtain ⟨u17, eu17, hf⟩ := obd hf
    refine w_Se_place_1_16 hx hb hml hts hown hK hRf hRl hRc hRs hA (fun r er pc ls H locs hd hP hD hS => Kr r (by subst er; exact (Option.some.inj hf).symm) pc ls H locs hd hP hD hS) (fun x17 eu ls H locs hP hD hS hl => ?_) _ _ _ eu17 _ _ _ hP hD hS (show lv_has ls 5 [(4, .int 0), (2, .long u2), (0, .ref sq), (1, .int p0)] from lv_sub hl [0, 1, 2, 3] rfl)
    subst eu
    replace hf := oel hf
    refine lv_iconst (v := 0) hx hb d_Se_place_69 (by decide) ?_
    exact Kr _ (Option.some.inj hf).symm _ _ _ _ d_Se_place_70 hP hD hS
  · rw [if_neg c1] at hf
    refine lv_iconst (v := 1) hx hb d_Se_place_5 (by decide) ?_
    exact Kr _ (Option.some.inj hf).symm _ _ _ _ d_Se_place_6 hP hD hS
set_option maxHeartbeats 4000000 in
set_option maxRecDepth 100000 in
theorem c_Se_place_1 (l : Launch)  {p0 : Int32}  {r : Bool × (Nat → Int32)} (sz : Nat) (hf : f_Se_place_1 n p0 sLeast sMost sCount sAllowed sLengths gF gL gM = some r) : Met l y_Se_place w0_Se_place ({ frames := 4, cells := 0, slots := 0, locals := 105 }) (wPre D K [.ref sq, .int p0] ((seW K sq sA sF sLe sMo sAl sRL sRM sLn sKL sKW fF fL fM sAssigned sLeast sMost sCount sAllowed sLengths sKept sKeptLengths sKeptWords) ++ (grW K fF 4 gF) ++ (grW K fL 5 gL) ++ (grW K fM 5 gM)) sz) (wPost D K (some (.int (bI r.1))) ((seW K sq sA sF sLe sMo sAl sRL sRM sLn sKL sKW fF fL fM sAssigned sLeast sMost sCount sAllowed r.2 sKept sKeptLengths sKeptWords) ++ (grW K fF 4 gF) ++ (grW K fL 5 gL) ++ (grW K fM 5 gM)) (va_A ((seW K sq sA sF sLe sMo sAl sRL sRM sLn sKL sKW fF fL fM sAssigned sLeast sMost sCount sAllowed sLengths sKept sKeptLengths sKeptWords) ++ (grW K fF 4 gF) ++ (grW K fL 5 gL) ++ (grW K fM 5 gM)) sz)) 0 0 (va_A ((seW K sq sA sF sLe sMo sAl sRL sRM sLn sKL sKW fF fL fM sAssigned sLeast sMost sCount sAllowed sLengths sKept sKeptLengths sKeptWords) ++ (grW K fF 4 gF) ++ (grW K fL 5 gL) ++ (grW K fM 5 gM)) sz) := by
  refine Met.ofW (cc := b_Se_place) (maxL := 5) (ret := (some .boolean)) (by decide) rfl ?_
  intro p e s m args below meth c s₁ B hml hv
  obtain ⟨rfl, hsz, hP, hK, hD0⟩ := hv
  subst hsz
  have hl := lv_entry [.ref sq, .int p0] (n := 5) (Nat.le_of_ble_eq_true rfl)
  rw [lg_entry_eq]
  generalize (lg_sl [.ref sq, .int p0] ++ List.replicate (5 - (lg_sl [.ref sq, .int p0]).length) Slot.unset).toArray = ls at hl ⊢
  refine w_Se_place_1 (A := va_A ((seW K sq sA sF sLe sMo sAl sRL sRM sLn sKL sKW fF fL fM sAssigned sLeast sMost sCount sAllowed sLengths sKept sKeptLengths sKeptWords) ++ (grW K fF 4 gF) ++ (grW K fL 5 gL) ++ (grW K fM 5 gM)) s.heap.size) (H0 := s.heap) B.exec B.bytes hml (fun w hw => atoms_spec (ws := w0_Se_place) B.pre w (List.mem_cons_of_mem _ hw)) (findClass_of_methodNamed B.named) hK (Nat.le_refl _) (Nat.le_refl _) (Nat.zero_le _) (Nat.zero_le _) (fun q h => Or.inr h) (fun r er pc ls H locs hd hP hD hS => ?_) hf ls hP (hD0.self (sz := s.heap.size)) va_S.rf hl
  subst er
  exact W.zret B.exec B.bytes B.returns (bI_nar _) (fun t ht hW => ⟨⟨rfl, by rw [ht]; exact hP, va_K.moved hW.alike hK, hD⟩, hS.F ht⟩) hS.2.2 hd (hlocks := B.notSynchronized)
end
section
variable {p : Program} {l : Launch} {e : Env} {R : Room} {s : State} {m : MethodId} {args : Array Value} {below : List Frame} {meth : Method} {c : Code} {H : Heap} {locs : List Loc} {cells slots : Nat} {Q : State → Prop} {A : Nat → Prop} {H0 : Heap}
variable {n : Nat} {D : va_G} {K : Nat → ClassId} {sq : Nat} {sA : Nat} {sF : Nat} {sLe : Nat} {sMo : Nat} {sAl : Nat} {sRL : Nat} {sRM : Nat} {sLn : Nat} {sKL : Nat} {sKW : Nat} {fF : Nat → Nat} {fL : Nat → Nat} {fM : Nat → Nat} {sAssigned : Nat → Option Nat} {sLeast : Nat → Int32} {sMost : Nat → Int32} {sCount : Int32} {sAllowed : Nat → Int64} {sLengths : Nat → Int32} {sKept : Bool} {sKeptLengths : Nat → Int32} {sKeptWords : Nat → Int64} {gF : Nat → Nat → Int32} {gL : Nat → Nat → Int32} {gM : Nat → Nat → Int32}
def f_Se_place_2_16 (n : Nat) (v2 : Int64) (v1 : Int32) (sLeast : Nat → Int32) (sMost : Nat → Int32) (sCount : Int32) (sAllowed : Nat → Int64) (gF : Nat → Nat → Int32) (gL : Nat → Nat → Int32) (gM : Nat → Nat → Int32) : Nat → Int32 → (Nat → Int32) → Option ((Bool × (Nat → Int32)) ⊕ (Int32 × (Nat → Int32)))
  | 0, _, _ => none
  | k + 1, v4, sLengths =>
    if 31 < v4 then
      some (.inr (v4, sLengths))
    else
      if (lushr v2 v4) = 0 then
        some (.inr (v4, sLengths))
      else
        if ((lushr v2 v4) &&& 1) = 0 then
          f_Se_place_2_16 n v2 v1 sLeast sMost sCount sAllowed gF gL gM k (v4 + 1) sLengths
        else
          ogd (gin v1 4) <|
          (f_Se_place_1 n (v1 + 1) sLeast sMost sCount sAllowed (upd sLengths v1.toNatClampNeg v4) gF gL gM).bind fun u14 =>
          if u14.1 = true then
            some (.inl (true, u14.2))
          else
            f_Se_place_2_16 n v2 v1 sLeast sMost sCount sAllowed gF gL gM k (v4 + 1) u14.2
set_option maxHeartbeats 4000000 in
set_option maxRecDepth 100000 in
theorem w_Se_place_2_16  {v2 : Int64} {v1 : Int32} (hx : p.tables.exec = Jvm.exec) (hb : c.code = b_Se_place) (hml : c.maxLocals = 5) (hts : ∀ w ∈ gW, w.before args s = true) (hown : s.vm.findClass "RegularSolver$Search" = some m.cls) (hK : va_K D vwCl (tG K) s) (hRf : 5 ≤ R.frames) (hRl : 129 ≤ R.locals) (hRc : cells ≤ R.cells) (hRs : slots ≤ R.slots) (hA : ∀ q, H0.size ≤ q → A q)  {out : (Bool × (Nat → Int32)) ⊕ (Int32 × (Nat → Int32))} (Kr : ∀ (r : Bool × (Nat → Int32)), out = .inl r → ∀ (pc : Nat) (ls : Array Slot) (H : Heap) (locs : List Loc), decode b_Se_place pc = .ok (.ireturn, 1) → va_P D vwCl ((seW K sq sA sF sLe sMo sAl sRL sRM sLn sKL sKW fF fL fM sAssigned sLeast sMost sCount sAllowed r.2 sKept sKeptLengths sKeptWords) ++ (grW K fF 4 gF) ++ (grW K fL 5 gL) ++ (grW K fM 5 gM)) H → va_D A ((seW K sq sA sF sLe sMo sAl sRL sRM sLn sKL sKW fF fL fM sAssigned sLeast sMost sCount sAllowed r.2 sKept sKeptLengths sKeptWords) ++ (grW K fF 4 gF) ++ (grW K fL 5 gL) ++ (grW K fM 5 gM)) → va_S A H0 H locs → W p l e R s m args below meth c H locs cells slots Q (F0 m pc ls [.int (bI r.1)])) (Kx : ∀ (u : Int32 × (Nat → Int32)), out = .inr u → ∀ (ls : Array Slot) (H : Heap) (locs : List Loc), va_P D vwCl ((seW K sq sA sF sLe sMo sAl sRL sRM sLn sKL sKW fF fL fM sAssigned sLeast sMost sCount sAllowed u.2 sKept sKeptLengths sKeptWords) ++ (grW K fF 4 gF) ++ (grW K fL 5 gL) ++ (grW K fM 5 gM)) H → va_D A ((seW K sq sA sF sLe sMo sAl sRL sRM sLn sKL sKW fF fL fM sAssigned sLeast sMost sCount sAllowed u.2 sKept sKeptLengths sKeptWords) ++ (grW K fF 4 gF) ++ (grW K fL 5 gL) ++ (grW K fM 5 gM)) → va_S A H0 H locs → lv_has ls 5 [] → W p l e R s m args below meth c H locs cells slots Q (F0 m 69 ls [])) :
    ∀ (k : Nat) (v4 : Int32) (sLengths : Nat → Int32), f_Se_place_2_16 n v2 v1 sLeast sMost sCount sAllowed gF gL gM k v4 sLengths = some out → ∀ (ls : Array Slot) (H : Heap) (locs : List Loc), va_P D vwCl ((seW K sq sA sF sLe sMo sAl sRL sRM sLn sKL sKW fF fL fM sAssigned sLeast sMost sCount sAllowed sLengths sKept sKeptLengths sKeptWords) ++ (grW K fF 4 gF) ++ (grW K fL 5 gL) ++ (grW K fM 5 gM)) H → va_D A ((seW K sq sA sF sLe sMo sAl sRL sRM sLn sKL sKW fF fL fM sAssigned sLeast sMost sCount sAllowed sLengths sKept sKeptLengths sKeptWords) ++ (grW K fF 4 gF) ++ (grW K fL 5 gL) ++ (grW K fM 5 gM)) → va_S A H0 H locs → lv_has ls 5 [(4, .int v4), (2, .long v2), (0, .ref sq), (1, .int v1)] → W p l e R s m args below meth c H locs cells slots Q (F0 m 16 ls []) := by
  intro k
  induction k with
  | zero => intro _ _ hf; exact nomatch (show none = some out from hf)
  | succ k ih =>
    intro v4 sLengths hf ls H locs hP hD hS hl
    rw [f_Se_place_2_16] at hf
    refine lv_iload hx hb d_Se_place_16 (lv_at hl 0 rfl) ?_
    refine lv_bipush (v := 31) hx hb d_Se_place_18 (by decide) ?_
    refine lv_icmp_gt (tgt := 69) hx hb d_Se_place_20 (by decide) (fun c10 => ?_) (fun c10 => ?_)
    · rw [if_pos c10] at hf
      exact Kx _ (Option.some.inj hf).symm _ _ _ hP hD hS (show lv_has ls 5 [] from lv_sub hl [] rfl)
    · rw [if_neg c10] at hf
      refine lv_lload_n hx hb d_Se_place_23 rfl (lv_at hl 1 rfl) ?_
      refine lv_iload hx hb d_Se_place_24 (lv_at hl 0 rfl) ?_
      refine lv_lushr (v := lushr v2 v4) hx hb d_Se_place_26 rfl ?_
      refine lv_lconst (v := 0) hx hb d_Se_place_27 (by decide) ?_
      refine W.lcmp hx hb d_Se_place_28 ?_
      refine lc_eq (tgt := 69) hx hb d_Se_place_29 (by decide) (fun c11 => ?_) (fun c11 => ?_)
      · rw [if_pos c11] at hf
        exact Kx _ (Option.some.inj hf).symm _ _ _ hP hD hS (show lv_has ls 5 [] from lv_sub hl [] rfl)
      · rw [if_neg c11] at hf
        refine lv_lload_n hx hb d_Se_place_32 rfl (lv_at hl 1 rfl) ?_
        refine lv_iload hx hb d_Se_place_33 (lv_at hl 0 rfl) ?_
        refine lv_lushr (v := lushr v2 v4) hx hb d_Se_place_35 rfl ?_
        refine lv_lconst (v := 1) hx hb d_Se_place_36 (by decide) ?_
        refine lv_land hx hb d_Se_place_37 ?_
        refine lv_lconst (v := 0) hx hb d_Se_place_38 (by decide) ?_
        refine W.lcmp hx hb d_Se_place_39 ?_
        refine lc_eq (tgt := 63) hx hb d_Se_place_40 (by decide) (fun c12 => ?_) (fun c12 => ?_)
        · rw [if_pos c12] at hf
          refine lv_iinc (v := v4 + 1) (lv' := [(4, .int (v4 + 1)), (2, .long v2), (0, .ref sq), (1, .int v1)]) hx hb d_Se_place_63 hl (k := 0) rfl (by first | rfl | (congr 1)) (by decide) rfl (fun ls hl => ?_)
          refine lv_goto (tgt := 16) hx hb d_Se_place_66 (by decide) ?_
          exact ih _ _ hf _ _ _ hP hD hS (show lv_has ls 5 [(4, .int (v4 + 1)), (2, .long v2), (0, .ref sq), (1, .int v1)] from lv_sub hl [0, 1, 2, 3] rfl)
        · rw [if_neg c12] at hf
          refine lv_aload_n hx hb d_Se_place_43 rfl (lv_at hl 2 rfl) ?_
          refine va_get (D := D) (ci := 9) (v := .ref sLn) (C := R_Se) (T := T_Se) (N := 12) hx hb hts in_Se hown hK hP 0 rfl rfl 8 (by decide) (hts _ fl_Se_43) (fun _ h9 => h9) rfl d_Se_place_44 ?_
          refine lv_iload_n hx hb d_Se_place_47 rfl (lv_at hl 3 rfl) ?_
          refine lv_iload hx hb d_Se_place_48 (lv_at hl 0 rfl) ?_
          obtain ⟨g13, hf⟩ := ogi hf
          refine va_iast hx hb hK hP hD hS 8 0 rfl rfl (gin_in g13) d_Se_place_50 (fun H locs hP hD hS => ?_)
          have hP : va_P D vwCl ((seW K sq sA sF sLe sMo sAl sRL sRM sLn sKL sKW fF fL fM sAssigned sLeast sMost sCount sAllowed (upd sLengths v1.toNatClampNeg v4) sKept sKeptLengths sKeptWords) ++ (grW K fF 4 gF) ++ (grW K fL 5 gL) ++ (grW K fM 5 gM)) H := hP
          have hD : va_D A ((seW K sq sA sF sLe sMo sAl sRL sRM sLn sKL sKW fF fL fM sAssigned sLeast sMost sCount sAllowed (upd sLengths v1.toNatClampNeg v4) sKept sKeptLengths sKeptWords) ++ (grW K fF 4 gF) ++ (grW K fL 5 gL) ++ (grW K fM 5 gM)) := hD
          refine lv_aload_n hx hb d_Se_place_51 rfl (lv_at hl 2 rfl) ?_
          refine lv_iload_n hx hb d_Se_place_52 rfl (lv_at hl 3 rfl) ?_
          refine lv_iconst (v := 1) hx hb d_Se_place_53 (by decide) ?_
          refine lv_iadd hx hb d_Se_place_54 ?_
          obtain ⟨u14, eu14, hf⟩ := obd hf
          refine w_callA (va_runV (As := [.int (v1 + 1)]) (rest := []) ⟨hx, hb, hml, hown, hts⟩ (Met_G (c_Se_place_1 l H.size eu14)) (gV 1 hts cd_Se_place ml_Se_78 im_Se_place se_Se_place ini_Se rfl rfl pd_Se_place ⟨Nat.le_trans (Nat.le_of_ble_eq_true rfl) hRf, Nat.le_trans (Nat.le_of_ble_eq_true rfl) hRl⟩) ⟨wPre_blind, va_recv hK (vaL (vaL (vaL hP))) (ci := 9) (q0 := 0) rfl rfl, wPre_of hP hK hD⟩ rfl rfl hl.1 rfl (lv_room (Nat.le_of_ble_eq_true rfl)) d_Se_place_55 ⟨hRc, hRs⟩) hD hS hA (fun g15 H1 locs hP1 hD1 hk1 hS1 => ?_)
          obtain ⟨hP, hD⟩ : _ ∧ _ := ⟨hP1, hD1.weaken (fun _ q _ h => va_sub hD hS hA q.1 h)⟩
          have hS := hS1
          generalize H1 = H at hP hS ⊢
          have hP : va_P D vwCl ((seW K sq sA sF sLe sMo sAl sRL sRM sLn sKL sKW fF fL fM sAssigned sLeast sMost sCount sAllowed u14.2 sKept sKeptLengths sKeptWords) ++ (grW K fF 4 gF) ++ (grW K fL 5 gL) ++ (grW K fM 5 gM)) H := hP
          have hD : va_D A ((seW K sq sA sF sLe sMo sAl sRL sRM sLn sKL sKW fF fL fM sAssigned sLeast sMost sCount sAllowed u14.2 sKept sKeptLengths sKeptWords) ++ (grW K fF 4 gF) ++ (grW K fL 5 gL) ++ (grW K fM 5 gM)) := hD
          refine bz_eq (tgt := 63) hx hb d_Se_place_58 (by decide) (fun c16 => ?_) (fun c16 => ?_)
          · rw [if_neg c16] at hf
            refine lv_iinc (v := v4 + 1) (lv' := [(4, .int (v4 + 1)), (2, .long v2), (0, .ref sq), (1, .int v1)]) hx hb d_Se_place_63 hl (k := 0) rfl (by first | rfl | (congr 1)) (by decide) rfl (fun ls hl => ?_)
            refine lv_goto (tgt := 16) hx hb d_Se_place_66 (by decide) ?_
            exact ih _ _ hf _ _ _ hP hD hS (show lv_has ls 5 [(4, .int (v4 + 1)), (2, .long v2), (0, .ref sq), (1, .int v1)] from lv_sub hl [0, 1, 2, 3] rfl)
          · rw [if_pos c16] at hf
            refine lv_iconst (v := 1) hx hb d_Se_place_61 (by decide) ?_
            exact Kr _ (Option.some.inj hf).symm _ _ _ _ d_Se_place_62 hP hD hS
def f_Se_place_2 (n : Nat) (p0 : Int32) (sLeast : Nat → Int32) (sMost : Nat → Int32) (sCount : Int32) (sAllowed : Nat → Int64) (sLengths : Nat → Int32) (gF : Nat → Nat → Int32) (gL : Nat → Nat → Int32) (gM : Nat → Nat → Int32) : Option (Bool × (Nat → Int32)) :=
  if p0 < 4 then
    (f_Se_openLengths n p0 sLeast sMost sCount sAllowed sLengths gF gL gM).bind fun u2 =>
    (f_Se_place_2_16 n u2 p0 sLeast sMost sCount sAllowed gF gL gM n 0 sLengths).bind fun u17 => u17.elim (fun r => some r) fun x17 =>
    some (false, x17.2)
  else
    some (true, sLengths)
set_option maxHeartbeats 4000000 in
set_option maxRecDepth 100000 in
theorem w_Se_place_2  {p0 : Int32}  (hx : p.tables.exec = Jvm.exec) (hb : c.code = b_Se_place) (hml : c.maxLocals = 5) (hts : ∀ w ∈ gW, w.before args s = true) (hown : s.vm.findClass "RegularSolver$Search" = some m.cls) (hK : va_K D vwCl (tG K) s) (hRf : 5 ≤ R.frames) (hRl : 129 ≤ R.locals) (hRc : cells ≤ R.cells) (hRs : slots ≤ R.slots) (hA : ∀ q, H0.size ≤ q → A q) {out : Bool × (Nat → Int32)} (Kr : ∀ (r : Bool × (Nat → Int32)), out = r → ∀ (pc : Nat) (ls : Array Slot) (H : Heap) (locs : List Loc), decode b_Se_place pc = .ok (.ireturn, 1) → va_P D vwCl ((seW K sq sA sF sLe sMo sAl sRL sRM sLn sKL sKW fF fL fM sAssigned sLeast sMost sCount sAllowed r.2 sKept sKeptLengths sKeptWords) ++ (grW K fF 4 gF) ++ (grW K fL 5 gL) ++ (grW K fM 5 gM)) H → va_D A ((seW K sq sA sF sLe sMo sAl sRL sRM sLn sKL sKW fF fL fM sAssigned sLeast sMost sCount sAllowed r.2 sKept sKeptLengths sKeptWords) ++ (grW K fF 4 gF) ++ (grW K fL 5 gL) ++ (grW K fM 5 gM)) → va_S A H0 H locs → W p l e R s m args below meth c H locs cells slots Q (F0 m pc ls [.int (bI r.1)])) (hf : f_Se_place_2 n p0 sLeast sMost sCount sAllowed sLengths gF gL gM = some out) (ls : Array Slot) (hP : va_P D vwCl ((seW K sq sA sF sLe sMo sAl sRL sRM sLn sKL sKW fF fL fM sAssigned sLeast sMost sCount sAllowed sLengths sKept sKeptLengths sKeptWords) ++ (grW K fF 4 gF) ++ (grW K fL 5 gL) ++ (grW K fM 5 gM)) H) (hD : va_D A ((seW K sq sA sF sLe sMo sAl sRL sRM sLn sKL sKW fF fL fM sAssigned sLeast sMost sCount sAllowed sLengths sKept sKeptLengths sKeptWords) ++ (grW K fF 4 gF) ++ (grW K fL 5 gL) ++ (grW K fM 5 gM))) (hS : va_S A H0 H locs) (hl : lv_has ls 5 [(0, .ref sq), (1, .int p0)]) : W p l e R s m args below meth c H locs cells slots Q (F0 m 0 ls []) := by
  unfold f_Se_place_2 at hf
  refine lv_iload_n hx hb d_Se_place_0 rfl (lv_at hl 1 rfl) ?_
  refine lv_iconst (v := 4) hx hb d_Se_place_1 (by decide) ?_
  refine lv_icmp_lt (tgt := 7) hx hb d_Se_place_2 (by decide) (fun c1 => ?_) (fun c1 => ?_)
  · rw [if_pos c1] at hf
    refine lv_aload_n hx hb d_Se_place_7 rfl (lv_at hl 0 rfl) ?_
    refine lv_iload_n hx hb d_Se_place_8 rfl (lv_at hl 1 rfl) ?_
    obtain ⟨u2, eu2, hf⟩ := obd hf
    refine p_call (W.runV (As := [.int p0]) (rest := []) ⟨hx, hb, hml, hown, hts⟩ (c_Se_openLengths l eu2) (gV 1 hts cd_Se_openLengths ml_Se_97 im_Se_openLengths se_Se_openLengths ini_Se rfl rfl pd_Se_openLengths ⟨Nat.le_trans (Nat.le_of_ble_eq_true rfl) hRf, Nat.le_trans (Nat.le_of_ble_eq_true rfl) hRl⟩) ⟨pPre_blind, va_recv hK (vaL (vaL (vaL hP))) (ci := 9) (q0 := 0) rfl rfl, pPre_of hP hK⟩ rfl rfl hl.1 rfl (lv_room (Nat.le_of_ble_eq_true rfl)) d_Se_place_9 ⟨hRc, hRs⟩) ?_
    refine lv_lstore_n (lv' := [(2, .long u2), (0, .ref sq), (1, .int p0)]) hx hb d_Se_place_12 rfl hl (by decide) rfl (fun ls hl => ?_)
    refine lv_iconst (v := 0) hx hb d_Se_place_13 (by decide) ?_
    refine lv_istore (lv' := [(4, .int 0), (2, .long u2), (0, .ref sq), (1, .int p0)]) hx hb d_Se_place_14 hl (by decide) rfl (fun ls hl => ?_)
    obtain ⟨u17, eu17, hf⟩ := obd hf
    refine w_Se_place_2_16 hx hb hml hts hown hK hRf hRl hRc hRs hA (fun r er pc ls H locs hd hP hD hS => Kr r (by subst er; exact (Option.some.inj hf).symm) pc ls H locs hd hP hD hS) (fun x17 eu ls H locs hP hD hS hl => ?_) _ _ _ eu17 _ _ _ hP hD hS (show lv_has ls 5 [(4, .int 0), (2, .long u2), (0, .ref sq), (1, .int p0)] from lv_sub hl [0, 1, 2, 3] rfl)
    subst eu
    replace hf := oel hf
    refine lv_iconst (v := 0) hx hb d_Se_place_69 (by decide) ?_
    exact Kr _ (Option.some.inj hf).symm _ _ _ _ d_Se_place_70 hP hD hS
  · rw [if_neg c1] at hf
    refine lv_iconst (v := 1) hx hb d_Se_place_5 (by decide) ?_
    exact Kr _ (Option.some.inj hf).symm _ _ _ _ d_Se_place_6 hP hD hS
set_option maxHeartbeats 4000000 in
set_option maxRecDepth 100000 in
theorem c_Se_place_2 (l : Launch)  {p0 : Int32}  {r : Bool × (Nat → Int32)} (sz : Nat) (hf : f_Se_place_2 n p0 sLeast sMost sCount sAllowed sLengths gF gL gM = some r) : Met l y_Se_place w0_Se_place ({ frames := 5, cells := 0, slots := 0, locals := 129 }) (wPre D K [.ref sq, .int p0] ((seW K sq sA sF sLe sMo sAl sRL sRM sLn sKL sKW fF fL fM sAssigned sLeast sMost sCount sAllowed sLengths sKept sKeptLengths sKeptWords) ++ (grW K fF 4 gF) ++ (grW K fL 5 gL) ++ (grW K fM 5 gM)) sz) (wPost D K (some (.int (bI r.1))) ((seW K sq sA sF sLe sMo sAl sRL sRM sLn sKL sKW fF fL fM sAssigned sLeast sMost sCount sAllowed r.2 sKept sKeptLengths sKeptWords) ++ (grW K fF 4 gF) ++ (grW K fL 5 gL) ++ (grW K fM 5 gM)) (va_A ((seW K sq sA sF sLe sMo sAl sRL sRM sLn sKL sKW fF fL fM sAssigned sLeast sMost sCount sAllowed sLengths sKept sKeptLengths sKeptWords) ++ (grW K fF 4 gF) ++ (grW K fL 5 gL) ++ (grW K fM 5 gM)) sz)) 0 0 (va_A ((seW K sq sA sF sLe sMo sAl sRL sRM sLn sKL sKW fF fL fM sAssigned sLeast sMost sCount sAllowed sLengths sKept sKeptLengths sKeptWords) ++ (grW K fF 4 gF) ++ (grW K fL 5 gL) ++ (grW K fM 5 gM)) sz) := by
  refine Met.ofW (cc := b_Se_place) (maxL := 5) (ret := (some .boolean)) (by decide) rfl ?_
  intro p e s m args below meth c s₁ B hml hv
  obtain ⟨rfl, hsz, hP, hK, hD0⟩ := hv
  subst hsz
  have hl := lv_entry [.ref sq, .int p0] (n := 5) (Nat.le_of_ble_eq_true rfl)
  rw [lg_entry_eq]
  generalize (lg_sl [.ref sq, .int p0] ++ List.replicate (5 - (lg_sl [.ref sq, .int p0]).length) Slot.unset).toArray = ls at hl ⊢
  refine w_Se_place_2 (A := va_A ((seW K sq sA sF sLe sMo sAl sRL sRM sLn sKL sKW fF fL fM sAssigned sLeast sMost sCount sAllowed sLengths sKept sKeptLengths sKeptWords) ++ (grW K fF 4 gF) ++ (grW K fL 5 gL) ++ (grW K fM 5 gM)) s.heap.size) (H0 := s.heap) B.exec B.bytes hml (fun w hw => atoms_spec (ws := w0_Se_place) B.pre w (List.mem_cons_of_mem _ hw)) (findClass_of_methodNamed B.named) hK (Nat.le_refl _) (Nat.le_refl _) (Nat.zero_le _) (Nat.zero_le _) (fun q h => Or.inr h) (fun r er pc ls H locs hd hP hD hS => ?_) hf ls hP (hD0.self (sz := s.heap.size)) va_S.rf hl
  subst er
  exact W.zret B.exec B.bytes B.returns (bI_nar _) (fun t ht hW => ⟨⟨rfl, by rw [ht]; exact hP, va_K.moved hW.alike hK, hD⟩, hS.F ht⟩) hS.2.2 hd (hlocks := B.notSynchronized)
end
section
variable {p : Program} {l : Launch} {e : Env} {R : Room} {s : State} {m : MethodId} {args : Array Value} {below : List Frame} {meth : Method} {c : Code} {H : Heap} {locs : List Loc} {cells slots : Nat} {Q : State → Prop} {A : Nat → Prop} {H0 : Heap}
variable {n : Nat} {D : va_G} {K : Nat → ClassId} {sq : Nat} {sA : Nat} {sF : Nat} {sLe : Nat} {sMo : Nat} {sAl : Nat} {sRL : Nat} {sRM : Nat} {sLn : Nat} {sKL : Nat} {sKW : Nat} {fF : Nat → Nat} {fL : Nat → Nat} {fM : Nat → Nat} {sAssigned : Nat → Option Nat} {sLeast : Nat → Int32} {sMost : Nat → Int32} {sCount : Int32} {sAllowed : Nat → Int64} {sLengths : Nat → Int32} {sKept : Bool} {sKeptLengths : Nat → Int32} {sKeptWords : Nat → Int64} {gF : Nat → Nat → Int32} {gL : Nat → Nat → Int32} {gM : Nat → Nat → Int32}
def f_Se_place_3_16 (n : Nat) (v2 : Int64) (v1 : Int32) (sLeast : Nat → Int32) (sMost : Nat → Int32) (sCount : Int32) (sAllowed : Nat → Int64) (gF : Nat → Nat → Int32) (gL : Nat → Nat → Int32) (gM : Nat → Nat → Int32) : Nat → Int32 → (Nat → Int32) → Option ((Bool × (Nat → Int32)) ⊕ (Int32 × (Nat → Int32)))
  | 0, _, _ => none
  | k + 1, v4, sLengths =>
    if 31 < v4 then
      some (.inr (v4, sLengths))
    else
      if (lushr v2 v4) = 0 then
        some (.inr (v4, sLengths))
      else
        if ((lushr v2 v4) &&& 1) = 0 then
          f_Se_place_3_16 n v2 v1 sLeast sMost sCount sAllowed gF gL gM k (v4 + 1) sLengths
        else
          ogd (gin v1 4) <|
          (f_Se_place_2 n (v1 + 1) sLeast sMost sCount sAllowed (upd sLengths v1.toNatClampNeg v4) gF gL gM).bind fun u14 =>
          if u14.1 = true then
            some (.inl (true, u14.2))
          else
            f_Se_place_3_16 n v2 v1 sLeast sMost sCount sAllowed gF gL gM k (v4 + 1) u14.2
set_option maxHeartbeats 4000000 in
set_option maxRecDepth 100000 in
theorem w_Se_place_3_16  {v2 : Int64} {v1 : Int32} (hx : p.tables.exec = Jvm.exec) (hb : c.code = b_Se_place) (hml : c.maxLocals = 5) (hts : ∀ w ∈ gW, w.before args s = true) (hown : s.vm.findClass "RegularSolver$Search" = some m.cls) (hK : va_K D vwCl (tG K) s) (hRf : 6 ≤ R.frames) (hRl : 153 ≤ R.locals) (hRc : cells ≤ R.cells) (hRs : slots ≤ R.slots) (hA : ∀ q, H0.size ≤ q → A q)  {out : (Bool × (Nat → Int32)) ⊕ (Int32 × (Nat → Int32))} (Kr : ∀ (r : Bool × (Nat → Int32)), out = .inl r → ∀ (pc : Nat) (ls : Array Slot) (H : Heap) (locs : List Loc), decode b_Se_place pc = .ok (.ireturn, 1) → va_P D vwCl ((seW K sq sA sF sLe sMo sAl sRL sRM sLn sKL sKW fF fL fM sAssigned sLeast sMost sCount sAllowed r.2 sKept sKeptLengths sKeptWords) ++ (grW K fF 4 gF) ++ (grW K fL 5 gL) ++ (grW K fM 5 gM)) H → va_D A ((seW K sq sA sF sLe sMo sAl sRL sRM sLn sKL sKW fF fL fM sAssigned sLeast sMost sCount sAllowed r.2 sKept sKeptLengths sKeptWords) ++ (grW K fF 4 gF) ++ (grW K fL 5 gL) ++ (grW K fM 5 gM)) → va_S A H0 H locs → W p l e R s m args below meth c H locs cells slots Q (F0 m pc ls [.int (bI r.1)])) (Kx : ∀ (u : Int32 × (Nat → Int32)), out = .inr u → ∀ (ls : Array Slot) (H : Heap) (locs : List Loc), va_P D vwCl ((seW K sq sA sF sLe sMo sAl sRL sRM sLn sKL sKW fF fL fM sAssigned sLeast sMost sCount sAllowed u.2 sKept sKeptLengths sKeptWords) ++ (grW K fF 4 gF) ++ (grW K fL 5 gL) ++ (grW K fM 5 gM)) H → va_D A ((seW K sq sA sF sLe sMo sAl sRL sRM sLn sKL sKW fF fL fM sAssigned sLeast sMost sCount sAllowed u.2 sKept sKeptLengths sKeptWords) ++ (grW K fF 4 gF) ++ (grW K fL 5 gL) ++ (grW K fM 5 gM)) → va_S A H0 H locs → lv_has ls 5 [] → W p l e R s m args below meth c H locs cells slots Q (F0 m 69 ls [])) :
    ∀ (k : Nat) (v4 : Int32) (sLengths : Nat → Int32), f_Se_place_3_16 n v2 v1 sLeast sMost sCount sAllowed gF gL gM k v4 sLengths = some out → ∀ (ls : Array Slot) (H : Heap) (locs : List Loc), va_P D vwCl ((seW K sq sA sF sLe sMo sAl sRL sRM sLn sKL sKW fF fL fM sAssigned sLeast sMost sCount sAllowed sLengths sKept sKeptLengths sKeptWords) ++ (grW K fF 4 gF) ++ (grW K fL 5 gL) ++ (grW K fM 5 gM)) H → va_D A ((seW K sq sA sF sLe sMo sAl sRL sRM sLn sKL sKW fF fL fM sAssigned sLeast sMost sCount sAllowed sLengths sKept sKeptLengths sKeptWords) ++ (grW K fF 4 gF) ++ (grW K fL 5 gL) ++ (grW K fM 5 gM)) → va_S A H0 H locs → lv_has ls 5 [(4, .int v4), (2, .long v2), (0, .ref sq), (1, .int v1)] → W p l e R s m args below meth c H locs cells slots Q (F0 m 16 ls []) := by
  intro k
  induction k with
  | zero => intro _ _ hf; exact nomatch (show none = some out from hf)
  | succ k ih =>
    intro v4 sLengths hf ls H locs hP hD hS hl
    rw [f_Se_place_3_16] at hf
    refine lv_iload hx hb d_Se_place_16 (lv_at hl 0 rfl) ?_
    refine lv_bipush (v := 31) hx hb d_Se_place_18 (by decide) ?_
    refine lv_icmp_gt (tgt := 69) hx hb d_Se_place_20 (by decide) (fun c10 => ?_) (fun c10 => ?_)
    · rw [if_pos c10] at hf
      exact Kx _ (Option.some.inj hf).symm _ _ _ hP hD hS (show lv_has ls 5 [] from lv_sub hl [] rfl)
    · rw [if_neg c10] at hf
      refine lv_lload_n hx hb d_Se_place_23 rfl (lv_at hl 1 rfl) ?_
      refine lv_iload hx hb d_Se_place_24 (lv_at hl 0 rfl) ?_
      refine lv_lushr (v := lushr v2 v4) hx hb d_Se_place_26 rfl ?_
      refine lv_lconst (v := 0) hx hb d_Se_place_27 (by decide) ?_
      refine W.lcmp hx hb d_Se_place_28 ?_
      refine lc_eq (tgt := 69) hx hb d_Se_place_29 (by decide) (fun c11 => ?_) (fun c11 => ?_)
      · rw [if_pos c11] at hf
        exact Kx _ (Option.some.inj hf).symm _ _ _ hP hD hS (show lv_has ls 5 [] from lv_sub hl [] rfl)
      · rw [if_neg c11] at hf
        refine lv_lload_n hx hb d_Se_place_32 rfl (lv_at hl 1 rfl) ?_
        refine lv_iload hx hb d_Se_place_33 (lv_at hl 0 rfl) ?_
        refine lv_lushr (v := lushr v2 v4) hx hb d_Se_place_35 rfl ?_
        refine lv_lconst (v := 1) hx hb d_Se_place_36 (by decide) ?_
        refine lv_land hx hb d_Se_place_37 ?_
        refine lv_lconst (v := 0) hx hb d_Se_place_38 (by decide) ?_
        refine W.lcmp hx hb d_Se_place_39 ?_
        refine lc_eq (tgt := 63) hx hb d_Se_place_40 (by decide) (fun c12 => ?_) (fun c12 => ?_)
        · rw [if_pos c12] at hf
          refine lv_iinc (v := v4 + 1) (lv' := [(4, .int (v4 + 1)), (2, .long v2), (0, .ref sq), (1, .int v1)]) hx hb d_Se_place_63 hl (k := 0) rfl (by first | rfl | (congr 1)) (by decide) rfl (fun ls hl => ?_)
          refine lv_goto (tgt := 16) hx hb d_Se_place_66 (by decide) ?_
          exact ih _ _ hf _ _ _ hP hD hS (show lv_has ls 5 [(4, .int (v4 + 1)), (2, .long v2), (0, .ref sq), (1, .int v1)] from lv_sub hl [0, 1, 2, 3] rfl)
        · rw [if_neg c12] at hf
          refine lv_aload_n hx hb d_Se_place_43 rfl (lv_at hl 2 rfl) ?_
          refine va_get (D := D) (ci := 9) (v := .ref sLn) (C := R_Se) (T := T_Se) (N := 12) hx hb hts in_Se hown hK hP 0 rfl rfl 8 (by decide) (hts _ fl_Se_43) (fun _ h9 => h9) rfl d_Se_place_44 ?_
          refine lv_iload_n hx hb d_Se_place_47 rfl (lv_at hl 3 rfl) ?_
          refine lv_iload hx hb d_Se_place_48 (lv_at hl 0 rfl) ?_
          obtain ⟨g13, hf⟩ := ogi hf
          refine va_iast hx hb hK hP hD hS 8 0 rfl rfl (gin_in g13) d_Se_place_50 (fun H locs hP hD hS => ?_)
          have hP : va_P D vwCl ((seW K sq sA sF sLe sMo sAl sRL sRM sLn sKL sKW fF fL fM sAssigned sLeast sMost sCount sAllowed (upd sLengths v1.toNatClampNeg v4) sKept sKeptLengths sKeptWords) ++ (grW K fF 4 gF) ++ (grW K fL 5 gL) ++ (grW K fM 5 gM)) H := hP
          have hD : va_D A ((seW K sq sA sF sLe sMo sAl sRL sRM sLn sKL sKW fF fL fM sAssigned sLeast sMost sCount sAllowed (upd sLengths v1.toNatClampNeg v4) sKept sKeptLengths sKeptWords) ++ (grW K fF 4 gF) ++ (grW K fL 5 gL) ++ (grW K fM 5 gM)) := hD
          refine lv_aload_n hx hb d_Se_place_51 rfl (lv_at hl 2 rfl) ?_
          refine lv_iload_n hx hb d_Se_place_52 rfl (lv_at hl 3 rfl) ?_
          refine lv_iconst (v := 1) hx hb d_Se_place_53 (by decide) ?_
          refine lv_iadd hx hb d_Se_place_54 ?_
          obtain ⟨u14, eu14, hf⟩ := obd hf
          refine w_callA (va_runV (As := [.int (v1 + 1)]) (rest := []) ⟨hx, hb, hml, hown, hts⟩ (Met_G (c_Se_place_2 l H.size eu14)) (gV 1 hts cd_Se_place ml_Se_78 im_Se_place se_Se_place ini_Se rfl rfl pd_Se_place ⟨Nat.le_trans (Nat.le_of_ble_eq_true rfl) hRf, Nat.le_trans (Nat.le_of_ble_eq_true rfl) hRl⟩) ⟨wPre_blind, va_recv hK (vaL (vaL (vaL hP))) (ci := 9) (q0 := 0) rfl rfl, wPre_of hP hK hD⟩ rfl rfl hl.1 rfl (lv_room (Nat.le_of_ble_eq_true rfl)) d_Se_place_55 ⟨hRc, hRs⟩) hD hS hA (fun g15 H1 locs hP1 hD1 hk1 hS1 => ?_)
          obtain ⟨hP, hD⟩ : _ ∧ _ := ⟨hP1, hD1.weaken (fun _ q _ h => va_sub hD hS hA q.1 h)⟩
          have hS := hS1
          generalize H1 = H at hP hS ⊢
          have hP : va_P D vwCl ((seW K sq sA sF sLe sMo sAl sRL sRM sLn sKL sKW fF fL fM sAssigned sLeast sMost sCount sAllowed u14.2 sKept sKeptLengths sKeptWords) ++ (grW K fF 4 gF) ++ (grW K fL 5 gL) ++ (grW K fM 5 gM)) H := hP
          have hD : va_D A ((seW K sq sA sF sLe sMo sAl sRL sRM sLn sKL sKW fF fL fM sAssigned sLeast sMost sCount sAllowed u14.2 sKept sKeptLengths sKeptWords) ++ (grW K fF 4 gF) ++ (grW K fL 5 gL) ++ (grW K fM 5 gM)) := hD
          refine bz_eq (tgt := 63) hx hb d_Se_place_58 (by decide) (fun c16 => ?_) (fun c16 => ?_)
          · rw [if_neg c16] at hf
            refine lv_iinc (v := v4 + 1) (lv' := [(4, .int (v4 + 1)), (2, .long v2), (0, .ref sq), (1, .int v1)]) hx hb d_Se_place_63 hl (k := 0) rfl (by first | rfl | (congr 1)) (by decide) rfl (fun ls hl => ?_)
            refine lv_goto (tgt := 16) hx hb d_Se_place_66 (by decide) ?_
            exact ih _ _ hf _ _ _ hP hD hS (show lv_has ls 5 [(4, .int (v4 + 1)), (2, .long v2), (0, .ref sq), (1, .int v1)] from lv_sub hl [0, 1, 2, 3] rfl)
          · rw [if_pos c16] at hf
            refine lv_iconst (v := 1) hx hb d_Se_place_61 (by decide) ?_
            exact Kr _ (Option.some.inj hf).symm _ _ _ _ d_Se_place_62 hP hD hS
def f_Se_place_3 (n : Nat) (p0 : Int32) (sLeast : Nat → Int32) (sMost : Nat → Int32) (sCount : Int32) (sAllowed : Nat → Int64) (sLengths : Nat → Int32) (gF : Nat → Nat → Int32) (gL : Nat → Nat → Int32) (gM : Nat → Nat → Int32) : Option (Bool × (Nat → Int32)) :=
  if p0 < 4 then
    (f_Se_openLengths n p0 sLeast sMost sCount sAllowed sLengths gF gL gM).bind fun u2 =>
    (f_Se_place_3_16 n u2 p0 sLeast sMost sCount sAllowed gF gL gM n 0 sLengths).bind fun u17 => u17.elim (fun r => some r) fun x17 =>
    some (false, x17.2)
  else
    some (true, sLengths)
set_option maxHeartbeats 4000000 in
set_option maxRecDepth 100000 in
theorem w_Se_place_3  {p0 : Int32}  (hx : p.tables.exec = Jvm.exec) (hb : c.code = b_Se_place) (hml : c.maxLocals = 5) (hts : ∀ w ∈ gW, w.before args s = true) (hown : s.vm.findClass "RegularSolver$Search" = some m.cls) (hK : va_K D vwCl (tG K) s) (hRf : 6 ≤ R.frames) (hRl : 153 ≤ R.locals) (hRc : cells ≤ R.cells) (hRs : slots ≤ R.slots) (hA : ∀ q, H0.size ≤ q → A q) {out : Bool × (Nat → Int32)} (Kr : ∀ (r : Bool × (Nat → Int32)), out = r → ∀ (pc : Nat) (ls : Array Slot) (H : Heap) (locs : List Loc), decode b_Se_place pc = .ok (.ireturn, 1) → va_P D vwCl ((seW K sq sA sF sLe sMo sAl sRL sRM sLn sKL sKW fF fL fM sAssigned sLeast sMost sCount sAllowed r.2 sKept sKeptLengths sKeptWords) ++ (grW K fF 4 gF) ++ (grW K fL 5 gL) ++ (grW K fM 5 gM)) H → va_D A ((seW K sq sA sF sLe sMo sAl sRL sRM sLn sKL sKW fF fL fM sAssigned sLeast sMost sCount sAllowed r.2 sKept sKeptLengths sKeptWords) ++ (grW K fF 4 gF) ++ (grW K fL 5 gL) ++ (grW K fM 5 gM)) → va_S A H0 H locs → W p l e R s m args below meth c H locs cells slots Q (F0 m pc ls [.int (bI r.1)])) (hf : f_Se_place_3 n p0 sLeast sMost sCount sAllowed sLengths gF gL gM = some out) (ls : Array Slot) (hP : va_P D vwCl ((seW K sq sA sF sLe sMo sAl sRL sRM sLn sKL sKW fF fL fM sAssigned sLeast sMost sCount sAllowed sLengths sKept sKeptLengths sKeptWords) ++ (grW K fF 4 gF) ++ (grW K fL 5 gL) ++ (grW K fM 5 gM)) H) (hD : va_D A ((seW K sq sA sF sLe sMo sAl sRL sRM sLn sKL sKW fF fL fM sAssigned sLeast sMost sCount sAllowed sLengths sKept sKeptLengths sKeptWords) ++ (grW K fF 4 gF) ++ (grW K fL 5 gL) ++ (grW K fM 5 gM))) (hS : va_S A H0 H locs) (hl : lv_has ls 5 [(0, .ref sq), (1, .int p0)]) : W p l e R s m args below meth c H locs cells slots Q (F0 m 0 ls []) := by
  unfold f_Se_place_3 at hf
  refine lv_iload_n hx hb d_Se_place_0 rfl (lv_at hl 1 rfl) ?_
  refine lv_iconst (v := 4) hx hb d_Se_place_1 (by decide) ?_
  refine lv_icmp_lt (tgt := 7) hx hb d_Se_place_2 (by decide) (fun c1 => ?_) (fun c1 => ?_)
  · rw [if_pos c1] at hf
    refine lv_aload_n hx hb d_Se_place_7 rfl (lv_at hl 0 rfl) ?_
    refine lv_iload_n hx hb d_Se_place_8 rfl (lv_at hl 1 rfl) ?_
    obtain ⟨u2, eu2, hf⟩ := obd hf
    refine p_call (W.runV (As := [.int p0]) (rest := []) ⟨hx, hb, hml, hown, hts⟩ (c_Se_openLengths l eu2) (gV 1 hts cd_Se_openLengths ml_Se_97 im_Se_openLengths se_Se_openLengths ini_Se rfl rfl pd_Se_openLengths ⟨Nat.le_trans (Nat.le_of_ble_eq_true rfl) hRf, Nat.le_trans (Nat.le_of_ble_eq_true rfl) hRl⟩) ⟨pPre_blind, va_recv hK (vaL (vaL (vaL hP))) (ci := 9) (q0 := 0) rfl rfl, pPre_of hP hK⟩ rfl rfl hl.1 rfl (lv_room (Nat.le_of_ble_eq_true rfl)) d_Se_place_9 ⟨hRc, hRs⟩) ?_
    refine lv_lstore_n (lv' := [(2, .long u2), (0, .ref sq), (1, .int p0)]) hx hb d_Se_place_12 rfl hl (by decide) rfl (fun ls hl => ?_)
    refine lv_iconst (v := 0) hx hb d_Se_place_13 (by decide) ?_
    refine lv_istore (lv' := [(4, .int 0), (2, .long u2), (0, .ref sq), (1, .int p0)]) hx hb d_Se_place_14 hl (by decide) rfl (fun ls hl => ?_)
    obtain ⟨u17, eu17, hf⟩ := obd hf
    refine w_Se_place_3_16 hx hb hml hts hown hK hRf hRl hRc hRs hA (fun r er pc ls H locs hd hP hD hS => Kr r (by subst er; exact (Option.some.inj hf).symm) pc ls H locs hd hP hD hS) (fun x17 eu ls H locs hP hD hS hl => ?_) _ _ _ eu17 _ _ _ hP hD hS (show lv_has ls 5 [(4, .int 0), (2, .long u2), (0, .ref sq), (1, .int p0)] from lv_sub hl [0, 1, 2, 3] rfl)
    subst eu
    replace hf := oel hf
    refine lv_iconst (v := 0) hx hb d_Se_place_69 (by decide) ?_
    exact Kr _ (Option.some.inj hf).symm _ _ _ _ d_Se_place_70 hP hD hS
  · rw [if_neg c1] at hf
    refine lv_iconst (v := 1) hx hb d_Se_place_5 (by decide) ?_
    exact Kr _ (Option.some.inj hf).symm _ _ _ _ d_Se_place_6 hP hD hS
set_option maxHeartbeats 4000000 in
set_option maxRecDepth 100000 in
theorem c_Se_place_3 (l : Launch)  {p0 : Int32}  {r : Bool × (Nat → Int32)} (sz : Nat) (hf : f_Se_place_3 n p0 sLeast sMost sCount sAllowed sLengths gF gL gM = some r) : Met l y_Se_place w0_Se_place ({ frames := 6, cells := 0, slots := 0, locals := 153 }) (wPre D K [.ref sq, .int p0] ((seW K sq sA sF sLe sMo sAl sRL sRM sLn sKL sKW fF fL fM sAssigned sLeast sMost sCount sAllowed sLengths sKept sKeptLengths sKeptWords) ++ (grW K fF 4 gF) ++ (grW K fL 5 gL) ++ (grW K fM 5 gM)) sz) (wPost D K (some (.int (bI r.1))) ((seW K sq sA sF sLe sMo sAl sRL sRM sLn sKL sKW fF fL fM sAssigned sLeast sMost sCount sAllowed r.2 sKept sKeptLengths sKeptWords) ++ (grW K fF 4 gF) ++ (grW K fL 5 gL) ++ (grW K fM 5 gM)) (va_A ((seW K sq sA sF sLe sMo sAl sRL sRM sLn sKL sKW fF fL fM sAssigned sLeast sMost sCount sAllowed sLengths sKept sKeptLengths sKeptWords) ++ (grW K fF 4 gF) ++ (grW K fL 5 gL) ++ (grW K fM 5 gM)) sz)) 0 0 (va_A ((seW K sq sA sF sLe sMo sAl sRL sRM sLn sKL sKW fF fL fM sAssigned sLeast sMost sCount sAllowed sLengths sKept sKeptLengths sKeptWords) ++ (grW K fF 4 gF) ++ (grW K fL 5 gL) ++ (grW K fM 5 gM)) sz) := by
  refine Met.ofW (cc := b_Se_place) (maxL := 5) (ret := (some .boolean)) (by decide) rfl ?_
  intro p e s m args below meth c s₁ B hml hv
  obtain ⟨rfl, hsz, hP, hK, hD0⟩ := hv
  subst hsz
  have hl := lv_entry [.ref sq, .int p0] (n := 5) (Nat.le_of_ble_eq_true rfl)
  rw [lg_entry_eq]
  generalize (lg_sl [.ref sq, .int p0] ++ List.replicate (5 - (lg_sl [.ref sq, .int p0]).length) Slot.unset).toArray = ls at hl ⊢
  refine w_Se_place_3 (A := va_A ((seW K sq sA sF sLe sMo sAl sRL sRM sLn sKL sKW fF fL fM sAssigned sLeast sMost sCount sAllowed sLengths sKept sKeptLengths sKeptWords) ++ (grW K fF 4 gF) ++ (grW K fL 5 gL) ++ (grW K fM 5 gM)) s.heap.size) (H0 := s.heap) B.exec B.bytes hml (fun w hw => atoms_spec (ws := w0_Se_place) B.pre w (List.mem_cons_of_mem _ hw)) (findClass_of_methodNamed B.named) hK (Nat.le_refl _) (Nat.le_refl _) (Nat.zero_le _) (Nat.zero_le _) (fun q h => Or.inr h) (fun r er pc ls H locs hd hP hD hS => ?_) hf ls hP (hD0.self (sz := s.heap.size)) va_S.rf hl
  subst er
  exact W.zret B.exec B.bytes B.returns (bI_nar _) (fun t ht hW => ⟨⟨rfl, by rw [ht]; exact hP, va_K.moved hW.alike hK, hD⟩, hS.F ht⟩) hS.2.2 hd (hlocks := B.notSynchronized)
end
section
variable {p : Program} {l : Launch} {e : Env} {R : Room} {s : State} {m : MethodId} {args : Array Value} {below : List Frame} {meth : Method} {c : Code} {H : Heap} {locs : List Loc} {cells slots : Nat} {Q : State → Prop} {A : Nat → Prop} {H0 : Heap}
variable {n : Nat} {D : va_G} {K : Nat → ClassId} {sq : Nat} {sA : Nat} {sF : Nat} {sLe : Nat} {sMo : Nat} {sAl : Nat} {sRL : Nat} {sRM : Nat} {sLn : Nat} {sKL : Nat} {sKW : Nat} {fF : Nat → Nat} {fL : Nat → Nat} {fM : Nat → Nat} {sAssigned : Nat → Option Nat} {sLeast : Nat → Int32} {sMost : Nat → Int32} {sCount : Int32} {sAllowed : Nat → Int64} {sLengths : Nat → Int32} {sKept : Bool} {sKeptLengths : Nat → Int32} {sKeptWords : Nat → Int64} {gF : Nat → Nat → Int32} {gL : Nat → Nat → Int32} {gM : Nat → Nat → Int32}
def f_Se_place_4_16 (n : Nat) (v2 : Int64) (v1 : Int32) (sLeast : Nat → Int32) (sMost : Nat → Int32) (sCount : Int32) (sAllowed : Nat → Int64) (gF : Nat → Nat → Int32) (gL : Nat → Nat → Int32) (gM : Nat → Nat → Int32) : Nat → Int32 → (Nat → Int32) → Option ((Bool × (Nat → Int32)) ⊕ (Int32 × (Nat → Int32)))
  | 0, _, _ => none
  | k + 1, v4, sLengths =>
    if 31 < v4 then
      some (.inr (v4, sLengths))
    else
      if (lushr v2 v4) = 0 then
        some (.inr (v4, sLengths))
      else
        if ((lushr v2 v4) &&& 1) = 0 then
          f_Se_place_4_16 n v2 v1 sLeast sMost sCount sAllowed gF gL gM k (v4 + 1) sLengths
        else
          ogd (gin v1 4) <|
          (f_Se_place_3 n (v1 + 1) sLeast sMost sCount sAllowed (upd sLengths v1.toNatClampNeg v4) gF gL gM).bind fun u14 =>
          if u14.1 = true then
            some (.inl (true, u14.2))
          else
            f_Se_place_4_16 n v2 v1 sLeast sMost sCount sAllowed gF gL gM k (v4 + 1) u14.2
set_option maxHeartbeats 4000000 in
set_option maxRecDepth 100000 in
theorem w_Se_place_4_16  {v2 : Int64} {v1 : Int32} (hx : p.tables.exec = Jvm.exec) (hb : c.code = b_Se_place) (hml : c.maxLocals = 5) (hts : ∀ w ∈ gW, w.before args s = true) (hown : s.vm.findClass "RegularSolver$Search" = some m.cls) (hK : va_K D vwCl (tG K) s) (hRf : 7 ≤ R.frames) (hRl : 177 ≤ R.locals) (hRc : cells ≤ R.cells) (hRs : slots ≤ R.slots) (hA : ∀ q, H0.size ≤ q → A q)  {out : (Bool × (Nat → Int32)) ⊕ (Int32 × (Nat → Int32))} (Kr : ∀ (r : Bool × (Nat → Int32)), out = .inl r → ∀ (pc : Nat) (ls : Array Slot) (H : Heap) (locs : List Loc), decode b_Se_place pc = .ok (.ireturn, 1) → va_P D vwCl ((seW K sq sA sF sLe sMo sAl sRL sRM sLn sKL sKW fF fL fM sAssigned sLeast sMost sCount sAllowed r.2 sKept sKeptLengths sKeptWords) ++ (grW K fF 4 gF) ++ (grW K fL 5 gL) ++ (grW K fM 5 gM)) H → va_D A ((seW K sq sA sF sLe sMo sAl sRL sRM sLn sKL sKW fF fL fM sAssigned sLeast sMost sCount sAllowed r.2 sKept sKeptLengths sKeptWords) ++ (grW K fF 4 gF) ++ (grW K fL 5 gL) ++ (grW K fM 5 gM)) → va_S A H0 H locs → W p l e R s m args below meth c H locs cells slots Q (F0 m pc ls [.int (bI r.1)])) (Kx : ∀ (u : Int32 × (Nat → Int32)), out = .inr u → ∀ (ls : Array Slot) (H : Heap) (locs : List Loc), va_P D vwCl ((seW K sq sA sF sLe sMo sAl sRL sRM sLn sKL sKW fF fL fM sAssigned sLeast sMost sCount sAllowed u.2 sKept sKeptLengths sKeptWords) ++ (grW K fF 4 gF) ++ (grW K fL 5 gL) ++ (grW K fM 5 gM)) H → va_D A ((seW K sq sA sF sLe sMo sAl sRL sRM sLn sKL sKW fF fL fM sAssigned sLeast sMost sCount sAllowed u.2 sKept sKeptLengths sKeptWords) ++ (grW K fF 4 gF) ++ (grW K fL 5 gL) ++ (grW K fM 5 gM)) → va_S A H0 H locs → lv_has ls 5 [] → W p l e R s m args below meth c H locs cells slots Q (F0 m 69 ls [])) :
    ∀ (k : Nat) (v4 : Int32) (sLengths : Nat → Int32), f_Se_place_4_16 n v2 v1 sLeast sMost sCount sAllowed gF gL gM k v4 sLengths = some out → ∀ (ls : Array Slot) (H : Heap) (locs : List Loc), va_P D vwCl ((seW K sq sA sF sLe sMo sAl sRL sRM sLn sKL sKW fF fL fM sAssigned sLeast sMost sCount sAllowed sLengths sKept sKeptLengths sKeptWords) ++ (grW K fF 4 gF) ++ (grW K fL 5 gL) ++ (grW K fM 5 gM)) H → va_D A ((seW K sq sA sF sLe sMo sAl sRL sRM sLn sKL sKW fF fL fM sAssigned sLeast sMost sCount sAllowed sLengths sKept sKeptLengths sKeptWords) ++ (grW K fF 4 gF) ++ (grW K fL 5 gL) ++ (grW K fM 5 gM)) → va_S A H0 H locs → lv_has ls 5 [(4, .int v4), (2, .long v2), (0, .ref sq), (1, .int v1)] → W p l e R s m args below meth c H locs cells slots Q (F0 m 16 ls []) := by
  intro k
  induction k with
  | zero => intro _ _ hf; exact nomatch (show none = some out from hf)
  | succ k ih =>
    intro v4 sLengths hf ls H locs hP hD hS hl
    rw [f_Se_place_4_16] at hf
    refine lv_iload hx hb d_Se_place_16 (lv_at hl 0 rfl) ?_
    refine lv_bipush (v := 31) hx hb d_Se_place_18 (by decide) ?_
    refine lv_icmp_gt (tgt := 69) hx hb d_Se_place_20 (by decide) (fun c10 => ?_) (fun c10 => ?_)
    · rw [if_pos c10] at hf
      exact Kx _ (Option.some.inj hf).symm _ _ _ hP hD hS (show lv_has ls 5 [] from lv_sub hl [] rfl)
    · rw [if_neg c10] at hf
      refine lv_lload_n hx hb d_Se_place_23 rfl (lv_at hl 1 rfl) ?_
      refine lv_iload hx hb d_Se_place_24 (lv_at hl 0 rfl) ?_
      refine lv_lushr (v := lushr v2 v4) hx hb d_Se_place_26 rfl ?_
      refine lv_lconst (v := 0) hx hb d_Se_place_27 (by decide) ?_
      refine W.lcmp hx hb d_Se_place_28 ?_
      refine lc_eq (tgt := 69) hx hb d_Se_place_29 (by decide) (fun c11 => ?_) (fun c11 => ?_)
      · rw [if_pos c11] at hf
        exact Kx _ (Option.some.inj hf).symm _ _ _ hP hD hS (show lv_has ls 5 [] from lv_sub hl [] rfl)
      · rw [if_neg c11] at hf
        refine lv_lload_n hx hb d_Se_place_32 rfl (lv_at hl 1 rfl) ?_
        refine lv_iload hx hb d_Se_place_33 (lv_at hl 0 rfl) ?_
        refine lv_lushr (v := lushr v2 v4) hx hb d_Se_place_35 rfl ?_
        refine lv_lconst (v := 1) hx hb d_Se_place_36 (by decide) ?_
        refine lv_land hx hb d_Se_place_37 ?_
        refine lv_lconst (v := 0) hx hb d_Se_place_38 (by decide) ?_
        refine W.lcmp hx hb d_Se_place_39 ?_
        refine lc_eq (tgt := 63) hx hb d_Se_place_40 (by decide) (fun c12 => ?_) (fun c12 => ?_)
        · rw [if_pos c12] at hf
          refine lv_iinc (v := v4 + 1) (lv' := [(4, .int (v4 + 1)), (2, .long v2), (0, .ref sq), (1, .int v1)]) hx hb d_Se_place_63 hl (k := 0) rfl (by first | rfl | (congr 1)) (by decide) rfl (fun ls hl => ?_)
          refine lv_goto (tgt := 16) hx hb d_Se_place_66 (by decide) ?_
          exact ih _ _ hf _ _ _ hP hD hS (show lv_has ls 5 [(4, .int (v4 + 1)), (2, .long v2), (0, .ref sq), (1, .int v1)] from lv_sub hl [0, 1, 2, 3] rfl)
        · rw [if_neg c12] at hf
          refine lv_aload_n hx hb d_Se_place_43 rfl (lv_at hl 2 rfl) ?_
          refine va_get (D := D) (ci := 9) (v := .ref sLn) (C := R_Se) (T := T_Se) (N := 12) hx hb hts in_Se hown hK hP 0 rfl rfl 8 (by decide) (hts _ fl_Se_43) (fun _ h9 => h9) rfl d_Se_place_44 ?_
          refine lv_iload_n hx hb d_Se_place_47 rfl (lv_at hl 3 rfl) ?_
          refine lv_iload hx hb d_Se_place_48 (lv_at hl 0 rfl) ?_
          obtain ⟨g13, hf⟩ := ogi hf
          refine va_iast hx hb hK hP hD hS 8 0 rfl rfl (gin_in g13) d_Se_place_50 (fun H locs hP hD hS => ?_)
          have hP : va_P D vwCl ((seW K sq sA sF sLe sMo sAl sRL sRM sLn sKL sKW fF fL fM sAssigned sLeast sMost sCount sAllowed (upd sLengths v1.toNatClampNeg v4) sKept sKeptLengths sKeptWords) ++ (grW K fF 4 gF) ++ (grW K fL 5 gL) ++ (grW K fM 5 gM)) H := hP
          have hD : va_D A ((seW K sq sA sF sLe sMo sAl sRL sRM sLn sKL sKW fF fL fM sAssigned sLeast sMost sCount sAllowed (upd sLengths v1.toNatClampNeg v4) sKept sKeptLengths sKeptWords) ++ (grW K fF 4 gF) ++ (grW K fL 5 gL) ++ (grW K fM 5 gM)) := hD
          refine lv_aload_n hx hb d_Se_place_51 rfl (lv_at hl 2 rfl) ?_
          refine lv_iload_n hx hb d_Se_place_52 rfl (lv_at hl 3 rfl) ?_
          refine lv_iconst (v := 1) hx hb d_Se_place_53 (by decide) ?_
          refine lv_iadd hx hb d_Se_place_54 ?_
          obtain ⟨u14, eu14, hf⟩ := obd hf
          refine w_callA (va_runV (As := [.int (v1 + 1)]) (rest := []) ⟨hx, hb, hml, hown, hts⟩ (Met_G (c_Se_place_3 l H.size eu14)) (gV 1 hts cd_Se_place ml_Se_78 im_Se_place se_Se_place ini_Se rfl rfl pd_Se_place ⟨Nat.le_trans (Nat.le_of_ble_eq_true rfl) hRf, Nat.le_trans (Nat.le_of_ble_eq_true rfl) hRl⟩) ⟨wPre_blind, va_recv hK (vaL (vaL (vaL hP))) (ci := 9) (q0 := 0) rfl rfl, wPre_of hP hK hD⟩ rfl rfl hl.1 rfl (lv_room (Nat.le_of_ble_eq_true rfl)) d_Se_place_55 ⟨hRc, hRs⟩) hD hS hA (fun g15 H1 locs hP1 hD1 hk1 hS1 => ?_)
          obtain ⟨hP, hD⟩ : _ ∧ _ := ⟨hP1, hD1.weaken (fun _ q _ h => va_sub hD hS hA q.1 h)⟩
          have hS := hS1
          generalize H1 = H at hP hS ⊢
          have hP : va_P D vwCl ((seW K sq sA sF sLe sMo sAl sRL sRM sLn sKL sKW fF fL fM sAssigned sLeast sMost sCount sAllowed u14.2 sKept sKeptLengths sKeptWords) ++ (grW K fF 4 gF) ++ (grW K fL 5 gL) ++ (grW K fM 5 gM)) H := hP
          have hD : va_D A ((seW K sq sA sF sLe sMo sAl sRL sRM sLn sKL sKW fF fL fM sAssigned sLeast sMost sCount sAllowed u14.2 sKept sKeptLengths sKeptWords) ++ (grW K fF 4 gF) ++ (grW K fL 5 gL) ++ (grW K fM 5 gM)) := hD
          refine bz_eq (tgt := 63) hx hb d_Se_place_58 (by decide) (fun c16 => ?_) (fun c16 => ?_)
          · rw [if_neg c16] at hf
            refine lv_iinc (v := v4 + 1) (lv' := [(4, .int (v4 + 1)), (2, .long v2), (0, .ref sq), (1, .int v1)]) hx hb d_Se_place_63 hl (k := 0) rfl (by first | rfl | (congr 1)) (by decide) rfl (fun ls hl => ?_)
            refine lv_goto (tgt := 16) hx hb d_Se_place_66 (by decide) ?_
            exact ih _ _ hf _ _ _ hP hD hS (show lv_has ls 5 [(4, .int (v4 + 1)), (2, .long v2), (0, .ref sq), (1, .int v1)] from lv_sub hl [0, 1, 2, 3] rfl)
          · rw [if_pos c16] at hf
            refine lv_iconst (v := 1) hx hb d_Se_place_61 (by decide) ?_
            exact Kr _ (Option.some.inj hf).symm _ _ _ _ d_Se_place_62 hP hD hS
def f_Se_place_4 (n : Nat) (p0 : Int32) (sLeast : Nat → Int32) (sMost : Nat → Int32) (sCount : Int32) (sAllowed : Nat → Int64) (sLengths : Nat → Int32) (gF : Nat → Nat → Int32) (gL : Nat → Nat → Int32) (gM : Nat → Nat → Int32) : Option (Bool × (Nat → Int32)) :=
  if p0 < 4 then
    (f_Se_openLengths n p0 sLeast sMost sCount sAllowed sLengths gF gL gM).bind fun u2 =>
    (f_Se_place_4_16 n u2 p0 sLeast sMost sCount sAllowed gF gL gM n 0 sLengths).bind fun u17 => u17.elim (fun r => some r) fun x17 =>
    some (false, x17.2)
  else
    some (true, sLengths)
set_option maxHeartbeats 4000000 in
set_option maxRecDepth 100000 in
theorem w_Se_place_4  {p0 : Int32}  (hx : p.tables.exec = Jvm.exec) (hb : c.code = b_Se_place) (hml : c.maxLocals = 5) (hts : ∀ w ∈ gW, w.before args s = true) (hown : s.vm.findClass "RegularSolver$Search" = some m.cls) (hK : va_K D vwCl (tG K) s) (hRf : 7 ≤ R.frames) (hRl : 177 ≤ R.locals) (hRc : cells ≤ R.cells) (hRs : slots ≤ R.slots) (hA : ∀ q, H0.size ≤ q → A q) {out : Bool × (Nat → Int32)} (Kr : ∀ (r : Bool × (Nat → Int32)), out = r → ∀ (pc : Nat) (ls : Array Slot) (H : Heap) (locs : List Loc), decode b_Se_place pc = .ok (.ireturn, 1) → va_P D vwCl ((seW K sq sA sF sLe sMo sAl sRL sRM sLn sKL sKW fF fL fM sAssigned sLeast sMost sCount sAllowed r.2 sKept sKeptLengths sKeptWords) ++ (grW K fF 4 gF) ++ (grW K fL 5 gL) ++ (grW K fM 5 gM)) H → va_D A ((seW K sq sA sF sLe sMo sAl sRL sRM sLn sKL sKW fF fL fM sAssigned sLeast sMost sCount sAllowed r.2 sKept sKeptLengths sKeptWords) ++ (grW K fF 4 gF) ++ (grW K fL 5 gL) ++ (grW K fM 5 gM)) → va_S A H0 H locs → W p l e R s m args below meth c H locs cells slots Q (F0 m pc ls [.int (bI r.1)])) (hf : f_Se_place_4 n p0 sLeast sMost sCount sAllowed sLengths gF gL gM = some out) (ls : Array Slot) (hP : va_P D vwCl ((seW K sq sA sF sLe sMo sAl sRL sRM sLn sKL sKW fF fL fM sAssigned sLeast sMost sCount sAllowed sLengths sKept sKeptLengths sKeptWords) ++ (grW K fF 4 gF) ++ (grW K fL 5 gL) ++ (grW K fM 5 gM)) H) (hD : va_D A ((seW K sq sA sF sLe sMo sAl sRL sRM sLn sKL sKW fF fL fM sAssigned sLeast sMost sCount sAllowed sLengths sKept sKeptLengths sKeptWords) ++ (grW K fF 4 gF) ++ (grW K fL 5 gL) ++ (grW K fM 5 gM))) (hS : va_S A H0 H locs) (hl : lv_has ls 5 [(0, .ref sq), (1, .int p0)]) : W p l e R s m args below meth c H locs cells slots Q (F0 m 0 ls []) := by
  unfold f_Se_place_4 at hf
  refine lv_iload_n hx hb d_Se_place_0 rfl (lv_at hl 1 rfl) ?_
  refine lv_iconst (v := 4) hx hb d_Se_place_1 (by decide) ?_
  refine lv_icmp_lt (tgt := 7) hx hb d_Se_place_2 (by decide) (fun c1 => ?_) (fun c1 => ?_)
  · rw [if_pos c1] at hf
    refine lv_aload_n hx hb d_Se_place_7 rfl (lv_at hl 0 rfl) ?_
    refine lv_iload_n hx hb d_Se_place_8 rfl (lv_at hl 1 rfl) ?_
    obtain ⟨u2, eu2, hf⟩ := obd hf
    refine p_call (W.runV (As := [.int p0]) (rest := []) ⟨hx, hb, hml, hown, hts⟩ (c_Se_openLengths l eu2) (gV 1 hts cd_Se_openLengths ml_Se_97 im_Se_openLengths se_Se_openLengths ini_Se rfl rfl pd_Se_openLengths ⟨Nat.le_trans (Nat.le_of_ble_eq_true rfl) hRf, Nat.le_trans (Nat.le_of_ble_eq_true rfl) hRl⟩) ⟨pPre_blind, va_recv hK (vaL (vaL (vaL hP))) (ci := 9) (q0 := 0) rfl rfl, pPre_of hP hK⟩ rfl rfl hl.1 rfl (lv_room (Nat.le_of_ble_eq_true rfl)) d_Se_place_9 ⟨hRc, hRs⟩) ?_
    refine lv_lstore_n (lv' := [(2, .long u2), (0, .ref sq), (1, .int p0)]) hx hb d_Se_place_12 rfl hl (by decide) rfl (fun ls hl => ?_)
    refine lv_iconst (v := 0) hx hb d_Se_place_13 (by decide) ?_
    refine lv_istore (lv' := [(4, .int 0), (2, .long u2), (0, .ref sq), (1, .int p0)]) hx hb d_Se_place_14 hl (by decide) rfl (fun ls hl => ?_)
    obtain ⟨u17, eu17, hf⟩ := obd hf
    refine w_Se_place_4_16 hx hb hml hts hown hK hRf hRl hRc hRs hA (fun r er pc ls H locs hd hP hD hS => Kr r (by subst er; exact (Option.some.inj hf).symm) pc ls H locs hd hP hD hS) (fun x17 eu ls H locs hP hD hS hl => ?_) _ _ _ eu17 _ _ _ hP hD hS (show lv_has ls 5 [(4, .int 0), (2, .long u2), (0, .ref sq), (1, .int p0)] from lv_sub hl [0, 1, 2, 3] rfl)
    subst eu
    replace hf := oel hf
    refine lv_iconst (v := 0) hx hb d_Se_place_69 (by decide) ?_
    exact Kr _ (Option.some.inj hf).symm _ _ _ _ d_Se_place_70 hP hD hS
  · rw [if_neg c1] at hf
    refine lv_iconst (v := 1) hx hb d_Se_place_5 (by decide) ?_
    exact Kr _ (Option.some.inj hf).symm _ _ _ _ d_Se_place_6 hP hD hS
set_option maxHeartbeats 4000000 in
set_option maxRecDepth 100000 in
theorem c_Se_place_4 (l : Launch)  {p0 : Int32}  {r : Bool × (Nat → Int32)} (sz : Nat) (hf : f_Se_place_4 n p0 sLeast sMost sCount sAllowed sLengths gF gL gM = some r) : Met l y_Se_place w0_Se_place ({ frames := 7, cells := 0, slots := 0, locals := 177 }) (wPre D K [.ref sq, .int p0] ((seW K sq sA sF sLe sMo sAl sRL sRM sLn sKL sKW fF fL fM sAssigned sLeast sMost sCount sAllowed sLengths sKept sKeptLengths sKeptWords) ++ (grW K fF 4 gF) ++ (grW K fL 5 gL) ++ (grW K fM 5 gM)) sz) (wPost D K (some (.int (bI r.1))) ((seW K sq sA sF sLe sMo sAl sRL sRM sLn sKL sKW fF fL fM sAssigned sLeast sMost sCount sAllowed r.2 sKept sKeptLengths sKeptWords) ++ (grW K fF 4 gF) ++ (grW K fL 5 gL) ++ (grW K fM 5 gM)) (va_A ((seW K sq sA sF sLe sMo sAl sRL sRM sLn sKL sKW fF fL fM sAssigned sLeast sMost sCount sAllowed sLengths sKept sKeptLengths sKeptWords) ++ (grW K fF 4 gF) ++ (grW K fL 5 gL) ++ (grW K fM 5 gM)) sz)) 0 0 (va_A ((seW K sq sA sF sLe sMo sAl sRL sRM sLn sKL sKW fF fL fM sAssigned sLeast sMost sCount sAllowed sLengths sKept sKeptLengths sKeptWords) ++ (grW K fF 4 gF) ++ (grW K fL 5 gL) ++ (grW K fM 5 gM)) sz) := by
  refine Met.ofW (cc := b_Se_place) (maxL := 5) (ret := (some .boolean)) (by decide) rfl ?_
  intro p e s m args below meth c s₁ B hml hv
  obtain ⟨rfl, hsz, hP, hK, hD0⟩ := hv
  subst hsz
  have hl := lv_entry [.ref sq, .int p0] (n := 5) (Nat.le_of_ble_eq_true rfl)
  rw [lg_entry_eq]
  generalize (lg_sl [.ref sq, .int p0] ++ List.replicate (5 - (lg_sl [.ref sq, .int p0]).length) Slot.unset).toArray = ls at hl ⊢
  refine w_Se_place_4 (A := va_A ((seW K sq sA sF sLe sMo sAl sRL sRM sLn sKL sKW fF fL fM sAssigned sLeast sMost sCount sAllowed sLengths sKept sKeptLengths sKeptWords) ++ (grW K fF 4 gF) ++ (grW K fL 5 gL) ++ (grW K fM 5 gM)) s.heap.size) (H0 := s.heap) B.exec B.bytes hml (fun w hw => atoms_spec (ws := w0_Se_place) B.pre w (List.mem_cons_of_mem _ hw)) (findClass_of_methodNamed B.named) hK (Nat.le_refl _) (Nat.le_refl _) (Nat.zero_le _) (Nat.zero_le _) (fun q h => Or.inr h) (fun r er pc ls H locs hd hP hD hS => ?_) hf ls hP (hD0.self (sz := s.heap.size)) va_S.rf hl
  subst er
  exact W.zret B.exec B.bytes B.returns (bI_nar _) (fun t ht hW => ⟨⟨rfl, by rw [ht]; exact hP, va_K.moved hW.alike hK, hD⟩, hS.F ht⟩) hS.2.2 hd (hlocks := B.notSynchronized)
end
section
variable {p : Program} {l : Launch} {e : Env} {R : Room} {s : State} {m : MethodId} {args : Array Value} {below : List Frame} {meth : Method} {c : Code} {H : Heap} {locs : List Loc} {cells slots : Nat} {Q : State → Prop} {A : Nat → Prop} {H0 : Heap}
variable {n : Nat} {D : va_G} {K : Nat → ClassId} {sq : Nat} {sA : Nat} {sF : Nat} {sLe : Nat} {sMo : Nat} {sAl : Nat} {sRL : Nat} {sRM : Nat} {sLn : Nat} {sKL : Nat} {sKW : Nat} {fF : Nat → Nat} {fL : Nat → Nat} {fM : Nat → Nat} {sAssigned : Nat → Option Nat} {sLeast : Nat → Int32} {sMost : Nat → Int32} {sCount : Int32} {sAllowed : Nat → Int64} {sLengths : Nat → Int32} {sKept : Bool} {sKeptLengths : Nat → Int32} {sKeptWords : Nat → Int64} {gF : Nat → Nat → Int32} {gL : Nat → Nat → Int32} {gM : Nat → Nat → Int32}
def f_Se_place_5_16 (n : Nat) (v2 : Int64) (v1 : Int32) (sLeast : Nat → Int32) (sMost : Nat → Int32) (sCount : Int32) (sAllowed : Nat → Int64) (gF : Nat → Nat → Int32) (gL : Nat → Nat → Int32) (gM : Nat → Nat → Int32) : Nat → Int32 → (Nat → Int32) → Option ((Bool × (Nat → Int32)) ⊕ (Int32 × (Nat → Int32)))
  | 0, _, _ => none
  | k + 1, v4, sLengths =>
    if 31 < v4 then
      some (.inr (v4, sLengths))
    else
      if (lushr v2 v4) = 0 then
        some (.inr (v4, sLengths))
      else
        if ((lushr v2 v4) &&& 1) = 0 then
          f_Se_place_5_16 n v2 v1 sLeast sMost sCount sAllowed gF gL gM k (v4 + 1) sLengths
        else
          ogd (gin v1 4) <|
          (f_Se_place_4 n (v1 + 1) sLeast sMost sCount sAllowed (upd sLengths v1.toNatClampNeg v4) gF gL gM).bind fun u14 =>
          if u14.1 = true then
            some (.inl (true, u14.2))
          else
            f_Se_place_5_16 n v2 v1 sLeast sMost sCount sAllowed gF gL gM k (v4 + 1) u14.2
set_option maxHeartbeats 4000000 in
set_option maxRecDepth 100000 in
theorem w_Se_place_5_16  {v2 : Int64} {v1 : Int32} (hx : p.tables.exec = Jvm.exec) (hb : c.code = b_Se_place) (hml : c.maxLocals = 5) (hts : ∀ w ∈ gW, w.before args s = true) (hown : s.vm.findClass "RegularSolver$Search" = some m.cls) (hK : va_K D vwCl (tG K) s) (hRf : 8 ≤ R.frames) (hRl : 201 ≤ R.locals) (hRc : cells ≤ R.cells) (hRs : slots ≤ R.slots) (hA : ∀ q, H0.size ≤ q → A q)  {out : (Bool × (Nat → Int32)) ⊕ (Int32 × (Nat → Int32))} (Kr : ∀ (r : Bool × (Nat → Int32)), out = .inl r → ∀ (pc : Nat) (ls : Array Slot) (H : Heap) (locs : List Loc), decode b_Se_place pc = .ok (.ireturn, 1) → va_P D vwCl ((seW K sq sA sF sLe sMo sAl sRL sRM sLn sKL sKW fF fL fM sAssigned sLeast sMost sCount sAllowed r.2 sKept sKeptLengths sKeptWords) ++ (grW K fF 4 gF) ++ (grW K fL 5 gL) ++ (grW K fM 5 gM)) H → va_D A ((seW K sq sA sF sLe sMo sAl sRL sRM sLn sKL sKW fF fL fM sAssigned sLeast sMost sCount sAllowed r.2 sKept sKeptLengths sKeptWords) ++ (grW K fF 4 gF) ++ (grW K fL 5 gL) ++ (grW K fM 5 gM)) → va_S A H0 H locs → W p l e R s m args below meth c H locs cells slots Q (F0 m pc ls [.int (bI r.1)])) (Kx : ∀ (u : Int32 × (Nat → Int32)), out = .inr u → ∀ (ls : Array Slot) (H : Heap) (locs : List Loc), va_P D vwCl ((seW K sq sA sF sLe sMo sAl sRL sRM sLn sKL sKW fF fL fM sAssigned sLeast sMost sCount sAllowed u.2 sKept sKeptLengths sKeptWords) ++ (grW K fF 4 gF) ++ (grW K fL 5 gL) ++ (grW K fM 5 gM)) H → va_D A ((seW K sq sA sF sLe sMo sAl sRL sRM sLn sKL sKW fF fL fM sAssigned sLeast sMost sCount sAllowed u.2 sKept sKeptLengths sKeptWords) ++ (grW K fF 4 gF) ++ (grW K fL 5 gL) ++ (grW K fM 5 gM)) → va_S A H0 H locs → lv_has ls 5 [] → W p l e R s m args below meth c H locs cells slots Q (F0 m 69 ls [])) :
    ∀ (k : Nat) (v4 : Int32) (sLengths : Nat → Int32), f_Se_place_5_16 n v2 v1 sLeast sMost sCount sAllowed gF gL gM k v4 sLengths = some out → ∀ (ls : Array Slot) (H : Heap) (locs : List Loc), va_P D vwCl ((seW K sq sA sF sLe sMo sAl sRL sRM sLn sKL sKW fF fL fM sAssigned sLeast sMost sCount sAllowed sLengths sKept sKeptLengths sKeptWords) ++ (grW K fF 4 gF) ++ (grW K fL 5 gL) ++ (grW K fM 5 gM)) H → va_D A ((seW K sq sA sF sLe sMo sAl sRL sRM sLn sKL sKW fF fL fM sAssigned sLeast sMost sCount sAllowed sLengths sKept sKeptLengths sKeptWords) ++ (grW K fF 4 gF) ++ (grW K fL 5 gL) ++ (grW K fM 5 gM)) → va_S A H0 H locs → lv_has ls 5 [(4, .int v4), (2, .long v2), (0, .ref sq), (1, .int v1)] → W p l e R s m args below meth c H locs cells slots Q (F0 m 16 ls []) := by
  intro k
  induction k with
  | zero => intro _ _ hf; exact nomatch (show none = some out from hf)
  | succ k ih =>
    intro v4 sLengths hf ls H locs hP hD hS hl
    rw [f_Se_place_5_16] at hf
    refine lv_iload hx hb d_Se_place_16 (lv_at hl 0 rfl) ?_
    refine lv_bipush (v := 31) hx hb d_Se_place_18 (by decide) ?_
    refine lv_icmp_gt (tgt := 69) hx hb d_Se_place_20 (by decide) (fun c10 => ?_) (fun c10 => ?_)
    · rw [if_pos c10] at hf
      exact Kx _ (Option.some.inj hf).symm _ _ _ hP hD hS (show lv_has ls 5 [] from lv_sub hl [] rfl)
    · rw [if_neg c10] at hf
      refine lv_lload_n hx hb d_Se_place_23 rfl (lv_at hl 1 rfl) ?_
      refine lv_iload hx hb d_Se_place_24 (lv_at hl 0 rfl) ?_
      refine lv_lushr (v := lushr v2 v4) hx hb d_Se_place_26 rfl ?_
      refine lv_lconst (v := 0) hx hb d_Se_place_27 (by decide) ?_
      refine W.lcmp hx hb d_Se_place_28 ?_
      refine lc_eq (tgt := 69) hx hb d_Se_place_29 (by decide) (fun c11 => ?_) (fun c11 => ?_)
      · rw [if_pos c11] at hf
        exact Kx _ (Option.some.inj hf).symm _ _ _ hP hD hS (show lv_has ls 5 [] from lv_sub hl [] rfl)
      · rw [if_neg c11] at hf
        refine lv_lload_n hx hb d_Se_place_32 rfl (lv_at hl 1 rfl) ?_
        refine lv_iload hx hb d_Se_place_33 (lv_at hl 0 rfl) ?_
        refine lv_lushr (v := lushr v2 v4) hx hb d_Se_place_35 rfl ?_
        refine lv_lconst (v := 1) hx hb d_Se_place_36 (by decide) ?_
        refine lv_land hx hb d_Se_place_37 ?_
        refine lv_lconst (v := 0) hx hb d_Se_place_38 (by decide) ?_
        refine W.lcmp hx hb d_Se_place_39 ?_
        refine lc_eq (tgt := 63) hx hb d_Se_place_40 (by decide) (fun c12 => ?_) (fun c12 => ?_)
        · rw [if_pos c12] at hf
          refine lv_iinc (v := v4 + 1) (lv' := [(4, .int (v4 + 1)), (2, .long v2), (0, .ref sq), (1, .int v1)]) hx hb d_Se_place_63 hl (k := 0) rfl (by first | rfl | (congr 1)) (by decide) rfl (fun ls hl => ?_)
          refine lv_goto (tgt := 16) hx hb d_Se_place_66 (by decide) ?_
          exact ih _ _ hf _ _ _ hP hD hS (show lv_has ls 5 [(4, .int (v4 + 1)), (2, .long v2), (0, .ref sq), (1, .int v1)] from lv_sub hl [0, 1, 2, 3] rfl)
        · rw [if_neg c12] at hf
          refine lv_aload_n hx hb d_Se_place_43 rfl (lv_at hl 2 rfl) ?_
          refine va_get (D := D) (ci := 9) (v := .ref sLn) (C := R_Se) (T := T_Se) (N := 12) hx hb hts in_Se hown hK hP 0 rfl rfl 8 (by decide) (hts _ fl_Se_43) (fun _ h9 => h9) rfl d_Se_place_44 ?_
          refine lv_iload_n hx hb d_Se_place_47 rfl (lv_at hl 3 rfl) ?_
          refine lv_iload hx hb d_Se_place_48 (lv_at hl 0 rfl) ?_
          obtain ⟨g13, hf⟩ := ogi hf
          refine va_iast hx hb hK hP hD hS 8 0 rfl rfl (gin_in g13) d_Se_place_50 (fun H locs hP hD hS => ?_)
          have hP : va_P D vwCl ((seW K sq sA sF sLe sMo sAl sRL sRM sLn sKL sKW fF fL fM sAssigned sLeast sMost sCount sAllowed (upd sLengths v1.toNatClampNeg v4) sKept sKeptLengths sKeptWords) ++ (grW K fF 4 gF) ++ (grW K fL 5 gL) ++ (grW K fM 5 gM)) H := hP
          have hD : va_D A ((seW K sq sA sF sLe sMo sAl sRL sRM sLn sKL sKW fF fL fM sAssigned sLeast sMost sCount sAllowed (upd sLengths v1.toNatClampNeg v4) sKept sKeptLengths sKeptWords) ++ (grW K fF 4 gF) ++ (grW K fL 5 gL) ++ (grW K fM 5 gM)) := hD
          refine lv_aload_n hx hb d_Se_place_51 rfl (lv_at hl 2 rfl) ?_
          refine lv_iload_n hx hb d_Se_place_52 rfl (lv_at hl 3 rfl) ?_
          refine lv_iconst (v := 1) hx hb d_Se_place_53 (by decide) ?_
          refine lv_iadd hx hb d_Se_place_54 ?_
          obtain ⟨u14, eu14, hf⟩ := obd hf
          refine w_callA (va_runV (As := [.int (v1 + 1)]) (rest := []) ⟨hx, hb, hml, hown, hts⟩ (Met_G (c_Se_place_4 l H.size eu14)) (gV 1 hts cd_Se_place ml_Se_78 im_Se_place se_Se_place ini_Se rfl rfl pd_Se_place ⟨Nat.le_trans (Nat.le_of_ble_eq_true rfl) hRf, Nat.le_trans (Nat.le_of_ble_eq_true rfl) hRl⟩) ⟨wPre_blind, va_recv hK (vaL (vaL (vaL hP))) (ci := 9) (q0 := 0) rfl rfl, wPre_of hP hK hD⟩ rfl rfl hl.1 rfl (lv_room (Nat.le_of_ble_eq_true rfl)) d_Se_place_55 ⟨hRc, hRs⟩) hD hS hA (fun g15 H1 locs hP1 hD1 hk1 hS1 => ?_)
          obtain ⟨hP, hD⟩ : _ ∧ _ := ⟨hP1, hD1.weaken (fun _ q _ h => va_sub hD hS hA q.1 h)⟩
          have hS := hS1
          generalize H1 = H at hP hS ⊢
          have hP : va_P D vwCl ((seW K sq sA sF sLe sMo sAl sRL sRM sLn sKL sKW fF fL fM sAssigned sLeast sMost sCount sAllowed u14.2 sKept sKeptLengths sKeptWords) ++ (grW K fF 4 gF) ++ (grW K fL 5 gL) ++ (grW K fM 5 gM)) H := hP
          have hD : va_D A ((seW K sq sA sF sLe sMo sAl sRL sRM sLn sKL sKW fF fL fM sAssigned sLeast sMost sCount sAllowed u14.2 sKept sKeptLengths sKeptWords) ++ (grW K fF 4 gF) ++ (grW K fL 5 gL) ++ (grW K fM 5 gM)) := hD
          refine bz_eq (tgt := 63) hx hb d_Se_place_58 (by decide) (fun c16 => ?_) (fun c16 => ?_)
          · rw [if_neg c16] at hf
            refine lv_iinc (v := v4 + 1) (lv' := [(4, .int (v4 + 1)), (2, .long v2), (0, .ref sq), (1, .int v1)]) hx hb d_Se_place_63 hl (k := 0) rfl (by first | rfl | (congr 1)) (by decide) rfl (fun ls hl => ?_)
            refine lv_goto (tgt := 16) hx hb d_Se_place_66 (by decide) ?_
            exact ih _ _ hf _ _ _ hP hD hS (show lv_has ls 5 [(4, .int (v4 + 1)), (2, .long v2), (0, .ref sq), (1, .int v1)] from lv_sub hl [0, 1, 2, 3] rfl)
          · rw [if_pos c16] at hf
            refine lv_iconst (v := 1) hx hb d_Se_place_61 (by decide) ?_
            exact Kr _ (Option.some.inj hf).symm _ _ _ _ d_Se_place_62 hP hD hS
def f_Se_place_5 (n : Nat) (p0 : Int32) (sLeast : Nat → Int32) (sMost : Nat → Int32) (sCount : Int32) (sAllowed : Nat → Int64) (sLengths : Nat → Int32) (gF : Nat → Nat → Int32) (gL : Nat → Nat → Int32) (gM : Nat → Nat → Int32) : Option (Bool × (Nat → Int32)) :=
  if p0 < 4 then
    (f_Se_openLengths n p0 sLeast sMost sCount sAllowed sLengths gF gL gM).bind fun u2 =>
    (f_Se_place_5_16 n u2 p0 sLeast sMost sCount sAllowed gF gL gM n 0 sLengths).bind fun u17 => u17.elim (fun r => some r) fun x17 =>
    some (false, x17.2)
  else
    some (true, sLengths)
set_option maxHeartbeats 4000000 in
set_option maxRecDepth 100000 in
theorem w_Se_place_5  {p0 : Int32}  (hx : p.tables.exec = Jvm.exec) (hb : c.code = b_Se_place) (hml : c.maxLocals = 5) (hts : ∀ w ∈ gW, w.before args s = true) (hown : s.vm.findClass "RegularSolver$Search" = some m.cls) (hK : va_K D vwCl (tG K) s) (hRf : 8 ≤ R.frames) (hRl : 201 ≤ R.locals) (hRc : cells ≤ R.cells) (hRs : slots ≤ R.slots) (hA : ∀ q, H0.size ≤ q → A q) {out : Bool × (Nat → Int32)} (Kr : ∀ (r : Bool × (Nat → Int32)), out = r → ∀ (pc : Nat) (ls : Array Slot) (H : Heap) (locs : List Loc), decode b_Se_place pc = .ok (.ireturn, 1) → va_P D vwCl ((seW K sq sA sF sLe sMo sAl sRL sRM sLn sKL sKW fF fL fM sAssigned sLeast sMost sCount sAllowed r.2 sKept sKeptLengths sKeptWords) ++ (grW K fF 4 gF) ++ (grW K fL 5 gL) ++ (grW K fM 5 gM)) H → va_D A ((seW K sq sA sF sLe sMo sAl sRL sRM sLn sKL sKW fF fL fM sAssigned sLeast sMost sCount sAllowed r.2 sKept sKeptLengths sKeptWords) ++ (grW K fF 4 gF) ++ (grW K fL 5 gL) ++ (grW K fM 5 gM)) → va_S A H0 H locs → W p l e R s m args below meth c H locs cells slots Q (F0 m pc ls [.int (bI r.1)])) (hf : f_Se_place_5 n p0 sLeast sMost sCount sAllowed sLengths gF gL gM = some out) (ls : Array Slot) (hP : va_P D vwCl ((seW K sq sA sF sLe sMo sAl sRL sRM sLn sKL sKW fF fL fM sAssigned sLeast sMost sCount sAllowed sLengths sKept sKeptLengths sKeptWords) ++ (grW K fF 4 gF) ++ (grW K fL 5 gL) ++ (grW K fM 5 gM)) H) (hD : va_D A ((seW K sq sA sF sLe sMo sAl sRL sRM sLn sKL sKW fF fL fM sAssigned sLeast sMost sCount sAllowed sLengths sKept sKeptLengths sKeptWords) ++ (grW K fF 4 gF) ++ (grW K fL 5 gL) ++ (grW K fM 5 gM))) (hS : va_S A H0 H locs) (hl : lv_has ls 5 [(0, .ref sq), (1, .int p0)]) : W p l e R s m args below meth c H locs cells slots Q (F0 m 0 ls []) := by
  unfold f_Se_place_5 at hf
  refine lv_iload_n hx hb d_Se_place_0 rfl (lv_at hl 1 rfl) ?_
  refine lv_iconst (v := 4) hx hb d_Se_place_1 (by decide) ?_
  refine lv_icmp_lt (tgt := 7) hx hb d_Se_place_2 (by decide) (fun c1 => ?_) (fun c1 => ?_)
  · rw [if_pos c1] at hf
    refine lv_aload_n hx hb d_Se_place_7 rfl (lv_at hl 0 rfl) ?_
    refine lv_iload_n hx hb d_Se_place_8 rfl (lv_at hl 1 rfl) ?_
    obtain ⟨u2, eu2, hf⟩ := obd hf
    refine p_call (W.runV (As := [.int p0]) (rest := []) ⟨hx, hb, hml, hown, hts⟩ (c_Se_openLengths l eu2) (gV 1 hts cd_Se_openLengths ml_Se_97 im_Se_openLengths se_Se_openLengths ini_Se rfl rfl pd_Se_openLengths ⟨Nat.le_trans (Nat.le_of_ble_eq_true rfl) hRf, Nat.le_trans (Nat.le_of_ble_eq_true rfl) hRl⟩) ⟨pPre_blind, va_recv hK (vaL (vaL (vaL hP))) (ci := 9) (q0 := 0) rfl rfl, pPre_of hP hK⟩ rfl rfl hl.1 rfl (lv_room (Nat.le_of_ble_eq_true rfl)) d_Se_place_9 ⟨hRc, hRs⟩) ?_
    refine lv_lstore_n (lv' := [(2, .long u2), (0, .ref sq), (1, .int p0)]) hx hb d_Se_place_12 rfl hl (by decide) rfl (fun ls hl => ?_)
    refine lv_iconst (v := 0) hx hb d_Se_place_13 (by decide) ?_
    refine lv_istore (lv' := [(4, .int 0), (2, .long u2), (0, .ref sq), (1, .int p0)]) hx hb d_Se_place_14 hl (by decide) rfl (fun ls hl => ?_)
    obtain ⟨u17, eu17, hf⟩ := obd hf
    refine w_Se_place_5_16 hx hb hml hts hown hK hRf hRl hRc hRs hA (fun r er pc ls H locs hd hP hD hS => Kr r (by subst er; exact (Option.some.inj hf).symm) pc ls H locs hd hP hD hS) (fun x17 eu ls H locs hP hD hS hl => ?_) _ _ _ eu17 _ _ _ hP hD hS (show lv_has ls 5 [(4, .int 0), (2, .long u2), (0, .ref sq), (1, .int p0)] from lv_sub hl [0, 1, 2, 3] rfl)
    subst eu
    replace hf := oel hf
    refine lv_iconst (v := 0) hx hb d_Se_place_69 (by decide) ?_
    exact Kr _ (Option.some.inj hf).symm _ _ _ _ d_Se_place_70 hP hD hS
  · rw [if_neg c1] at hf
    refine lv_iconst (v := 1) hx hb d_Se_place_5 (by decide) ?_
    exact Kr _ (Option.some.inj hf).symm _ _ _ _ d_Se_place_6 hP hD hS
set_option maxHeartbeats 4000000 in
set_option maxRecDepth 100000 in
theorem c_Se_place_5 (l : Launch)  {p0 : Int32}  {r : Bool × (Nat → Int32)} (sz : Nat) (hf : f_Se_place_5 n p0 sLeast sMost sCount sAllowed sLengths gF gL gM = some r) : Met l y_Se_place w0_Se_place ({ frames := 8, cells := 0, slots := 0, locals := 201 }) (wPre D K [.ref sq, .int p0] ((seW K sq sA sF sLe sMo sAl sRL sRM sLn sKL sKW fF fL fM sAssigned sLeast sMost sCount sAllowed sLengths sKept sKeptLengths sKeptWords) ++ (grW K fF 4 gF) ++ (grW K fL 5 gL) ++ (grW K fM 5 gM)) sz) (wPost D K (some (.int (bI r.1))) ((seW K sq sA sF sLe sMo sAl sRL sRM sLn sKL sKW fF fL fM sAssigned sLeast sMost sCount sAllowed r.2 sKept sKeptLengths sKeptWords) ++ (grW K fF 4 gF) ++ (grW K fL 5 gL) ++ (grW K fM 5 gM)) (va_A ((seW K sq sA sF sLe sMo sAl sRL sRM sLn sKL sKW fF fL fM sAssigned sLeast sMost sCount sAllowed sLengths sKept sKeptLengths sKeptWords) ++ (grW K fF 4 gF) ++ (grW K fL 5 gL) ++ (grW K fM 5 gM)) sz)) 0 0 (va_A ((seW K sq sA sF sLe sMo sAl sRL sRM sLn sKL sKW fF fL fM sAssigned sLeast sMost sCount sAllowed sLengths sKept sKeptLengths sKeptWords) ++ (grW K fF 4 gF) ++ (grW K fL 5 gL) ++ (grW K fM 5 gM)) sz) := by
  refine Met.ofW (cc := b_Se_place) (maxL := 5) (ret := (some .boolean)) (by decide) rfl ?_
  intro p e s m args below meth c s₁ B hml hv
  obtain ⟨rfl, hsz, hP, hK, hD0⟩ := hv
  subst hsz
  have hl := lv_entry [.ref sq, .int p0] (n := 5) (Nat.le_of_ble_eq_true rfl)
  rw [lg_entry_eq]
  generalize (lg_sl [.ref sq, .int p0] ++ List.replicate (5 - (lg_sl [.ref sq, .int p0]).length) Slot.unset).toArray = ls at hl ⊢
  refine w_Se_place_5 (A := va_A ((seW K sq sA sF sLe sMo sAl sRL sRM sLn sKL sKW fF fL fM sAssigned sLeast sMost sCount sAllowed sLengths sKept sKeptLengths sKeptWords) ++ (grW K fF 4 gF) ++ (grW K fL 5 gL) ++ (grW K fM 5 gM)) s.heap.size) (H0 := s.heap) B.exec B.bytes hml (fun w hw => atoms_spec (ws := w0_Se_place) B.pre w (List.mem_cons_of_mem _ hw)) (findClass_of_methodNamed B.named) hK (Nat.le_refl _) (Nat.le_refl _) (Nat.zero_le _) (Nat.zero_le _) (fun q h => Or.inr h) (fun r er pc ls H locs hd hP hD hS => ?_) hf ls hP (hD0.self (sz := s.heap.size)) va_S.rf hl
  subst er
  exact W.zret B.exec B.bytes B.returns (bI_nar _) (fun t ht hW => ⟨⟨rfl, by rw [ht]; exact hP, va_K.moved hW.alike hK, hD⟩, hS.F ht⟩) hS.2.2 hd (hlocks := B.notSynchronized)
end
section
variable {p : Program} {l : Launch} {e : Env} {R : Room} {s : State} {m : MethodId} {args : Array Value} {below : List Frame} {meth : Method} {c : Code} {H : Heap} {locs : List Loc} {cells slots : Nat} {Q : State → Prop} {A : Nat → Prop} {H0 : Heap}
variable {n : Nat} {D : va_G} {K : Nat → ClassId} {sq : Nat} {sA : Nat} {sF : Nat} {sLe : Nat} {sMo : Nat} {sAl : Nat} {sRL : Nat} {sRM : Nat} {sLn : Nat} {sKL : Nat} {sKW : Nat} {fF : Nat → Nat} {fL : Nat → Nat} {fM : Nat → Nat} {sAssigned : Nat → Option Nat} {sLeast : Nat → Int32} {sMost : Nat → Int32} {sCount : Int32} {sAllowed : Nat → Int64} {sLengths : Nat → Int32} {sKept : Bool} {sKeptLengths : Nat → Int32} {sKeptWords : Nat → Int64} {gF : Nat → Nat → Int32} {gL : Nat → Nat → Int32} {gM : Nat → Nat → Int32}
def f_Se_findLengths_2 (n : Nat) (sCount : Int32) (sAllowed : Nat → Int64) (gF : Nat → Nat → Int32) : Nat → Int32 → (Nat → Nat → Int32) → (Nat → Nat → Int32) → Option (Int32 × (Nat → Nat → Int32) × (Nat → Nat → Int32))
  | 0, _, _, _ => none
  | k + 1, v1, gL, gM =>
    if sCount ≤ v1 then
      some (v1, gL, gM)
    else
      (f_Se_sumRests n v1 sAllowed gF gL gM).bind fun u5 =>
      f_Se_findLengths_2 n sCount sAllowed gF k (v1 + 1) u5.1 u5.2
set_option maxHeartbeats 4000000 in
set_option maxRecDepth 100000 in
theorem w_Se_findLengths_2   (hx : p.tables.exec = Jvm.exec) (hb : c.code = b_Se_findLengths) (hml : c.maxLocals = 2) (hts : ∀ w ∈ gW, w.before args s = true) (hown : s.vm.findClass "RegularSolver$Search" = some m.cls) (hK : va_K D vwCl (tG K) s) (hRf : 9 ≤ R.frames) (hRl : 225 ≤ R.locals) (hRc : cells ≤ R.cells) (hRs : slots ≤ R.slots) (hA : ∀ q, H0.size ≤ q → A q)  {out : Int32 × (Nat → Nat → Int32) × (Nat → Nat → Int32)} (Kx : ∀ (u : Int32 × (Nat → Nat → Int32) × (Nat → Nat → Int32)), out = u → ∀ (ls : Array Slot) (H : Heap) (locs : List Loc), va_P D vwCl ((seW K sq sA sF sLe sMo sAl sRL sRM sLn sKL sKW fF fL fM sAssigned sLeast sMost sCount sAllowed sLengths sKept sKeptLengths sKeptWords) ++ (grW K fF 4 gF) ++ (grW K fL 5 u.2.1) ++ (grW K fM 5 u.2.2)) H → va_D A ((seW K sq sA sF sLe sMo sAl sRL sRM sLn sKL sKW fF fL fM sAssigned sLeast sMost sCount sAllowed sLengths sKept sKeptLengths sKeptWords) ++ (grW K fF 4 gF) ++ (grW K fL 5 u.2.1) ++ (grW K fM 5 u.2.2)) → va_S A H0 H locs → lv_has ls 2 [(0, .ref sq)] → W p l e R s m args below meth c H locs cells slots Q (F0 m 21 ls [])) :
    ∀ (k : Nat) (v1 : Int32) (gL : Nat → Nat → Int32) (gM : Nat → Nat → Int32), f_Se_findLengths_2 n sCount sAllowed gF k v1 gL gM = some out → ∀ (ls : Array Slot) (H : Heap) (locs : List Loc), va_P D vwCl ((seW K sq sA sF sLe sMo sAl sRL sRM sLn sKL sKW fF fL fM sAssigned sLeast sMost sCount sAllowed sLengths sKept sKeptLengths sKeptWords) ++ (grW K fF 4 gF) ++ (grW K fL 5 gL) ++ (grW K fM 5 gM)) H → va_D A ((seW K sq sA sF sLe sMo sAl sRL sRM sLn sKL sKW fF fL fM sAssigned sLeast sMost sCount sAllowed sLengths sKept sKeptLengths sKeptWords) ++ (grW K fF 4 gF) ++ (grW K fL 5 gL) ++ (grW K fM 5 gM)) → va_S A H0 H locs → lv_has ls 2 [(1, .int v1), (0, .ref sq)] → W p l e R s m args below meth c H locs cells slots Q (F0 m 2 ls []) := by
  intro k
  induction k with
  | zero => intro _ _ _ hf; exact nomatch (show none = some out from hf)
  | succ k ih =>
    intro v1 gL gM hf ls H locs hP hD hS hl
    rw [f_Se_findLengths_2] at hf
    refine lv_iload_n hx hb d_Se_findLengths_2 rfl (lv_at hl 0 rfl) ?_
    refine lv_aload_n hx hb d_Se_findLengths_3 rfl (lv_at hl 1 rfl) ?_
    refine va_get (D := D) (ci := 9) (v := .int sCount) (C := R_Se) (T := T_Se) (N := 12) hx hb hts in_Se hown hK hP 0 rfl rfl 4 (by decide) (hts _ fl_Se_29) (fun _ h9 => h9) rfl d_Se_findLengths_4 ?_
    refine lv_icmp_ge (tgt := 21) hx hb d_Se_findLengths_7 (by decide) (fun c4 => ?_) (fun c4 => ?_)
    · rw [if_pos c4] at hf
      exact Kx _ (Option.some.inj hf).symm _ _ _ hP hD hS (show lv_has ls 2 [(0, .ref sq)] from lv_sub hl [1] rfl)
    · rw [if_neg c4] at hf
      refine lv_aload_n hx hb d_Se_findLengths_10 rfl (lv_at hl 1 rfl) ?_
      refine lv_iload_n hx hb d_Se_findLengths_11 rfl (lv_at hl 0 rfl) ?_
      obtain ⟨u5, eu5, hf⟩ := obd hf
      refine w_callA (va_runV (As := [.int v1]) (rest := []) ⟨hx, hb, hml, hown, hts⟩ (Met_G (c_Se_sumRests l H.size eu5)) (gV 1 hts cd_Se_sumRests ml_Se_74 im_Se_sumRests se_Se_sumRests ini_Se rfl rfl pd_Se_sumRests ⟨Nat.le_trans (Nat.le_of_ble_eq_true rfl) hRf, Nat.le_trans (Nat.le_of_ble_eq_true rfl) hRl⟩) ⟨wPre_blind, va_recv hK (vaL (vaL (vaL hP))) (ci := 9) (q0 := 0) rfl rfl, wPre_of hP hK hD⟩ rfl rfl hl.1 rfl (lv_room (Nat.le_of_ble_eq_true rfl)) d_Se_findLengths_12 ⟨hRc, hRs⟩) hD hS hA (fun g6 H1 locs hP1 hD1 hk1 hS1 => ?_)
      obtain ⟨hP, hD⟩ : _ ∧ _ := ⟨hP1, hD1.weaken (fun _ q _ h => va_sub hD hS hA q.1 h)⟩
      have hS := hS1
      generalize H1 = H at hP hS ⊢
      have hP : va_P D vwCl ((seW K sq sA sF sLe sMo sAl sRL sRM sLn sKL sKW fF fL fM sAssigned sLeast sMost sCount sAllowed sLengths sKept sKeptLengths sKeptWords) ++ (grW K fF 4 gF) ++ (grW K fL 5 u5.1) ++ (grW K fM 5 u5.2)) H := hP
      have hD : va_D A ((seW K sq sA sF sLe sMo sAl sRL sRM sLn sKL sKW fF fL fM sAssigned sLeast sMost sCount sAllowed sLengths sKept sKeptLengths sKeptWords) ++ (grW K fF 4 gF) ++ (grW K fL 5 u5.1) ++ (grW K fM 5 u5.2)) := hD
      refine lv_iinc (v := v1 + 1) (lv' := [(1, .int (v1 + 1)), (0, .ref sq)]) hx hb d_Se_findLengths_15 hl (k := 0) rfl (by first | rfl | (congr 1)) (by decide) rfl (fun ls hl => ?_)
      refine lv_goto (tgt := 2) hx hb d_Se_findLengths_18 (by decide) ?_
      exact ih _ _ _ hf _ _ _ hP hD hS (show lv_has ls 2 [(1, .int (v1 + 1)), (0, .ref sq)] from lv_sub hl [0, 1] rfl)
def f_Se_findLengths (n : Nat) (sLeast : Nat → Int32) (sMost : Nat → Int32) (sCount : Int32) (sAllowed : Nat → Int64) (sLengths : Nat → Int32) (gF : Nat → Nat → Int32) (gL : Nat → Nat → Int32) (gM : Nat → Nat → Int32) : Option (Bool × (Nat → Int32) × (Nat → Nat → Int32) × (Nat → Nat → Int32)) :=
  (f_Se_findLengths_2 n sCount sAllowed gF n 0 gL gM).bind fun u7 =>
  (f_Se_place_5 n 0 sLeast sMost sCount sAllowed sLengths gF u7.2.1 u7.2.2).bind fun u8 =>
  some (u8.1, u8.2, u7.2.1, u7.2.2)
set_option maxHeartbeats 4000000 in
set_option maxRecDepth 100000 in
theorem w_Se_findLengths    (hx : p.tables.exec = Jvm.exec) (hb : c.code = b_Se_findLengths) (hml : c.maxLocals = 2) (hts : ∀ w ∈ gW, w.before args s = true) (hown : s.vm.findClass "RegularSolver$Search" = some m.cls) (hK : va_K D vwCl (tG K) s) (hRf : 9 ≤ R.frames) (hRl : 225 ≤ R.locals) (hRc : cells ≤ R.cells) (hRs : slots ≤ R.slots) (hA : ∀ q, H0.size ≤ q → A q) {out : Bool × (Nat → Int32) × (Nat → Nat → Int32) × (Nat → Nat → Int32)} (Kr : ∀ (r : Bool × (Nat → Int32) × (Nat → Nat → Int32) × (Nat → Nat → Int32)), out = r → ∀ (pc : Nat) (ls : Array Slot) (H : Heap) (locs : List Loc), decode b_Se_findLengths pc = .ok (.ireturn, 1) → va_P D vwCl ((seW K sq sA sF sLe sMo sAl sRL sRM sLn sKL sKW fF fL fM sAssigned sLeast sMost sCount sAllowed r.2.1 sKept sKeptLengths sKeptWords) ++ (grW K fF 4 gF) ++ (grW K fL 5 r.2.2.1) ++ (grW K fM 5 r.2.2.2)) H → va_D A ((seW K sq sA sF sLe sMo sAl sRL sRM sLn sKL sKW fF fL fM sAssigned sLeast sMost sCount sAllowed r.2.1 sKept sKeptLengths sKeptWords) ++ (grW K fF 4 gF) ++ (grW K fL 5 r.2.2.1) ++ (grW K fM 5 r.2.2.2)) → va_S A H0 H locs → W p l e R s m args below meth c H locs cells slots Q (F0 m pc ls [.int (bI r.1)])) (hf : f_Se_findLengths n sLeast sMost sCount sAllowed sLengths gF gL gM = some out) (ls : Array Slot) (hP : va_P D vwCl ((seW K sq sA sF sLe sMo sAl sRL sRM sLn sKL sKW fF fL fM sAssigned sLeast sMost sCount sAllowed sLengths sKept sKeptLengths sKeptWords) ++ (grW K fF 4 gF) ++ (grW K fL 5 gL) ++ (grW K fM 5 gM)) H) (hD : va_D A ((seW K sq sA sF sLe sMo sAl sRL sRM sLn sKL sKW fF fL fM sAssigned sLeast sMost sCount sAllowed sLengths sKept sKeptLengths sKeptWords) ++ (grW K fF 4 gF) ++ (grW K fL 5 gL) ++ (grW K fM 5 gM))) (hS : va_S A H0 H locs) (hl : lv_has ls 2 [(0, .ref sq)]) : W p l e R s m args below meth c H locs cells slots Q (F0 m 0 ls []) := by
  unfold f_Se_findLengths at hf
  refine lv_iconst (v := 0) hx hb d_Se_findLengths_0 (by decide) ?_
  refine lv_istore_n (lv' := [(1, .int 0), (0, .ref sq)]) hx hb d_Se_findLengths_1 rfl hl (by decide) rfl (fun ls hl => ?_)
  obtain ⟨u7, eu7, hf⟩ := obd hf
  refine w_Se_findLengths_2 hx hb hml hts hown hK hRf hRl hRc hRs hA  (fun u7q eu ls H locs hP hD hS hl => ?_) _ _ _ _ eu7 _ _ _ hP hD hS (show lv_has ls 2 [(1, .int 0), (0, .ref sq)] from lv_sub hl [0, 1] rfl)
  subst eu
  refine lv_aload_n hx hb d_Se_findLengths_21 rfl (lv_at hl 0 rfl) ?_
  refine lv_iconst (v := 0) hx hb d_Se_findLengths_22 (by decide) ?_
  obtain ⟨u8, eu8, hf⟩ := obd hf
  refine w_callA (va_runV (As := [.int 0]) (rest := []) ⟨hx, hb, hml, hown, hts⟩ (Met_G (c_Se_place_5 l H.size eu8)) (gV 1 hts cd_Se_place ml_Se_78 im_Se_place se_Se_place ini_Se rfl rfl pd_Se_place ⟨Nat.le_trans (Nat.le_of_ble_eq_true rfl) hRf, Nat.le_trans (Nat.le_of_ble_eq_true rfl) hRl⟩) ⟨wPre_blind, va_recv hK (vaL (vaL (vaL hP))) (ci := 9) (q0 := 0) rfl rfl, wPre_of hP hK hD⟩ rfl rfl hl.1 rfl (lv_room (Nat.le_of_ble_eq_true rfl)) d_Se_findLengths_23 ⟨hRc, hRs⟩) hD hS hA (fun g9 H1 locs hP1 hD1 hk1 hS1 => ?_)
  obtain ⟨hP, hD⟩ : _ ∧ _ := ⟨hP1, hD1.weaken (fun _ q _ h => va_sub hD hS hA q.1 h)⟩
  have hS := hS1
  generalize H1 = H at hP hS ⊢
  have hP : va_P D vwCl ((seW K sq sA sF sLe sMo sAl sRL sRM sLn sKL sKW fF fL fM sAssigned sLeast sMost sCount sAllowed u8.2 sKept sKeptLengths sKeptWords) ++ (grW K fF 4 gF) ++ (grW K fL 5 u7.2.1) ++ (grW K fM 5 u7.2.2)) H := hP
  have hD : va_D A ((seW K sq sA sF sLe sMo sAl sRL sRM sLn sKL sKW fF fL fM sAssigned sLeast sMost sCount sAllowed u8.2 sKept sKeptLengths sKeptWords) ++ (grW K fF 4 gF) ++ (grW K fL 5 u7.2.1) ++ (grW K fM 5 u7.2.2)) := hD
  exact Kr _ (Option.some.inj hf).symm _ _ _ _ d_Se_findLengths_26 hP hD hS
set_option maxHeartbeats 4000000 in
set_option maxRecDepth 100000 in
theorem c_Se_findLengths (l : Launch)    {r : Bool × (Nat → Int32) × (Nat → Nat → Int32) × (Nat → Nat → Int32)} (sz : Nat) (hf : f_Se_findLengths n sLeast sMost sCount sAllowed sLengths gF gL gM = some r) : Met l y_Se_findLengths w0_Se_findLengths ({ frames := 9, cells := 0, slots := 0, locals := 225 }) (wPre D K [.ref sq] ((seW K sq sA sF sLe sMo sAl sRL sRM sLn sKL sKW fF fL fM sAssigned sLeast sMost sCount sAllowed sLengths sKept sKeptLengths sKeptWords) ++ (grW K fF 4 gF) ++ (grW K fL 5 gL) ++ (grW K fM 5 gM)) sz) (wPost D K (some (.int (bI r.1))) ((seW K sq sA sF sLe sMo sAl sRL sRM sLn sKL sKW fF fL fM sAssigned sLeast sMost sCount sAllowed r.2.1 sKept sKeptLengths sKeptWords) ++ (grW K fF 4 gF) ++ (grW K fL 5 r.2.2.1) ++ (grW K fM 5 r.2.2.2)) (va_A ((seW K sq sA sF sLe sMo sAl sRL sRM sLn sKL sKW fF fL fM sAssigned sLeast sMost sCount sAllowed sLengths sKept sKeptLengths sKeptWords) ++ (grW K fF 4 gF) ++ (grW K fL 5 gL) ++ (grW K fM 5 gM)) sz)) 0 0 (va_A ((seW K sq sA sF sLe sMo sAl sRL sRM sLn sKL sKW fF fL fM sAssigned sLeast sMost sCount sAllowed sLengths sKept sKeptLengths sKeptWords) ++ (grW K fF 4 gF) ++ (grW K fL 5 gL) ++ (grW K fM 5 gM)) sz) := by
  refine Met.ofW (cc := b_Se_findLengths) (maxL := 2) (ret := (some .boolean)) (by decide) rfl ?_
  intro p e s m args below meth c s₁ B hml hv
  obtain ⟨rfl, hsz, hP, hK, hD0⟩ := hv
  subst hsz
  have hl := lv_entry [.ref sq] (n := 2) (Nat.le_of_ble_eq_true rfl)
  rw [lg_entry_eq]
  generalize (lg_sl [.ref sq] ++ List.replicate (2 - (lg_sl [.ref sq]).length) Slot.unset).toArray = ls at hl ⊢
  refine w_Se_findLengths (A := va_A ((seW K sq sA sF sLe sMo sAl sRL sRM sLn sKL sKW fF fL fM sAssigned sLeast sMost sCount sAllowed sLengths sKept sKeptLengths sKeptWords) ++ (grW K fF 4 gF) ++ (grW K fL 5 gL) ++ (grW K fM 5 gM)) s.heap.size) (H0 := s.heap) B.exec B.bytes hml (fun w hw => atoms_spec (ws := w0_Se_findLengths) B.pre w (List.mem_cons_of_mem _ hw)) (findClass_of_methodNamed B.named) hK (Nat.le_refl _) (Nat.le_refl _) (Nat.zero_le _) (Nat.zero_le _) (fun q h => Or.inr h) (fun r er pc ls H locs hd hP hD hS => ?_) hf ls hP (hD0.self (sz := s.heap.size)) va_S.rf hl
  subst er
  exact W.zret B.exec B.bytes B.returns (bI_nar _) (fun t ht hW => ⟨⟨rfl, by rw [ht]; exact hP, va_K.moved hW.alike hK, hD⟩, hS.F ht⟩) hS.2.2 hd (hlocks := B.notSynchronized)
end
section
variable {p : Program} {l : Launch} {e : Env} {R : Room} {s : State} {m : MethodId} {args : Array Value} {below : List Frame} {meth : Method} {c : Code} {H : Heap} {locs : List Loc} {cells slots : Nat} {Q : State → Prop} {A : Nat → Prop} {H0 : Heap}
variable {n : Nat} {D : va_G} {K : Nat → ClassId} {sq : Nat} {sA : Nat} {sF : Nat} {sLe : Nat} {sMo : Nat} {sAl : Nat} {sRL : Nat} {sRM : Nat} {sLn : Nat} {sKL : Nat} {sKW : Nat} {fF : Nat → Nat} {fL : Nat → Nat} {fM : Nat → Nat} {sAssigned : Nat → Option Nat} {sLeast : Nat → Int32} {sMost : Nat → Int32} {sCount : Int32} {sAllowed : Nat → Int64} {sLengths : Nat → Int32} {sKept : Bool} {sKeptLengths : Nat → Int32} {sKeptWords : Nat → Int64} {gF : Nat → Nat → Int32} {gL : Nat → Nat → Int32} {gM : Nat → Nat → Int32} {T : auTab}
def f_Se_allowLengths_4 (n : Nat) (v1 : Int32) (sAssigned : Nat → Option Nat) (sCount : Int32) (gF : Nat → Nat → Int32) (T : auTab) : Nat → Int32 → Bool → (Nat → Int64) → Option (Int32 × Bool × (Nat → Int64))
  | 0, _, _, _ => none
  | k + 1, v3, v2, sAllowed =>
    if 4 ≤ v3 then
      some (v3, v2, sAllowed)
    else
      ogd (gin v3 4) <|
      oq (sAssigned v3.toNatClampNeg) (
        (f_Se_isWeighed n v3 sCount gF).bind fun u24 =>
        if u24 = true then
          ogd (gin v3 4) <|
          if v2 = true then
            if (1 : Int64) = 0 then
              f_Se_allowLengths_4 n v1 sAssigned sCount gF T k (v3 + 1) false (vp_updL sAllowed v3.toNatClampNeg 1)
            else
              f_Se_allowLengths_4 n v1 sAssigned sCount gF T k (v3 + 1) true (vp_updL sAllowed v3.toNatClampNeg 1)
          else
            f_Se_allowLengths_4 n v1 sAssigned sCount gF T k (v3 + 1) false (vp_updL sAllowed v3.toNatClampNeg 1)
        else
          ogd (gin v3 4) <|
          if v2 = true then
            if (1 : Int64) = 0 then
              f_Se_allowLengths_4 n v1 sAssigned sCount gF T k (v3 + 1) false (vp_updL sAllowed v3.toNatClampNeg (1 &&& (-1)))
            else
              f_Se_allowLengths_4 n v1 sAssigned sCount gF T k (v3 + 1) true (vp_updL sAllowed v3.toNatClampNeg (1 &&& (-1)))
          else
            f_Se_allowLengths_4 n v1 sAssigned sCount gF T k (v3 + 1) false (vp_updL sAllowed v3.toNatClampNeg (1 &&& (-1))))
      fun q23 =>
        (f_Au_lengthsUpTo n v1 ((T q23).2.2.2.2.2.2)).bind fun u32 =>
        (f_Se_isWeighed n v3 sCount gF).bind fun u33 =>
        if u33 = true then
          ogd (gin v3 4) <|
          if v2 = true then
            if u32 = 0 then
              f_Se_allowLengths_4 n v1 sAssigned sCount gF T k (v3 + 1) false (vp_updL sAllowed v3.toNatClampNeg u32)
            else
              f_Se_allowLengths_4 n v1 sAssigned sCount gF T k (v3 + 1) true (vp_updL sAllowed v3.toNatClampNeg u32)
          else
            f_Se_allowLengths_4 n v1 sAssigned sCount gF T k (v3 + 1) false (vp_updL sAllowed v3.toNatClampNeg u32)
        else
          ogd (gin v3 4) <|
          if v2 = true then
            if u32 = 0 then
              f_Se_allowLengths_4 n v1 sAssigned sCount gF T k (v3 + 1) false (vp_updL sAllowed v3.toNatClampNeg (u32 &&& (-u32)))
            else
              f_Se_allowLengths_4 n v1 sAssigned sCount gF T k (v3 + 1) true (vp_updL sAllowed v3.toNatClampNeg (u32 &&& (-u32)))
          else
            f_Se_allowLengths_4 n v1 sAssigned sCount gF T k (v3 + 1) false (vp_updL sAllowed v3.toNatClampNeg (u32 &&& (-u32)))
set_option maxHeartbeats 4000000 in
set_option maxRecDepth 100000 in
theorem w_Se_allowLengths_4  {v1 : Int32} (hx : p.tables.exec = Jvm.exec) (hb : c.code = b_Se_allowLengths) (hml : c.maxLocals = 7) (hts : ∀ w ∈ gW, w.before args s = true) (hown : s.vm.findClass "RegularSolver$Search" = some m.cls) (hK : va_K D vwCl (tG K) s) (hT : ∀ (q i : Nat), i < 4 → sAssigned i = some q → ∀ (H : Heap) (locs : List Loc), va_S A H0 H locs → va_P D vwCl (auT K T q) H) (hTw : ∀ (q i : Nat), i < 4 → sAssigned i = some q → gAw A (auT K T q)) (hRf : 1 ≤ R.frames) (hRl : 24 ≤ R.locals) (hRc : cells ≤ R.cells) (hRs : slots ≤ R.slots) (hA : ∀ q, H0.size ≤ q → A q)  {out : Int32 × Bool × (Nat → Int64)} (Kx : ∀ (u : Int32 × Bool × (Nat → Int64)), out = u → ∀ (ls : Array Slot) (H : Heap) (locs : List Loc), va_P D vwCl ((seW K sq sA sF sLe sMo sAl sRL sRM sLn sKL sKW fF fL fM sAssigned sLeast sMost sCount u.2.2 sLengths sKept sKeptLengths sKeptWords) ++ (grW K fF 4 gF) ++ (grW K fL 5 gL) ++ (grW K fM 5 gM)) H → va_D A ((seW K sq sA sF sLe sMo sAl sRL sRM sLn sKL sKW fF fL fM sAssigned sLeast sMost sCount u.2.2 sLengths sKept sKeptLengths sKeptWords) ++ (grW K fF 4 gF) ++ (grW K fL 5 gL) ++ (grW K fM 5 gM)) → va_S A H0 H locs → lv_has ls 7 [(2, .int (bI u.2.1))] → W p l e R s m args below meth c H locs cells slots Q (F0 m 82 ls [])) :
    ∀ (k : Nat) (v3 : Int32) (v2 : Bool) (sAllowed : Nat → Int64), f_Se_allowLengths_4 n v1 sAssigned sCount gF T k v3 v2 sAllowed = some out → ∀ (ls : Array Slot) (H : Heap) (locs : List Loc), va_P D vwCl ((seW K sq sA sF sLe sMo sAl sRL sRM sLn sKL sKW fF fL fM sAssigned sLeast sMost sCount sAllowed sLengths sKept sKeptLengths sKeptWords) ++ (grW K fF 4 gF) ++ (grW K fL 5 gL) ++ (grW K fM 5 gM)) H → va_D A ((seW K sq sA sF sLe sMo sAl sRL sRM sLn sKL sKW fF fL fM sAssigned sLeast sMost sCount sAllowed sLengths sKept sKeptLengths sKeptWords) ++ (grW K fF 4 gF) ++ (grW K fL 5 gL) ++ (grW K fM 5 gM)) → va_S A H0 H locs → lv_has ls 7 [(3, .int v3), (2, .int (bI v2)), (0, .ref sq), (1, .int v1)] → W p l e R s m args below meth c H locs cells slots Q (F0 m 4 ls []) := by
  intro k
  induction k with
  | zero => intro _ _ _ hf; exact nomatch (show none = some out from hf)
  | succ k ih =>
    intro v3 v2 sAllowed hf ls H locs hP hD hS hl
    rw [f_Se_allowLengths_4] at hf
    refine lv_iload_n hx hb d_Se_allowLengths_4 rfl (lv_at hl 0 rfl) ?_
    refine lv_iconst (v := 4) hx hb d_Se_allowLengths_5 (by decide) ?_
    refine lv_icmp_ge (tgt := 82) hx hb d_Se_allowLengths_6 (by decide) (fun c21 => ?_) (fun c21 => ?_)
    · rw [if_pos c21] at hf
      exact Kx _ (Option.some.inj hf).symm _ _ _ hP hD hS (show lv_has ls 7 [(2, .int (bI v2))] from lv_sub hl [1] rfl)
    · rw [if_neg c21] at hf
      refine lv_aload_n hx hb d_Se_allowLengths_9 rfl (lv_at hl 2 rfl) ?_
      refine va_get (D := D) (ci := 9) (v := .ref sA) (C := R_Se) (T := T_Se) (N := 12) hx hb hts in_Se hown hK hP 0 rfl rfl 0 (by decide) (hts _ fl_Se_11) (fun _ h9 => h9) rfl d_Se_allowLengths_10 ?_
      refine lv_iload_n hx hb d_Se_allowLengths_13 rfl (lv_at hl 0 rfl) ?_
      obtain ⟨g22, hf⟩ := ogi hf
      refine va_aldq hx hb hK hP 1 3 rfl rfl (gin_in g22) d_Se_allowLengths_14 ?_
      generalize hq23 : sAssigned v3.toNatClampNeg = xq23 at hf ⊢
      cases xq23 with
      | none =>
        replace hf := oqn hf
        refine lv_astoreN (lv' := [(4, .null), (3, .int v3), (2, .int (bI v2)), (0, .ref sq), (1, .int v1)]) hx hb d_Se_allowLengths_15 hl (by decide) rfl (fun ls hl => ?_)
        refine lv_aloadN hx hb d_Se_allowLengths_17 (lv_at hl 0 rfl) ?_
        refine lv_ifnonnullN hx hb d_Se_allowLengths_19 ?_
        refine lv_lconst (v := 1) hx hb d_Se_allowLengths_22 (by decide) ?_
        refine lv_goto (tgt := 32) hx hb d_Se_allowLengths_23 (by decide) ?_
        refine lv_lstore (lv' := [(5, .long 1), (4, .null), (3, .int v3), (2, .int (bI v2)), (0, .ref sq), (1, .int v1)]) hx hb d_Se_allowLengths_32 hl (by decide) rfl (fun ls hl => ?_)
        refine lv_aload_n hx hb d_Se_allowLengths_34 rfl (lv_at hl 4 rfl) ?_
        refine va_get (D := D) (ci := 9) (v := .ref sAl) (C := R_Se) (T := T_Se) (N := 12) hx hb hts in_Se hown hK hP 0 rfl rfl 5 (by decide) (hts _ fl_Se_33) (fun _ h9 => h9) rfl d_Se_allowLengths_35 ?_
        refine lv_iload_n hx hb d_Se_allowLengths_38 rfl (lv_at hl 2 rfl) ?_
        refine lv_aload_n hx hb d_Se_allowLengths_39 rfl (lv_at hl 4 rfl) ?_
        refine lv_iload_n hx hb d_Se_allowLengths_40 rfl (lv_at hl 2 rfl) ?_
        obtain ⟨u24, eu24, hf⟩ := obd hf
        refine p_call (W.runV (As := [.int v3]) (rest := [.int v3, .ref sAl]) ⟨hx, hb, hml, hown, hts⟩ (c_Se_isWeighed l eu24) (gV 1 hts cd_Se_isWeighed ml_Se_71 im_Se_isWeighed se_Se_isWeighed ini_Se rfl rfl pd_Se_isWeighed ⟨Nat.le_trans (Nat.le_of_ble_eq_true rfl) hRf, Nat.le_trans (Nat.le_of_ble_eq_true rfl) hRl⟩) ⟨pPre_blind, va_recv hK (vaL (vaL (vaL hP))) (ci := 9) (q0 := 0) rfl rfl, pPre_of hP hK⟩ rfl rfl hl.1 rfl (lv_room (Nat.le_of_ble_eq_true rfl)) d_Se_allowLengths_41 ⟨hRc, hRs⟩) ?_
        refine bz_eq (tgt := 52) hx hb d_Se_allowLengths_44 (by decide) (fun c25 => ?_) (fun c25 => ?_)
        · rw [if_neg c25] at hf
          refine lv_lload hx hb d_Se_allowLengths_52 (lv_at hl 0 rfl) ?_
          refine lv_lload hx hb d_Se_allowLengths_54 (lv_at hl 0 rfl) ?_
          refine lv_lneg hx hb d_Se_allowLengths_56 ?_
          refine lv_land hx hb d_Se_allowLengths_57 ?_
          obtain ⟨g26, hf⟩ := ogi hf
          refine va_last hx hb hK hP hD hS 5 1 rfl rfl (gin_in g26) d_Se_allowLengths_58 (fun H locs hP hD hS => ?_)
          have hP : va_P D vwCl ((seW K sq sA sF sLe sMo sAl sRL sRM sLn sKL sKW fF fL fM sAssigned sLeast sMost sCount (vp_updL sAllowed v3.toNatClampNeg (1 &&& (-1))) sLengths sKept sKeptLengths sKeptWords) ++ (grW K fF 4 gF) ++ (grW K fL 5 gL) ++ (grW K fM 5 gM)) H := hP
          have hD : va_D A ((seW K sq sA sF sLe sMo sAl sRL sRM sLn sKL sKW fF fL fM sAssigned sLeast sMost sCount (vp_updL sAllowed v3.toNatClampNeg (1 &&& (-1))) sLengths sKept sKeptLengths sKeptWords) ++ (grW K fF 4 gF) ++ (grW K fL 5 gL) ++ (grW K fM 5 gM)) := hD
          refine lv_iload_n hx hb d_Se_allowLengths_59 rfl (lv_at hl 3 rfl) ?_
          refine bz_eq (tgt := 74) hx hb d_Se_allowLengths_60 (by decide) (fun c27 => ?_) (fun c27 => ?_)
          · rw [if_neg c27] at hf
            refine lv_iconst (v := 0) hx hb d_Se_allowLengths_74 (by decide) ?_
            refine lv_istore_n (lv' := [(2, .int 0), (5, .long 1), (4, .null), (3, .int v3), (0, .ref sq), (1, .int v1)]) hx hb d_Se_allowLengths_75 rfl hl (by decide) rfl (fun ls hl => ?_)
            refine lv_iinc (v := v3 + 1) (lv' := [(3, .int (v3 + 1)), (2, .int 0), (5, .long 1), (4, .null), (0, .ref sq), (1, .int v1)]) hx hb d_Se_allowLengths_76 hl (k := 3) rfl (by first | rfl | (congr 1)) (by decide) rfl (fun ls hl => ?_)
            refine lv_goto (tgt := 4) hx hb d_Se_allowLengths_79 (by decide) ?_
            exact ih _ _ _ hf _ _ _ hP hD hS (show lv_has ls 7 [(3, .int (v3 + 1)), (2, .int (bI false)), (0, .ref sq), (1, .int v1)] from lv_sub hl [0, 1, 4, 5] rfl)
          · rw [if_pos c27] at hf
            refine lv_lload hx hb d_Se_allowLengths_63 (lv_at hl 0 rfl) ?_
            refine lv_lconst (v := 0) hx hb d_Se_allowLengths_65 (by decide) ?_
            refine W.lcmp hx hb d_Se_allowLengths_66 ?_
            refine lc_eq (tgt := 74) hx hb d_Se_allowLengths_67 (by decide) (fun c28 => ?_) (fun c28 => ?_)
            · rw [if_pos c28] at hf
              refine lv_iconst (v := 0) hx hb d_Se_allowLengths_74 (by decide) ?_
              refine lv_istore_n (lv' := [(2, .int 0), (5, .long 1), (4, .null), (3, .int v3), (0, .ref sq), (1, .int v1)]) hx hb d_Se_allowLengths_75 rfl hl (by decide) rfl (fun ls hl => ?_)
              refine lv_iinc (v := v3 + 1) (lv' := [(3, .int (v3 + 1)), (2, .int 0), (5, .long 1), (4, .null), (0, .ref sq), (1, .int v1)]) hx hb d_Se_allowLengths_76 hl (k := 3) rfl (by first | rfl | (congr 1)) (by decide) rfl (fun ls hl => ?_)
              refine lv_goto (tgt := 4) hx hb d_Se_allowLengths_79 (by decide) ?_
              exact ih _ _ _ hf _ _ _ hP hD hS (show lv_has ls 7 [(3, .int (v3 + 1)), (2, .int (bI false)), (0, .ref sq), (1, .int v1)] from lv_sub hl [0, 1, 4, 5] rfl)
            · rw [if_neg c28] at hf
              refine lv_iconst (v := 1) hx hb d_Se_allowLengths_70 (by decide) ?_
              refine lv_goto (tgt := 75) hx hb d_Se_allowLengths_71 (by decide) ?_
              refine lv_istore_n (lv' := [(2, .int 1), (5, .long 1), (4, .null), (3, .int v3), (0, .ref sq), (1, .int v1)]) hx hb d_Se_allowLengths_75 rfl hl (by decide) rfl (fun ls hl => ?_)
              refine lv_iinc (v := v3 + 1) (lv' := [(3, .int (v3 + 1)), (2, .int 1), (5, .long 1), (4, .null), (0, .ref sq), (1, .int v1)]) hx hb d_Se_allowLengths_76 hl (k := 3) rfl (by first | rfl | (congr 1)) (by decide) rfl (fun ls hl => ?_)
              refine lv_goto (tgt := 4) hx hb d_Se_allowLengths_79 (by decide) ?_
              exact ih _ _ _ hf _ _ _ hP hD hS (show lv_has ls 7 [(3, .int (v3 + 1)), (2, .int (bI true)), (0, .ref sq), (1, .int v1)] from lv_sub hl [0, 1, 4, 5] rfl)
        · rw [if_pos c25] at hf
          refine lv_lload hx hb d_Se_allowLengths_47 (lv_at hl 0 rfl) ?_
          refine lv_goto (tgt := 58) hx hb d_Se_allowLengths_49 (by decide) ?_
          obtain ⟨g29, hf⟩ := ogi hf
          refine va_last hx hb hK hP hD hS 5 1 rfl rfl (gin_in g29) d_Se_allowLengths_58 (fun H locs hP hD hS => ?_)
          have hP : va_P D vwCl ((seW K sq sA sF sLe sMo sAl sRL sRM sLn sKL sKW fF fL fM sAssigned sLeast sMost sCount (vp_updL sAllowed v3.toNatClampNeg 1) sLengths sKept sKeptLengths sKeptWords) ++ (grW K fF 4 gF) ++ (grW K fL 5 gL) ++ (grW K fM 5 gM)) H := hP
          have hD : va_D A ((seW K sq sA sF sLe sMo sAl sRL sRM sLn sKL sKW fF fL fM sAssigned sLeast sMost sCount (vp_updL sAllowed v3.toNatClampNeg 1) sLengths sKept sKeptLengths sKeptWords) ++ (grW K fF 4 gF) ++ (grW K fL 5 gL) ++ (grW K fM 5 gM)) := hD
          refine lv_iload_n hx hb d_Se_allowLengths_59 rfl (lv_at hl 3 rfl) ?_
          refine bz_eq (tgt := 74) hx hb d_Se_allowLengths_60 (by decide) (fun c30 => ?_) (fun c30 => ?_)
          · rw [if_neg c30] at hf
            refine lv_iconst (v := 0) hx hb d_Se_allowLengths_74 (by decide) ?_
            refine lv_istore_n (lv' := [(2, .int 0), (5, .long 1), (4, .null), (3, .int v3), (0, .ref sq), (1, .int v1)]) hx hb d_Se_allowLengths_75 rfl hl (by decide) rfl (fun ls hl => ?_)
            refine lv_iinc (v := v3 + 1) (lv' := [(3, .int (v3 + 1)), (2, .int 0), (5, .long 1), (4, .null), (0, .ref sq), (1, .int v1)]) hx hb d_Se_allowLengths_76 hl (k := 3) rfl (by first | rfl | (congr 1)) (by decide) rfl (fun ls hl => ?_)
            refine lv_goto (tgt := 4) hx hb d_Se_allowLengths_79 (by decide) ?_
            exact ih _ _ _ hf _ _ _ hP hD hS (show lv_has ls 7 [(3, .int (v3 + 1)), (2, .int (bI false)), (0, .ref sq), (1, .int v1)] from lv_sub hl [0, 1, 4, 5] rfl)
          · rw [if_pos c30] at hf
            refine lv_lload hx hb d_Se_allowLengths_63 (lv_at hl 0 rfl) ?_
            refine lv_lconst (v := 0) hx hb d_Se_allowLengths_65 (by decide) ?_
            refine W.lcmp hx hb d_Se_allowLengths_66 ?_
            refine lc_eq (tgt := 74) hx hb d_Se_allowLengths_67 (by decide) (fun c31 => ?_) (fun c31 => ?_)
            · rw [if_pos c31] at hf
              refine lv_iconst (v := 0) hx hb d_Se_allowLengths_74 (by decide) ?_
              refine lv_istore_n (lv' := [(2, .int 0), (5, .long 1), (4, .null), (3, .int v3), (0, .ref sq), (1, .int v1)]) hx hb d_Se_allowLengths_75 rfl hl (by decide) rfl (fun ls hl => ?_)
              refine lv_iinc (v := v3 + 1) (lv' := [(3, .int (v3 + 1)), (2, .int 0), (5, .long 1), (4, .null), (0, .ref sq), (1, .int v1)]) hx hb d_Se_allowLengths_76 hl (k := 3) rfl (by first | rfl | (congr 1)) (by decide) rfl (fun ls hl => ?_)
              refine lv_goto (tgt := 4) hx hb d_Se_allowLengths_79 (by decide) ?_
              exact ih _ _ _ hf _ _ _ hP hD hS (show lv_has ls 7 [(3, .int (v3 + 1)), (2, .int (bI false)), (0, .ref sq), (1, .int v1)] from lv_sub hl [0, 1, 4, 5] rfl)
            · rw [if_neg c31] at hf
              refine lv_iconst (v := 1) hx hb d_Se_allowLengths_70 (by decide) ?_
              refine lv_goto (tgt := 75) hx hb d_Se_allowLengths_71 (by decide) ?_
              refine lv_istore_n (lv' := [(2, .int 1), (5, .long 1), (4, .null), (3, .int v3), (0, .ref sq), (1, .int v1)]) hx hb d_Se_allowLengths_75 rfl hl (by decide) rfl (fun ls hl => ?_)
              refine lv_iinc (v := v3 + 1) (lv' := [(3, .int (v3 + 1)), (2, .int 1), (5, .long 1), (4, .null), (0, .ref sq), (1, .int v1)]) hx hb d_Se_allowLengths_76 hl (k := 3) rfl (by first | rfl | (congr 1)) (by decide) rfl (fun ls hl => ?_)
              refine lv_goto (tgt := 4) hx hb d_Se_allowLengths_79 (by decide) ?_
              exact ih _ _ _ hf _ _ _ hP hD hS (show lv_has ls 7 [(3, .int (v3 + 1)), (2, .int (bI true)), (0, .ref sq), (1, .int v1)] from lv_sub hl [0, 1, 4, 5] rfl)
      | some q23 =>
        replace hf := oqs hf
        have hTq23 := hT q23 _ (gin_lt g22) hq23
        refine lv_astore (lv' := [(4, .ref q23), (3, .int v3), (2, .int (bI v2)), (0, .ref sq), (1, .int v1)]) hx hb d_Se_allowLengths_15 hl (by decide) rfl (fun ls hl => ?_)
        refine lv_aload hx hb d_Se_allowLengths_17 (lv_at hl 0 rfl) ?_
        refine lv_ifnonnull (tgt := 26) hx hb d_Se_allowLengths_19 (by decide) ?_
        refine lv_aload hx hb d_Se_allowLengths_26 (lv_at hl 0 rfl) ?_
        refine lv_iload_n hx hb d_Se_allowLengths_28 rfl (lv_at hl 4 rfl) ?_
        obtain ⟨u32, eu32, hf⟩ := obd hf
        refine p_call (W.runV (As := [.int v1]) (rest := []) ⟨hx, hb, hml, hown, hts⟩ (c_Au_lengthsUpTo l eu32) (gV 1 hts cd_Au_lengthsUpTo ml_Se_67 im_Au_lengthsUpTo se_Au_lengthsUpTo ini_Au rfl rfl pd_Au_lengthsUpTo ⟨Nat.le_trans (Nat.le_of_ble_eq_true rfl) hRf, Nat.le_trans (Nat.le_of_ble_eq_true rfl) hRl⟩) ⟨pPre_blind, va_recv hK (hTq23 _ _ hS) (ci := 1) (q0 := 0) rfl rfl, pPre_of (hTq23 _ _ hS) hK⟩ rfl rfl hl.1 rfl (lv_room (Nat.le_of_ble_eq_true rfl)) d_Se_allowLengths_29 ⟨hRc, hRs⟩) ?_
        refine lv_lstore (lv' := [(5, .long u32), (4, .ref q23), (3, .int v3), (2, .int (bI v2)), (0, .ref sq), (1, .int v1)]) hx hb d_Se_allowLengths_32 hl (by decide) rfl (fun ls hl => ?_)
        refine lv_aload_n hx hb d_Se_allowLengths_34 rfl (lv_at hl 4 rfl) ?_
        refine va_get (D := D) (ci := 9) (v := .ref sAl) (C := R_Se) (T := T_Se) (N := 12) hx hb hts in_Se hown hK hP 0 rfl rfl 5 (by decide) (hts _ fl_Se_33) (fun _ h9 => h9) rfl d_Se_allowLengths_35 ?_
        refine lv_iload_n hx hb d_Se_allowLengths_38 rfl (lv_at hl 2 rfl) ?_
        refine lv_aload_n hx hb d_Se_allowLengths_39 rfl (lv_at hl 4 rfl) ?_
        refine lv_iload_n hx hb d_Se_allowLengths_40 rfl (lv_at hl 2 rfl) ?_
        obtain ⟨u33, eu33, hf⟩ := obd hf
        refine p_call (W.runV (As := [.int v3]) (rest := [.int v3, .ref sAl]) ⟨hx, hb, hml, hown, hts⟩ (c_Se_isWeighed l eu33) (gV 1 hts cd_Se_isWeighed ml_Se_71 im_Se_isWeighed se_Se_isWeighed ini_Se rfl rfl pd_Se_isWeighed ⟨Nat.le_trans (Nat.le_of_ble_eq_true rfl) hRf, Nat.le_trans (Nat.le_of_ble_eq_true rfl) hRl⟩) ⟨pPre_blind, va_recv hK (vaL (vaL (vaL hP))) (ci := 9) (q0 := 0) rfl rfl, pPre_of hP hK⟩ rfl rfl hl.1 rfl (lv_room (Nat.le_of_ble_eq_true rfl)) d_Se_allowLengths_41 ⟨hRc, hRs⟩) ?_
        refine bz_eq (tgt := 52) hx hb d_Se_allowLengths_44 (by decide) (fun c34 => ?_) (fun c34 => ?_)
        · rw [if_neg c34] at hf
          refine lv_lload hx hb d_Se_allowLengths_52 (lv_at hl 0 rfl) ?_
          refine lv_lload hx hb d_Se_allowLengths_54 (lv_at hl 0 rfl) ?_
          refine lv_lneg hx hb d_Se_allowLengths_56 ?_
          refine lv_land hx hb d_Se_allowLengths_57 ?_
          obtain ⟨g35, hf⟩ := ogi hf
          refine va_last hx hb hK hP hD hS 5 1 rfl rfl (gin_in g35) d_Se_allowLengths_58 (fun H locs hP hD hS => ?_)
          have hP : va_P D vwCl ((seW K sq sA sF sLe sMo sAl sRL sRM sLn sKL sKW fF fL fM sAssigned sLeast sMost sCount (vp_updL sAllowed v3.toNatClampNeg (u32 &&& (-u32))) sLengths sKept sKeptLengths sKeptWords) ++ (grW K fF 4 gF) ++ (grW K fL 5 gL) ++ (grW K fM 5 gM)) H := hP
          have hD : va_D A ((seW K sq sA sF sLe sMo sAl sRL sRM sLn sKL sKW fF fL fM sAssigned sLeast sMost sCount (vp_updL sAllowed v3.toNatClampNeg (u32 &&& (-u32))) sLengths sKept sKeptLengths sKeptWords) ++ (grW K fF 4 gF) ++ (grW K fL 5 gL) ++ (grW K fM 5 gM)) := hD
          refine lv_iload_n hx hb d_Se_allowLengths_59 rfl (lv_at hl 3 rfl) ?_
          refine bz_eq (tgt := 74) hx hb d_Se_allowLengths_60 (by decide) (fun c36 => ?_) (fun c36 => ?_)
          · rw [if_neg c36] at hf
            refine lv_iconst (v := 0) hx hb d_Se_allowLengths_74 (by decide) ?_
            refine lv_istore_n (lv' := [(2, .int 0), (5, .long u32), (4, .ref q23), (3, .int v3), (0, .ref sq), (1, .int v1)]) hx hb d_Se_allowLengths_75 rfl hl (by decide) rfl (fun ls hl => ?_)
            refine lv_iinc (v := v3 + 1) (lv' := [(3, .int (v3 + 1)), (2, .int 0), (5, .long u32), (4, .ref q23), (0, .ref sq), (1, .int v1)]) hx hb d_Se_allowLengths_76 hl (k := 3) rfl (by first | rfl | (congr 1)) (by decide) rfl (fun ls hl => ?_)
            refine lv_goto (tgt := 4) hx hb d_Se_allowLengths_79 (by decide) ?_
            exact ih _ _ _ hf _ _ _ hP hD hS (show lv_has ls 7 [(3, .int (v3 + 1)), (2, .int (bI false)), (0, .ref sq), (1, .int v1)] from lv_sub hl [0, 1, 4, 5] rfl)
          · rw [if_pos c36] at hf
            refine lv_lload hx hb d_Se_allowLengths_63 (lv_at hl 0 rfl) ?_
            refine lv_lconst (v := 0) hx hb d_Se_allowLengths_65 (by decide) ?_
            refine W.lcmp hx hb d_Se_allowLengths_66 ?_
            refine lc_eq (tgt := 74) hx hb d_Se_allowLengths_67 (by decide) (fun c37 => ?_) (fun c37 => ?_)
            · rw [if_pos c37] at hf
              refine lv_iconst (v := 0) hx hb d_Se_allowLengths_74 (by decide) ?_
              refine lv_istore_n (lv' := [(2, .int 0), (5, .long u32), (4, .ref q23), (3, .int v3), (0, .ref sq), (1, .int v1)]) hx hb d_Se_allowLengths_75 rfl hl (by decide) rfl (fun ls hl => ?_)
              refine lv_iinc (v := v3 + 1) (lv' := [(3, .int (v3 + 1)), (2, .int 0), (5, .long u32), (4, .ref q23), (0, .ref sq), (1, .int v1)]) hx hb d_Se_allowLengths_76 hl (k := 3) rfl (by first | rfl | (congr 1)) (by decide) rfl (fun ls hl => ?_)
              refine lv_goto (tgt := 4) hx hb d_Se_allowLengths_79 (by decide) ?_
              exact ih _ _ _ hf _ _ _ hP hD hS (show lv_has ls 7 [(3, .int (v3 + 1)), (2, .int (bI false)), (0, .ref sq), (1, .int v1)] from lv_sub hl [0, 1, 4, 5] rfl)
            · rw [if_neg c37] at hf
              refine lv_iconst (v := 1) hx hb d_Se_allowLengths_70 (by decide) ?_
              refine lv_goto (tgt := 75) hx hb d_Se_allowLengths_71 (by decide) ?_
              refine lv_istore_n (lv' := [(2, .int 1), (5, .long u32), (4, .ref q23), (3, .int v3), (0, .ref sq), (1, .int v1)]) hx hb d_Se_allowLengths_75 rfl hl (by decide) rfl (fun ls hl => ?_)
              refine lv_iinc (v := v3 + 1) (lv' := [(3, .int (v3 + 1)), (2, .int 1), (5, .long u32), (4, .ref q23), (0, .ref sq), (1, .int v1)]) hx hb d_Se_allowLengths_76 hl (k := 3) rfl (by first | rfl | (congr 1)) (by decide) rfl (fun ls hl => ?_)
              refine lv_goto (tgt := 4) hx hb d_Se_allowLengths_79 (by decide) ?_
              exact ih _ _ _ hf _ _ _ hP hD hS (show lv_has ls 7 [(3, .int (v3 + 1)), (2, .int (bI true)), (0, .ref sq), (1, .int v1)] from lv_sub hl [0, 1, 4, 5] rfl)
        · rw [if_pos c34] at hf
          refine lv_lload hx hb d_Se_allowLengths_47 (lv_at hl 0 rfl) ?_
          refine lv_goto (tgt := 58) hx hb d_Se_allowLengths_49 (by decide) ?_
          obtain ⟨g38, hf⟩ := ogi hf
          refine va_last hx hb hK hP hD hS 5 1 rfl rfl (gin_in g38) d_Se_allowLengths_58 (fun H locs hP hD hS => ?_)
          have hP : va_P D vwCl ((seW K sq sA sF sLe sMo sAl sRL sRM sLn sKL sKW fF fL fM sAssigned sLeast sMost sCount (vp_updL sAllowed v3.toNatClampNeg u32) sLengths sKept sKeptLengths sKeptWords) ++ (grW K fF 4 gF) ++ (grW K fL 5 gL) ++ (grW K fM 5 gM)) H := hP
          have hD : va_D A ((seW K sq sA sF sLe sMo sAl sRL sRM sLn sKL sKW fF fL fM sAssigned sLeast sMost sCount (vp_updL sAllowed v3.toNatClampNeg u32) sLengths sKept sKeptLengths sKeptWords) ++ (grW K fF 4 gF) ++ (grW K fL 5 gL) ++ (grW K fM 5 gM)) := hD
          refine lv_iload_n hx hb d_Se_allowLengths_59 rfl (lv_at hl 3 rfl) ?_
          refine bz_eq (tgt := 74) hx hb d_Se_allowLengths_60 (by decide) (fun c39 => ?_) (fun c39 => ?_)
          · rw [if_neg c39] at hf
            refine lv_iconst (v := 0) hx hb d_Se_allowLengths_74 (by decide) ?_
            refine lv_istore_n (lv' := [(2, .int 0), (5, .long u32), (4, .ref q23), (3, .int v3), (0, .ref sq), (1, .int v1)]) hx hb d_Se_allowLengths_75 rfl hl (by decide) rfl (fun ls hl => ?_)
            refine lv_iinc (v := v3 + 1) (lv' := [(3, .int (v3 + 1)), (2, .int 0), (5, .long u32), (4, .ref q23), (0, .ref sq), (1, .int v1)]) hx hb d_Se_allowLengths_76 hl (k := 3) rfl (by first | rfl | (congr 1)) (by decide) rfl (fun ls hl => ?_)
            refine lv_goto (tgt := 4) hx hb d_Se_allowLengths_79 (by decide) ?_
            exact ih _ _ _ hf _ _ _ hP hD hS (show lv_has ls 7 [(3, .int (v3 + 1)), (2, .int (bI false)), (0, .ref sq), (1, .int v1)] from lv_sub hl [0, 1, 4, 5] rfl)
          · rw [if_pos c39] at hf
            refine lv_lload hx hb d_Se_allowLengths_63 (lv_at hl 0 rfl) ?_
            refine lv_lconst (v := 0) hx hb d_Se_allowLengths_65 (by decide) ?_
            refine W.lcmp hx hb d_Se_allowLengths_66 ?_
            refine lc_eq (tgt := 74) hx hb d_Se_allowLengths_67 (by decide) (fun c40 => ?_) (fun c40 => ?_)
            · rw [if_pos c40] at hf
              refine lv_iconst (v := 0) hx hb d_Se_allowLengths_74 (by decide) ?_
              refine lv_istore_n (lv' := [(2, .int 0), (5, .long u32), (4, .ref q23), (3, .int v3), (0, .ref sq), (1, .int v1)]) hx hb d_Se_allowLengths_75 rfl hl (by decide) rfl (fun ls hl => ?_)
              refine lv_iinc (v := v3 + 1) (lv' := [(3, .int (v3 + 1)), (2, .int 0), (5, .long u32), (4, .ref q23), (0, .ref sq), (1, .int v1)]) hx hb d_Se_allowLengths_76 hl (k := 3) rfl (by first | rfl | (congr 1)) (by decide) rfl (fun ls hl => ?_)
              refine lv_goto (tgt := 4) hx hb d_Se_allowLengths_79 (by decide) ?_
              exact ih _ _ _ hf _ _ _ hP hD hS (show lv_has ls 7 [(3, .int (v3 + 1)), (2, .int (bI false)), (0, .ref sq), (1, .int v1)] from lv_sub hl [0, 1, 4, 5] rfl)
            · rw [if_neg c40] at hf
              refine lv_iconst (v := 1) hx hb d_Se_allowLengths_70 (by decide) ?_
              refine lv_goto (tgt := 75) hx hb d_Se_allowLengths_71 (by decide) ?_
              refine lv_istore_n (lv' := [(2, .int 1), (5, .long u32), (4, .ref q23), (3, .int v3), (0, .ref sq), (1, .int v1)]) hx hb d_Se_allowLengths_75 rfl hl (by decide) rfl (fun ls hl => ?_)
              refine lv_iinc (v := v3 + 1) (lv' := [(3, .int (v3 + 1)), (2, .int 1), (5, .long u32), (4, .ref q23), (0, .ref sq), (1, .int v1)]) hx hb d_Se_allowLengths_76 hl (k := 3) rfl (by first | rfl | (congr 1)) (by decide) rfl (fun ls hl => ?_)
              refine lv_goto (tgt := 4) hx hb d_Se_allowLengths_79 (by decide) ?_
              exact ih _ _ _ hf _ _ _ hP hD hS (show lv_has ls 7 [(3, .int (v3 + 1)), (2, .int (bI true)), (0, .ref sq), (1, .int v1)] from lv_sub hl [0, 1, 4, 5] rfl)
def f_Se_allowLengths (n : Nat) (p0 : Int32) (sAssigned : Nat → Option Nat) (sCount : Int32) (sAllowed : Nat → Int64) (gF : Nat → Nat → Int32) (T : auTab) : Option (Bool × (Nat → Int64)) :=
  (f_Se_allowLengths_4 n p0 sAssigned sCount gF T n 0 true sAllowed).bind fun u41 =>
  some (u41.2.1, u41.2.2)
set_option maxHeartbeats 4000000 in
set_option maxRecDepth 100000 in
theorem w_Se_allowLengths  {p0 : Int32}  (hx : p.tables.exec = Jvm.exec) (hb : c.code = b_Se_allowLengths) (hml : c.maxLocals = 7) (hts : ∀ w ∈ gW, w.before args s = true) (hown : s.vm.findClass "RegularSolver$Search" = some m.cls) (hK : va_K D vwCl (tG K) s) (hT : ∀ (q i : Nat), i < 4 → sAssigned i = some q → ∀ (H : Heap) (locs : List Loc), va_S A H0 H locs → va_P D vwCl (auT K T q) H) (hTw : ∀ (q i : Nat), i < 4 → sAssigned i = some q → gAw A (auT K T q)) (hRf : 1 ≤ R.frames) (hRl : 24 ≤ R.locals) (hRc : cells ≤ R.cells) (hRs : slots ≤ R.slots) (hA : ∀ q, H0.size ≤ q → A q) {out : Bool × (Nat → Int64)} (Kr : ∀ (r : Bool × (Nat → Int64)), out = r → ∀ (pc : Nat) (ls : Array Slot) (H : Heap) (locs : List Loc), decode b_Se_allowLengths pc = .ok (.ireturn, 1) → va_P D vwCl ((seW K sq sA sF sLe sMo sAl sRL sRM sLn sKL sKW fF fL fM sAssigned sLeast sMost sCount r.2 sLengths sKept sKeptLengths sKeptWords) ++ (grW K fF 4 gF) ++ (grW K fL 5 gL) ++ (grW K fM 5 gM)) H → va_D A ((seW K sq sA sF sLe sMo sAl sRL sRM sLn sKL sKW fF fL fM sAssigned sLeast sMost sCount r.2 sLengths sKept sKeptLengths sKeptWords) ++ (grW K fF 4 gF) ++ (grW K fL 5 gL) ++ (grW K fM 5 gM)) → va_S A H0 H locs → W p l e R s m args below meth c H locs cells slots Q (F0 m pc ls [.int (bI r.1)])) (hf : f_Se_allowLengths n p0 sAssigned sCount sAllowed gF T = some out) (ls : Array Slot) (hP : va_P D vwCl ((seW K sq sA sF sLe sMo sAl sRL sRM sLn sKL sKW fF fL fM sAssigned sLeast sMost sCount sAllowed sLengths sKept sKeptLengths sKeptWords) ++ (grW K fF 4 gF) ++ (grW K fL 5 gL) ++ (grW K fM 5 gM)) H) (hD : va_D A ((seW K sq sA sF sLe sMo sAl sRL sRM sLn sKL sKW fF fL fM sAssigned sLeast sMost sCount sAllowed sLengths sKept sKeptLengths sKeptWords) ++ (grW K fF 4 gF) ++ (grW K fL 5 gL) ++ (grW K fM 5 gM))) (hS : va_S A H0 H locs) (hl : lv_has ls 7 [(0, .ref sq), (1, .int p0)]) : W p l e R s m args below meth c H locs cells slots Q (F0 m 0 ls []) := by
  unfold f_Se_allowLengths at hf
  refine lv_iconst (v := 1) hx hb d_Se_allowLengths_0 (by decide) ?_
  refine lv_istore_n (lv' := [(2, .int 1), (0, .ref sq), (1, .int p0)]) hx hb d_Se_allowLengths_1 rfl hl (by decide) rfl (fun ls hl => ?_)
  refine lv_iconst (v := 0) hx hb d_Se_allowLengths_2 (by decide) ?_
  refine lv_istore_n (lv' := [(3, .int 0), (2, .int 1), (0, .ref sq), (1, .int p0)]) hx hb d_Se_allowLengths_3 rfl hl (by decide) rfl (fun ls hl => ?_)
  obtain ⟨u41, eu41, hf⟩ := obd hf
  refine w_Se_allowLengths_4 hx hb hml hts hown hK hT hTw hRf hRl hRc hRs hA  (fun u41q eu ls H locs hP hD hS hl => ?_) _ _ _ _ eu41 _ _ _ hP hD hS (show lv_has ls 7 [(3, .int 0), (2, .int (bI true)), (0, .ref sq), (1, .int p0)] from lv_sub hl [0, 1, 2, 3] rfl)
  subst eu
  refine lv_iload_n hx hb d_Se_allowLengths_82 rfl (lv_at hl 0 rfl) ?_
  exact Kr _ (Option.some.inj hf).symm _ _ _ _ d_Se_allowLengths_83 hP hD hS
set_option maxHeartbeats 4000000 in
set_option maxRecDepth 100000 in
theorem c_Se_allowLengths (l : Launch)  {p0 : Int32}  {r : Bool × (Nat → Int64)} (sz : Nat) (hf : f_Se_allowLengths n p0 sAssigned sCount sAllowed gF T = some r) : Met l y_Se_allowLengths w0_Se_allowLengths ({ frames := 1, cells := 0, slots := 0, locals := 24 }) (withT (wPre D K [.ref sq, .int p0] ((seW K sq sA sF sLe sMo sAl sRL sRM sLn sKL sKW fF fL fM sAssigned sLeast sMost sCount sAllowed sLengths sKept sKeptLengths sKeptWords) ++ (grW K fF 4 gF) ++ (grW K fL 5 gL) ++ (grW K fM 5 gM)) sz) D K T sAssigned (va_A ((seW K sq sA sF sLe sMo sAl sRL sRM sLn sKL sKW fF fL fM sAssigned sLeast sMost sCount sAllowed sLengths sKept sKeptLengths sKeptWords) ++ (grW K fF 4 gF) ++ (grW K fL 5 gL) ++ (grW K fM 5 gM)) sz)) (wPost D K (some (.int (bI r.1))) ((seW K sq sA sF sLe sMo sAl sRL sRM sLn sKL sKW fF fL fM sAssigned sLeast sMost sCount r.2 sLengths sKept sKeptLengths sKeptWords) ++ (grW K fF 4 gF) ++ (grW K fL 5 gL) ++ (grW K fM 5 gM)) (va_A ((seW K sq sA sF sLe sMo sAl sRL sRM sLn sKL sKW fF fL fM sAssigned sLeast sMost sCount sAllowed sLengths sKept sKeptLengths sKeptWords) ++ (grW K fF 4 gF) ++ (grW K fL 5 gL) ++ (grW K fM 5 gM)) sz)) 0 0 (va_A ((seW K sq sA sF sLe sMo sAl sRL sRM sLn sKL sKW fF fL fM sAssigned sLeast sMost sCount sAllowed sLengths sKept sKeptLengths sKeptWords) ++ (grW K fF 4 gF) ++ (grW K fL 5 gL) ++ (grW K fM 5 gM)) sz) := by
  refine Met.ofW (cc := b_Se_allowLengths) (maxL := 7) (ret := (some .boolean)) (by decide) rfl ?_
  intro p e s m args below meth c s₁ B hml hv
  obtain ⟨hv, hT0⟩ := hv
  obtain ⟨rfl, hsz, hP, hK, hD0⟩ := hv
  subst hsz
  have hl := lv_entry [.ref sq, .int p0] (n := 7) (Nat.le_of_ble_eq_true rfl)
  rw [lg_entry_eq]
  generalize (lg_sl [.ref sq, .int p0] ++ List.replicate (7 - (lg_sl [.ref sq, .int p0]).length) Slot.unset).toArray = ls at hl ⊢
  refine w_Se_allowLengths (A := va_A ((seW K sq sA sF sLe sMo sAl sRL sRM sLn sKL sKW fF fL fM sAssigned sLeast sMost sCount sAllowed sLengths sKept sKeptLengths sKeptWords) ++ (grW K fF 4 gF) ++ (grW K fL 5 gL) ++ (grW K fM 5 gM)) s.heap.size) (H0 := s.heap) B.exec B.bytes hml (fun w hw => atoms_spec (ws := w0_Se_allowLengths) B.pre w (List.mem_cons_of_mem _ hw)) (findClass_of_methodNamed B.named) hK (fun q i hi hq _ _ hS => ro_of (hT0 q i hi hq).1 (hT0 q i hi hq).2 hS) (fun q i hi hq => (hT0 q i hi hq).2) (Nat.le_refl _) (Nat.le_refl _) (Nat.zero_le _) (Nat.zero_le _) (fun q h => Or.inr h) (fun r er pc ls H locs hd hP hD hS => ?_) hf ls hP (hD0.self (sz := s.heap.size)) va_S.rf hl
  subst er
  exact W.zret B.exec B.bytes B.returns (bI_nar _) (fun t ht hW => ⟨⟨rfl, by rw [ht]; exact hP, va_K.moved hW.alike hK, hD⟩, hS.F ht⟩) hS.2.2 hd (hlocks := B.notSynchronized)
end
section
variable {p : Program} {l : Launch} {e : Env} {R : Room} {s : State} {m : MethodId} {args : Array Value} {below : List Frame} {meth : Method} {c : Code} {H : Heap} {locs : List Loc} {cells slots : Nat} {Q : State → Prop} {A : Nat → Prop} {H0 : Heap}
variable {n : Nat} {D : va_G} {K : Nat → ClassId} {sq : Nat} {sA : Nat} {sF : Nat} {sLe : Nat} {sMo : Nat} {sAl : Nat} {sRL : Nat} {sRM : Nat} {sLn : Nat} {sKL : Nat} {sKW : Nat} {fF : Nat → Nat} {fL : Nat → Nat} {fM : Nat → Nat} {sAssigned : Nat → Option Nat} {sLeast : Nat → Int32} {sMost : Nat → Int32} {sCount : Int32} {sAllowed : Nat → Int64} {sLengths : Nat → Int32} {sKept : Bool} {sKeptLengths : Nat → Int32} {sKeptWords : Nat → Int64} {gF : Nat → Nat → Int32} {gL : Nat → Nat → Int32} {gM : Nat → Nat → Int32} {T : auTab}
def f_Se_keepWords_2 (n : Nat) (sAssigned : Nat → Option Nat) (sLengths : Nat → Int32) (T : auTab) : Nat → Int32 → (Nat → Int32) → (Nat → Int64) → Option (Int32 × (Nat → Int32) × (Nat → Int64))
  | 0, _, _, _ => none
  | k + 1, v1, sKeptLengths, sKeptWords =>
    if 4 ≤ v1 then
      some (v1, sKeptLengths, sKeptWords)
    else
      ogd (gin v1 4) <|
      oq (sAssigned v1.toNatClampNeg) (
        ogd (gin v1 4) <|
        ogd (gin v1 4) <|
        ogd (gin v1 4) <|
        f_Se_keepWords_2 n sAssigned sLengths T k (v1 + 1) (upd sKeptLengths v1.toNatClampNeg (sLengths v1.toNatClampNeg)) (vp_updL sKeptWords v1.toNatClampNeg 0))
      fun q14 =>
        ogd (gin v1 4) <|
        ogd (gin v1 4) <|
        ogd (gin v1 4) <|
        (f_Au_leastWord n (sLengths v1.toNatClampNeg) ((T q14).2.2.2.1) ((T q14).2.2.2.2.1) ((T q14).2.2.2.2.2.2)).bind fun u21 =>
        ogd (gin v1 4) <|
        f_Se_keepWords_2 n sAssigned sLengths T k (v1 + 1) (upd sKeptLengths v1.toNatClampNeg (sLengths v1.toNatClampNeg)) (vp_updL sKeptWords v1.toNatClampNeg u21)
set_option maxHeartbeats 4000000 in
set_option maxRecDepth 100000 in
theorem w_Se_keepWords_2   (hx : p.tables.exec = Jvm.exec) (hb : c.code = b_Se_keepWords) (hml : c.maxLocals = 3) (hts : ∀ w ∈ gW, w.before args s = true) (hown : s.vm.findClass "RegularSolver$Search" = some m.cls) (hK : va_K D vwCl (tG K) s) (hT : ∀ (q i : Nat), i < 4 → sAssigned i = some q → ∀ (H : Heap) (locs : List Loc), va_S A H0 H locs → va_P D vwCl (auT K T q) H) (hTw : ∀ (q i : Nat), i < 4 → sAssigned i = some q → gAw A (auT K T q)) (hRf : 3 ≤ R.frames) (hRl : 72 ≤ R.locals) (hRc : cells ≤ R.cells) (hRs : slots ≤ R.slots) (hA : ∀ q, H0.size ≤ q → A q)  {out : Int32 × (Nat → Int32) × (Nat → Int64)} (Kx : ∀ (u : Int32 × (Nat → Int32) × (Nat → Int64)), out = u → ∀ (ls : Array Slot) (H : Heap) (locs : List Loc), va_P D vwCl ((seW K sq sA sF sLe sMo sAl sRL sRM sLn sKL sKW fF fL fM sAssigned sLeast sMost sCount sAllowed sLengths sKept u.2.1 u.2.2) ++ (grW K fF 4 gF) ++ (grW K fL 5 gL) ++ (grW K fM 5 gM)) H → va_D A ((seW K sq sA sF sLe sMo sAl sRL sRM sLn sKL sKW fF fL fM sAssigned sLeast sMost sCount sAllowed sLengths sKept u.2.1 u.2.2) ++ (grW K fF 4 gF) ++ (grW K fL 5 gL) ++ (grW K fM 5 gM)) → va_S A H0 H locs → lv_has ls 3 [] → W p l e R s m args below meth c H locs cells slots Q (F0 m 56 ls [])) :
    ∀ (k : Nat) (v1 : Int32) (sKeptLengths : Nat → Int32) (sKeptWords : Nat → Int64), f_Se_keepWords_2 n sAssigned sLengths T k v1 sKeptLengths sKeptWords = some out → ∀ (ls : Array Slot) (H : Heap) (locs : List Loc), va_P D vwCl ((seW K sq sA sF sLe sMo sAl sRL sRM sLn sKL sKW fF fL fM sAssigned sLeast sMost sCount sAllowed sLengths sKept sKeptLengths sKeptWords) ++ (grW K fF 4 gF) ++ (grW K fL 5 gL) ++ (grW K fM 5 gM)) H → va_D A ((seW K sq sA sF sLe sMo sAl sRL sRM sLn sKL sKW fF fL fM sAssigned sLeast sMost sCount sAllowed sLengths sKept sKeptLengths sKeptWords) ++ (grW K fF 4 gF) ++ (grW K fL 5 gL) ++ (grW K fM 5 gM)) → va_S A H0 H locs → lv_has ls 3 [(1, .int v1), (0, .ref sq)] → W p l e R s m args below meth c H locs cells slots Q (F0 m 2 ls []) := by
  intro k
  induction k with
  | zero => intro _ _ _ hf; exact nomatch (show none = some out from hf)
  | succ k ih =>
    intro v1 sKeptLengths sKeptWords hf ls H locs hP hD hS hl
    rw [f_Se_keepWords_2] at hf
    refine lv_iload_n hx hb d_Se_keepWords_2 rfl (lv_at hl 0 rfl) ?_
    refine lv_iconst (v := 4) hx hb d_Se_keepWords_3 (by decide) ?_
    refine lv_icmp_ge (tgt := 56) hx hb d_Se_keepWords_4 (by decide) (fun c12 => ?_) (fun c12 => ?_)
    · rw [if_pos c12] at hf
      exact Kx _ (Option.some.inj hf).symm _ _ _ hP hD hS (show lv_has ls 3 [] from lv_sub hl [] rfl)
    · rw [if_neg c12] at hf
      refine lv_aload_n hx hb d_Se_keepWords_7 rfl (lv_at hl 1 rfl) ?_
      refine va_get (D := D) (ci := 9) (v := .ref sA) (C := R_Se) (T := T_Se) (N := 12) hx hb hts in_Se hown hK hP 0 rfl rfl 0 (by decide) (hts _ fl_Se_11) (fun _ h9 => h9) rfl d_Se_keepWords_8 ?_
      refine lv_iload_n hx hb d_Se_keepWords_11 rfl (lv_at hl 0 rfl) ?_
      obtain ⟨g13, hf⟩ := ogi hf
      refine va_aldq hx hb hK hP 1 3 rfl rfl (gin_in g13) d_Se_keepWords_12 ?_
      generalize hq14 : sAssigned v1.toNatClampNeg = xq14 at hf ⊢
      cases xq14 with
      | none =>
        replace hf := oqn hf
        refine lv_astore_nN (lv' := [(2, .null), (1, .int v1), (0, .ref sq)]) hx hb d_Se_keepWords_13 rfl hl (by decide) rfl (fun ls hl => ?_)
        refine lv_aload_n hx hb d_Se_keepWords_14 rfl (lv_at hl 2 rfl) ?_
        refine va_get (D := D) (ci := 9) (v := .ref sKL) (C := R_Se) (T := T_Se) (N := 12) hx hb hts in_Se hown hK hP 0 rfl rfl 10 (by decide) (hts _ fl_Se_50) (fun _ h9 => h9) rfl d_Se_keepWords_15 ?_
        refine lv_iload_n hx hb d_Se_keepWords_18 rfl (lv_at hl 1 rfl) ?_
        refine lv_aload_n hx hb d_Se_keepWords_19 rfl (lv_at hl 2 rfl) ?_
        refine va_get (D := D) (ci := 9) (v := .ref sLn) (C := R_Se) (T := T_Se) (N := 12) hx hb hts in_Se hown hK hP 0 rfl rfl 8 (by decide) (hts _ fl_Se_43) (fun _ h9 => h9) rfl d_Se_keepWords_20 ?_
        refine lv_iload_n hx hb d_Se_keepWords_23 rfl (lv_at hl 1 rfl) ?_
        obtain ⟨g15, hf⟩ := ogi hf
        refine va_iald hx hb hK hP 8 0 rfl rfl (gin_in g15) d_Se_keepWords_24 ?_
        obtain ⟨g16, hf⟩ := ogi hf
        refine va_iast hx hb hK hP hD hS 9 0 rfl rfl (gin_in g16) d_Se_keepWords_25 (fun H locs hP hD hS => ?_)
        have hP : va_P D vwCl ((seW K sq sA sF sLe sMo sAl sRL sRM sLn sKL sKW fF fL fM sAssigned sLeast sMost sCount sAllowed sLengths sKept (upd sKeptLengths v1.toNatClampNeg (sLengths v1.toNatClampNeg)) sKeptWords) ++ (grW K fF 4 gF) ++ (grW K fL 5 gL) ++ (grW K fM 5 gM)) H := hP
        have hD : va_D A ((seW K sq sA sF sLe sMo sAl sRL sRM sLn sKL sKW fF fL fM sAssigned sLeast sMost sCount sAllowed sLengths sKept (upd sKeptLengths v1.toNatClampNeg (sLengths v1.toNatClampNeg)) sKeptWords) ++ (grW K fF 4 gF) ++ (grW K fL 5 gL) ++ (grW K fM 5 gM)) := hD
        refine lv_aload_n hx hb d_Se_keepWords_26 rfl (lv_at hl 2 rfl) ?_
        refine va_get (D := D) (ci := 9) (v := .ref sKW) (C := R_Se) (T := T_Se) (N := 12) hx hb hts in_Se hown hK hP 0 rfl rfl 11 (by decide) (hts _ fl_Se_53) (fun _ h9 => h9) rfl d_Se_keepWords_27 ?_
        refine lv_iload_n hx hb d_Se_keepWords_30 rfl (lv_at hl 1 rfl) ?_
        refine lv_aload_nN hx hb d_Se_keepWords_31 rfl (lv_at hl 0 rfl) ?_
        refine lv_ifnonnullN hx hb d_Se_keepWords_32 ?_
        refine lv_lconst (v := 0) hx hb d_Se_keepWords_35 (by decide) ?_
        refine lv_goto (tgt := 49) hx hb d_Se_keepWords_36 (by decide) ?_
        obtain ⟨g17, hf⟩ := ogi hf
        refine va_last hx hb hK hP hD hS 10 1 rfl rfl (gin_in g17) d_Se_keepWords_49 (fun H locs hP hD hS => ?_)
        have hP : va_P D vwCl ((seW K sq sA sF sLe sMo sAl sRL sRM sLn sKL sKW fF fL fM sAssigned sLeast sMost sCount sAllowed sLengths sKept (upd sKeptLengths v1.toNatClampNeg (sLengths v1.toNatClampNeg)) (vp_updL sKeptWords v1.toNatClampNeg 0)) ++ (grW K fF 4 gF) ++ (grW K fL 5 gL) ++ (grW K fM 5 gM)) H := hP
        have hD : va_D A ((seW K sq sA sF sLe sMo sAl sRL sRM sLn sKL sKW fF fL fM sAssigned sLeast sMost sCount sAllowed sLengths sKept (upd sKeptLengths v1.toNatClampNeg (sLengths v1.toNatClampNeg)) (vp_updL sKeptWords v1.toNatClampNeg 0)) ++ (grW K fF 4 gF) ++ (grW K fL 5 gL) ++ (grW K fM 5 gM)) := hD
        refine lv_iinc (v := v1 + 1) (lv' := [(1, .int (v1 + 1)), (2, .null), (0, .ref sq)]) hx hb d_Se_keepWords_50 hl (k := 1) rfl (by first | rfl | (congr 1)) (by decide) rfl (fun ls hl => ?_)
        refine lv_goto (tgt := 2) hx hb d_Se_keepWords_53 (by decide) ?_
        exact ih _ _ _ hf _ _ _ hP hD hS (show lv_has ls 3 [(1, .int (v1 + 1)), (0, .ref sq)] from lv_sub hl [0, 2] rfl)
      | some q14 =>
        replace hf := oqs hf
        have hTq14 := hT q14 _ (gin_lt g13) hq14
        refine lv_astore_n (lv' := [(2, .ref q14), (1, .int v1), (0, .ref sq)]) hx hb d_Se_keepWords_13 rfl hl (by decide) rfl (fun ls hl => ?_)
        refine lv_aload_n hx hb d_Se_keepWords_14 rfl (lv_at hl 2 rfl) ?_
        refine va_get (D := D) (ci := 9) (v := .ref sKL) (C := R_Se) (T := T_Se) (N := 12) hx hb hts in_Se hown hK hP 0 rfl rfl 10 (by decide) (hts _ fl_Se_50) (fun _ h9 => h9) rfl d_Se_keepWords_15 ?_
        refine lv_iload_n hx hb d_Se_keepWords_18 rfl (lv_at hl 1 rfl) ?_
        refine lv_aload_n hx hb d_Se_keepWords_19 rfl (lv_at hl 2 rfl) ?_
        refine va_get (D := D) (ci := 9) (v := .ref sLn) (C := R_Se) (T := T_Se) (N := 12) hx hb hts in_Se hown hK hP 0 rfl rfl 8 (by decide) (hts _ fl_Se_43) (fun _ h9 => h9) rfl d_Se_keepWords_20 ?_
        refine lv_iload_n hx hb d_Se_keepWords_23 rfl (lv_at hl 1 rfl) ?_
        obtain ⟨g18, hf⟩ := ogi hf
        refine va_iald hx hb hK hP 8 0 rfl rfl (gin_in g18) d_Se_keepWords_24 ?_
        obtain ⟨g19, hf⟩ := ogi hf
        refine va_iast hx hb hK hP hD hS 9 0 rfl rfl (gin_in g19) d_Se_keepWords_25 (fun H locs hP hD hS => ?_)
        have hP : va_P D vwCl ((seW K sq sA sF sLe sMo sAl sRL sRM sLn sKL sKW fF fL fM sAssigned sLeast sMost sCount sAllowed sLengths sKept (upd sKeptLengths v1.toNatClampNeg (sLengths v1.toNatClampNeg)) sKeptWords) ++ (grW K fF 4 gF) ++ (grW K fL 5 gL) ++ (grW K fM 5 gM)) H := hP
        have hD : va_D A ((seW K sq sA sF sLe sMo sAl sRL sRM sLn sKL sKW fF fL fM sAssigned sLeast sMost sCount sAllowed sLengths sKept (upd sKeptLengths v1.toNatClampNeg (sLengths v1.toNatClampNeg)) sKeptWords) ++ (grW K fF 4 gF) ++ (grW K fL 5 gL) ++ (grW K fM 5 gM)) := hD
        refine lv_aload_n hx hb d_Se_keepWords_26 rfl (lv_at hl 2 rfl) ?_
        refine va_get (D := D) (ci := 9) (v := .ref sKW) (C := R_Se) (T := T_Se) (N := 12) hx hb hts in_Se hown hK hP 0 rfl rfl 11 (by decide) (hts _ fl_Se_53) (fun _ h9 => h9) rfl d_Se_keepWords_27 ?_
        refine lv_iload_n hx hb d_Se_keepWords_30 rfl (lv_at hl 1 rfl) ?_
        refine lv_aload_n hx hb d_Se_keepWords_31 rfl (lv_at hl 0 rfl) ?_
        refine lv_ifnonnull (tgt := 39) hx hb d_Se_keepWords_32 (by decide) ?_
        refine lv_aload_n hx hb d_Se_keepWords_39 rfl (lv_at hl 0 rfl) ?_
        refine lv_aload_n hx hb d_Se_keepWords_40 rfl (lv_at hl 2 rfl) ?_
        refine va_get (D := D) (ci := 9) (v := .ref sLn) (C := R_Se) (T := T_Se) (N := 12) hx hb hts in_Se hown hK hP 0 rfl rfl 8 (by decide) (hts _ fl_Se_43) (fun _ h9 => h9) rfl d_Se_keepWords_41 ?_
        refine lv_iload_n hx hb d_Se_keepWords_44 rfl (lv_at hl 1 rfl) ?_
        obtain ⟨g20, hf⟩ := ogi hf
        refine va_iald hx hb hK hP 8 0 rfl rfl (gin_in g20) d_Se_keepWords_45 ?_
        obtain ⟨u21, eu21, hf⟩ := obd hf
        refine p_call (W.runV (As := [.int (sLengths v1.toNatClampNeg)]) (rest := [.int v1, .ref sKW]) ⟨hx, hb, hml, hown, hts⟩ (c_Au_leastWord l eu21) (gV 1 hts cd_Au_leastWord ml_Se_120 im_Au_leastWord se_Au_leastWord ini_Au rfl rfl pd_Au_leastWord ⟨Nat.le_trans (Nat.le_of_ble_eq_true rfl) hRf, Nat.le_trans (Nat.le_of_ble_eq_true rfl) hRl⟩) ⟨pPre_blind, va_recv hK (hTq14 _ _ hS) (ci := 1) (q0 := 0) rfl rfl, pPre_of (hTq14 _ _ hS) hK⟩ rfl rfl hl.1 rfl (lv_room (Nat.le_of_ble_eq_true rfl)) d_Se_keepWords_46 ⟨hRc, hRs⟩) ?_
        obtain ⟨g22, hf⟩ := ogi hf
        refine va_last hx hb hK hP hD hS 10 1 rfl rfl (gin_in g22) d_Se_keepWords_49 (fun H locs hP hD hS => ?_)
        have hP : va_P D vwCl ((seW K sq sA sF sLe sMo sAl sRL sRM sLn sKL sKW fF fL fM sAssigned sLeast sMost sCount sAllowed sLengths sKept (upd sKeptLengths v1.toNatClampNeg (sLengths v1.toNatClampNeg)) (vp_updL sKeptWords v1.toNatClampNeg u21)) ++ (grW K fF 4 gF) ++ (grW K fL 5 gL) ++ (grW K fM 5 gM)) H := hP
        have hD : va_D A ((seW K sq sA sF sLe sMo sAl sRL sRM sLn sKL sKW fF fL fM sAssigned sLeast sMost sCount sAllowed sLengths sKept (upd sKeptLengths v1.toNatClampNeg (sLengths v1.toNatClampNeg)) (vp_updL sKeptWords v1.toNatClampNeg u21)) ++ (grW K fF 4 gF) ++ (grW K fL 5 gL) ++ (grW K fM 5 gM)) := hD
        refine lv_iinc (v := v1 + 1) (lv' := [(1, .int (v1 + 1)), (2, .ref q14), (0, .ref sq)]) hx hb d_Se_keepWords_50 hl (k := 1) rfl (by first | rfl | (congr 1)) (by decide) rfl (fun ls hl => ?_)
        refine lv_goto (tgt := 2) hx hb d_Se_keepWords_53 (by decide) ?_
        exact ih _ _ _ hf _ _ _ hP hD hS (show lv_has ls 3 [(1, .int (v1 + 1)), (0, .ref sq)] from lv_sub hl [0, 2] rfl)
def f_Se_keepWords (n : Nat) (sAssigned : Nat → Option Nat) (sLengths : Nat → Int32) (sKeptLengths : Nat → Int32) (sKeptWords : Nat → Int64) (T : auTab) : Option ((Nat → Int32) × (Nat → Int64)) :=
  (f_Se_keepWords_2 n sAssigned sLengths T n 0 sKeptLengths sKeptWords).bind fun u23 =>
  some (u23.2.1, u23.2.2)
set_option maxHeartbeats 4000000 in
set_option maxRecDepth 100000 in
theorem w_Se_keepWords    (hx : p.tables.exec = Jvm.exec) (hb : c.code = b_Se_keepWords) (hml : c.maxLocals = 3) (hts : ∀ w ∈ gW, w.before args s = true) (hown : s.vm.findClass "RegularSolver$Search" = some m.cls) (hK : va_K D vwCl (tG K) s) (hT : ∀ (q i : Nat), i < 4 → sAssigned i = some q → ∀ (H : Heap) (locs : List Loc), va_S A H0 H locs → va_P D vwCl (auT K T q) H) (hTw : ∀ (q i : Nat), i < 4 → sAssigned i = some q → gAw A (auT K T q)) (hRf : 3 ≤ R.frames) (hRl : 72 ≤ R.locals) (hRc : cells ≤ R.cells) (hRs : slots ≤ R.slots) (hA : ∀ q, H0.size ≤ q → A q) {out : (Nat → Int32) × (Nat → Int64)} (Kr : ∀ (r : (Nat → Int32) × (Nat → Int64)), out = r → ∀ (pc : Nat) (ls : Array Slot) (H : Heap) (locs : List Loc), decode b_Se_keepWords pc = .ok (.return_, 1) → va_P D vwCl ((seW K sq sA sF sLe sMo sAl sRL sRM sLn sKL sKW fF fL fM sAssigned sLeast sMost sCount sAllowed sLengths sKept r.1 r.2) ++ (grW K fF 4 gF) ++ (grW K fL 5 gL) ++ (grW K fM 5 gM)) H → va_D A ((seW K sq sA sF sLe sMo sAl sRL sRM sLn sKL sKW fF fL fM sAssigned sLeast sMost sCount sAllowed sLengths sKept r.1 r.2) ++ (grW K fF 4 gF) ++ (grW K fL 5 gL) ++ (grW K fM 5 gM)) → va_S A H0 H locs → W p l e R s m args below meth c H locs cells slots Q (F0 m pc ls [])) (hf : f_Se_keepWords n sAssigned sLengths sKeptLengths sKeptWords T = some out) (ls : Array Slot) (hP : va_P D vwCl ((seW K sq sA sF sLe sMo sAl sRL sRM sLn sKL sKW fF fL fM sAssigned sLeast sMost sCount sAllowed sLengths sKept sKeptLengths sKeptWords) ++ (grW K fF 4 gF) ++ (grW K fL 5 gL) ++ (grW K fM 5 gM)) H) (hD : va_D A ((seW K sq sA sF sLe sMo sAl sRL sRM sLn sKL sKW fF fL fM sAssigned sLeast sMost sCount sAllowed sLengths sKept sKeptLengths sKeptWords) ++ (grW K fF 4 gF) ++ (grW K fL 5 gL) ++ (grW K fM 5 gM))) (hS : va_S A H0 H locs) (hl : lv_has ls 3 [(0, .ref sq)]) : W p l e R s m args below meth c H locs cells slots Q (F0 m 0 ls []) := by
  unfold f_Se_keepWords at hf
  refine lv_iconst (v := 0) hx hb d_Se_keepWords_0 (by decide) ?_
  refine lv_istore_n (lv' := [(1, .int 0), (0, .ref sq)]) hx hb d_Se_keepWords_1 rfl hl (by decide) rfl (fun ls hl => ?_)
  obtain ⟨u23, eu23, hf⟩ := obd hf
  refine w_Se_keepWords_2 hx hb hml hts hown hK hT hTw hRf hRl hRc hRs hA  (fun u23q eu ls H locs hP hD hS hl => ?_) _ _ _ _ eu23 _ _ _ hP hD hS (show lv_has ls 3 [(1, .int 0), (0, .ref sq)] from lv_sub hl [0, 1] rfl)
  subst eu
  exact Kr _ (Option.some.inj hf).symm _ _ _ _ d_Se_keepWords_56 hP hD hS
set_option maxHeartbeats 4000000 in
set_option maxRecDepth 100000 in
theorem c_Se_keepWords (l : Launch)    {r : (Nat → Int32) × (Nat → Int64)} (sz : Nat) (hf : f_Se_keepWords n sAssigned sLengths sKeptLengths sKeptWords T = some r) : Met l y_Se_keepWords w0_Se_keepWords ({ frames := 3, cells := 0, slots := 0, locals := 72 }) (withT (wPre D K [.ref sq] ((seW K sq sA sF sLe sMo sAl sRL sRM sLn sKL sKW fF fL fM sAssigned sLeast sMost sCount sAllowed sLengths sKept sKeptLengths sKeptWords) ++ (grW K fF 4 gF) ++ (grW K fL 5 gL) ++ (grW K fM 5 gM)) sz) D K T sAssigned (va_A ((seW K sq sA sF sLe sMo sAl sRL sRM sLn sKL sKW fF fL fM sAssigned sLeast sMost sCount sAllowed sLengths sKept sKeptLengths sKeptWords) ++ (grW K fF 4 gF) ++ (grW K fL 5 gL) ++ (grW K fM 5 gM)) sz)) (wPost D K none ((seW K sq sA sF sLe sMo sAl sRL sRM sLn sKL sKW fF fL fM sAssigned sLeast sMost sCount sAllowed sLengths sKept r.1 r.2) ++ (grW K fF 4 gF) ++ (grW K fL 5 gL) ++ (grW K fM 5 gM)) (va_A ((seW K sq sA sF sLe sMo sAl sRL sRM sLn sKL sKW fF fL fM sAssigned sLeast sMost sCount sAllowed sLengths sKept sKeptLengths sKeptWords) ++ (grW K fF 4 gF) ++ (grW K fL 5 gL) ++ (grW K fM 5 gM)) sz)) 0 0 (va_A ((seW K sq sA sF sLe sMo sAl sRL sRM sLn sKL sKW fF fL fM sAssigned sLeast sMost sCount sAllowed sLengths sKept sKeptLengths sKeptWords) ++ (grW K fF 4 gF) ++ (grW K fL 5 gL) ++ (grW K fM 5 gM)) sz) := by
  refine Met.ofW (cc := b_Se_keepWords) (maxL := 3) (ret := none) (by decide) rfl ?_
  intro p e s m args below meth c s₁ B hml hv
  obtain ⟨hv, hT0⟩ := hv
  obtain ⟨rfl, hsz, hP, hK, hD0⟩ := hv
  subst hsz
  have hl := lv_entry [.ref sq] (n := 3) (Nat.le_of_ble_eq_true rfl)
  rw [lg_entry_eq]
  generalize (lg_sl [.ref sq] ++ List.replicate (3 - (lg_sl [.ref sq]).length) Slot.unset).toArray = ls at hl ⊢
  refine w_Se_keepWords (A := va_A ((seW K sq sA sF sLe sMo sAl sRL sRM sLn sKL sKW fF fL fM sAssigned sLeast sMost sCount sAllowed sLengths sKept sKeptLengths sKeptWords) ++ (grW K fF 4 gF) ++ (grW K fL 5 gL) ++ (grW K fM 5 gM)) s.heap.size) (H0 := s.heap) B.exec B.bytes hml (fun w hw => atoms_spec (ws := w0_Se_keepWords) B.pre w (List.mem_cons_of_mem _ hw)) (findClass_of_methodNamed B.named) hK (fun q i hi hq _ _ hS => ro_of (hT0 q i hi hq).1 (hT0 q i hi hq).2 hS) (fun q i hi hq => (hT0 q i hi hq).2) (Nat.le_refl _) (Nat.le_refl _) (Nat.zero_le _) (Nat.zero_le _) (fun q h => Or.inr h) (fun r er pc ls H locs hd hP hD hS => ?_) hf ls hP (hD0.self (sz := s.heap.size)) va_S.rf hl
  subst er
  exact W.vret B.exec B.bytes B.returns (fun t ht hW => ⟨⟨rfl, by rw [ht]; exact hP, va_K.moved hW.alike hK, hD⟩, hS.F ht⟩) hS.2.2 hd (hlocks := B.notSynchronized)
end
section
variable {p : Program} {l : Launch} {e : Env} {R : Room} {s : State} {m : MethodId} {args : Array Value} {below : List Frame} {meth : Method} {c : Code} {H : Heap} {locs : List Loc} {cells slots : Nat} {Q : State → Prop} {A : Nat → Prop} {H0 : Heap}
variable {n : Nat} {D : va_G} {K : Nat → ClassId} {sq : Nat} {sA : Nat} {sF : Nat} {sLe : Nat} {sMo : Nat} {sAl : Nat} {sRL : Nat} {sRM : Nat} {sLn : Nat} {sKL : Nat} {sKW : Nat} {fF : Nat → Nat} {fL : Nat → Nat} {fM : Nat → Nat} {sAssigned : Nat → Option Nat} {sLeast : Nat → Int32} {sMost : Nat → Int32} {sCount : Int32} {sAllowed : Nat → Int64} {sLengths : Nat → Int32} {sKept : Bool} {sKeptLengths : Nat → Int32} {sKeptWords : Nat → Int64} {gF : Nat → Nat → Int32} {gL : Nat → Nat → Int32} {gM : Nat → Nat → Int32} {T : auTab}
def f_Se_find (n : Nat) (p0 : Int32) (sAssigned : Nat → Option Nat) (sLeast : Nat → Int32) (sMost : Nat → Int32) (sCount : Int32) (sAllowed : Nat → Int64) (sLengths : Nat → Int32) (sKeptLengths : Nat → Int32) (sKeptWords : Nat → Int64) (gF : Nat → Nat → Int32) (gL : Nat → Nat → Int32) (gM : Nat → Nat → Int32) (T : auTab) : Option (Bool × (Nat → Int64) × (Nat → Int32) × Bool × (Nat → Int32) × (Nat → Int64) × (Nat → Nat → Int32) × (Nat → Nat → Int32)) :=
  (f_Se_allowLengths n p0 sAssigned sCount sAllowed gF T).bind fun u1 =>
  if u1.1 = true then
    (f_Se_findLengths n sLeast sMost sCount u1.2 sLengths gF gL gM).bind fun u7 =>
    if u7.1 = true then
      if true = true then
        (f_Se_keepWords n sAssigned u7.2.1 sKeptLengths sKeptWords T).bind fun u14 =>
        some (true, u1.2, u7.2.1, true, u14.1, u14.2, u7.2.2.1, u7.2.2.2)
      else
        some (true, u1.2, u7.2.1, true, sKeptLengths, sKeptWords, u7.2.2.1, u7.2.2.2)
    else
      if false = true then
        (f_Se_keepWords n sAssigned u7.2.1 sKeptLengths sKeptWords T).bind fun u11 =>
        some (false, u1.2, u7.2.1, false, u11.1, u11.2, u7.2.2.1, u7.2.2.2)
      else
        some (false, u1.2, u7.2.1, false, sKeptLengths, sKeptWords, u7.2.2.1, u7.2.2.2)
  else
    if false = true then
      (f_Se_keepWords n sAssigned sLengths sKeptLengths sKeptWords T).bind fun u5 =>
      some (false, u1.2, sLengths, false, u5.1, u5.2, gL, gM)
    else
      some (false, u1.2, sLengths, false, sKeptLengths, sKeptWords, gL, gM)
set_option maxHeartbeats 4000000 in
set_option maxRecDepth 100000 in
theorem w_Se_find  {p0 : Int32}  (hx : p.tables.exec = Jvm.exec) (hb : c.code = b_Se_find) (hml : c.maxLocals = 2) (hts : ∀ w ∈ gW, w.before args s = true) (hown : s.vm.findClass "RegularSolver$Search" = some m.cls) (hK : va_K D vwCl (tG K) s) (hT : ∀ (q i : Nat), i < 4 → sAssigned i = some q → ∀ (H : Heap) (locs : List Loc), va_S A H0 H locs → va_P D vwCl (auT K T q) H) (hTw : ∀ (q i : Nat), i < 4 → sAssigned i = some q → gAw A (auT K T q)) (hRf : 10 ≤ R.frames) (hRl : 246 ≤ R.locals) (hRc : cells ≤ R.cells) (hRs : slots ≤ R.slots) (hA : ∀ q, H0.size ≤ q → A q) {out : Bool × (Nat → Int64) × (Nat → Int32) × Bool × (Nat → Int32) × (Nat → Int64) × (Nat → Nat → Int32) × (Nat → Nat → Int32)} (Kr : ∀ (r : Bool × (Nat → Int64) × (Nat → Int32) × Bool × (Nat → Int32) × (Nat → Int64) × (Nat → Nat → Int32) × (Nat → Nat → Int32)), out = r → ∀ (pc : Nat) (ls : Array Slot) (H : Heap) (locs : List Loc), decode b_Se_find pc = .ok (.ireturn, 1) → va_P D vwCl ((seW K sq sA sF sLe sMo sAl sRL sRM sLn sKL sKW fF fL fM sAssigned sLeast sMost sCount r.2.1 r.2.2.1 r.2.2.2.1 r.2.2.2.2.1 r.2.2.2.2.2.1) ++ (grW K fF 4 gF) ++ (grW K fL 5 r.2.2.2.2.2.2.1) ++ (grW K fM 5 r.2.2.2.2.2.2.2)) H → va_D A ((seW K sq sA sF sLe sMo sAl sRL sRM sLn sKL sKW fF fL fM sAssigned sLeast sMost sCount r.2.1 r.2.2.1 r.2.2.2.1 r.2.2.2.2.1 r.2.2.2.2.2.1) ++ (grW K fF 4 gF) ++ (grW K fL 5 r.2.2.2.2.2.2.1) ++ (grW K fM 5 r.2.2.2.2.2.2.2)) → va_S A H0 H locs → W p l e R s m args below meth c H locs cells slots Q (F0 m pc ls [.int (bI r.1)])) (hf : f_Se_find n p0 sAssigned sLeast sMost sCount sAllowed sLengths sKeptLengths sKeptWords gF gL gM T = some out) (ls : Array Slot) (hP : va_P D vwCl ((seW K sq sA sF sLe sMo sAl sRL sRM sLn sKL sKW fF fL fM sAssigned sLeast sMost sCount sAllowed sLengths sKept sKeptLengths sKeptWords) ++ (grW K fF 4 gF) ++ (grW K fL 5 gL) ++ (grW K fM 5 gM)) H) (hD : va_D A ((seW K sq sA sF sLe sMo sAl sRL sRM sLn sKL sKW fF fL fM sAssigned sLeast sMost sCount sAllowed sLengths sKept sKeptLengths sKeptWords) ++ (grW K fF 4 gF) ++ (grW K fL 5 gL) ++ (grW K fM 5 gM))) (hS : va_S A H0 H locs) (hl : lv_has ls 2 [(0, .ref sq), (1, .int p0)]) : W p l e R s m args below meth c H locs cells slots Q (F0 m 0 ls []) := by
  unfold f_Se_find at hf
  refine lv_aload_n hx hb d_Se_find_0 rfl (lv_at hl 0 rfl) ?_
  refine lv_aload_n hx hb d_Se_find_1 rfl (lv_at hl 0 rfl) ?_
  refine lv_iload_n hx hb d_Se_find_2 rfl (lv_at hl 1 rfl) ?_
  obtain ⟨u1, eu1, hf⟩ := obd hf
  refine w_callA (va_runV (As := [.int p0]) (rest := [.ref sq]) ⟨hx, hb, hml, hown, hts⟩ (Met_G (c_Se_allowLengths l H.size eu1)) (gV 1 hts cd_Se_allowLengths ml_Se_56 im_Se_allowLengths se_Se_allowLengths ini_Se rfl rfl pd_Se_allowLengths ⟨Nat.le_trans (Nat.le_of_ble_eq_true rfl) hRf, Nat.le_trans (Nat.le_of_ble_eq_true rfl) hRl⟩) ⟨(withT_blind wPre_blind), va_recv hK (vaL (vaL (vaL hP))) (ci := 9) (q0 := 0) rfl rfl, withT_of (wPre_of hP hK hD) hT hTw hD hS hA⟩ rfl rfl hl.1 rfl (lv_room (Nat.le_of_ble_eq_true rfl)) d_Se_find_3 ⟨hRc, hRs⟩) hD hS hA (fun g2 H1 locs hP1 hD1 hk1 hS1 => ?_)
  obtain ⟨hP, hD⟩ : _ ∧ _ := ⟨hP1, hD1.weaken (fun _ q _ h => va_sub hD hS hA q.1 h)⟩
  have hS := hS1
  generalize H1 = H at hP hS ⊢
  have hP : va_P D vwCl ((seW K sq sA sF sLe sMo sAl sRL sRM sLn sKL sKW fF fL fM sAssigned sLeast sMost sCount u1.2 sLengths sKept sKeptLengths sKeptWords) ++ (grW K fF 4 gF) ++ (grW K fL 5 gL) ++ (grW K fM 5 gM)) H := hP
  have hD : va_D A ((seW K sq sA sF sLe sMo sAl sRL sRM sLn sKL sKW fF fL fM sAssigned sLeast sMost sCount u1.2 sLengths sKept sKeptLengths sKeptWords) ++ (grW K fF 4 gF) ++ (grW K fL 5 gL) ++ (grW K fM 5 gM)) := hD
  refine bz_eq (tgt := 20) hx hb d_Se_find_6 (by decide) (fun c3 => ?_) (fun c3 => ?_)
  · rw [if_neg c3] at hf
    refine lv_iconst (v := 0) hx hb d_Se_find_20 (by decide) ?_
    refine va_put (D := D) (ci := 9) (v := .int (bI false)) (ty := .boolean) (C := R_Se) (T := T_Se) (N := 12) hx hb hts in_Se t_Se t_Se_ok n_Se hown hK hP hD hS 0 rfl rfl 9 (by decide) (hts _ fl_Se_46) (fun _ h9 => h9) rfl (by decide +kernel) (bI_nar _) (bI_fit _) (Nat.le_of_ble_eq_true rfl) d_Se_find_21 (fun H locs hP hD hS => ?_)
    have hP : va_P D vwCl ((seW K sq sA sF sLe sMo sAl sRL sRM sLn sKL sKW fF fL fM sAssigned sLeast sMost sCount u1.2 sLengths false sKeptLengths sKeptWords) ++ (grW K fF 4 gF) ++ (grW K fL 5 gL) ++ (grW K fM 5 gM)) H := hP
    have hD : va_D A ((seW K sq sA sF sLe sMo sAl sRL sRM sLn sKL sKW fF fL fM sAssigned sLeast sMost sCount u1.2 sLengths false sKeptLengths sKeptWords) ++ (grW K fF 4 gF) ++ (grW K fL 5 gL) ++ (grW K fM 5 gM)) := hD
    refine lv_aload_n hx hb d_Se_find_24 rfl (lv_at hl 0 rfl) ?_
    refine va_get (D := D) (ci := 9) (v := .int (bI false)) (C := R_Se) (T := T_Se) (N := 12) hx hb hts in_Se hown hK hP 0 rfl rfl 9 (by decide) (hts _ fl_Se_46) (fun _ h9 => h9) rfl d_Se_find_25 ?_
    refine bz_eq (tgt := 35) hx hb d_Se_find_28 (by decide) (fun c4 => ?_) (fun c4 => ?_)
    · rw [if_neg c4] at hf
      refine lv_aload_n hx hb d_Se_find_35 rfl (lv_at hl 0 rfl) ?_
      refine va_get (D := D) (ci := 9) (v := .int (bI false)) (C := R_Se) (T := T_Se) (N := 12) hx hb hts in_Se hown hK hP 0 rfl rfl 9 (by decide) (hts _ fl_Se_46) (fun _ h9 => h9) rfl d_Se_find_36 ?_
      exact Kr _ (Option.some.inj hf).symm _ _ _ _ d_Se_find_39 hP hD hS
    · rw [if_pos c4] at hf
      refine lv_aload_n hx hb d_Se_find_31 rfl (lv_at hl 0 rfl) ?_
      obtain ⟨u5, eu5, hf⟩ := obd hf
      refine w_callA (va_runV (As := []) (rest := []) ⟨hx, hb, hml, hown, hts⟩ (Met_G (c_Se_keepWords l H.size eu5)) (gV 0 hts cd_Se_keepWords ml_Se_64 im_Se_keepWords se_Se_keepWords ini_Se rfl rfl pd_Se_keepWords ⟨Nat.le_trans (Nat.le_of_ble_eq_true rfl) hRf, Nat.le_trans (Nat.le_of_ble_eq_true rfl) hRl⟩) ⟨(withT_blind wPre_blind), va_recv hK (vaL (vaL (vaL hP))) (ci := 9) (q0 := 0) rfl rfl, withT_of (wPre_of hP hK hD) hT hTw hD hS hA⟩ rfl rfl hl.1 rfl (lv_room (Nat.le_of_ble_eq_true rfl)) d_Se_find_32 ⟨hRc, hRs⟩) hD hS hA (fun g6 H1 locs hP1 hD1 hk1 hS1 => ?_)
      obtain ⟨hP, hD⟩ : _ ∧ _ := ⟨hP1, hD1.weaken (fun _ q _ h => va_sub hD hS hA q.1 h)⟩
      have hS := hS1
      generalize H1 = H at hP hS ⊢
      have hP : va_P D vwCl ((seW K sq sA sF sLe sMo sAl sRL sRM sLn sKL sKW fF fL fM sAssigned sLeast sMost sCount u1.2 sLengths false u5.1 u5.2) ++ (grW K fF 4 gF) ++ (grW K fL 5 gL) ++ (grW K fM 5 gM)) H := hP
      have hD : va_D A ((seW K sq sA sF sLe sMo sAl sRL sRM sLn sKL sKW fF fL fM sAssigned sLeast sMost sCount u1.2 sLengths false u5.1 u5.2) ++ (grW K fF 4 gF) ++ (grW K fL 5 gL) ++ (grW K fM 5 gM)) := hD
      refine lv_aload_n hx hb d_Se_find_35 rfl (lv_at hl 0 rfl) ?_
      refine va_get (D := D) (ci := 9) (v := .int (bI false)) (C := R_Se) (T := T_Se) (N := 12) hx hb hts in_Se hown hK hP 0 rfl rfl 9 (by decide) (hts _ fl_Se_46) (fun _ h9 => h9) rfl d_Se_find_36 ?_
      exact Kr _ (Option.some.inj hf).symm _ _ _ _ d_Se_find_39 hP hD hS
  · rw [if_pos c3] at hf
    refine lv_aload_n hx hb d_Se_find_9 rfl (lv_at hl 0 rfl) ?_
    obtain ⟨u7, eu7, hf⟩ := obd hf
    refine w_callA (va_runV (As := []) (rest := [.ref sq]) ⟨hx, hb, hml, hown, hts⟩ (Met_G (c_Se_findLengths l H.size eu7)) (gV 0 hts cd_Se_findLengths ml_Se_60 im_Se_findLengths se_Se_findLengths ini_Se rfl rfl pd_Se_findLengths ⟨Nat.le_trans (Nat.le_of_ble_eq_true rfl) hRf, Nat.le_trans (Nat.le_of_ble_eq_true rfl) hRl⟩) ⟨wPre_blind, va_recv hK (vaL (vaL (vaL hP))) (ci := 9) (q0 := 0) rfl rfl, wPre_of hP hK hD⟩ rfl rfl hl.1 rfl (lv_room (Nat.le_of_ble_eq_true rfl)) d_Se_find_10 ⟨hRc, hRs⟩) hD hS hA (fun g8 H1 locs hP1 hD1 hk1 hS1 => ?_)
    obtain ⟨hP, hD⟩ : _ ∧ _ := ⟨hP1, hD1.weaken (fun _ q _ h => va_sub hD hS hA q.1 h)⟩
    have hS := hS1
    generalize H1 = H at hP hS ⊢
    have hP : va_P D vwCl ((seW K sq sA sF sLe sMo sAl sRL sRM sLn sKL sKW fF fL fM sAssigned sLeast sMost sCount u1.2 u7.2.1 sKept sKeptLengths sKeptWords) ++ (grW K fF 4 gF) ++ (grW K fL 5 u7.2.2.1) ++ (grW K fM 5 u7.2.2.2)) H := hP
    have hD : va_D A ((seW K sq sA sF sLe sMo sAl sRL sRM sLn sKL sKW fF fL fM sAssigned sLeast sMost sCount u1.2 u7.2.1 sKept sKeptLengths sKeptWords) ++ (grW K fF 4 gF) ++ (grW K fL 5 u7.2.2.1) ++ (grW K fM 5 u7.2.2.2)) := hD
    refine bz_eq (tgt := 20) hx hb d_Se_find_13 (by decide) (fun c9 => ?_) (fun c9 => ?_)
    · rw [if_neg c9] at hf
      refine lv_iconst (v := 0) hx hb d_Se_find_20 (by decide) ?_
      refine va_put (D := D) (ci := 9) (v := .int (bI false)) (ty := .boolean) (C := R_Se) (T := T_Se) (N := 12) hx hb hts in_Se t_Se t_Se_ok n_Se hown hK hP hD hS 0 rfl rfl 9 (by decide) (hts _ fl_Se_46) (fun _ h9 => h9) rfl (by decide +kernel) (bI_nar _) (bI_fit _) (Nat.le_of_ble_eq_true rfl) d_Se_find_21 (fun H locs hP hD hS => ?_)
      have hP : va_P D vwCl ((seW K sq sA sF sLe sMo sAl sRL sRM sLn sKL sKW fF fL fM sAssigned sLeast sMost sCount u1.2 u7.2.1 false sKeptLengths sKeptWords) ++ (grW K fF 4 gF) ++ (grW K fL 5 u7.2.2.1) ++ (grW K fM 5 u7.2.2.2)) H := hP
      have hD : va_D A ((seW K sq sA sF sLe sMo sAl sRL sRM sLn sKL sKW fF fL fM sAssigned sLeast sMost sCount u1.2 u7.2.1 false sKeptLengths sKeptWords) ++ (grW K fF 4 gF) ++ (grW K fL 5 u7.2.2.1) ++ (grW K fM 5 u7.2.2.2)) := hD
      refine lv_aload_n hx hb d_Se_find_24 rfl (lv_at hl 0 rfl) ?_
      refine va_get (D := D) (ci := 9) (v := .int (bI false)) (C := R_Se) (T := T_Se) (N := 12) hx hb hts in_Se hown hK hP 0 rfl rfl 9 (by decide) (hts _ fl_Se_46) (fun _ h9 => h9) rfl d_Se_find_25 ?_
      refine bz_eq (tgt := 35) hx hb d_Se_find_28 (by decide) (fun c10 => ?_) (fun c10 => ?_)
      · rw [if_neg c10] at hf
        refine lv_aload_n hx hb d_Se_find_35 rfl (lv_at hl 0 rfl) ?_
        refine va_get (D := D) (ci := 9) (v := .int (bI false)) (C := R_Se) (T := T_Se) (N := 12) hx hb hts in_Se hown hK hP 0 rfl rfl 9 (by decide) (hts _ fl_Se_46) (fun _ h9 => h9) rfl d_Se_find_36 ?_
        exact Kr _ (Option.some.inj hf).symm _ _ _ _ d_Se_find_39 hP hD hS
      · rw [if_pos c10] at hf
        refine lv_aload_n hx hb d_Se_find_31 rfl (lv_at hl 0 rfl) ?_
        obtain ⟨u11, eu11, hf⟩ := obd hf
        refine w_callA (va_runV (As := []) (rest := []) ⟨hx, hb, hml, hown, hts⟩ (Met_G (c_Se_keepWords l H.size eu11)) (gV 0 hts cd_Se_keepWords ml_Se_64 im_Se_keepWords se_Se_keepWords ini_Se rfl rfl pd_Se_keepWords ⟨Nat.le_trans (Nat.le_of_ble_eq_true rfl) hRf, Nat.le_trans (Nat.le_of_ble_eq_true rfl) hRl⟩) ⟨(withT_blind wPre_blind), va_recv hK (vaL (vaL (vaL hP))) (ci := 9) (q0 := 0) rfl rfl, withT_of (wPre_of hP hK hD) hT hTw hD hS hA⟩ rfl rfl hl.1 rfl (lv_room (Nat.le_of_ble_eq_true rfl)) d_Se_find_32 ⟨hRc, hRs⟩) hD hS hA (fun g12 H1 locs hP1 hD1 hk1 hS1 => ?_)
        obtain ⟨hP, hD⟩ : _ ∧ _ := ⟨hP1, hD1.weaken (fun _ q _ h => va_sub hD hS hA q.1 h)⟩
        have hS := hS1
        generalize H1 = H at hP hS ⊢
        have hP : va_P D vwCl ((seW K sq sA sF sLe sMo sAl sRL sRM sLn sKL sKW fF fL fM sAssigned sLeast sMost sCount u1.2 u7.2.1 false u11.1 u11.2) ++ (grW K fF 4 gF) ++ (grW K fL 5 u7.2.2.1) ++ (grW K fM 5 u7.2.2.2)) H := hP
        have hD : va_D A ((seW K sq sA sF sLe sMo sAl sRL sRM sLn sKL sKW fF fL fM sAssigned sLeast sMost sCount u1.2 u7.2.1 false u11.1 u11.2) ++ (grW K fF 4 gF) ++ (grW K fL 5 u7.2.2.1) ++ (grW K fM 5 u7.2.2.2)) := hD
        refine lv_aload_n hx hb d_Se_find_35 rfl (lv_at hl 0 rfl) ?_
        refine va_get (D := D) (ci := 9) (v := .int (bI false)) (C := R_Se) (T := T_Se) (N := 12) hx hb hts in_Se hown hK hP 0 rfl rfl 9 (by decide) (hts _ fl_Se_46) (fun _ h9 => h9) rfl d_Se_find_36 ?_
        exact Kr _ (Option.some.inj hf).symm _ _ _ _ d_Se_find_39 hP hD hS
    · rw [if_pos c9] at hf
      refine lv_iconst (v := 1) hx hb d_Se_find_16 (by decide) ?_
      refine lv_goto (tgt := 21) hx hb d_Se_find_17 (by decide) ?_
      refine va_put (D := D) (ci := 9) (v := .int (bI true)) (ty := .boolean) (C := R_Se) (T := T_Se) (N := 12) hx hb hts in_Se t_Se t_Se_ok n_Se hown hK hP hD hS 0 rfl rfl 9 (by decide) (hts _ fl_Se_46) (fun _ h9 => h9) rfl (by decide +kernel) (bI_nar _) (bI_fit _) (Nat.le_of_ble_eq_true rfl) d_Se_find_21 (fun H locs hP hD hS => ?_)
      have hP : va_P D vwCl ((seW K sq sA sF sLe sMo sAl sRL sRM sLn sKL sKW fF fL fM sAssigned sLeast sMost sCount u1.2 u7.2.1 true sKeptLengths sKeptWords) ++ (grW K fF 4 gF) ++ (grW K fL 5 u7.2.2.1) ++ (grW K fM 5 u7.2.2.2)) H := hP
      have hD : va_D A ((seW K sq sA sF sLe sMo sAl sRL sRM sLn sKL sKW fF fL fM sAssigned sLeast sMost sCount u1.2 u7.2.1 true sKeptLengths sKeptWords) ++ (grW K fF 4 gF) ++ (grW K fL 5 u7.2.2.1) ++ (grW K fM 5 u7.2.2.2)) := hD
      refine lv_aload_n hx hb d_Se_find_24 rfl (lv_at hl 0 rfl) ?_
      refine va_get (D := D) (ci := 9) (v := .int (bI true)) (C := R_Se) (T := T_Se) (N := 12) hx hb hts in_Se hown hK hP 0 rfl rfl 9 (by decide) (hts _ fl_Se_46) (fun _ h9 => h9) rfl d_Se_find_25 ?_
      refine bz_eq (tgt := 35) hx hb d_Se_find_28 (by decide) (fun c13 => ?_) (fun c13 => ?_)
      · rw [if_neg c13] at hf
        refine lv_aload_n hx hb d_Se_find_35 rfl (lv_at hl 0 rfl) ?_
        refine va_get (D := D) (ci := 9) (v := .int (bI true)) (C := R_Se) (T := T_Se) (N := 12) hx hb hts in_Se hown hK hP 0 rfl rfl 9 (by decide) (hts _ fl_Se_46) (fun _ h9 => h9) rfl d_Se_find_36 ?_
        exact Kr _ (Option.some.inj hf).symm _ _ _ _ d_Se_find_39 hP hD hS
      · rw [if_pos c13] at hf
        refine lv_aload_n hx hb d_Se_find_31 rfl (lv_at hl 0 rfl) ?_
        obtain ⟨u14, eu14, hf⟩ := obd hf
        refine w_callA (va_runV (As := []) (rest := []) ⟨hx, hb, hml, hown, hts⟩ (Met_G (c_Se_keepWords l H.size eu14)) (gV 0 hts cd_Se_keepWords ml_Se_64 im_Se_keepWords se_Se_keepWords ini_Se rfl rfl pd_Se_keepWords ⟨Nat.le_trans (Nat.le_of_ble_eq_true rfl) hRf, Nat.le_trans (Nat.le_of_ble_eq_true rfl) hRl⟩) ⟨(withT_blind wPre_blind), va_recv hK (vaL (vaL (vaL hP))) (ci := 9) (q0 := 0) rfl rfl, withT_of (wPre_of hP hK hD) hT hTw hD hS hA⟩ rfl rfl hl.1 rfl (lv_room (Nat.le_of_ble_eq_true rfl)) d_Se_find_32 ⟨hRc, hRs⟩) hD hS hA (fun g15 H1 locs hP1 hD1 hk1 hS1 => ?_)
        obtain ⟨hP, hD⟩ : _ ∧ _ := ⟨hP1, hD1.weaken (fun _ q _ h => va_sub hD hS hA q.1 h)⟩
        have hS := hS1
        generalize H1 = H at hP hS ⊢
        have hP : va_P D vwCl ((seW K sq sA sF sLe sMo sAl sRL sRM sLn sKL sKW fF fL fM sAssigned sLeast sMost sCount u1.2 u7.2.1 true u14.1 u14.2) ++ (grW K fF 4 gF) ++ (grW K fL 5 u7.2.2.1) ++ (grW K fM 5 u7.2.2.2)) H := hP
        have hD : va_D A ((seW K sq sA sF sLe sMo sAl sRL sRM sLn sKL sKW fF fL fM sAssigned sLeast sMost sCount u1.2 u7.2.1 true u14.1 u14.2) ++ (grW K fF 4 gF) ++ (grW K fL 5 u7.2.2.1) ++ (grW K fM 5 u7.2.2.2)) := hD
        refine lv_aload_n hx hb d_Se_find_35 rfl (lv_at hl 0 rfl) ?_
        refine va_get (D := D) (ci := 9) (v := .int (bI true)) (C := R_Se) (T := T_Se) (N := 12) hx hb hts in_Se hown hK hP 0 rfl rfl 9 (by decide) (hts _ fl_Se_46) (fun _ h9 => h9) rfl d_Se_find_36 ?_
        exact Kr _ (Option.some.inj hf).symm _ _ _ _ d_Se_find_39 hP hD hS
set_option maxHeartbeats 4000000 in
set_option maxRecDepth 100000 in
theorem c_Se_find (l : Launch)  {p0 : Int32}  {r : Bool × (Nat → Int64) × (Nat → Int32) × Bool × (Nat → Int32) × (Nat → Int64) × (Nat → Nat → Int32) × (Nat → Nat → Int32)} (sz : Nat) (hf : f_Se_find n p0 sAssigned sLeast sMost sCount sAllowed sLengths sKeptLengths sKeptWords gF gL gM T = some r) : Met l y_Se_find w0_Se_find ({ frames := 10, cells := 0, slots := 0, locals := 246 }) (withT (wPre D K [.ref sq, .int p0] ((seW K sq sA sF sLe sMo sAl sRL sRM sLn sKL sKW fF fL fM sAssigned sLeast sMost sCount sAllowed sLengths sKept sKeptLengths sKeptWords) ++ (grW K fF 4 gF) ++ (grW K fL 5 gL) ++ (grW K fM 5 gM)) sz) D K T sAssigned (va_A ((seW K sq sA sF sLe sMo sAl sRL sRM sLn sKL sKW fF fL fM sAssigned sLeast sMost sCount sAllowed sLengths sKept sKeptLengths sKeptWords) ++ (grW K fF 4 gF) ++ (grW K fL 5 gL) ++ (grW K fM 5 gM)) sz)) (wPost D K (some (.int (bI r.1))) ((seW K sq sA sF sLe sMo sAl sRL sRM sLn sKL sKW fF fL fM sAssigned sLeast sMost sCount r.2.1 r.2.2.1 r.2.2.2.1 r.2.2.2.2.1 r.2.2.2.2.2.1) ++ (grW K fF 4 gF) ++ (grW K fL 5 r.2.2.2.2.2.2.1) ++ (grW K fM 5 r.2.2.2.2.2.2.2)) (va_A ((seW K sq sA sF sLe sMo sAl sRL sRM sLn sKL sKW fF fL fM sAssigned sLeast sMost sCount sAllowed sLengths sKept sKeptLengths sKeptWords) ++ (grW K fF 4 gF) ++ (grW K fL 5 gL) ++ (grW K fM 5 gM)) sz)) 0 0 (va_A ((seW K sq sA sF sLe sMo sAl sRL sRM sLn sKL sKW fF fL fM sAssigned sLeast sMost sCount sAllowed sLengths sKept sKeptLengths sKeptWords) ++ (grW K fF 4 gF) ++ (grW K fL 5 gL) ++ (grW K fM 5 gM)) sz) := by
  refine Met.ofW (cc := b_Se_find) (maxL := 2) (ret := (some .boolean)) (by decide) rfl ?_
  intro p e s m args below meth c s₁ B hml hv
  obtain ⟨hv, hT0⟩ := hv
  obtain ⟨rfl, hsz, hP, hK, hD0⟩ := hv
  subst hsz
  have hl := lv_entry [.ref sq, .int p0] (n := 2) (Nat.le_of_ble_eq_true rfl)
  rw [lg_entry_eq]
  generalize (lg_sl [.ref sq, .int p0] ++ List.replicate (2 - (lg_sl [.ref sq, .int p0]).length) Slot.unset).toArray = ls at hl ⊢
  refine w_Se_find (A := va_A ((seW K sq sA sF sLe sMo sAl sRL sRM sLn sKL sKW fF fL fM sAssigned sLeast sMost sCount sAllowed sLengths sKept sKeptLengths sKeptWords) ++ (grW K fF 4 gF) ++ (grW K fL 5 gL) ++ (grW K fM 5 gM)) s.heap.size) (H0 := s.heap) B.exec B.bytes hml (fun w hw => atoms_spec (ws := w0_Se_find) B.pre w (List.mem_cons_of_mem _ hw)) (findClass_of_methodNamed B.named) hK (fun q i hi hq _ _ hS => ro_of (hT0 q i hi hq).1 (hT0 q i hi hq).2 hS) (fun q i hi hq => (hT0 q i hi hq).2) (Nat.le_refl _) (Nat.le_refl _) (Nat.zero_le _) (Nat.zero_le _) (fun q h => Or.inr h) (fun r er pc ls H locs hd hP hD hS => ?_) hf ls hP (hD0.self (sz := s.heap.size)) va_S.rf hl
  subst er
  exact W.zret B.exec B.bytes B.returns (bI_nar _) (fun t ht hW => ⟨⟨rfl, by rw [ht]; exact hP, va_K.moved hW.alike hK, hD⟩, hS.F ht⟩) hS.2.2 hd (hlocks := B.notSynchronized)
end
