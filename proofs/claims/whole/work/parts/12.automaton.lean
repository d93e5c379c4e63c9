abbrev b_Au_statesBefore : ByteArray := prog_2_method_2_code
def y_Au_statesBefore : MethodName := ⟨"RegularSolver$Automaton", "statesBefore", "(I[IJ)J"⟩
abbrev w0_Au_statesBefore : List Cond := Cond.code y_Au_statesBefore b_Au_statesBefore 10 (some .long) :: gW
theorem cd_Au_statesBefore : Cond.code y_Au_statesBefore b_Au_statesBefore 10 (some .long) ∈ gW := gm 441 (by decide +kernel) (by decide +kernel)
theorem d_Au_statesBefore_0 : decode b_Au_statesBefore 0 = .ok (.lconst 0, 1) := by decide +kernel
theorem d_Au_statesBefore_1 : decode b_Au_statesBefore 1 = .ok (.lstore 4, 2) := by decide +kernel
theorem d_Au_statesBefore_3 : decode b_Au_statesBefore 3 = .ok (.iconst 0, 1) := by decide +kernel
theorem d_Au_statesBefore_4 : decode b_Au_statesBefore 4 = .ok (.istore 6, 2) := by decide +kernel
theorem d_Au_statesBefore_6 : decode b_Au_statesBefore 6 = .ok (.iload 6, 2) := by decide +kernel
theorem d_Au_statesBefore_8 : decode b_Au_statesBefore 8 = .ok (.iload_n 0, 1) := by decide +kernel
theorem d_Au_statesBefore_9 : decode b_Au_statesBefore 9 = .ok (.if_icmp .ge 62, 3) := by decide +kernel
theorem d_Au_statesBefore_12 : decode b_Au_statesBefore 12 = .ok (.iconst 4, 1) := by decide +kernel
theorem d_Au_statesBefore_13 : decode b_Au_statesBefore 13 = .ok (.iload 6, 2) := by decide +kernel
theorem d_Au_statesBefore_15 : decode b_Au_statesBefore 15 = .ok (.imul, 1) := by decide +kernel
theorem d_Au_statesBefore_16 : decode b_Au_statesBefore 16 = .ok (.istore 7, 2) := by decide +kernel
theorem d_Au_statesBefore_18 : decode b_Au_statesBefore 18 = .ok (.lload_n 2, 1) := by decide +kernel
theorem d_Au_statesBefore_19 : decode b_Au_statesBefore 19 = .ok (.aload_n 1, 1) := by decide +kernel
theorem d_Au_statesBefore_20 : decode b_Au_statesBefore 20 = .ok (.iload 7, 2) := by decide +kernel
theorem d_Au_statesBefore_22 : decode b_Au_statesBefore 22 = .ok (.iaload, 1) := by decide +kernel
theorem d_Au_statesBefore_23 : decode b_Au_statesBefore 23 = .ok (.lushr, 1) := by decide +kernel
theorem d_Au_statesBefore_24 : decode b_Au_statesBefore 24 = .ok (.lload_n 2, 1) := by decide +kernel
theorem d_Au_statesBefore_25 : decode b_Au_statesBefore 25 = .ok (.aload_n 1, 1) := by decide +kernel
theorem d_Au_statesBefore_26 : decode b_Au_statesBefore 26 = .ok (.iload 7, 2) := by decide +kernel
theorem d_Au_statesBefore_28 : decode b_Au_statesBefore 28 = .ok (.iconst 1, 1) := by decide +kernel
theorem d_Au_statesBefore_29 : decode b_Au_statesBefore 29 = .ok (.iadd, 1) := by decide +kernel
theorem d_Au_statesBefore_30 : decode b_Au_statesBefore 30 = .ok (.iaload, 1) := by decide +kernel
theorem d_Au_statesBefore_31 : decode b_Au_statesBefore 31 = .ok (.lushr, 1) := by decide +kernel
theorem d_Au_statesBefore_32 : decode b_Au_statesBefore 32 = .ok (.lor, 1) := by decide +kernel
theorem d_Au_statesBefore_33 : decode b_Au_statesBefore 33 = .ok (.lload_n 2, 1) := by decide +kernel
theorem d_Au_statesBefore_34 : decode b_Au_statesBefore 34 = .ok (.aload_n 1, 1) := by decide +kernel
theorem d_Au_statesBefore_35 : decode b_Au_statesBefore 35 = .ok (.iload 7, 2) := by decide +kernel
theorem d_Au_statesBefore_37 : decode b_Au_statesBefore 37 = .ok (.iconst 2, 1) := by decide +kernel
theorem d_Au_statesBefore_38 : decode b_Au_statesBefore 38 = .ok (.iadd, 1) := by decide +kernel
theorem d_Au_statesBefore_39 : decode b_Au_statesBefore 39 = .ok (.iaload, 1) := by decide +kernel
theorem d_Au_statesBefore_40 : decode b_Au_statesBefore 40 = .ok (.lushr, 1) := by decide +kernel
theorem d_Au_statesBefore_41 : decode b_Au_statesBefore 41 = .ok (.lor, 1) := by decide +kernel
theorem d_Au_statesBefore_42 : decode b_Au_statesBefore 42 = .ok (.lload_n 2, 1) := by decide +kernel
theorem d_Au_statesBefore_43 : decode b_Au_statesBefore 43 = .ok (.aload_n 1, 1) := by decide +kernel
theorem d_Au_statesBefore_44 : decode b_Au_statesBefore 44 = .ok (.iload 7, 2) := by decide +kernel
theorem d_Au_statesBefore_46 : decode b_Au_statesBefore 46 = .ok (.iconst 3, 1) := by decide +kernel
theorem d_Au_statesBefore_47 : decode b_Au_statesBefore 47 = .ok (.iadd, 1) := by decide +kernel
theorem d_Au_statesBefore_48 : decode b_Au_statesBefore 48 = .ok (.iaload, 1) := by decide +kernel
theorem d_Au_statesBefore_49 : decode b_Au_statesBefore 49 = .ok (.lushr, 1) := by decide +kernel
theorem d_Au_statesBefore_50 : decode b_Au_statesBefore 50 = .ok (.lor, 1) := by decide +kernel
theorem d_Au_statesBefore_51 : decode b_Au_statesBefore 51 = .ok (.lstore 8, 2) := by decide +kernel
theorem d_Au_statesBefore_53 : decode b_Au_statesBefore 53 = .ok (.lload 4, 2) := by decide +kernel
theorem d_Au_statesBefore_55 : decode b_Au_statesBefore 55 = .ok (.lload 8, 2) := by decide +kernel
theorem d_Au_statesBefore_57 : decode b_Au_statesBefore 57 = .ok (.lconst 1, 1) := by decide +kernel
theorem d_Au_statesBefore_58 : decode b_Au_statesBefore 58 = .ok (.land, 1) := by decide +kernel
theorem d_Au_statesBefore_59 : decode b_Au_statesBefore 59 = .ok (.iload 6, 2) := by decide +kernel
theorem d_Au_statesBefore_61 : decode b_Au_statesBefore 61 = .ok (.lshl, 1) := by decide +kernel
theorem d_Au_statesBefore_62 : decode b_Au_statesBefore 62 = .ok (.lor, 1) := by decide +kernel
theorem d_Au_statesBefore_63 : decode b_Au_statesBefore 63 = .ok (.lstore 4, 2) := by decide +kernel
theorem d_Au_statesBefore_65 : decode b_Au_statesBefore 65 = .ok (.iinc 6 1, 3) := by decide +kernel
theorem d_Au_statesBefore_68 : decode b_Au_statesBefore 68 = .ok (.goto (-62), 3) := by decide +kernel
theorem d_Au_statesBefore_71 : decode b_Au_statesBefore 71 = .ok (.lload 4, 2) := by decide +kernel
theorem d_Au_statesBefore_73 : decode b_Au_statesBefore 73 = .ok (.lreturn, 1) := by decide +kernel
abbrev b_Au_go : ByteArray := prog_2_method_3_code
def y_Au_go : MethodName := ⟨"RegularSolver$Automaton", "go", "(II)I"⟩
abbrev w0_Au_go : List Cond := Cond.code y_Au_go b_Au_go 3 (some .int) :: gW
theorem cd_Au_go : Cond.code y_Au_go b_Au_go 3 (some .int) ∈ gW := gm 367 (by decide +kernel) (by decide +kernel)
theorem d_Au_go_0 : decode b_Au_go 0 = .ok (.aload_n 0, 1) := by decide +kernel
theorem d_Au_go_1 : decode b_Au_go 1 = .ok (.getfield 19, 3) := by decide +kernel
theorem d_Au_go_4 : decode b_Au_go 4 = .ok (.iconst 4, 1) := by decide +kernel
theorem d_Au_go_5 : decode b_Au_go 5 = .ok (.iload_n 1, 1) := by decide +kernel
theorem d_Au_go_6 : decode b_Au_go 6 = .ok (.imul, 1) := by decide +kernel
theorem d_Au_go_7 : decode b_Au_go 7 = .ok (.iload_n 2, 1) := by decide +kernel
theorem d_Au_go_8 : decode b_Au_go 8 = .ok (.iadd, 1) := by decide +kernel
theorem d_Au_go_9 : decode b_Au_go 9 = .ok (.iaload, 1) := by decide +kernel
theorem d_Au_go_10 : decode b_Au_go 10 = .ok (.ireturn, 1) := by decide +kernel
abbrev b_Au_goAll : ByteArray := prog_2_method_4_code
def y_Au_goAll : MethodName := ⟨"RegularSolver$Automaton", "goAll", "(JI)J"⟩
abbrev w0_Au_goAll : List Cond := Cond.code y_Au_goAll b_Au_goAll 9 (some .long) :: gW
theorem cd_Au_goAll : Cond.code y_Au_goAll b_Au_goAll 9 (some .long) ∈ gW := gm 371 (by decide +kernel) (by decide +kernel)
theorem d_Au_goAll_0 : decode b_Au_goAll 0 = .ok (.lconst 0, 1) := by decide +kernel
theorem d_Au_goAll_1 : decode b_Au_goAll 1 = .ok (.lstore 4, 2) := by decide +kernel
theorem d_Au_goAll_3 : decode b_Au_goAll 3 = .ok (.lload_n 1, 1) := by decide +kernel
theorem d_Au_goAll_4 : decode b_Au_goAll 4 = .ok (.lstore 6, 2) := by decide +kernel
theorem d_Au_goAll_6 : decode b_Au_goAll 6 = .ok (.iconst 0, 1) := by decide +kernel
theorem d_Au_goAll_7 : decode b_Au_goAll 7 = .ok (.istore 8, 2) := by decide +kernel
theorem d_Au_goAll_9 : decode b_Au_goAll 9 = .ok (.iload 8, 2) := by decide +kernel
theorem d_Au_goAll_11 : decode b_Au_goAll 11 = .ok (.aload_n 0, 1) := by decide +kernel
theorem d_Au_goAll_12 : decode b_Au_goAll 12 = .ok (.getfield 15, 3) := by decide +kernel
theorem d_Au_goAll_15 : decode b_Au_goAll 15 = .ok (.if_icmp .ge 45, 3) := by decide +kernel
theorem d_Au_goAll_18 : decode b_Au_goAll 18 = .ok (.lload 6, 2) := by decide +kernel
theorem d_Au_goAll_20 : decode b_Au_goAll 20 = .ok (.lconst 0, 1) := by decide +kernel
theorem d_Au_goAll_21 : decode b_Au_goAll 21 = .ok (.lcmp, 1) := by decide +kernel
theorem d_Au_goAll_22 : decode b_Au_goAll 22 = .ok (.ifCond .eq 38, 3) := by decide +kernel
theorem d_Au_goAll_25 : decode b_Au_goAll 25 = .ok (.lload 6, 2) := by decide +kernel
theorem d_Au_goAll_27 : decode b_Au_goAll 27 = .ok (.lconst 1, 1) := by decide +kernel
theorem d_Au_goAll_28 : decode b_Au_goAll 28 = .ok (.land, 1) := by decide +kernel
theorem d_Au_goAll_29 : decode b_Au_goAll 29 = .ok (.lconst 0, 1) := by decide +kernel
theorem d_Au_goAll_30 : decode b_Au_goAll 30 = .ok (.lcmp, 1) := by decide +kernel
theorem d_Au_goAll_31 : decode b_Au_goAll 31 = .ok (.ifCond .eq 17, 3) := by decide +kernel
theorem d_Au_goAll_34 : decode b_Au_goAll 34 = .ok (.lload 4, 2) := by decide +kernel
theorem d_Au_goAll_36 : decode b_Au_goAll 36 = .ok (.lconst 1, 1) := by decide +kernel
theorem d_Au_goAll_37 : decode b_Au_goAll 37 = .ok (.aload_n 0, 1) := by decide +kernel
theorem d_Au_goAll_38 : decode b_Au_goAll 38 = .ok (.iload 8, 2) := by decide +kernel
theorem d_Au_goAll_40 : decode b_Au_goAll 40 = .ok (.iload_n 3, 1) := by decide +kernel
theorem d_Au_goAll_41 : decode b_Au_goAll 41 = .ok (.invokevirtual 31, 3) := by decide +kernel
theorem d_Au_goAll_44 : decode b_Au_goAll 44 = .ok (.lshl, 1) := by decide +kernel
theorem d_Au_goAll_45 : decode b_Au_goAll 45 = .ok (.lor, 1) := by decide +kernel
theorem d_Au_goAll_46 : decode b_Au_goAll 46 = .ok (.lstore 4, 2) := by decide +kernel
theorem d_Au_goAll_48 : decode b_Au_goAll 48 = .ok (.lload 6, 2) := by decide +kernel
theorem d_Au_goAll_50 : decode b_Au_goAll 50 = .ok (.iconst 1, 1) := by decide +kernel
theorem d_Au_goAll_51 : decode b_Au_goAll 51 = .ok (.lushr, 1) := by decide +kernel
theorem d_Au_goAll_52 : decode b_Au_goAll 52 = .ok (.lstore 6, 2) := by decide +kernel
theorem d_Au_goAll_54 : decode b_Au_goAll 54 = .ok (.iinc 8 1, 3) := by decide +kernel
theorem d_Au_goAll_57 : decode b_Au_goAll 57 = .ok (.goto (-48), 3) := by decide +kernel
theorem d_Au_goAll_60 : decode b_Au_goAll 60 = .ok (.lload 4, 2) := by decide +kernel
theorem d_Au_goAll_62 : decode b_Au_goAll 62 = .ok (.lreturn, 1) := by decide +kernel
abbrev b_Au_isLast : ByteArray := prog_2_method_5_code
def y_Au_isLast : MethodName := ⟨"RegularSolver$Automaton", "isLast", "(I)Z"⟩
abbrev w0_Au_isLast : List Cond := Cond.code y_Au_isLast b_Au_isLast 2 (some .boolean) :: gW
theorem cd_Au_isLast : Cond.code y_Au_isLast b_Au_isLast 2 (some .boolean) ∈ gW := gm 339 (by decide +kernel) (by decide +kernel)
theorem d_Au_isLast_0 : decode b_Au_isLast 0 = .ok (.aload_n 0, 1) := by decide +kernel
theorem d_Au_isLast_1 : decode b_Au_isLast 1 = .ok (.getfield 23, 3) := by decide +kernel
theorem d_Au_isLast_4 : decode b_Au_isLast 4 = .ok (.iload_n 1, 1) := by decide +kernel
theorem d_Au_isLast_5 : decode b_Au_isLast 5 = .ok (.lushr, 1) := by decide +kernel
theorem d_Au_isLast_6 : decode b_Au_isLast 6 = .ok (.lconst 1, 1) := by decide +kernel
theorem d_Au_isLast_7 : decode b_Au_isLast 7 = .ok (.land, 1) := by decide +kernel
theorem d_Au_isLast_8 : decode b_Au_isLast 8 = .ok (.lconst 0, 1) := by decide +kernel
theorem d_Au_isLast_9 : decode b_Au_isLast 9 = .ok (.lcmp, 1) := by decide +kernel
theorem d_Au_isLast_10 : decode b_Au_isLast 10 = .ok (.ifCond .eq 7, 3) := by decide +kernel
theorem d_Au_isLast_13 : decode b_Au_isLast 13 = .ok (.iconst 1, 1) := by decide +kernel
theorem d_Au_isLast_14 : decode b_Au_isLast 14 = .ok (.goto 4, 3) := by decide +kernel
theorem d_Au_isLast_17 : decode b_Au_isLast 17 = .ok (.iconst 0, 1) := by decide +kernel
theorem d_Au_isLast_18 : decode b_Au_isLast 18 = .ok (.ireturn, 1) := by decide +kernel
abbrev b_Au_hasLast : ByteArray := prog_2_method_6_code
def y_Au_hasLast : MethodName := ⟨"RegularSolver$Automaton", "hasLast", "(J)Z"⟩
abbrev w0_Au_hasLast : List Cond := Cond.code y_Au_hasLast b_Au_hasLast 3 (some .boolean) :: gW
theorem cd_Au_hasLast : Cond.code y_Au_hasLast b_Au_hasLast 3 (some .boolean) ∈ gW := gm 387 (by decide +kernel) (by decide +kernel)
theorem d_Au_hasLast_0 : decode b_Au_hasLast 0 = .ok (.lload_n 1, 1) := by decide +kernel
theorem d_Au_hasLast_1 : decode b_Au_hasLast 1 = .ok (.aload_n 0, 1) := by decide +kernel
theorem d_Au_hasLast_2 : decode b_Au_hasLast 2 = .ok (.getfield 23, 3) := by decide +kernel
theorem d_Au_hasLast_5 : decode b_Au_hasLast 5 = .ok (.land, 1) := by decide +kernel
theorem d_Au_hasLast_6 : decode b_Au_hasLast 6 = .ok (.lconst 0, 1) := by decide +kernel
theorem d_Au_hasLast_7 : decode b_Au_hasLast 7 = .ok (.lcmp, 1) := by decide +kernel
theorem d_Au_hasLast_8 : decode b_Au_hasLast 8 = .ok (.ifCond .eq 7, 3) := by decide +kernel
theorem d_Au_hasLast_11 : decode b_Au_hasLast 11 = .ok (.iconst 1, 1) := by decide +kernel
theorem d_Au_hasLast_12 : decode b_Au_hasLast 12 = .ok (.goto 4, 3) := by decide +kernel
theorem d_Au_hasLast_15 : decode b_Au_hasLast 15 = .ok (.iconst 0, 1) := by decide +kernel
theorem d_Au_hasLast_16 : decode b_Au_hasLast 16 = .ok (.ireturn, 1) := by decide +kernel
abbrev b_Au_accepts : ByteArray := prog_2_method_8_code
def y_Au_accepts : MethodName := ⟨"RegularSolver$Automaton", "accepts", "(IJ)Z"⟩
abbrev w0_Au_accepts : List Cond := Cond.code y_Au_accepts b_Au_accepts 6 (some .boolean) :: gW
theorem cd_Au_accepts : Cond.code y_Au_accepts b_Au_accepts 6 (some .boolean) ∈ gW := gm 615 (by decide +kernel) (by decide +kernel)
theorem d_Au_accepts_0 : decode b_Au_accepts 0 = .ok (.iconst 0, 1) := by decide +kernel
theorem d_Au_accepts_1 : decode b_Au_accepts 1 = .ok (.istore 4, 2) := by decide +kernel
theorem d_Au_accepts_3 : decode b_Au_accepts 3 = .ok (.iload_n 1, 1) := by decide +kernel
theorem d_Au_accepts_4 : decode b_Au_accepts 4 = .ok (.iconst 1, 1) := by decide +kernel
theorem d_Au_accepts_5 : decode b_Au_accepts 5 = .ok (.isub, 1) := by decide +kernel
theorem d_Au_accepts_6 : decode b_Au_accepts 6 = .ok (.istore 5, 2) := by decide +kernel
theorem d_Au_accepts_8 : decode b_Au_accepts 8 = .ok (.iload 5, 2) := by decide +kernel
theorem d_Au_accepts_10 : decode b_Au_accepts 10 = .ok (.ifCond .lt 26, 3) := by decide +kernel
theorem d_Au_accepts_13 : decode b_Au_accepts 13 = .ok (.aload_n 0, 1) := by decide +kernel
theorem d_Au_accepts_14 : decode b_Au_accepts 14 = .ok (.iload 4, 2) := by decide +kernel
theorem d_Au_accepts_16 : decode b_Au_accepts 16 = .ok (.lload_n 2, 1) := by decide +kernel
theorem d_Au_accepts_17 : decode b_Au_accepts 17 = .ok (.iconst 2, 1) := by decide +kernel
theorem d_Au_accepts_18 : decode b_Au_accepts 18 = .ok (.iload 5, 2) := by decide +kernel
theorem d_Au_accepts_20 : decode b_Au_accepts 20 = .ok (.imul, 1) := by decide +kernel
theorem d_Au_accepts_21 : decode b_Au_accepts 21 = .ok (.lshr, 1) := by decide +kernel
theorem d_Au_accepts_22 : decode b_Au_accepts 22 = .ok (.l2i, 1) := by decide +kernel
theorem d_Au_accepts_23 : decode b_Au_accepts 23 = .ok (.iconst 3, 1) := by decide +kernel
theorem d_Au_accepts_24 : decode b_Au_accepts 24 = .ok (.iand, 1) := by decide +kernel
theorem d_Au_accepts_25 : decode b_Au_accepts 25 = .ok (.invokevirtual 31, 3) := by decide +kernel
theorem d_Au_accepts_28 : decode b_Au_accepts 28 = .ok (.istore 4, 2) := by decide +kernel
theorem d_Au_accepts_30 : decode b_Au_accepts 30 = .ok (.iinc 5 (-1), 3) := by decide +kernel
theorem d_Au_accepts_33 : decode b_Au_accepts 33 = .ok (.goto (-25), 3) := by decide +kernel
theorem d_Au_accepts_36 : decode b_Au_accepts 36 = .ok (.aload_n 0, 1) := by decide +kernel
theorem d_Au_accepts_37 : decode b_Au_accepts 37 = .ok (.iload 4, 2) := by decide +kernel
theorem d_Au_accepts_39 : decode b_Au_accepts 39 = .ok (.invokevirtual 40, 3) := by decide +kernel
theorem d_Au_accepts_42 : decode b_Au_accepts 42 = .ok (.ireturn, 1) := by decide +kernel
abbrev b_Au_hasLength : ByteArray := prog_2_method_9_code
def y_Au_hasLength : MethodName := ⟨"RegularSolver$Automaton", "hasLength", "(I)Z"⟩
abbrev w0_Au_hasLength : List Cond := Cond.code y_Au_hasLength b_Au_hasLength 2 (some .boolean) :: gW
theorem cd_Au_hasLength : Cond.code y_Au_hasLength b_Au_hasLength 2 (some .boolean) ∈ gW := gm 643 (by decide +kernel) (by decide +kernel)
theorem d_Au_hasLength_0 : decode b_Au_hasLength 0 = .ok (.aload_n 0, 1) := by decide +kernel
theorem d_Au_hasLength_1 : decode b_Au_hasLength 1 = .ok (.getfield 9, 3) := by decide +kernel
theorem d_Au_hasLength_4 : decode b_Au_hasLength 4 = .ok (.iload_n 1, 1) := by decide +kernel
theorem d_Au_hasLength_5 : decode b_Au_hasLength 5 = .ok (.laload, 1) := by decide +kernel
theorem d_Au_hasLength_6 : decode b_Au_hasLength 6 = .ok (.lconst 1, 1) := by decide +kernel
theorem d_Au_hasLength_7 : decode b_Au_hasLength 7 = .ok (.land, 1) := by decide +kernel
theorem d_Au_hasLength_8 : decode b_Au_hasLength 8 = .ok (.lconst 0, 1) := by decide +kernel
theorem d_Au_hasLength_9 : decode b_Au_hasLength 9 = .ok (.lcmp, 1) := by decide +kernel
theorem d_Au_hasLength_10 : decode b_Au_hasLength 10 = .ok (.ifCond .eq 7, 3) := by decide +kernel
theorem d_Au_hasLength_13 : decode b_Au_hasLength 13 = .ok (.iconst 1, 1) := by decide +kernel
theorem d_Au_hasLength_14 : decode b_Au_hasLength 14 = .ok (.goto 4, 3) := by decide +kernel
theorem d_Au_hasLength_17 : decode b_Au_hasLength 17 = .ok (.iconst 0, 1) := by decide +kernel
theorem d_Au_hasLength_18 : decode b_Au_hasLength 18 = .ok (.ireturn, 1) := by decide +kernel
abbrev b_Au_leastLength : ByteArray := prog_2_method_10_code
def y_Au_leastLength : MethodName := ⟨"RegularSolver$Automaton", "leastLength", "()I"⟩
abbrev w0_Au_leastLength : List Cond := Cond.code y_Au_leastLength b_Au_leastLength 2 (some .int) :: gW
theorem cd_Au_leastLength : Cond.code y_Au_leastLength b_Au_leastLength 2 (some .int) ∈ gW := gm 663 (by decide +kernel) (by decide +kernel)
theorem d_Au_leastLength_0 : decode b_Au_leastLength 0 = .ok (.iconst 0, 1) := by decide +kernel
theorem d_Au_leastLength_1 : decode b_Au_leastLength 1 = .ok (.istore_n 1, 1) := by decide +kernel
theorem d_Au_leastLength_2 : decode b_Au_leastLength 2 = .ok (.iload_n 1, 1) := by decide +kernel
theorem d_Au_leastLength_3 : decode b_Au_leastLength 3 = .ok (.bipush 64, 2) := by decide +kernel
theorem d_Au_leastLength_5 : decode b_Au_leastLength 5 = .ok (.if_icmp .ge 19, 3) := by decide +kernel
theorem d_Au_leastLength_8 : decode b_Au_leastLength 8 = .ok (.aload_n 0, 1) := by decide +kernel
theorem d_Au_leastLength_9 : decode b_Au_leastLength 9 = .ok (.iload_n 1, 1) := by decide +kernel
theorem d_Au_leastLength_10 : decode b_Au_leastLength 10 = .ok (.invokevirtual 44, 3) := by decide +kernel
theorem d_Au_leastLength_13 : decode b_Au_leastLength 13 = .ok (.ifCond .eq 5, 3) := by decide +kernel
theorem d_Au_leastLength_16 : decode b_Au_leastLength 16 = .ok (.iload_n 1, 1) := by decide +kernel
theorem d_Au_leastLength_17 : decode b_Au_leastLength 17 = .ok (.ireturn, 1) := by decide +kernel
theorem d_Au_leastLength_18 : decode b_Au_leastLength 18 = .ok (.iinc 1 1, 3) := by decide +kernel
theorem d_Au_leastLength_21 : decode b_Au_leastLength 21 = .ok (.goto (-19), 3) := by decide +kernel
theorem d_Au_leastLength_24 : decode b_Au_leastLength 24 = .ok (.iconst (-1), 1) := by decide +kernel
theorem d_Au_leastLength_25 : decode b_Au_leastLength 25 = .ok (.ireturn, 1) := by decide +kernel
abbrev b_Au_leastLetter : ByteArray := prog_2_method_12_code
def y_Au_leastLetter : MethodName := ⟨"RegularSolver$Automaton", "leastLetter", "(IJ)I"⟩
abbrev w0_Au_leastLetter : List Cond := Cond.code y_Au_leastLetter b_Au_leastLetter 5 (some .int) :: gW
theorem cd_Au_leastLetter : Cond.code y_Au_leastLetter b_Au_leastLetter 5 (some .int) ∈ gW := gm 652 (by decide +kernel) (by decide +kernel)
theorem d_Au_leastLetter_0 : decode b_Au_leastLetter 0 = .ok (.iconst 0, 1) := by decide +kernel
theorem d_Au_leastLetter_1 : decode b_Au_leastLetter 1 = .ok (.istore 4, 2) := by decide +kernel
theorem d_Au_leastLetter_3 : decode b_Au_leastLetter 3 = .ok (.iload 4, 2) := by decide +kernel
theorem d_Au_leastLetter_5 : decode b_Au_leastLetter 5 = .ok (.iconst 3, 1) := by decide +kernel
theorem d_Au_leastLetter_6 : decode b_Au_leastLetter 6 = .ok (.if_icmp .ge 28, 3) := by decide +kernel
theorem d_Au_leastLetter_9 : decode b_Au_leastLetter 9 = .ok (.lload_n 2, 1) := by decide +kernel
theorem d_Au_leastLetter_10 : decode b_Au_leastLetter 10 = .ok (.aload_n 0, 1) := by decide +kernel
theorem d_Au_leastLetter_11 : decode b_Au_leastLetter 11 = .ok (.iload_n 1, 1) := by decide +kernel
theorem d_Au_leastLetter_12 : decode b_Au_leastLetter 12 = .ok (.iload 4, 2) := by decide +kernel
theorem d_Au_leastLetter_14 : decode b_Au_leastLetter 14 = .ok (.invokevirtual 31, 3) := by decide +kernel
theorem d_Au_leastLetter_17 : decode b_Au_leastLetter 17 = .ok (.lushr, 1) := by decide +kernel
theorem d_Au_leastLetter_18 : decode b_Au_leastLetter 18 = .ok (.lconst 1, 1) := by decide +kernel
theorem d_Au_leastLetter_19 : decode b_Au_leastLetter 19 = .ok (.land, 1) := by decide +kernel
theorem d_Au_leastLetter_20 : decode b_Au_leastLetter 20 = .ok (.lconst 0, 1) := by decide +kernel
theorem d_Au_leastLetter_21 : decode b_Au_leastLetter 21 = .ok (.lcmp, 1) := by decide +kernel
theorem d_Au_leastLetter_22 : decode b_Au_leastLetter 22 = .ok (.ifCond .eq 6, 3) := by decide +kernel
theorem d_Au_leastLetter_25 : decode b_Au_leastLetter 25 = .ok (.iload 4, 2) := by decide +kernel
theorem d_Au_leastLetter_27 : decode b_Au_leastLetter 27 = .ok (.ireturn, 1) := by decide +kernel
theorem d_Au_leastLetter_28 : decode b_Au_leastLetter 28 = .ok (.iinc 4 1, 3) := by decide +kernel
theorem d_Au_leastLetter_31 : decode b_Au_leastLetter 31 = .ok (.goto (-28), 3) := by decide +kernel
theorem d_Au_leastLetter_34 : decode b_Au_leastLetter 34 = .ok (.iconst 3, 1) := by decide +kernel
theorem d_Au_leastLetter_35 : decode b_Au_leastLetter 35 = .ok (.ireturn, 1) := by decide +kernel
abbrev b_Au_leastWord : ByteArray := prog_2_method_11_code
def y_Au_leastWord : MethodName := ⟨"RegularSolver$Automaton", "leastWord", "(I)J"⟩
abbrev w0_Au_leastWord : List Cond := Cond.code y_Au_leastWord b_Au_leastWord 7 (some .long) :: gW
theorem cd_Au_leastWord : Cond.code y_Au_leastWord b_Au_leastWord 7 (some .long) ∈ gW := gm 648 (by decide +kernel) (by decide +kernel)
theorem d_Au_leastWord_0 : decode b_Au_leastWord 0 = .ok (.lconst 0, 1) := by decide +kernel
theorem d_Au_leastWord_1 : decode b_Au_leastWord 1 = .ok (.lstore_n 2, 1) := by decide +kernel
theorem d_Au_leastWord_2 : decode b_Au_leastWord 2 = .ok (.iconst 0, 1) := by decide +kernel
theorem d_Au_leastWord_3 : decode b_Au_leastWord 3 = .ok (.istore 4, 2) := by decide +kernel
theorem d_Au_leastWord_5 : decode b_Au_leastWord 5 = .ok (.iload_n 1, 1) := by decide +kernel
theorem d_Au_leastWord_6 : decode b_Au_leastWord 6 = .ok (.iconst 1, 1) := by decide +kernel
theorem d_Au_leastWord_7 : decode b_Au_leastWord 7 = .ok (.isub, 1) := by decide +kernel
theorem d_Au_leastWord_8 : decode b_Au_leastWord 8 = .ok (.istore 5, 2) := by decide +kernel
theorem d_Au_leastWord_10 : decode b_Au_leastWord 10 = .ok (.iload 5, 2) := by decide +kernel
theorem d_Au_leastWord_12 : decode b_Au_leastWord 12 = .ok (.ifCond .lt 42, 3) := by decide +kernel
theorem d_Au_leastWord_15 : decode b_Au_leastWord 15 = .ok (.aload_n 0, 1) := by decide +kernel
theorem d_Au_leastWord_16 : decode b_Au_leastWord 16 = .ok (.iload 4, 2) := by decide +kernel
theorem d_Au_leastWord_18 : decode b_Au_leastWord 18 = .ok (.aload_n 0, 1) := by decide +kernel
theorem d_Au_leastWord_19 : decode b_Au_leastWord 19 = .ok (.getfield 9, 3) := by decide +kernel
theorem d_Au_leastWord_22 : decode b_Au_leastWord 22 = .ok (.iload 5, 2) := by decide +kernel
theorem d_Au_leastWord_24 : decode b_Au_leastWord 24 = .ok (.laload, 1) := by decide +kernel
theorem d_Au_leastWord_25 : decode b_Au_leastWord 25 = .ok (.invokevirtual 47, 3) := by decide +kernel
theorem d_Au_leastWord_28 : decode b_Au_leastWord 28 = .ok (.istore 6, 2) := by decide +kernel
theorem d_Au_leastWord_30 : decode b_Au_leastWord 30 = .ok (.lload_n 2, 1) := by decide +kernel
theorem d_Au_leastWord_31 : decode b_Au_leastWord 31 = .ok (.iconst 2, 1) := by decide +kernel
theorem d_Au_leastWord_32 : decode b_Au_leastWord 32 = .ok (.lshl, 1) := by decide +kernel
theorem d_Au_leastWord_33 : decode b_Au_leastWord 33 = .ok (.iload 6, 2) := by decide +kernel
theorem d_Au_leastWord_35 : decode b_Au_leastWord 35 = .ok (.i2l, 1) := by decide +kernel
theorem d_Au_leastWord_36 : decode b_Au_leastWord 36 = .ok (.lor, 1) := by decide +kernel
theorem d_Au_leastWord_37 : decode b_Au_leastWord 37 = .ok (.lstore_n 2, 1) := by decide +kernel
theorem d_Au_leastWord_38 : decode b_Au_leastWord 38 = .ok (.aload_n 0, 1) := by decide +kernel
theorem d_Au_leastWord_39 : decode b_Au_leastWord 39 = .ok (.iload 4, 2) := by decide +kernel
theorem d_Au_leastWord_41 : decode b_Au_leastWord 41 = .ok (.iload 6, 2) := by decide +kernel
theorem d_Au_leastWord_43 : decode b_Au_leastWord 43 = .ok (.invokevirtual 31, 3) := by decide +kernel
theorem d_Au_leastWord_46 : decode b_Au_leastWord 46 = .ok (.istore 4, 2) := by decide +kernel
theorem d_Au_leastWord_48 : decode b_Au_leastWord 48 = .ok (.iinc 5 (-1), 3) := by decide +kernel
theorem d_Au_leastWord_51 : decode b_Au_leastWord 51 = .ok (.goto (-41), 3) := by decide +kernel
theorem d_Au_leastWord_54 : decode b_Au_leastWord 54 = .ok (.lload_n 2, 1) := by decide +kernel
theorem d_Au_leastWord_55 : decode b_Au_leastWord 55 = .ok (.lreturn, 1) := by decide +kernel
abbrev b_Au_lengthsUpTo : ByteArray := prog_2_method_13_code
def y_Au_lengthsUpTo : MethodName := ⟨"RegularSolver$Automaton", "lengthsUpTo", "(I)J"⟩
abbrev w0_Au_lengthsUpTo : List Cond := Cond.code y_Au_lengthsUpTo b_Au_lengthsUpTo 5 (some .long) :: gW
theorem cd_Au_lengthsUpTo : Cond.code y_Au_lengthsUpTo b_Au_lengthsUpTo 5 (some .long) ∈ gW := gm 739 (by decide +kernel) (by decide +kernel)
theorem d_Au_lengthsUpTo_0 : decode b_Au_lengthsUpTo 0 = .ok (.lconst 0, 1) := by decide +kernel
theorem d_Au_lengthsUpTo_1 : decode b_Au_lengthsUpTo 1 = .ok (.lstore_n 2, 1) := by decide +kernel
theorem d_Au_lengthsUpTo_2 : decode b_Au_lengthsUpTo 2 = .ok (.iconst 0, 1) := by decide +kernel
theorem d_Au_lengthsUpTo_3 : decode b_Au_lengthsUpTo 3 = .ok (.istore 4, 2) := by decide +kernel
theorem d_Au_lengthsUpTo_5 : decode b_Au_lengthsUpTo 5 = .ok (.iload 4, 2) := by decide +kernel
theorem d_Au_lengthsUpTo_7 : decode b_Au_lengthsUpTo 7 = .ok (.iload_n 1, 1) := by decide +kernel
theorem d_Au_lengthsUpTo_8 : decode b_Au_lengthsUpTo 8 = .ok (.if_icmp .gt 24, 3) := by decide +kernel
theorem d_Au_lengthsUpTo_11 : decode b_Au_lengthsUpTo 11 = .ok (.lload_n 2, 1) := by decide +kernel
theorem d_Au_lengthsUpTo_12 : decode b_Au_lengthsUpTo 12 = .ok (.aload_n 0, 1) := by decide +kernel
theorem d_Au_lengthsUpTo_13 : decode b_Au_lengthsUpTo 13 = .ok (.getfield 9, 3) := by decide +kernel
theorem d_Au_lengthsUpTo_16 : decode b_Au_lengthsUpTo 16 = .ok (.iload 4, 2) := by decide +kernel
theorem d_Au_lengthsUpTo_18 : decode b_Au_lengthsUpTo 18 = .ok (.laload, 1) := by decide +kernel
theorem d_Au_lengthsUpTo_19 : decode b_Au_lengthsUpTo 19 = .ok (.lconst 1, 1) := by decide +kernel
theorem d_Au_lengthsUpTo_20 : decode b_Au_lengthsUpTo 20 = .ok (.land, 1) := by decide +kernel
theorem d_Au_lengthsUpTo_21 : decode b_Au_lengthsUpTo 21 = .ok (.iload 4, 2) := by decide +kernel
theorem d_Au_lengthsUpTo_23 : decode b_Au_lengthsUpTo 23 = .ok (.lshl, 1) := by decide +kernel
theorem d_Au_lengthsUpTo_24 : decode b_Au_lengthsUpTo 24 = .ok (.lor, 1) := by decide +kernel
theorem d_Au_lengthsUpTo_25 : decode b_Au_lengthsUpTo 25 = .ok (.lstore_n 2, 1) := by decide +kernel
theorem d_Au_lengthsUpTo_26 : decode b_Au_lengthsUpTo 26 = .ok (.iinc 4 1, 3) := by decide +kernel
theorem d_Au_lengthsUpTo_29 : decode b_Au_lengthsUpTo 29 = .ok (.goto (-24), 3) := by decide +kernel
theorem d_Au_lengthsUpTo_32 : decode b_Au_lengthsUpTo 32 = .ok (.lload_n 2, 1) := by decide +kernel
theorem d_Au_lengthsUpTo_33 : decode b_Au_lengthsUpTo 33 = .ok (.lreturn, 1) := by decide +kernel
theorem pd_Au_statesBefore : y_Au_statesBefore.cls ≠ "java/lang/invoke/MethodHandle" ∧ y_Au_statesBefore.cls ≠ "java/lang/invoke/VarHandle" ∧ (parseMethodDescriptor y_Au_statesBefore.desc).map (fun d => d.parameters.length) = some 3 := by decide +kernel
theorem pd_Au_go : y_Au_go.cls ≠ "java/lang/invoke/MethodHandle" ∧ y_Au_go.cls ≠ "java/lang/invoke/VarHandle" ∧ (parseMethodDescriptor y_Au_go.desc).map (fun d => d.parameters.length) = some 2 := by decide +kernel
theorem pd_Au_goAll : y_Au_goAll.cls ≠ "java/lang/invoke/MethodHandle" ∧ y_Au_goAll.cls ≠ "java/lang/invoke/VarHandle" ∧ (parseMethodDescriptor y_Au_goAll.desc).map (fun d => d.parameters.length) = some 2 := by decide +kernel
theorem pd_Au_isLast : y_Au_isLast.cls ≠ "java/lang/invoke/MethodHandle" ∧ y_Au_isLast.cls ≠ "java/lang/invoke/VarHandle" ∧ (parseMethodDescriptor y_Au_isLast.desc).map (fun d => d.parameters.length) = some 1 := by decide +kernel
theorem pd_Au_hasLast : y_Au_hasLast.cls ≠ "java/lang/invoke/MethodHandle" ∧ y_Au_hasLast.cls ≠ "java/lang/invoke/VarHandle" ∧ (parseMethodDescriptor y_Au_hasLast.desc).map (fun d => d.parameters.length) = some 1 := by decide +kernel
theorem pd_Au_accepts : y_Au_accepts.cls ≠ "java/lang/invoke/MethodHandle" ∧ y_Au_accepts.cls ≠ "java/lang/invoke/VarHandle" ∧ (parseMethodDescriptor y_Au_accepts.desc).map (fun d => d.parameters.length) = some 2 := by decide +kernel
theorem pd_Au_hasLength : y_Au_hasLength.cls ≠ "java/lang/invoke/MethodHandle" ∧ y_Au_hasLength.cls ≠ "java/lang/invoke/VarHandle" ∧ (parseMethodDescriptor y_Au_hasLength.desc).map (fun d => d.parameters.length) = some 1 := by decide +kernel
theorem pd_Au_leastLength : y_Au_leastLength.cls ≠ "java/lang/invoke/MethodHandle" ∧ y_Au_leastLength.cls ≠ "java/lang/invoke/VarHandle" ∧ (parseMethodDescriptor y_Au_leastLength.desc).map (fun d => d.parameters.length) = some 0 := by decide +kernel
theorem pd_Au_leastLetter : y_Au_leastLetter.cls ≠ "java/lang/invoke/MethodHandle" ∧ y_Au_leastLetter.cls ≠ "java/lang/invoke/VarHandle" ∧ (parseMethodDescriptor y_Au_leastLetter.desc).map (fun d => d.parameters.length) = some 2 := by decide +kernel
theorem pd_Au_leastWord : y_Au_leastWord.cls ≠ "java/lang/invoke/MethodHandle" ∧ y_Au_leastWord.cls ≠ "java/lang/invoke/VarHandle" ∧ (parseMethodDescriptor y_Au_leastWord.desc).map (fun d => d.parameters.length) = some 1 := by decide +kernel
theorem pd_Au_lengthsUpTo : y_Au_lengthsUpTo.cls ≠ "java/lang/invoke/MethodHandle" ∧ y_Au_lengthsUpTo.cls ≠ "java/lang/invoke/VarHandle" ∧ (parseMethodDescriptor y_Au_lengthsUpTo.desc).map (fun d => d.parameters.length) = some 1 := by decide +kernel
theorem fl_Au_19 : (Cond.fieldLink "RegularSolver$Automaton" 19 "RegularSolver$Automaton" "next" "[I") ∈ gW := gm 446 (by decide +kernel) (by decide +kernel)
theorem fl_Au_15 : (Cond.fieldLink "RegularSolver$Automaton" 15 "RegularSolver$Automaton" "states" "I") ∈ gW := gm 442 (by decide +kernel) (by decide +kernel)
theorem ml_Au_31 : (Cond.methodLink "RegularSolver$Automaton" 31 ({ cls := "RegularSolver$Automaton", name := "go", desc := "(II)I" } : MethodName)) ∈ gW := gm 372 (by decide +kernel) (by decide +kernel)
theorem ini_Au : (Cond.initialized "RegularSolver$Automaton") ∈ gW := gm 15 (by decide +kernel) (by decide +kernel)
theorem im_Au_go : (Cond.instanceMethod ({ cls := "RegularSolver$Automaton", name := "go", desc := "(II)I" } : MethodName)) ∈ gW := gm 365 (by decide +kernel) (by decide +kernel)
theorem se_Au_go : (Cond.selects "RegularSolver$Automaton" ({ cls := "RegularSolver$Automaton", name := "go", desc := "(II)I" } : MethodName) ({ cls := "RegularSolver$Automaton", name := "go", desc := "(II)I" } : MethodName)) ∈ gW := gm 366 (by decide +kernel) (by decide +kernel)
theorem fl_Au_23 : (Cond.fieldLink "RegularSolver$Automaton" 23 "RegularSolver$Automaton" "last" "J") ∈ gW := gm 449 (by decide +kernel) (by decide +kernel)
theorem ml_Au_40 : (Cond.methodLink "RegularSolver$Automaton" 40 ({ cls := "RegularSolver$Automaton", name := "isLast", desc := "(I)Z" } : MethodName)) ∈ gW := gm 616 (by decide +kernel) (by decide +kernel)
theorem im_Au_isLast : (Cond.instanceMethod ({ cls := "RegularSolver$Automaton", name := "isLast", desc := "(I)Z" } : MethodName)) ∈ gW := gm 337 (by decide +kernel) (by decide +kernel)
theorem se_Au_isLast : (Cond.selects "RegularSolver$Automaton" ({ cls := "RegularSolver$Automaton", name := "isLast", desc := "(I)Z" } : MethodName) ({ cls := "RegularSolver$Automaton", name := "isLast", desc := "(I)Z" } : MethodName)) ∈ gW := gm 338 (by decide +kernel) (by decide +kernel)
theorem fl_Au_9 : (Cond.fieldLink "RegularSolver$Automaton" 9 "RegularSolver$Automaton" "ahead" "[J") ∈ gW := gm 452 (by decide +kernel) (by decide +kernel)
theorem ml_Au_44 : (Cond.methodLink "RegularSolver$Automaton" 44 ({ cls := "RegularSolver$Automaton", name := "hasLength", desc := "(I)Z" } : MethodName)) ∈ gW := gm 664 (by decide +kernel) (by decide +kernel)
theorem im_Au_hasLength : (Cond.instanceMethod ({ cls := "RegularSolver$Automaton", name := "hasLength", desc := "(I)Z" } : MethodName)) ∈ gW := gm 641 (by decide +kernel) (by decide +kernel)
theorem se_Au_hasLength : (Cond.selects "RegularSolver$Automaton" ({ cls := "RegularSolver$Automaton", name := "hasLength", desc := "(I)Z" } : MethodName) ({ cls := "RegularSolver$Automaton", name := "hasLength", desc := "(I)Z" } : MethodName)) ∈ gW := gm 642 (by decide +kernel) (by decide +kernel)
theorem ml_Au_47 : (Cond.methodLink "RegularSolver$Automaton" 47 ({ cls := "RegularSolver$Automaton", name := "leastLetter", desc := "(IJ)I" } : MethodName)) ∈ gW := gm 649 (by decide +kernel) (by decide +kernel)
theorem im_Au_leastLetter : (Cond.instanceMethod ({ cls := "RegularSolver$Automaton", name := "leastLetter", desc := "(IJ)I" } : MethodName)) ∈ gW := gm 651 (by decide +kernel) (by decide +kernel)
theorem se_Au_leastLetter : (Cond.selects "RegularSolver$Automaton" ({ cls := "RegularSolver$Automaton", name := "leastLetter", desc := "(IJ)I" } : MethodName) ({ cls := "RegularSolver$Automaton", name := "leastLetter", desc := "(IJ)I" } : MethodName)) ∈ gW := gs (by decide +kernel) (by decide +kernel)
section
variable {p : Program} {l : Launch} {e : Env} {R : Room} {s : State} {m : MethodId} {args : Array Value} {below : List Frame} {meth : Method} {c : Code} {H : Heap} {locs : List Loc} {cells slots : Nat} {Q : State → Prop} {A : Nat → Prop} {H0 : Heap}
variable {n : Nat} {D : va_G} {K : Nat → ClassId} {ia : Nat} {iN : Nat} {iF : Nat → Int32}
def f_Au_statesBefore_6 (n : Nat) (v0 : Int32) (v2 : Int64) (iN : Nat) (iF : Nat → Int32) : Nat → Int32 → Int64 → Option (Int32 × Int64)
  | 0, _, _ => none
  | k + 1, v6, v4 =>
    if v0 ≤ v6 then
      some (v6, v4)
    else
      ogd (gin (4 * v6) iN) <|
      ogd (gin ((4 * v6) + 1) iN) <|
      ogd (gin ((4 * v6) + 2) iN) <|
      ogd (gin ((4 * v6) + 3) iN) <|
      f_Au_statesBefore_6 n v0 v2 iN iF k (v6 + 1) (v4 ||| (lshl (((((lushr v2 (iF (4 * v6).toNatClampNeg)) ||| (lushr v2 (iF ((4 * v6) + 1).toNatClampNeg))) ||| (lushr v2 (iF ((4 * v6) + 2).toNatClampNeg))) ||| (lushr v2 (iF ((4 * v6) + 3).toNatClampNeg))) &&& 1) v6))
set_option maxHeartbeats 4000000 in
set_option maxRecDepth 100000 in
theorem w_Au_statesBefore_6  {v0 : Int32} {v2 : Int64} (hx : p.tables.exec = Jvm.exec) (hb : c.code = b_Au_statesBefore) (hml : c.maxLocals = 10) (hts : ∀ w ∈ gW, w.before args s = true) (hown : s.vm.findClass "RegularSolver$Automaton" = some m.cls) (hK : va_K D vwCl (tG K) s) (hRf : 0 ≤ R.frames) (hRl : 0 ≤ R.locals) (hRc : cells ≤ R.cells) (hRs : slots ≤ R.slots) (hP : va_P D vwCl (iaW K ia iN iF) H)  {out : Int32 × Int64} (Kx : ∀ (u : Int32 × Int64), out = u → ∀ (ls : Array Slot), lv_has ls 10 [(4, .long u.2)] → W p l e R s m args below meth c H locs cells slots Q (F0 m 71 ls [])) :
    ∀ (k : Nat) (v6 : Int32) (v4 : Int64), f_Au_statesBefore_6 n v0 v2 iN iF k v6 v4 = some out → ∀ (ls : Array Slot), lv_has ls 10 [(6, .int v6), (4, .long v4), (0, .int v0), (1, .ref ia), (2, .long v2)] → W p l e R s m args below meth c H locs cells slots Q (F0 m 6 ls []) := by
  intro k
  induction k with
  | zero => intro _ _ hf; exact nomatch (show none = some out from hf)
  | succ k ih =>
    intro v6 v4 hf ls hl
    rw [f_Au_statesBefore_6] at hf
    refine lv_iload hx hb d_Au_statesBefore_6 (lv_at hl 0 rfl) ?_
    refine lv_iload_n hx hb d_Au_statesBefore_8 rfl (lv_at hl 2 rfl) ?_
    refine lv_icmp_ge (tgt := 71) hx hb d_Au_statesBefore_9 (by decide) (fun c6 => ?_) (fun c6 => ?_)
    · rw [if_pos c6] at hf
      exact Kx _ (Option.some.inj hf).symm _ (show lv_has ls 10 [(4, .long v4)] from lv_sub hl [1] rfl)
    · rw [if_neg c6] at hf
      refine lv_iconst (v := 4) hx hb d_Au_statesBefore_12 (by decide) ?_
      refine lv_iload hx hb d_Au_statesBefore_13 (lv_at hl 0 rfl) ?_
      refine lv_imul hx hb d_Au_statesBefore_15 ?_
      refine lv_istore (lv' := [(7, .int (4 * v6)), (6, .int v6), (4, .long v4), (0, .int v0), (1, .ref ia), (2, .long v2)]) hx hb d_Au_statesBefore_16 hl (by decide) rfl (fun ls hl => ?_)
      refine lv_lload_n hx hb d_Au_statesBefore_18 rfl (lv_at hl 5 rfl) ?_
      refine lv_aload_n hx hb d_Au_statesBefore_19 rfl (lv_at hl 4 rfl) ?_
      refine lv_iload hx hb d_Au_statesBefore_20 (lv_at hl 0 rfl) ?_
      obtain ⟨g7, hf⟩ := ogi hf
      refine va_iald hx hb hK hP 0 0 rfl rfl (gin_in g7) d_Au_statesBefore_22 ?_
      refine lv_lushr (v := lushr v2 (iF (4 * v6).toNatClampNeg)) hx hb d_Au_statesBefore_23 rfl ?_
      refine lv_lload_n hx hb d_Au_statesBefore_24 rfl (lv_at hl 5 rfl) ?_
      refine lv_aload_n hx hb d_Au_statesBefore_25 rfl (lv_at hl 4 rfl) ?_
      refine lv_iload hx hb d_Au_statesBefore_26 (lv_at hl 0 rfl) ?_
      refine lv_iconst (v := 1) hx hb d_Au_statesBefore_28 (by decide) ?_
      refine lv_iadd hx hb d_Au_statesBefore_29 ?_
      obtain ⟨g8, hf⟩ := ogi hf
      refine va_iald hx hb hK hP 0 0 rfl rfl (gin_in g8) d_Au_statesBefore_30 ?_
      refine lv_lushr (v := lushr v2 (iF ((4 * v6) + 1).toNatClampNeg)) hx hb d_Au_statesBefore_31 rfl ?_
      refine lv_lor hx hb d_Au_statesBefore_32 ?_
      refine lv_lload_n hx hb d_Au_statesBefore_33 rfl (lv_at hl 5 rfl) ?_
      refine lv_aload_n hx hb d_Au_statesBefore_34 rfl (lv_at hl 4 rfl) ?_
      refine lv_iload hx hb d_Au_statesBefore_35 (lv_at hl 0 rfl) ?_
      refine lv_iconst (v := 2) hx hb d_Au_statesBefore_37 (by decide) ?_
      refine lv_iadd hx hb d_Au_statesBefore_38 ?_
      obtain ⟨g9, hf⟩ := ogi hf
      refine va_iald hx hb hK hP 0 0 rfl rfl (gin_in g9) d_Au_statesBefore_39 ?_
      refine lv_lushr (v := lushr v2 (iF ((4 * v6) + 2).toNatClampNeg)) hx hb d_Au_statesBefore_40 rfl ?_
      refine lv_lor hx hb d_Au_statesBefore_41 ?_
      refine lv_lload_n hx hb d_Au_statesBefore_42 rfl (lv_at hl 5 rfl) ?_
      refine lv_aload_n hx hb d_Au_statesBefore_43 rfl (lv_at hl 4 rfl) ?_
      refine lv_iload hx hb d_Au_statesBefore_44 (lv_at hl 0 rfl) ?_
      refine lv_iconst (v := 3) hx hb d_Au_statesBefore_46 (by decide) ?_
      refine lv_iadd hx hb d_Au_statesBefore_47 ?_
      obtain ⟨g10, hf⟩ := ogi hf
      refine va_iald hx hb hK hP 0 0 rfl rfl (gin_in g10) d_Au_statesBefore_48 ?_
      refine lv_lushr (v := lushr v2 (iF ((4 * v6) + 3).toNatClampNeg)) hx hb d_Au_statesBefore_49 rfl ?_
      refine lv_lor hx hb d_Au_statesBefore_50 ?_
      refine lv_lstore (lv' := [(8, .long ((((lushr v2 (iF (4 * v6).toNatClampNeg)) ||| (lushr v2 (iF ((4 * v6) + 1).toNatClampNeg))) ||| (lushr v2 (iF ((4 * v6) + 2).toNatClampNeg))) ||| (lushr v2 (iF ((4 * v6) + 3).toNatClampNeg)))), (7, .int (4 * v6)), (6, .int v6), (4, .long v4), (0, .int v0), (1, .ref ia), (2, .long v2)]) hx hb d_Au_statesBefore_51 hl (by decide) rfl (fun ls hl => ?_)
      refine lv_lload hx hb d_Au_statesBefore_53 (lv_at hl 3 rfl) ?_
      refine lv_lload hx hb d_Au_statesBefore_55 (lv_at hl 0 rfl) ?_
      refine lv_lconst (v := 1) hx hb d_Au_statesBefore_57 (by decide) ?_
      refine lv_land hx hb d_Au_statesBefore_58 ?_
      refine lv_iload hx hb d_Au_statesBefore_59 (lv_at hl 2 rfl) ?_
      refine lv_lshl (v := lshl (((((lushr v2 (iF (4 * v6).toNatClampNeg)) ||| (lushr v2 (iF ((4 * v6) + 1).toNatClampNeg))) ||| (lushr v2 (iF ((4 * v6) + 2).toNatClampNeg))) ||| (lushr v2 (iF ((4 * v6) + 3).toNatClampNeg))) &&& 1) v6) hx hb d_Au_statesBefore_61 rfl ?_
      refine lv_lor hx hb d_Au_statesBefore_62 ?_
      refine lv_lstore (lv' := [(4, .long (v4 ||| (lshl (((((lushr v2 (iF (4 * v6).toNatClampNeg)) ||| (lushr v2 (iF ((4 * v6) + 1).toNatClampNeg))) ||| (lushr v2 (iF ((4 * v6) + 2).toNatClampNeg))) ||| (lushr v2 (iF ((4 * v6) + 3).toNatClampNeg))) &&& 1) v6))), (8, .long ((((lushr v2 (iF (4 * v6).toNatClampNeg)) ||| (lushr v2 (iF ((4 * v6) + 1).toNatClampNeg))) ||| (lushr v2 (iF ((4 * v6) + 2).toNatClampNeg))) ||| (lushr v2 (iF ((4 * v6) + 3).toNatClampNeg)))), (7, .int (4 * v6)), (6, .int v6), (0, .int v0), (1, .ref ia), (2, .long v2)]) hx hb d_Au_statesBefore_63 hl (by decide) rfl (fun ls hl => ?_)
      refine lv_iinc (v := v6 + 1) (lv' := [(6, .int (v6 + 1)), (4, .long (v4 ||| (lshl (((((lushr v2 (iF (4 * v6).toNatClampNeg)) ||| (lushr v2 (iF ((4 * v6) + 1).toNatClampNeg))) ||| (lushr v2 (iF ((4 * v6) + 2).toNatClampNeg))) ||| (lushr v2 (iF ((4 * v6) + 3).toNatClampNeg))) &&& 1) v6))), (8, .long ((((lushr v2 (iF (4 * v6).toNatClampNeg)) ||| (lushr v2 (iF ((4 * v6) + 1).toNatClampNeg))) ||| (lushr v2 (iF ((4 * v6) + 2).toNatClampNeg))) ||| (lushr v2 (iF ((4 * v6) + 3).toNatClampNeg)))), (7, .int (4 * v6)), (0, .int v0), (1, .ref ia), (2, .long v2)]) hx hb d_Au_statesBefore_65 hl (k := 3) rfl (by first | rfl | (congr 1)) (by decide) rfl (fun ls hl => ?_)
      refine lv_goto (tgt := 6) hx hb d_Au_statesBefore_68 (by decide) ?_
      exact ih _ _ hf _ (show lv_has ls 10 [(6, .int (v6 + 1)), (4, .long (v4 ||| (lshl (((((lushr v2 (iF (4 * v6).toNatClampNeg)) ||| (lushr v2 (iF ((4 * v6) + 1).toNatClampNeg))) ||| (lushr v2 (iF ((4 * v6) + 2).toNatClampNeg))) ||| (lushr v2 (iF ((4 * v6) + 3).toNatClampNeg))) &&& 1) v6))), (0, .int v0), (1, .ref ia), (2, .long v2)] from lv_sub hl [0, 1, 4, 5, 6] rfl)
def f_Au_statesBefore (n : Nat) (p0 : Int32) (p2 : Int64) (iN : Nat) (iF : Nat → Int32) : Option (Int64) :=
  (f_Au_statesBefore_6 n p0 p2 iN iF n 0 0).bind fun u11 =>
  some u11.2
set_option maxHeartbeats 4000000 in
set_option maxRecDepth 100000 in
theorem w_Au_statesBefore  {p0 : Int32} {p2 : Int64}  (hx : p.tables.exec = Jvm.exec) (hb : c.code = b_Au_statesBefore) (hml : c.maxLocals = 10) (hts : ∀ w ∈ gW, w.before args s = true) (hown : s.vm.findClass "RegularSolver$Automaton" = some m.cls) (hK : va_K D vwCl (tG K) s) (hRf : 0 ≤ R.frames) (hRl : 0 ≤ R.locals) (hRc : cells ≤ R.cells) (hRs : slots ≤ R.slots) (hP : va_P D vwCl (iaW K ia iN iF) H) {out : Int64} (Kr : ∀ (r : Int64), out = r → ∀ (pc : Nat) (ls : Array Slot), decode b_Au_statesBefore pc = .ok (.lreturn, 1) → W p l e R s m args below meth c H locs cells slots Q (F0 m pc ls [.long r])) (hf : f_Au_statesBefore n p0 p2 iN iF = some out) (ls : Array Slot) (hl : lv_has ls 10 [(0, .int p0), (1, .ref ia), (2, .long p2)]) : W p l e R s m args below meth c H locs cells slots Q (F0 m 0 ls []) := by
  unfold f_Au_statesBefore at hf
  refine lv_lconst (v := 0) hx hb d_Au_statesBefore_0 (by decide) ?_
  refine lv_lstore (lv' := [(4, .long 0), (0, .int p0), (1, .ref ia), (2, .long p2)]) hx hb d_Au_statesBefore_1 hl (by decide) rfl (fun ls hl => ?_)
  refine lv_iconst (v := 0) hx hb d_Au_statesBefore_3 (by decide) ?_
  refine lv_istore (lv' := [(6, .int 0), (4, .long 0), (0, .int p0), (1, .ref ia), (2, .long p2)]) hx hb d_Au_statesBefore_4 hl (by decide) rfl (fun ls hl => ?_)
  obtain ⟨u11, eu11, hf⟩ := obd hf
  refine w_Au_statesBefore_6 hx hb hml hts hown hK hRf hRl hRc hRs hP  (fun u11q eu ls hl => ?_) _ _ _ eu11 _ (show lv_has ls 10 [(6, .int 0), (4, .long 0), (0, .int p0), (1, .ref ia), (2, .long p2)] from lv_sub hl [0, 1, 2, 3, 4] rfl)
  subst eu
  refine lv_lload hx hb d_Au_statesBefore_71 (lv_at hl 0 rfl) ?_
  exact Kr _ (Option.some.inj hf).symm _ _ d_Au_statesBefore_73
set_option maxHeartbeats 4000000 in
set_option maxRecDepth 100000 in
theorem c_Au_statesBefore (l : Launch)  {p0 : Int32} {p2 : Int64}  {r : Int64} (hf : f_Au_statesBefore n p0 p2 iN iF = some r) : Met l y_Au_statesBefore w0_Au_statesBefore ({ frames := 0, cells := 0, slots := 0, locals := 0 }) (pPre D K [.int p0, .ref ia, .long p2] ((iaW K ia iN iF))) (pPost (some (.long r))) 0 0 (fun _ => False) := by
  refine Met.ofW (cc := b_Au_statesBefore) (maxL := 10) (ret := (some .long)) (by decide) rfl ?_
  intro p e s m args below meth c s₁ B hml hv
  obtain ⟨rfl, hP, hK⟩ := hv
  have hl := lv_entry [.int p0, .ref ia, .long p2] (n := 10) (Nat.le_of_ble_eq_true rfl)
  rw [lg_entry_eq]
  generalize (lg_sl [.int p0, .ref ia, .long p2] ++ List.replicate (10 - (lg_sl [.int p0, .ref ia, .long p2]).length) Slot.unset).toArray = ls at hl ⊢
  refine w_Au_statesBefore B.exec B.bytes hml (fun w hw => atoms_spec (ws := w0_Au_statesBefore) B.pre w (List.mem_cons_of_mem _ hw)) (findClass_of_methodNamed B.named) hK (Nat.le_refl _) (Nat.le_refl _) (Nat.zero_le _) (Nat.zero_le _) hP (fun r er pc ls hd => ?_) hf ls hl
  subst er
  exact W.lret B.exec B.bytes B.returns (fun t ht hW => ⟨rfl, ht⟩) (fun q h => by cases h) hd (hlocks := B.notSynchronized)
end
section
variable {p : Program} {l : Launch} {e : Env} {R : Room} {s : State} {m : MethodId} {args : Array Value} {below : List Frame} {meth : Method} {c : Code} {H : Heap} {locs : List Loc} {cells slots : Nat} {Q : State → Prop} {A : Nat → Prop} {H0 : Heap}
variable {n : Nat} {D : va_G} {K : Nat → ClassId} {q : Nat} {an : Nat} {aa : Nat} {aStates : Int32} {aNl : Nat} {aNext : Nat → Int32} {aLast : Int64} {aAhead : Nat → Int64}
def f_Au_go (n : Nat) (p0 : Int32) (p1 : Int32) (aNl : Nat) (aNext : Nat → Int32) : Option (Int32) :=
  ogd (gin ((4 * p0) + p1) aNl) <|
  some (aNext ((4 * p0) + p1).toNatClampNeg)
set_option maxHeartbeats 4000000 in
set_option maxRecDepth 100000 in
theorem w_Au_go  {p0 : Int32} {p1 : Int32}  (hx : p.tables.exec = Jvm.exec) (hb : c.code = b_Au_go) (hml : c.maxLocals = 3) (hts : ∀ w ∈ gW, w.before args s = true) (hown : s.vm.findClass "RegularSolver$Automaton" = some m.cls) (hK : va_K D vwCl (tG K) s) (hRf : 0 ≤ R.frames) (hRl : 0 ≤ R.locals) (hRc : cells ≤ R.cells) (hRs : slots ≤ R.slots) (hP : va_P D vwCl (auW K q an aa aStates aNl aNext aLast aAhead) H) {out : Int32} (Kr : ∀ (r : Int32), out = r → ∀ (pc : Nat) (ls : Array Slot), decode b_Au_go pc = .ok (.ireturn, 1) → W p l e R s m args below meth c H locs cells slots Q (F0 m pc ls [.int r])) (hf : f_Au_go n p0 p1 aNl aNext = some out) (ls : Array Slot) (hl : lv_has ls 3 [(0, .ref q), (1, .int p0), (2, .int p1)]) : W p l e R s m args below meth c H locs cells slots Q (F0 m 0 ls []) := by
  unfold f_Au_go at hf
  refine lv_aload_n hx hb d_Au_go_0 rfl (lv_at hl 0 rfl) ?_
  refine va_get (D := D) (ci := 1) (v := .ref an) (C := R_Au) (T := T_Au) (N := 4) hx hb hts in_Au hown hK hP 0 rfl rfl 1 (by decide) (hts _ fl_Au_19) (fun _ h9 => h9) rfl d_Au_go_1 ?_
  refine lv_iconst (v := 4) hx hb d_Au_go_4 (by decide) ?_
  refine lv_iload_n hx hb d_Au_go_5 rfl (lv_at hl 1 rfl) ?_
  refine lv_imul hx hb d_Au_go_6 ?_
  refine lv_iload_n hx hb d_Au_go_7 rfl (lv_at hl 2 rfl) ?_
  refine lv_iadd hx hb d_Au_go_8 ?_
  obtain ⟨g1, hf⟩ := ogi hf
  refine va_iald hx hb hK hP 1 0 rfl rfl (gin_in g1) d_Au_go_9 ?_
  exact Kr _ (Option.some.inj hf).symm _ _ d_Au_go_10
set_option maxHeartbeats 4000000 in
set_option maxRecDepth 100000 in
theorem c_Au_go (l : Launch)  {p0 : Int32} {p1 : Int32}  {r : Int32} (hf : f_Au_go n p0 p1 aNl aNext = some r) : Met l y_Au_go w0_Au_go ({ frames := 0, cells := 0, slots := 0, locals := 0 }) (pPre D K [.ref q, .int p0, .int p1] ((auW K q an aa aStates aNl aNext aLast aAhead))) (pPost (some (.int r))) 0 0 (fun _ => False) := by
  refine Met.ofW (cc := b_Au_go) (maxL := 3) (ret := (some .int)) (by decide) rfl ?_
  intro p e s m args below meth c s₁ B hml hv
  obtain ⟨rfl, hP, hK⟩ := hv
  have hl := lv_entry [.ref q, .int p0, .int p1] (n := 3) (Nat.le_of_ble_eq_true rfl)
  rw [lg_entry_eq]
  generalize (lg_sl [.ref q, .int p0, .int p1] ++ List.replicate (3 - (lg_sl [.ref q, .int p0, .int p1]).length) Slot.unset).toArray = ls at hl ⊢
  refine w_Au_go B.exec B.bytes hml (fun w hw => atoms_spec (ws := w0_Au_go) B.pre w (List.mem_cons_of_mem _ hw)) (findClass_of_methodNamed B.named) hK (Nat.le_refl _) (Nat.le_refl _) (Nat.zero_le _) (Nat.zero_le _) hP (fun r er pc ls hd => ?_) hf ls hl
  subst er
  exact W.iret B.exec B.bytes B.returns (fun t ht hW => ⟨rfl, ht⟩) (fun q h => by cases h) hd (hlocks := B.notSynchronized)
end
section
variable {p : Program} {l : Launch} {e : Env} {R : Room} {s : State} {m : MethodId} {args : Array Value} {below : List Frame} {meth : Method} {c : Code} {H : Heap} {locs : List Loc} {cells slots : Nat} {Q : State → Prop} {A : Nat → Prop} {H0 : Heap}
variable {n : Nat} {D : va_G} {K : Nat → ClassId} {q : Nat} {an : Nat} {aa : Nat} {aStates : Int32} {aNl : Nat} {aNext : Nat → Int32} {aLast : Int64} {aAhead : Nat → Int64}
def f_Au_goAll_9 (n : Nat) (v3 : Int32) (aStates : Int32) (aNl : Nat) (aNext : Nat → Int32) : Nat → Int32 → Int64 → Int64 → Option (Int32 × Int64 × Int64)
  | 0, _, _, _ => none
  | k + 1, v8, v6, v4 =>
    if aStates ≤ v8 then
      some (v8, v6, v4)
    else
      if v6 = 0 then
        some (v8, v6, v4)
      else
        if (v6 &&& 1) = 0 then
          f_Au_goAll_9 n v3 aStates aNl aNext k (v8 + 1) (lushr v6 1) v4
        else
          (f_Au_go n v8 v3 aNl aNext).bind fun u8 =>
          f_Au_goAll_9 n v3 aStates aNl aNext k (v8 + 1) (lushr v6 1) (v4 ||| (lshl 1 u8))
set_option maxHeartbeats 4000000 in
set_option maxRecDepth 100000 in
theorem w_Au_goAll_9  {v3 : Int32} (hx : p.tables.exec = Jvm.exec) (hb : c.code = b_Au_goAll) (hml : c.maxLocals = 9) (hts : ∀ w ∈ gW, w.before args s = true) (hown : s.vm.findClass "RegularSolver$Automaton" = some m.cls) (hK : va_K D vwCl (tG K) s) (hRf : 1 ≤ R.frames) (hRl : 22 ≤ R.locals) (hRc : cells ≤ R.cells) (hRs : slots ≤ R.slots) (hP : va_P D vwCl (auW K q an aa aStates aNl aNext aLast aAhead) H)  {out : Int32 × Int64 × Int64} (Kx : ∀ (u : Int32 × Int64 × Int64), out = u → ∀ (ls : Array Slot), lv_has ls 9 [(4, .long u.2.2)] → W p l e R s m args below meth c H locs cells slots Q (F0 m 60 ls [])) :
    ∀ (k : Nat) (v8 : Int32) (v6 : Int64) (v4 : Int64), f_Au_goAll_9 n v3 aStates aNl aNext k v8 v6 v4 = some out → ∀ (ls : Array Slot), lv_has ls 9 [(8, .int v8), (6, .long v6), (4, .long v4), (0, .ref q), (3, .int v3)] → W p l e R s m args below meth c H locs cells slots Q (F0 m 9 ls []) := by
  intro k
  induction k with
  | zero => intro _ _ _ hf; exact nomatch (show none = some out from hf)
  | succ k ih =>
    intro v8 v6 v4 hf ls hl
    rw [f_Au_goAll_9] at hf
    refine lv_iload hx hb d_Au_goAll_9 (lv_at hl 0 rfl) ?_
    refine lv_aload_n hx hb d_Au_goAll_11 rfl (lv_at hl 3 rfl) ?_
    refine va_get (D := D) (ci := 1) (v := .int aStates) (C := R_Au) (T := T_Au) (N := 4) hx hb hts in_Au hown hK hP 0 rfl rfl 0 (by decide) (hts _ fl_Au_15) (fun _ h9 => h9) rfl d_Au_goAll_12 ?_
    refine lv_icmp_ge (tgt := 60) hx hb d_Au_goAll_15 (by decide) (fun c5 => ?_) (fun c5 => ?_)
    · rw [if_pos c5] at hf
      exact Kx _ (Option.some.inj hf).symm _ (show lv_has ls 9 [(4, .long v4)] from lv_sub hl [2] rfl)
    · rw [if_neg c5] at hf
      refine lv_lload hx hb d_Au_goAll_18 (lv_at hl 1 rfl) ?_
      refine lv_lconst (v := 0) hx hb d_Au_goAll_20 (by decide) ?_
      refine W.lcmp hx hb d_Au_goAll_21 ?_
      refine lc_eq (tgt := 60) hx hb d_Au_goAll_22 (by decide) (fun c6 => ?_) (fun c6 => ?_)
      · rw [if_pos c6] at hf
        exact Kx _ (Option.some.inj hf).symm _ (show lv_has ls 9 [(4, .long v4)] from lv_sub hl [2] rfl)
      · rw [if_neg c6] at hf
        refine lv_lload hx hb d_Au_goAll_25 (lv_at hl 1 rfl) ?_
        refine lv_lconst (v := 1) hx hb d_Au_goAll_27 (by decide) ?_
        refine lv_land hx hb d_Au_goAll_28 ?_
        refine lv_lconst (v := 0) hx hb d_Au_goAll_29 (by decide) ?_
        refine W.lcmp hx hb d_Au_goAll_30 ?_
        refine lc_eq (tgt := 48) hx hb d_Au_goAll_31 (by decide) (fun c7 => ?_) (fun c7 => ?_)
        · rw [if_pos c7] at hf
          refine lv_lload hx hb d_Au_goAll_48 (lv_at hl 1 rfl) ?_
          refine lv_iconst (v := 1) hx hb d_Au_goAll_50 (by decide) ?_
          refine lv_lushr (v := lushr v6 1) hx hb d_Au_goAll_51 rfl ?_
          refine lv_lstore (lv' := [(6, .long (lushr v6 1)), (8, .int v8), (4, .long v4), (0, .ref q), (3, .int v3)]) hx hb d_Au_goAll_52 hl (by decide) rfl (fun ls hl => ?_)
          refine lv_iinc (v := v8 + 1) (lv' := [(8, .int (v8 + 1)), (6, .long (lushr v6 1)), (4, .long v4), (0, .ref q), (3, .int v3)]) hx hb d_Au_goAll_54 hl (k := 1) rfl (by first | rfl | (congr 1)) (by decide) rfl (fun ls hl => ?_)
          refine lv_goto (tgt := 9) hx hb d_Au_goAll_57 (by decide) ?_
          exact ih _ _ _ hf _ (show lv_has ls 9 [(8, .int (v8 + 1)), (6, .long (lushr v6 1)), (4, .long v4), (0, .ref q), (3, .int v3)] from lv_sub hl [0, 1, 2, 3, 4] rfl)
        · rw [if_neg c7] at hf
          refine lv_lload hx hb d_Au_goAll_34 (lv_at hl 2 rfl) ?_
          refine lv_lconst (v := 1) hx hb d_Au_goAll_36 (by decide) ?_
          refine lv_aload_n hx hb d_Au_goAll_37 rfl (lv_at hl 3 rfl) ?_
          refine lv_iload hx hb d_Au_goAll_38 (lv_at hl 0 rfl) ?_
          refine lv_iload_n hx hb d_Au_goAll_40 rfl (lv_at hl 4 rfl) ?_
          obtain ⟨u8, eu8, hf⟩ := obd hf
          refine p_call (W.runV (As := [.int v8, .int v3]) (rest := [.long 1, .long v4]) ⟨hx, hb, hml, hown, hts⟩ (c_Au_go l eu8) (gV 2 hts cd_Au_go ml_Au_31 im_Au_go se_Au_go ini_Au rfl rfl pd_Au_go ⟨Nat.le_trans (Nat.le_of_ble_eq_true rfl) hRf, Nat.le_trans (Nat.le_of_ble_eq_true rfl) hRl⟩) ⟨pPre_blind, va_recv hK hP (ci := 1) (q0 := 0) rfl rfl, pPre_of hP hK⟩ rfl rfl hl.1 rfl (lv_room (Nat.le_of_ble_eq_true rfl)) d_Au_goAll_41 ⟨hRc, hRs⟩) ?_
          refine lv_lshl (v := lshl 1 u8) hx hb d_Au_goAll_44 rfl ?_
          refine lv_lor hx hb d_Au_goAll_45 ?_
          refine lv_lstore (lv' := [(4, .long (v4 ||| (lshl 1 u8))), (8, .int v8), (6, .long v6), (0, .ref q), (3, .int v3)]) hx hb d_Au_goAll_46 hl (by decide) rfl (fun ls hl => ?_)
          refine lv_lload hx hb d_Au_goAll_48 (lv_at hl 2 rfl) ?_
          refine lv_iconst (v := 1) hx hb d_Au_goAll_50 (by decide) ?_
          refine lv_lushr (v := lushr v6 1) hx hb d_Au_goAll_51 rfl ?_
          refine lv_lstore (lv' := [(6, .long (lushr v6 1)), (4, .long (v4 ||| (lshl 1 u8))), (8, .int v8), (0, .ref q), (3, .int v3)]) hx hb d_Au_goAll_52 hl (by decide) rfl (fun ls hl => ?_)
          refine lv_iinc (v := v8 + 1) (lv' := [(8, .int (v8 + 1)), (6, .long (lushr v6 1)), (4, .long (v4 ||| (lshl 1 u8))), (0, .ref q), (3, .int v3)]) hx hb d_Au_goAll_54 hl (k := 2) rfl (by first | rfl | (congr 1)) (by decide) rfl (fun ls hl => ?_)
          refine lv_goto (tgt := 9) hx hb d_Au_goAll_57 (by decide) ?_
          exact ih _ _ _ hf _ (show lv_has ls 9 [(8, .int (v8 + 1)), (6, .long (lushr v6 1)), (4, .long (v4 ||| (lshl 1 u8))), (0, .ref q), (3, .int v3)] from lv_sub hl [0, 1, 2, 3, 4] rfl)
def f_Au_goAll (n : Nat) (p0 : Int64) (p1 : Int32) (aStates : Int32) (aNl : Nat) (aNext : Nat → Int32) : Option (Int64) :=
  (f_Au_goAll_9 n p1 aStates aNl aNext n 0 p0 0).bind fun u9 =>
  some u9.2.2
set_option maxHeartbeats 4000000 in
set_option maxRecDepth 100000 in
theorem w_Au_goAll  {p0 : Int64} {p1 : Int32}  (hx : p.tables.exec = Jvm.exec) (hb : c.code = b_Au_goAll) (hml : c.maxLocals = 9) (hts : ∀ w ∈ gW, w.before args s = true) (hown : s.vm.findClass "RegularSolver$Automaton" = some m.cls) (hK : va_K D vwCl (tG K) s) (hRf : 1 ≤ R.frames) (hRl : 22 ≤ R.locals) (hRc : cells ≤ R.cells) (hRs : slots ≤ R.slots) (hP : va_P D vwCl (auW K q an aa aStates aNl aNext aLast aAhead) H) {out : Int64} (Kr : ∀ (r : Int64), out = r → ∀ (pc : Nat) (ls : Array Slot), decode b_Au_goAll pc = .ok (.lreturn, 1) → W p l e R s m args below meth c H locs cells slots Q (F0 m pc ls [.long r])) (hf : f_Au_goAll n p0 p1 aStates aNl aNext = some out) (ls : Array Slot) (hl : lv_has ls 9 [(0, .ref q), (1, .long p0), (3, .int p1)]) : W p l e R s m args below meth c H locs cells slots Q (F0 m 0 ls []) := by
  unfold f_Au_goAll at hf
  refine lv_lconst (v := 0) hx hb d_Au_goAll_0 (by decide) ?_
  refine lv_lstore (lv' := [(4, .long 0), (0, .ref q), (1, .long p0), (3, .int p1)]) hx hb d_Au_goAll_1 hl (by decide) rfl (fun ls hl => ?_)
  refine lv_lload_n hx hb d_Au_goAll_3 rfl (lv_at hl 2 rfl) ?_
  refine lv_lstore (lv' := [(6, .long p0), (4, .long 0), (0, .ref q), (1, .long p0), (3, .int p1)]) hx hb d_Au_goAll_4 hl (by decide) rfl (fun ls hl => ?_)
  refine lv_iconst (v := 0) hx hb d_Au_goAll_6 (by decide) ?_
  refine lv_istore (lv' := [(8, .int 0), (6, .long p0), (4, .long 0), (0, .ref q), (1, .long p0), (3, .int p1)]) hx hb d_Au_goAll_7 hl (by decide) rfl (fun ls hl => ?_)
  obtain ⟨u9, eu9, hf⟩ := obd hf
  refine w_Au_goAll_9 hx hb hml hts hown hK hRf hRl hRc hRs hP  (fun u9q eu ls hl => ?_) _ _ _ _ eu9 _ (show lv_has ls 9 [(8, .int 0), (6, .long p0), (4, .long 0), (0, .ref q), (3, .int p1)] from lv_sub hl [0, 1, 2, 3, 5] rfl)
  subst eu
  refine lv_lload hx hb d_Au_goAll_60 (lv_at hl 0 rfl) ?_
  exact Kr _ (Option.some.inj hf).symm _ _ d_Au_goAll_62
set_option maxHeartbeats 4000000 in
set_option maxRecDepth 100000 in
theorem c_Au_goAll (l : Launch)  {p0 : Int64} {p1 : Int32}  {r : Int64} (hf : f_Au_goAll n p0 p1 aStates aNl aNext = some r) : Met l y_Au_goAll w0_Au_goAll ({ frames := 1, cells := 0, slots := 0, locals := 22 }) (pPre D K [.ref q, .long p0, .int p1] ((auW K q an aa aStates aNl aNext aLast aAhead))) (pPost (some (.long r))) 0 0 (fun _ => False) := by
  refine Met.ofW (cc := b_Au_goAll) (maxL := 9) (ret := (some .long)) (by decide) rfl ?_
  intro p e s m args below meth c s₁ B hml hv
  obtain ⟨rfl, hP, hK⟩ := hv
  have hl := lv_entry [.ref q, .long p0, .int p1] (n := 9) (Nat.le_of_ble_eq_true rfl)
  rw [lg_entry_eq]
  generalize (lg_sl [.ref q, .long p0, .int p1] ++ List.replicate (9 - (lg_sl [.ref q, .long p0, .int p1]).length) Slot.unset).toArray = ls at hl ⊢
  refine w_Au_goAll B.exec B.bytes hml (fun w hw => atoms_spec (ws := w0_Au_goAll) B.pre w (List.mem_cons_of_mem _ hw)) (findClass_of_methodNamed B.named) hK (Nat.le_refl _) (Nat.le_refl _) (Nat.zero_le _) (Nat.zero_le _) hP (fun r er pc ls hd => ?_) hf ls hl
  subst er
  exact W.lret B.exec B.bytes B.returns (fun t ht hW => ⟨rfl, ht⟩) (fun q h => by cases h) hd (hlocks := B.notSynchronized)
end
section
variable {p : Program} {l : Launch} {e : Env} {R : Room} {s : State} {m : MethodId} {args : Array Value} {below : List Frame} {meth : Method} {c : Code} {H : Heap} {locs : List Loc} {cells slots : Nat} {Q : State → Prop} {A : Nat → Prop} {H0 : Heap}
variable {n : Nat} {D : va_G} {K : Nat → ClassId} {q : Nat} {an : Nat} {aa : Nat} {aStates : Int32} {aNl : Nat} {aNext : Nat → Int32} {aLast : Int64} {aAhead : Nat → Int64}
def f_Au_isLast (n : Nat) (p0 : Int32) (aLast : Int64) : Option (Bool) :=
  if ((lushr aLast p0) &&& 1) = 0 then
    some false
  else
    some true
set_option maxHeartbeats 4000000 in
set_option maxRecDepth 100000 in
theorem w_Au_isLast  {p0 : Int32}  (hx : p.tables.exec = Jvm.exec) (hb : c.code = b_Au_isLast) (hml : c.maxLocals = 2) (hts : ∀ w ∈ gW, w.before args s = true) (hown : s.vm.findClass "RegularSolver$Automaton" = some m.cls) (hK : va_K D vwCl (tG K) s) (hRf : 0 ≤ R.frames) (hRl : 0 ≤ R.locals) (hRc : cells ≤ R.cells) (hRs : slots ≤ R.slots) (hP : va_P D vwCl (auW K q an aa aStates aNl aNext aLast aAhead) H) {out : Bool} (Kr : ∀ (r : Bool), out = r → ∀ (pc : Nat) (ls : Array Slot), decode b_Au_isLast pc = .ok (.ireturn, 1) → W p l e R s m args below meth c H locs cells slots Q (F0 m pc ls [.int (bI r)])) (hf : f_Au_isLast n p0 aLast = some out) (ls : Array Slot) (hl : lv_has ls 2 [(0, .ref q), (1, .int p0)]) : W p l e R s m args below meth c H locs cells slots Q (F0 m 0 ls []) := by
  unfold f_Au_isLast at hf
  refine lv_aload_n hx hb d_Au_isLast_0 rfl (lv_at hl 0 rfl) ?_
  refine va_get (D := D) (ci := 1) (v := .long aLast) (C := R_Au) (T := T_Au) (N := 4) hx hb hts in_Au hown hK hP 0 rfl rfl 2 (by decide) (hts _ fl_Au_23) (fun _ h9 => h9) rfl d_Au_isLast_1 ?_
  refine lv_iload_n hx hb d_Au_isLast_4 rfl (lv_at hl 1 rfl) ?_
  refine lv_lushr (v := lushr aLast p0) hx hb d_Au_isLast_5 rfl ?_
  refine lv_lconst (v := 1) hx hb d_Au_isLast_6 (by decide) ?_
  refine lv_land hx hb d_Au_isLast_7 ?_
  refine lv_lconst (v := 0) hx hb d_Au_isLast_8 (by decide) ?_
  refine W.lcmp hx hb d_Au_isLast_9 ?_
  refine lc_eq (tgt := 17) hx hb d_Au_isLast_10 (by decide) (fun c1 => ?_) (fun c1 => ?_)
  · rw [if_pos c1] at hf
    refine lv_iconst (v := 0) hx hb d_Au_isLast_17 (by decide) ?_
    exact Kr _ (Option.some.inj hf).symm _ _ d_Au_isLast_18
  · rw [if_neg c1] at hf
    refine lv_iconst (v := 1) hx hb d_Au_isLast_13 (by decide) ?_
    refine lv_goto (tgt := 18) hx hb d_Au_isLast_14 (by decide) ?_
    exact Kr _ (Option.some.inj hf).symm _ _ d_Au_isLast_18
set_option maxHeartbeats 4000000 in
set_option maxRecDepth 100000 in
theorem c_Au_isLast (l : Launch)  {p0 : Int32}  {r : Bool} (hf : f_Au_isLast n p0 aLast = some r) : Met l y_Au_isLast w0_Au_isLast ({ frames := 0, cells := 0, slots := 0, locals := 0 }) (pPre D K [.ref q, .int p0] ((auW K q an aa aStates aNl aNext aLast aAhead))) (pPost (some (.int (bI r)))) 0 0 (fun _ => False) := by
  refine Met.ofW (cc := b_Au_isLast) (maxL := 2) (ret := (some .boolean)) (by decide) rfl ?_
  intro p e s m args below meth c s₁ B hml hv
  obtain ⟨rfl, hP, hK⟩ := hv
  have hl := lv_entry [.ref q, .int p0] (n := 2) (Nat.le_of_ble_eq_true rfl)
  rw [lg_entry_eq]
  generalize (lg_sl [.ref q, .int p0] ++ List.replicate (2 - (lg_sl [.ref q, .int p0]).length) Slot.unset).toArray = ls at hl ⊢
  refine w_Au_isLast B.exec B.bytes hml (fun w hw => atoms_spec (ws := w0_Au_isLast) B.pre w (List.mem_cons_of_mem _ hw)) (findClass_of_methodNamed B.named) hK (Nat.le_refl _) (Nat.le_refl _) (Nat.zero_le _) (Nat.zero_le _) hP (fun r er pc ls hd => ?_) hf ls hl
  subst er
  exact W.zret B.exec B.bytes B.returns (bI_nar _) (fun t ht hW => ⟨rfl, ht⟩) (fun q h => by cases h) hd (hlocks := B.notSynchronized)
end
section
variable {p : Program} {l : Launch} {e : Env} {R : Room} {s : State} {m : MethodId} {args : Array Value} {below : List Frame} {meth : Method} {c : Code} {H : Heap} {locs : List Loc} {cells slots : Nat} {Q : State → Prop} {A : Nat → Prop} {H0 : Heap}
variable {n : Nat} {D : va_G} {K : Nat → ClassId} {q : Nat} {an : Nat} {aa : Nat} {aStates : Int32} {aNl : Nat} {aNext : Nat → Int32} {aLast : Int64} {aAhead : Nat → Int64}
def f_Au_hasLast (n : Nat) (p0 : Int64) (aLast : Int64) : Option (Bool) :=
  if (p0 &&& aLast) = 0 then
    some false
  else
    some true
set_option maxHeartbeats 4000000 in
set_option maxRecDepth 100000 in
theorem w_Au_hasLast  {p0 : Int64}  (hx : p.tables.exec = Jvm.exec) (hb : c.code = b_Au_hasLast) (hml : c.maxLocals = 3) (hts : ∀ w ∈ gW, w.before args s = true) (hown : s.vm.findClass "RegularSolver$Automaton" = some m.cls) (hK : va_K D vwCl (tG K) s) (hRf : 0 ≤ R.frames) (hRl : 0 ≤ R.locals) (hRc : cells ≤ R.cells) (hRs : slots ≤ R.slots) (hP : va_P D vwCl (auW K q an aa aStates aNl aNext aLast aAhead) H) {out : Bool} (Kr : ∀ (r : Bool), out = r → ∀ (pc : Nat) (ls : Array Slot), decode b_Au_hasLast pc = .ok (.ireturn, 1) → W p l e R s m args below meth c H locs cells slots Q (F0 m pc ls [.int (bI r)])) (hf : f_Au_hasLast n p0 aLast = some out) (ls : Array Slot) (hl : lv_has ls 3 [(0, .ref q), (1, .long p0)]) : W p l e R s m args below meth c H locs cells slots Q (F0 m 0 ls []) := by
  unfold f_Au_hasLast at hf
  refine lv_lload_n hx hb d_Au_hasLast_0 rfl (lv_at hl 1 rfl) ?_
  refine lv_aload_n hx hb d_Au_hasLast_1 rfl (lv_at hl 0 rfl) ?_
  refine va_get (D := D) (ci := 1) (v := .long aLast) (C := R_Au) (T := T_Au) (N := 4) hx hb hts in_Au hown hK hP 0 rfl rfl 2 (by decide) (hts _ fl_Au_23) (fun _ h9 => h9) rfl d_Au_hasLast_2 ?_
  refine lv_land hx hb d_Au_hasLast_5 ?_
  refine lv_lconst (v := 0) hx hb d_Au_hasLast_6 (by decide) ?_
  refine W.lcmp hx hb d_Au_hasLast_7 ?_
  refine lc_eq (tgt := 15) hx hb d_Au_hasLast_8 (by decide) (fun c1 => ?_) (fun c1 => ?_)
  · rw [if_pos c1] at hf
    refine lv_iconst (v := 0) hx hb d_Au_hasLast_15 (by decide) ?_
    exact Kr _ (Option.some.inj hf).symm _ _ d_Au_hasLast_16
  · rw [if_neg c1] at hf
    refine lv_iconst (v := 1) hx hb d_Au_hasLast_11 (by decide) ?_
    refine lv_goto (tgt := 16) hx hb d_Au_hasLast_12 (by decide) ?_
    exact Kr _ (Option.some.inj hf).symm _ _ d_Au_hasLast_16
set_option maxHeartbeats 4000000 in
set_option maxRecDepth 100000 in
theorem c_Au_hasLast (l : Launch)  {p0 : Int64}  {r : Bool} (hf : f_Au_hasLast n p0 aLast = some r) : Met l y_Au_hasLast w0_Au_hasLast ({ frames := 0, cells := 0, slots := 0, locals := 0 }) (pPre D K [.ref q, .long p0] ((auW K q an aa aStates aNl aNext aLast aAhead))) (pPost (some (.int (bI r)))) 0 0 (fun _ => False) := by
  refine Met.ofW (cc := b_Au_hasLast) (maxL := 3) (ret := (some .boolean)) (by decide) rfl ?_
  intro p e s m args below meth c s₁ B hml hv
  obtain ⟨rfl, hP, hK⟩ := hv
  have hl := lv_entry [.ref q, .long p0] (n := 3) (Nat.le_of_ble_eq_true rfl)
  rw [lg_entry_eq]
  generalize (lg_sl [.ref q, .long p0] ++ List.replicate (3 - (lg_sl [.ref q, .long p0]).length) Slot.unset).toArray = ls at hl ⊢
  refine w_Au_hasLast B.exec B.bytes hml (fun w hw => atoms_spec (ws := w0_Au_hasLast) B.pre w (List.mem_cons_of_mem _ hw)) (findClass_of_methodNamed B.named) hK (Nat.le_refl _) (Nat.le_refl _) (Nat.zero_le _) (Nat.zero_le _) hP (fun r er pc ls hd => ?_) hf ls hl
  subst er
  exact W.zret B.exec B.bytes B.returns (bI_nar _) (fun t ht hW => ⟨rfl, ht⟩) (fun q h => by cases h) hd (hlocks := B.notSynchronized)
end
section
variable {p : Program} {l : Launch} {e : Env} {R : Room} {s : State} {m : MethodId} {args : Array Value} {below : List Frame} {meth : Method} {c : Code} {H : Heap} {locs : List Loc} {cells slots : Nat} {Q : State → Prop} {A : Nat → Prop} {H0 : Heap}
variable {n : Nat} {D : va_G} {K : Nat → ClassId} {q : Nat} {an : Nat} {aa : Nat} {aStates : Int32} {aNl : Nat} {aNext : Nat → Int32} {aLast : Int64} {aAhead : Nat → Int64}
def f_Au_accepts_8 (n : Nat) (v2 : Int64) (aNl : Nat) (aNext : Nat → Int32) : Nat → Int32 → Int32 → Option (Int32 × Int32)
  | 0, _, _ => none
  | k + 1, v5, v4 =>
    if v5 < 0 then
      some (v5, v4)
    else
      (f_Au_go n v4 (((lshr v2 (2 * v5)).toInt32) &&& 3) aNl aNext).bind fun u4 =>
      f_Au_accepts_8 n v2 aNl aNext k (v5 + (-1)) u4
set_option maxHeartbeats 4000000 in
set_option maxRecDepth 100000 in
theorem w_Au_accepts_8  {v2 : Int64} (hx : p.tables.exec = Jvm.exec) (hb : c.code = b_Au_accepts) (hml : c.maxLocals = 6) (hts : ∀ w ∈ gW, w.before args s = true) (hown : s.vm.findClass "RegularSolver$Automaton" = some m.cls) (hK : va_K D vwCl (tG K) s) (hRf : 1 ≤ R.frames) (hRl : 22 ≤ R.locals) (hRc : cells ≤ R.cells) (hRs : slots ≤ R.slots) (hP : va_P D vwCl (auW K q an aa aStates aNl aNext aLast aAhead) H)  {out : Int32 × Int32} (Kx : ∀ (u : Int32 × Int32), out = u → ∀ (ls : Array Slot), lv_has ls 6 [(4, .int u.2), (0, .ref q)] → W p l e R s m args below meth c H locs cells slots Q (F0 m 36 ls [])) :
    ∀ (k : Nat) (v5 : Int32) (v4 : Int32), f_Au_accepts_8 n v2 aNl aNext k v5 v4 = some out → ∀ (ls : Array Slot), lv_has ls 6 [(5, .int v5), (4, .int v4), (0, .ref q), (2, .long v2)] → W p l e R s m args below meth c H locs cells slots Q (F0 m 8 ls []) := by
  intro k
  induction k with
  | zero => intro _ _ hf; exact nomatch (show none = some out from hf)
  | succ k ih =>
    intro v5 v4 hf ls hl
    rw [f_Au_accepts_8] at hf
    refine lv_iload hx hb d_Au_accepts_8 (lv_at hl 0 rfl) ?_
    refine lv_if_lt (tgt := 36) hx hb d_Au_accepts_10 (by decide) (fun c3 => ?_) (fun c3 => ?_)
    · rw [if_pos c3] at hf
      exact Kx _ (Option.some.inj hf).symm _ (show lv_has ls 6 [(4, .int v4), (0, .ref q)] from lv_sub hl [1, 2] rfl)
    · rw [if_neg c3] at hf
      refine lv_aload_n hx hb d_Au_accepts_13 rfl (lv_at hl 2 rfl) ?_
      refine lv_iload hx hb d_Au_accepts_14 (lv_at hl 1 rfl) ?_
      refine lv_lload_n hx hb d_Au_accepts_16 rfl (lv_at hl 3 rfl) ?_
      refine lv_iconst (v := 2) hx hb d_Au_accepts_17 (by decide) ?_
      refine lv_iload hx hb d_Au_accepts_18 (lv_at hl 0 rfl) ?_
      refine lv_imul hx hb d_Au_accepts_20 ?_
      refine lv_lshr (v := lshr v2 (2 * v5)) hx hb d_Au_accepts_21 rfl ?_
      refine lv_l2i (v := (lshr v2 (2 * v5)).toInt32) hx hb d_Au_accepts_22 rfl ?_
      refine lv_iconst (v := 3) hx hb d_Au_accepts_23 (by decide) ?_
      refine lv_iand hx hb d_Au_accepts_24 ?_
      obtain ⟨u4, eu4, hf⟩ := obd hf
      refine p_call (W.runV (As := [.int v4, .int (((lshr v2 (2 * v5)).toInt32) &&& 3)]) (rest := []) ⟨hx, hb, hml, hown, hts⟩ (c_Au_go l eu4) (gV 2 hts cd_Au_go ml_Au_31 im_Au_go se_Au_go ini_Au rfl rfl pd_Au_go ⟨Nat.le_trans (Nat.le_of_ble_eq_true rfl) hRf, Nat.le_trans (Nat.le_of_ble_eq_true rfl) hRl⟩) ⟨pPre_blind, va_recv hK hP (ci := 1) (q0 := 0) rfl rfl, pPre_of hP hK⟩ rfl rfl hl.1 rfl (lv_room (Nat.le_of_ble_eq_true rfl)) d_Au_accepts_25 ⟨hRc, hRs⟩) ?_
      refine lv_istore (lv' := [(4, .int u4), (5, .int v5), (0, .ref q), (2, .long v2)]) hx hb d_Au_accepts_28 hl (by decide) rfl (fun ls hl => ?_)
      refine lv_iinc (v := v5 + (-1)) (lv' := [(5, .int (v5 + (-1))), (4, .int u4), (0, .ref q), (2, .long v2)]) hx hb d_Au_accepts_30 hl (k := 1) rfl (by first | rfl | (congr 1)) (by decide) rfl (fun ls hl => ?_)
      refine lv_goto (tgt := 8) hx hb d_Au_accepts_33 (by decide) ?_
      exact ih _ _ hf _ (show lv_has ls 6 [(5, .int (v5 + (-1))), (4, .int u4), (0, .ref q), (2, .long v2)] from lv_sub hl [0, 1, 2, 3] rfl)
def f_Au_accepts (n : Nat) (p0 : Int32) (p1 : Int64) (aNl : Nat) (aNext : Nat → Int32) (aLast : Int64) : Option (Bool) :=
  (f_Au_accepts_8 n p1 aNl aNext n (p0 - 1) 0).bind fun u5 =>
  (f_Au_isLast n u5.2 aLast).bind fun u6 =>
  some u6
set_option maxHeartbeats 4000000 in
set_option maxRecDepth 100000 in
theorem w_Au_accepts  {p0 : Int32} {p1 : Int64}  (hx : p.tables.exec = Jvm.exec) (hb : c.code = b_Au_accepts) (hml : c.maxLocals = 6) (hts : ∀ w ∈ gW, w.before args s = true) (hown : s.vm.findClass "RegularSolver$Automaton" = some m.cls) (hK : va_K D vwCl (tG K) s) (hRf : 1 ≤ R.frames) (hRl : 22 ≤ R.locals) (hRc : cells ≤ R.cells) (hRs : slots ≤ R.slots) (hP : va_P D vwCl (auW K q an aa aStates aNl aNext aLast aAhead) H) {out : Bool} (Kr : ∀ (r : Bool), out = r → ∀ (pc : Nat) (ls : Array Slot), decode b_Au_accepts pc = .ok (.ireturn, 1) → W p l e R s m args below meth c H locs cells slots Q (F0 m pc ls [.int (bI r)])) (hf : f_Au_accepts n p0 p1 aNl aNext aLast = some out) (ls : Array Slot) (hl : lv_has ls 6 [(0, .ref q), (1, .int p0), (2, .long p1)]) : W p l e R s m args below meth c H locs cells slots Q (F0 m 0 ls []) := by
  unfold f_Au_accepts at hf
  refine lv_iconst (v := 0) hx hb d_Au_accepts_0 (by decide) ?_
  refine lv_istore (lv' := [(4, .int 0), (0, .ref q), (1, .int p0), (2, .long p1)]) hx hb d_Au_accepts_1 hl (by decide) rfl (fun ls hl => ?_)
  refine lv_iload_n hx hb d_Au_accepts_3 rfl (lv_at hl 2 rfl) ?_
  refine lv_iconst (v := 1) hx hb d_Au_accepts_4 (by decide) ?_
  refine lv_isub hx hb d_Au_accepts_5 ?_
  refine lv_istore (lv' := [(5, .int (p0 - 1)), (4, .int 0), (0, .ref q), (1, .int p0), (2, .long p1)]) hx hb d_Au_accepts_6 hl (by decide) rfl (fun ls hl => ?_)
  obtain ⟨u5, eu5, hf⟩ := obd hf
  refine w_Au_accepts_8 hx hb hml hts hown hK hRf hRl hRc hRs hP  (fun u5q eu ls hl => ?_) _ _ _ eu5 _ (show lv_has ls 6 [(5, .int (p0 - 1)), (4, .int 0), (0, .ref q), (2, .long p1)] from lv_sub hl [0, 1, 2, 4] rfl)
  subst eu
  refine lv_aload_n hx hb d_Au_accepts_36 rfl (lv_at hl 1 rfl) ?_
  refine lv_iload hx hb d_Au_accepts_37 (lv_at hl 0 rfl) ?_
  obtain ⟨u6, eu6, hf⟩ := obd hf
  refine p_call (W.runV (As := [.int u5.2]) (rest := []) ⟨hx, hb, hml, hown, hts⟩ (c_Au_isLast l eu6) (gV 1 hts cd_Au_isLast ml_Au_40 im_Au_isLast se_Au_isLast ini_Au rfl rfl pd_Au_isLast ⟨Nat.le_trans (Nat.le_of_ble_eq_true rfl) hRf, Nat.le_trans (Nat.le_of_ble_eq_true rfl) hRl⟩) ⟨pPre_blind, va_recv hK hP (ci := 1) (q0 := 0) rfl rfl, pPre_of hP hK⟩ rfl rfl hl.1 rfl (lv_room (Nat.le_of_ble_eq_true rfl)) d_Au_accepts_39 ⟨hRc, hRs⟩) ?_
  exact Kr _ (Option.some.inj hf).symm _ _ d_Au_accepts_42
set_option maxHeartbeats 4000000 in
set_option maxRecDepth 100000 in
theorem c_Au_accepts (l : Launch)  {p0 : Int32} {p1 : Int64}  {r : Bool} (hf : f_Au_accepts n p0 p1 aNl aNext aLast = some r) : Met l y_Au_accepts w0_Au_accepts ({ frames := 1, cells := 0, slots := 0, locals := 22 }) (pPre D K [.ref q, .int p0, .long p1] ((auW K q an aa aStates aNl aNext aLast aAhead))) (pPost (some (.int (bI r)))) 0 0 (fun _ => False) := by
  refine Met.ofW (cc := b_Au_accepts) (maxL := 6) (ret := (some .boolean)) (by decide) rfl ?_
  intro p e s m args below meth c s₁ B hml hv
  obtain ⟨rfl, hP, hK⟩ := hv
  have hl := lv_entry [.ref q, .int p0, .long p1] (n := 6) (Nat.le_of_ble_eq_true rfl)
  rw [lg_entry_eq]
  generalize (lg_sl [.ref q, .int p0, .long p1] ++ List.replicate (6 - (lg_sl [.ref q, .int p0, .long p1]).length) Slot.unset).toArray = ls at hl ⊢
  refine w_Au_accepts B.exec B.bytes hml (fun w hw => atoms_spec (ws := w0_Au_accepts) B.pre w (List.mem_cons_of_mem _ hw)) (findClass_of_methodNamed B.named) hK (Nat.le_refl _) (Nat.le_refl _) (Nat.zero_le _) (Nat.zero_le _) hP (fun r er pc ls hd => ?_) hf ls hl
  subst er
  exact W.zret B.exec B.bytes B.returns (bI_nar _) (fun t ht hW => ⟨rfl, ht⟩) (fun q h => by cases h) hd (hlocks := B.notSynchronized)
end
section
variable {p : Program} {l : Launch} {e : Env} {R : Room} {s : State} {m : MethodId} {args : Array Value} {below : List Frame} {meth : Method} {c : Code} {H : Heap} {locs : List Loc} {cells slots : Nat} {Q : State → Prop} {A : Nat → Prop} {H0 : Heap}
variable {n : Nat} {D : va_G} {K : Nat → ClassId} {q : Nat} {an : Nat} {aa : Nat} {aStates : Int32} {aNl : Nat} {aNext : Nat → Int32} {aLast : Int64} {aAhead : Nat → Int64}
def f_Au_hasLength (n : Nat) (p0 : Int32) (aAhead : Nat → Int64) : Option (Bool) :=
  ogd (gin p0 64) <|
  if ((aAhead p0.toNatClampNeg) &&& 1) = 0 then
    some false
  else
    some true
set_option maxHeartbeats 4000000 in
set_option maxRecDepth 100000 in
theorem w_Au_hasLength  {p0 : Int32}  (hx : p.tables.exec = Jvm.exec) (hb : c.code = b_Au_hasLength) (hml : c.maxLocals = 2) (hts : ∀ w ∈ gW, w.before args s = true) (hown : s.vm.findClass "RegularSolver$Automaton" = some m.cls) (hK : va_K D vwCl (tG K) s) (hRf : 0 ≤ R.frames) (hRl : 0 ≤ R.locals) (hRc : cells ≤ R.cells) (hRs : slots ≤ R.slots) (hP : va_P D vwCl (auW K q an aa aStates aNl aNext aLast aAhead) H) {out : Bool} (Kr : ∀ (r : Bool), out = r → ∀ (pc : Nat) (ls : Array Slot), decode b_Au_hasLength pc = .ok (.ireturn, 1) → W p l e R s m args below meth c H locs cells slots Q (F0 m pc ls [.int (bI r)])) (hf : f_Au_hasLength n p0 aAhead = some out) (ls : Array Slot) (hl : lv_has ls 2 [(0, .ref q), (1, .int p0)]) : W p l e R s m args below meth c H locs cells slots Q (F0 m 0 ls []) := by
  unfold f_Au_hasLength at hf
  refine lv_aload_n hx hb d_Au_hasLength_0 rfl (lv_at hl 0 rfl) ?_
  refine va_get (D := D) (ci := 1) (v := .ref aa) (C := R_Au) (T := T_Au) (N := 4) hx hb hts in_Au hown hK hP 0 rfl rfl 3 (by decide) (hts _ fl_Au_9) (fun _ h9 => h9) rfl d_Au_hasLength_1 ?_
  refine lv_iload_n hx hb d_Au_hasLength_4 rfl (lv_at hl 1 rfl) ?_
  obtain ⟨g1, hf⟩ := ogi hf
  refine va_lald hx hb hK hP 2 1 rfl rfl (gin_in g1) d_Au_hasLength_5 ?_
  refine lv_lconst (v := 1) hx hb d_Au_hasLength_6 (by decide) ?_
  refine lv_land hx hb d_Au_hasLength_7 ?_
  refine lv_lconst (v := 0) hx hb d_Au_hasLength_8 (by decide) ?_
  refine W.lcmp hx hb d_Au_hasLength_9 ?_
  refine lc_eq (tgt := 17) hx hb d_Au_hasLength_10 (by decide) (fun c2 => ?_) (fun c2 => ?_)
  · rw [if_pos c2] at hf
    refine lv_iconst (v := 0) hx hb d_Au_hasLength_17 (by decide) ?_
    exact Kr _ (Option.some.inj hf).symm _ _ d_Au_hasLength_18
  · rw [if_neg c2] at hf
    refine lv_iconst (v := 1) hx hb d_Au_hasLength_13 (by decide) ?_
    refine lv_goto (tgt := 18) hx hb d_Au_hasLength_14 (by decide) ?_
    exact Kr _ (Option.some.inj hf).symm _ _ d_Au_hasLength_18
set_option maxHeartbeats 4000000 in
set_option maxRecDepth 100000 in
theorem c_Au_hasLength (l : Launch)  {p0 : Int32}  {r : Bool} (hf : f_Au_hasLength n p0 aAhead = some r) : Met l y_Au_hasLength w0_Au_hasLength ({ frames := 0, cells := 0, slots := 0, locals := 0 }) (pPre D K [.ref q, .int p0] ((auW K q an aa aStates aNl aNext aLast aAhead))) (pPost (some (.int (bI r)))) 0 0 (fun _ => False) := by
  refine Met.ofW (cc := b_Au_hasLength) (maxL := 2) (ret := (some .boolean)) (by decide) rfl ?_
  intro p e s m args below meth c s₁ B hml hv
  obtain ⟨rfl, hP, hK⟩ := hv
  have hl := lv_entry [.ref q, .int p0] (n := 2) (Nat.le_of_ble_eq_true rfl)
  rw [lg_entry_eq]
  generalize (lg_sl [.ref q, .int p0] ++ List.replicate (2 - (lg_sl [.ref q, .int p0]).length) Slot.unset).toArray = ls at hl ⊢
  refine w_Au_hasLength B.exec B.bytes hml (fun w hw => atoms_spec (ws := w0_Au_hasLength) B.pre w (List.mem_cons_of_mem _ hw)) (findClass_of_methodNamed B.named) hK (Nat.le_refl _) (Nat.le_refl _) (Nat.zero_le _) (Nat.zero_le _) hP (fun r er pc ls hd => ?_) hf ls hl
  subst er
  exact W.zret B.exec B.bytes B.returns (bI_nar _) (fun t ht hW => ⟨rfl, ht⟩) (fun q h => by cases h) hd (hlocks := B.notSynchronized)
end
section
variable {p : Program} {l : Launch} {e : Env} {R : Room} {s : State} {m : MethodId} {args : Array Value} {below : List Frame} {meth : Method} {c : Code} {H : Heap} {locs : List Loc} {cells slots : Nat} {Q : State → Prop} {A : Nat → Prop} {H0 : Heap}
variable {n : Nat} {D : va_G} {K : Nat → ClassId} {q : Nat} {an : Nat} {aa : Nat} {aStates : Int32} {aNl : Nat} {aNext : Nat → Int32} {aLast : Int64} {aAhead : Nat → Int64}
def f_Au_leastLength_2 (n : Nat) (aAhead : Nat → Int64) : Nat → Int32 → Option ((Int32) ⊕ (Int32))
  | 0, _ => none
  | k + 1, v1 =>
    if 64 ≤ v1 then
      some (.inr v1)
    else
      (f_Au_hasLength n v1 aAhead).bind fun u5 =>
      if u5 = true then
        some (.inl v1)
      else
        f_Au_leastLength_2 n aAhead k (v1 + 1)
set_option maxHeartbeats 4000000 in
set_option maxRecDepth 100000 in
theorem w_Au_leastLength_2   (hx : p.tables.exec = Jvm.exec) (hb : c.code = b_Au_leastLength) (hml : c.maxLocals = 2) (hts : ∀ w ∈ gW, w.before args s = true) (hown : s.vm.findClass "RegularSolver$Automaton" = some m.cls) (hK : va_K D vwCl (tG K) s) (hRf : 1 ≤ R.frames) (hRl : 21 ≤ R.locals) (hRc : cells ≤ R.cells) (hRs : slots ≤ R.slots) (hP : va_P D vwCl (auW K q an aa aStates aNl aNext aLast aAhead) H)  {out : (Int32) ⊕ (Int32)} (Kr : ∀ (r : Int32), out = .inl r → ∀ (pc : Nat) (ls : Array Slot), decode b_Au_leastLength pc = .ok (.ireturn, 1) → W p l e R s m args below meth c H locs cells slots Q (F0 m pc ls [.int r])) (Kx : ∀ (u : Int32), out = .inr u → ∀ (ls : Array Slot), lv_has ls 2 [] → W p l e R s m args below meth c H locs cells slots Q (F0 m 24 ls [])) :
    ∀ (k : Nat) (v1 : Int32), f_Au_leastLength_2 n aAhead k v1 = some out → ∀ (ls : Array Slot), lv_has ls 2 [(1, .int v1), (0, .ref q)] → W p l e R s m args below meth c H locs cells slots Q (F0 m 2 ls []) := by
  intro k
  induction k with
  | zero => intro _ hf; exact nomatch (show none = some out from hf)
  | succ k ih =>
    intro v1 hf ls hl
    rw [f_Au_leastLength_2] at hf
    refine lv_iload_n hx hb d_Au_leastLength_2 rfl (lv_at hl 0 rfl) ?_
    refine lv_bipush (v := 64) hx hb d_Au_leastLength_3 (by decide) ?_
    refine lv_icmp_ge (tgt := 24) hx hb d_Au_leastLength_5 (by decide) (fun c4 => ?_) (fun c4 => ?_)
    · rw [if_pos c4] at hf
      exact Kx _ (Option.some.inj hf).symm _ (show lv_has ls 2 [] from lv_sub hl [] rfl)
    · rw [if_neg c4] at hf
      refine lv_aload_n hx hb d_Au_leastLength_8 rfl (lv_at hl 1 rfl) ?_
      refine lv_iload_n hx hb d_Au_leastLength_9 rfl (lv_at hl 0 rfl) ?_
      obtain ⟨u5, eu5, hf⟩ := obd hf
      refine p_call (W.runV (As := [.int v1]) (rest := []) ⟨hx, hb, hml, hown, hts⟩ (c_Au_hasLength l eu5) (gV 1 hts cd_Au_hasLength ml_Au_44 im_Au_hasLength se_Au_hasLength ini_Au rfl rfl pd_Au_hasLength ⟨Nat.le_trans (Nat.le_of_ble_eq_true rfl) hRf, Nat.le_trans (Nat.le_of_ble_eq_true rfl) hRl⟩) ⟨pPre_blind, va_recv hK hP (ci := 1) (q0 := 0) rfl rfl, pPre_of hP hK⟩ rfl rfl hl.1 rfl (lv_room (Nat.le_of_ble_eq_true rfl)) d_Au_leastLength_10 ⟨hRc, hRs⟩) ?_
      refine bz_eq (tgt := 18) hx hb d_Au_leastLength_13 (by decide) (fun c6 => ?_) (fun c6 => ?_)
      · rw [if_neg c6] at hf
        refine lv_iinc (v := v1 + 1) (lv' := [(1, .int (v1 + 1)), (0, .ref q)]) hx hb d_Au_leastLength_18 hl (k := 0) rfl (by first | rfl | (congr 1)) (by decide) rfl (fun ls hl => ?_)
        refine lv_goto (tgt := 2) hx hb d_Au_leastLength_21 (by decide) ?_
        exact ih _ hf _ (show lv_has ls 2 [(1, .int (v1 + 1)), (0, .ref q)] from lv_sub hl [0, 1] rfl)
      · rw [if_pos c6] at hf
        refine lv_iload_n hx hb d_Au_leastLength_16 rfl (lv_at hl 0 rfl) ?_
        exact Kr _ (Option.some.inj hf).symm _ _ d_Au_leastLength_17
def f_Au_leastLength (n : Nat) (aAhead : Nat → Int64) : Option (Int32) :=
  (f_Au_leastLength_2 n aAhead n 0).bind fun u7 => u7.elim (fun r => some r) fun x7 =>
  some (-1)
set_option maxHeartbeats 4000000 in
set_option maxRecDepth 100000 in
theorem w_Au_leastLength    (hx : p.tables.exec = Jvm.exec) (hb : c.code = b_Au_leastLength) (hml : c.maxLocals = 2) (hts : ∀ w ∈ gW, w.before args s = true) (hown : s.vm.findClass "RegularSolver$Automaton" = some m.cls) (hK : va_K D vwCl (tG K) s) (hRf : 1 ≤ R.frames) (hRl : 21 ≤ R.locals) (hRc : cells ≤ R.cells) (hRs : slots ≤ R.slots) (hP : va_P D vwCl (auW K q an aa aStates aNl aNext aLast aAhead) H) {out : Int32} (Kr : ∀ (r : Int32), out = r → ∀ (pc : Nat) (ls : Array Slot), decode b_Au_leastLength pc = .ok (.ireturn, 1) → W p l e R s m args below meth c H locs cells slots Q (F0 m pc ls [.int r])) (hf : f_Au_leastLength n aAhead = some out) (ls : Array Slot) (hl : lv_has ls 2 [(0, .ref q)]) : W p l e R s m args below meth c H locs cells slots Q (F0 m 0 ls []) := by
  unfold f_Au_leastLength at hf
  refine lv_iconst (v := 0) hx hb d_Au_leastLength_0 (by decide) ?_
  refine lv_istore_n (lv' := [(1, .int 0), (0, .ref q)]) hx hb d_Au_leastLength_1 rfl hl (by decide) rfl (fun ls hl => ?_)
  obtain ⟨u7, eu7, hf⟩ := obd hf
  refine w_Au_leastLength_2 hx hb hml hts hown hK hRf hRl hRc hRs hP (fun r er pc ls hd => Kr r (by subst er; exact (Option.some.inj hf).symm) pc ls hd) (fun x7 eu ls hl => ?_) _ _ eu7 _ (show lv_has ls 2 [(1, .int 0), (0, .ref q)] from lv_sub hl [0, 1] rfl)
  subst eu
  replace hf := oel hf
  refine lv_iconst (v := -1) hx hb d_Au_leastLength_24 (by decide) ?_
  exact Kr _ (Option.some.inj hf).symm _ _ d_Au_leastLength_25
set_option maxHeartbeats 4000000 in
set_option maxRecDepth 100000 in
theorem c_Au_leastLength (l : Launch)    {r : Int32} (hf : f_Au_leastLength n aAhead = some r) : Met l y_Au_leastLength w0_Au_leastLength ({ frames := 1, cells := 0, slots := 0, locals := 21 }) (pPre D K [.ref q] ((auW K q an aa aStates aNl aNext aLast aAhead))) (pPost (some (.int r))) 0 0 (fun _ => False) := by
  refine Met.ofW (cc := b_Au_leastLength) (maxL := 2) (ret := (some .int)) (by decide) rfl ?_
  intro p e s m args below meth c s₁ B hml hv
  obtain ⟨rfl, hP, hK⟩ := hv
  have hl := lv_entry [.ref q] (n := 2) (Nat.le_of_ble_eq_true rfl)
  rw [lg_entry_eq]
  generalize (lg_sl [.ref q] ++ List.replicate (2 - (lg_sl [.ref q]).length) Slot.unset).toArray = ls at hl ⊢
  refine w_Au_leastLength B.exec B.bytes hml (fun w hw => atoms_spec (ws := w0_Au_leastLength) B.pre w (List.mem_cons_of_mem _ hw)) (findClass_of_methodNamed B.named) hK (Nat.le_refl _) (Nat.le_refl _) (Nat.zero_le _) (Nat.zero_le _) hP (fun r er pc ls hd => ?_) hf ls hl
  subst er
  exact W.iret B.exec B.bytes B.returns (fun t ht hW => ⟨rfl, ht⟩) (fun q h => by cases h) hd (hlocks := B.notSynchronized)
end
section
variable {p : Program} {l : Launch} {e : Env} {R : Room} {s : State} {m : MethodId} {args : Array Value} {below : List Frame} {meth : Method} {c : Code} {H : Heap} {locs : List Loc} {cells slots : Nat} {Q : State → Prop} {A : Nat → Prop} {H0 : Heap}
variable {n : Nat} {D : va_G} {K : Nat → ClassId} {q : Nat} {an : Nat} {aa : Nat} {aStates : Int32} {aNl : Nat} {aNext : Nat → Int32} {aLast : Int64} {aAhead : Nat → Int64}
def f_Au_leastLetter_3 (n : Nat) (v1 : Int32) (v2 : Int64) (aNl : Nat) (aNext : Nat → Int32) : Nat → Int32 → Option ((Int32) ⊕ (Int32))
  | 0, _ => none
  | k + 1, v4 =>
    if 3 ≤ v4 then
      some (.inr v4)
    else
      (f_Au_go n v1 v4 aNl aNext).bind fun u5 =>
      if ((lushr v2 u5) &&& 1) = 0 then
        f_Au_leastLetter_3 n v1 v2 aNl aNext k (v4 + 1)
      else
        some (.inl v4)
set_option maxHeartbeats 4000000 in
set_option maxRecDepth 100000 in
theorem w_Au_leastLetter_3  {v1 : Int32} {v2 : Int64} (hx : p.tables.exec = Jvm.exec) (hb : c.code = b_Au_leastLetter) (hml : c.maxLocals = 5) (hts : ∀ w ∈ gW, w.before args s = true) (hown : s.vm.findClass "RegularSolver$Automaton" = some m.cls) (hK : va_K D vwCl (tG K) s) (hRf : 1 ≤ R.frames) (hRl : 22 ≤ R.locals) (hRc : cells ≤ R.cells) (hRs : slots ≤ R.slots) (hP : va_P D vwCl (auW K q an aa aStates aNl aNext aLast aAhead) H)  {out : (Int32) ⊕ (Int32)} (Kr : ∀ (r : Int32), out = .inl r → ∀ (pc : Nat) (ls : Array Slot), decode b_Au_leastLetter pc = .ok (.ireturn, 1) → W p l e R s m args below meth c H locs cells slots Q (F0 m pc ls [.int r])) (Kx : ∀ (u : Int32), out = .inr u → ∀ (ls : Array Slot), lv_has ls 5 [] → W p l e R s m args below meth c H locs cells slots Q (F0 m 34 ls [])) :
    ∀ (k : Nat) (v4 : Int32), f_Au_leastLetter_3 n v1 v2 aNl aNext k v4 = some out → ∀ (ls : Array Slot), lv_has ls 5 [(4, .int v4), (0, .ref q), (1, .int v1), (2, .long v2)] → W p l e R s m args below meth c H locs cells slots Q (F0 m 3 ls []) := by
  intro k
  induction k with
  | zero => intro _ hf; exact nomatch (show none = some out from hf)
  | succ k ih =>
    intro v4 hf ls hl
    rw [f_Au_leastLetter_3] at hf
    refine lv_iload hx hb d_Au_leastLetter_3 (lv_at hl 0 rfl) ?_
    refine lv_iconst (v := 3) hx hb d_Au_leastLetter_5 (by decide) ?_
    refine lv_icmp_ge (tgt := 34) hx hb d_Au_leastLetter_6 (by decide) (fun c4 => ?_) (fun c4 => ?_)
    · rw [if_pos c4] at hf
      exact Kx _ (Option.some.inj hf).symm _ (show lv_has ls 5 [] from lv_sub hl [] rfl)
    · rw [if_neg c4] at hf
      refine lv_lload_n hx hb d_Au_leastLetter_9 rfl (lv_at hl 3 rfl) ?_
      refine lv_aload_n hx hb d_Au_leastLetter_10 rfl (lv_at hl 1 rfl) ?_
      refine lv_iload_n hx hb d_Au_leastLetter_11 rfl (lv_at hl 2 rfl) ?_
      refine lv_iload hx hb d_Au_leastLetter_12 (lv_at hl 0 rfl) ?_
      obtain ⟨u5, eu5, hf⟩ := obd hf
      refine p_call (W.runV (As := [.int v1, .int v4]) (rest := [.long v2]) ⟨hx, hb, hml, hown, hts⟩ (c_Au_go l eu5) (gV 2 hts cd_Au_go ml_Au_31 im_Au_go se_Au_go ini_Au rfl rfl pd_Au_go ⟨Nat.le_trans (Nat.le_of_ble_eq_true rfl) hRf, Nat.le_trans (Nat.le_of_ble_eq_true rfl) hRl⟩) ⟨pPre_blind, va_recv hK hP (ci := 1) (q0 := 0) rfl rfl, pPre_of hP hK⟩ rfl rfl hl.1 rfl (lv_room (Nat.le_of_ble_eq_true rfl)) d_Au_leastLetter_14 ⟨hRc, hRs⟩) ?_
      refine lv_lushr (v := lushr v2 u5) hx hb d_Au_leastLetter_17 rfl ?_
      refine lv_lconst (v := 1) hx hb d_Au_leastLetter_18 (by decide) ?_
      refine lv_land hx hb d_Au_leastLetter_19 ?_
      refine lv_lconst (v := 0) hx hb d_Au_leastLetter_20 (by decide) ?_
      refine W.lcmp hx hb d_Au_leastLetter_21 ?_
      refine lc_eq (tgt := 28) hx hb d_Au_leastLetter_22 (by decide) (fun c6 => ?_) (fun c6 => ?_)
      · rw [if_pos c6] at hf
        refine lv_iinc (v := v4 + 1) (lv' := [(4, .int (v4 + 1)), (0, .ref q), (1, .int v1), (2, .long v2)]) hx hb d_Au_leastLetter_28 hl (k := 0) rfl (by first | rfl | (congr 1)) (by decide) rfl (fun ls hl => ?_)
        refine lv_goto (tgt := 3) hx hb d_Au_leastLetter_31 (by decide) ?_
        exact ih _ hf _ (show lv_has ls 5 [(4, .int (v4 + 1)), (0, .ref q), (1, .int v1), (2, .long v2)] from lv_sub hl [0, 1, 2, 3] rfl)
      · rw [if_neg c6] at hf
        refine lv_iload hx hb d_Au_leastLetter_25 (lv_at hl 0 rfl) ?_
        exact Kr _ (Option.some.inj hf).symm _ _ d_Au_leastLetter_27
def f_Au_leastLetter (n : Nat) (p0 : Int32) (p1 : Int64) (aNl : Nat) (aNext : Nat → Int32) : Option (Int32) :=
  (f_Au_leastLetter_3 n p0 p1 aNl aNext n 0).bind fun u7 => u7.elim (fun r => some r) fun x7 =>
  some 3
set_option maxHeartbeats 4000000 in
set_option maxRecDepth 100000 in
theorem w_Au_leastLetter  {p0 : Int32} {p1 : Int64}  (hx : p.tables.exec = Jvm.exec) (hb : c.code = b_Au_leastLetter) (hml : c.maxLocals = 5) (hts : ∀ w ∈ gW, w.before args s = true) (hown : s.vm.findClass "RegularSolver$Automaton" = some m.cls) (hK : va_K D vwCl (tG K) s) (hRf : 1 ≤ R.frames) (hRl : 22 ≤ R.locals) (hRc : cells ≤ R.cells) (hRs : slots ≤ R.slots) (hP : va_P D vwCl (auW K q an aa aStates aNl aNext aLast aAhead) H) {out : Int32} (Kr : ∀ (r : Int32), out = r → ∀ (pc : Nat) (ls : Array Slot), decode b_Au_leastLetter pc = .ok (.ireturn, 1) → W p l e R s m args below meth c H locs cells slots Q (F0 m pc ls [.int r])) (hf : f_Au_leastLetter n p0 p1 aNl aNext = some out) (ls : Array Slot) (hl : lv_has ls 5 [(0, .ref q), (1, .int p0), (2, .long p1)]) : W p l e R s m args below meth c H locs cells slots Q (F0 m 0 ls []) := by
  unfold f_Au_leastLetter at hf
  refine lv_iconst (v := 0) hx hb d_Au_leastLetter_0 (by decide) ?_
  refine lv_istore (lv' := [(4, .int 0), (0, .ref q), (1, .int p0), (2, .long p1)]) hx hb d_Au_leastLetter_1 hl (by decide) rfl (fun ls hl => ?_)
  obtain ⟨u7, eu7, hf⟩ := obd hf
  refine w_Au_leastLetter_3 hx hb hml hts hown hK hRf hRl hRc hRs hP (fun r er pc ls hd => Kr r (by subst er; exact (Option.some.inj hf).symm) pc ls hd) (fun x7 eu ls hl => ?_) _ _ eu7 _ (show lv_has ls 5 [(4, .int 0), (0, .ref q), (1, .int p0), (2, .long p1)] from lv_sub hl [0, 1, 2, 3] rfl)
  subst eu
  replace hf := oel hf
  refine lv_iconst (v := 3) hx hb d_Au_leastLetter_34 (by decide) ?_
  exact Kr _ (Option.some.inj hf).symm _ _ d_Au_leastLetter_35
set_option maxHeartbeats 4000000 in
set_option maxRecDepth 100000 in
theorem c_Au_leastLetter (l : Launch)  {p0 : Int32} {p1 : Int64}  {r : Int32} (hf : f_Au_leastLetter n p0 p1 aNl aNext = some r) : Met l y_Au_leastLetter w0_Au_leastLetter ({ frames := 1, cells := 0, slots := 0, locals := 22 }) (pPre D K [.ref q, .int p0, .long p1] ((auW K q an aa aStates aNl aNext aLast aAhead))) (pPost (some (.int r))) 0 0 (fun _ => False) := by
  refine Met.ofW (cc := b_Au_leastLetter) (maxL := 5) (ret := (some .int)) (by decide) rfl ?_
  intro p e s m args below meth c s₁ B hml hv
  obtain ⟨rfl, hP, hK⟩ := hv
  have hl := lv_entry [.ref q, .int p0, .long p1] (n := 5) (Nat.le_of_ble_eq_true rfl)
  rw [lg_entry_eq]
  generalize (lg_sl [.ref q, .int p0, .long p1] ++ List.replicate (5 - (lg_sl [.ref q, .int p0, .long p1]).length) Slot.unset).toArray = ls at hl ⊢
  refine w_Au_leastLetter B.exec B.bytes hml (fun w hw => atoms_spec (ws := w0_Au_leastLetter) B.pre w (List.mem_cons_of_mem _ hw)) (findClass_of_methodNamed B.named) hK (Nat.le_refl _) (Nat.le_refl _) (Nat.zero_le _) (Nat.zero_le _) hP (fun r er pc ls hd => ?_) hf ls hl
  subst er
  exact W.iret B.exec B.bytes B.returns (fun t ht hW => ⟨rfl, ht⟩) (fun q h => by cases h) hd (hlocks := B.notSynchronized)
end
section
variable {p : Program} {l : Launch} {e : Env} {R : Room} {s : State} {m : MethodId} {args : Array Value} {below : List Frame} {meth : Method} {c : Code} {H : Heap} {locs : List Loc} {cells slots : Nat} {Q : State → Prop} {A : Nat → Prop} {H0 : Heap}
variable {n : Nat} {D : va_G} {K : Nat → ClassId} {q : Nat} {an : Nat} {aa : Nat} {aStates : Int32} {aNl : Nat} {aNext : Nat → Int32} {aLast : Int64} {aAhead : Nat → Int64}
def f_Au_leastWord_10 (n : Nat) (aNl : Nat) (aNext : Nat → Int32) (aAhead : Nat → Int64) : Nat → Int32 → Int32 → Int64 → Option (Int32 × Int32 × Int64)
  | 0, _, _, _ => none
  | k + 1, v5, v4, v2 =>
    if v5 < 0 then
      some (v5, v4, v2)
    else
      ogd (gin v5 64) <|
      (f_Au_leastLetter n v4 (aAhead v5.toNatClampNeg) aNl aNext).bind fun u7 =>
      (f_Au_go n v4 u7 aNl aNext).bind fun u8 =>
      f_Au_leastWord_10 n aNl aNext aAhead k (v5 + (-1)) u8 ((lshl v2 2) ||| u7.toInt64)
set_option maxHeartbeats 4000000 in
set_option maxRecDepth 100000 in
theorem w_Au_leastWord_10   (hx : p.tables.exec = Jvm.exec) (hb : c.code = b_Au_leastWord) (hml : c.maxLocals = 7) (hts : ∀ w ∈ gW, w.before args s = true) (hown : s.vm.findClass "RegularSolver$Automaton" = some m.cls) (hK : va_K D vwCl (tG K) s) (hRf : 2 ≤ R.frames) (hRl : 46 ≤ R.locals) (hRc : cells ≤ R.cells) (hRs : slots ≤ R.slots) (hP : va_P D vwCl (auW K q an aa aStates aNl aNext aLast aAhead) H)  {out : Int32 × Int32 × Int64} (Kx : ∀ (u : Int32 × Int32 × Int64), out = u → ∀ (ls : Array Slot), lv_has ls 7 [(2, .long u.2.2)] → W p l e R s m args below meth c H locs cells slots Q (F0 m 54 ls [])) :
    ∀ (k : Nat) (v5 : Int32) (v4 : Int32) (v2 : Int64), f_Au_leastWord_10 n aNl aNext aAhead k v5 v4 v2 = some out → ∀ (ls : Array Slot), lv_has ls 7 [(5, .int v5), (4, .int v4), (2, .long v2), (0, .ref q)] → W p l e R s m args below meth c H locs cells slots Q (F0 m 10 ls []) := by
  intro k
  induction k with
  | zero => intro _ _ _ hf; exact nomatch (show none = some out from hf)
  | succ k ih =>
    intro v5 v4 v2 hf ls hl
    rw [f_Au_leastWord_10] at hf
    refine lv_iload hx hb d_Au_leastWord_10 (lv_at hl 0 rfl) ?_
    refine lv_if_lt (tgt := 54) hx hb d_Au_leastWord_12 (by decide) (fun c5 => ?_) (fun c5 => ?_)
    · rw [if_pos c5] at hf
      exact Kx _ (Option.some.inj hf).symm _ (show lv_has ls 7 [(2, .long v2)] from lv_sub hl [2] rfl)
    · rw [if_neg c5] at hf
      refine lv_aload_n hx hb d_Au_leastWord_15 rfl (lv_at hl 3 rfl) ?_
      refine lv_iload hx hb d_Au_leastWord_16 (lv_at hl 1 rfl) ?_
      refine lv_aload_n hx hb d_Au_leastWord_18 rfl (lv_at hl 3 rfl) ?_
      refine va_get (D := D) (ci := 1) (v := .ref aa) (C := R_Au) (T := T_Au) (N := 4) hx hb hts in_Au hown hK hP 0 rfl rfl 3 (by decide) (hts _ fl_Au_9) (fun _ h9 => h9) rfl d_Au_leastWord_19 ?_
      refine lv_iload hx hb d_Au_leastWord_22 (lv_at hl 0 rfl) ?_
      obtain ⟨g6, hf⟩ := ogi hf
      refine va_lald hx hb hK hP 2 1 rfl rfl (gin_in g6) d_Au_leastWord_24 ?_
      obtain ⟨u7, eu7, hf⟩ := obd hf
      refine p_call (W.runV (As := [.int v4, .long (aAhead v5.toNatClampNeg)]) (rest := []) ⟨hx, hb, hml, hown, hts⟩ (c_Au_leastLetter l eu7) (gV 2 hts cd_Au_leastLetter ml_Au_47 im_Au_leastLetter se_Au_leastLetter ini_Au rfl rfl pd_Au_leastLetter ⟨Nat.le_trans (Nat.le_of_ble_eq_true rfl) hRf, Nat.le_trans (Nat.le_of_ble_eq_true rfl) hRl⟩) ⟨pPre_blind, va_recv hK hP (ci := 1) (q0 := 0) rfl rfl, pPre_of hP hK⟩ rfl rfl hl.1 rfl (lv_room (Nat.le_of_ble_eq_true rfl)) d_Au_leastWord_25 ⟨hRc, hRs⟩) ?_
      refine lv_istore (lv' := [(6, .int u7), (5, .int v5), (4, .int v4), (2, .long v2), (0, .ref q)]) hx hb d_Au_leastWord_28 hl (by decide) rfl (fun ls hl => ?_)
      refine lv_lload_n hx hb d_Au_leastWord_30 rfl (lv_at hl 3 rfl) ?_
      refine lv_iconst (v := 2) hx hb d_Au_leastWord_31 (by decide) ?_
      refine lv_lshl (v := lshl v2 2) hx hb d_Au_leastWord_32 rfl ?_
      refine lv_iload hx hb d_Au_leastWord_33 (lv_at hl 0 rfl) ?_
      refine lv_i2l (v := u7.toInt64) hx hb d_Au_leastWord_35 rfl ?_
      refine lv_lor hx hb d_Au_leastWord_36 ?_
      refine lv_lstore_n (lv' := [(2, .long ((lshl v2 2) ||| u7.toInt64)), (6, .int u7), (5, .int v5), (4, .int v4), (0, .ref q)]) hx hb d_Au_leastWord_37 rfl hl (by decide) rfl (fun ls hl => ?_)
      refine lv_aload_n hx hb d_Au_leastWord_38 rfl (lv_at hl 4 rfl) ?_
      refine lv_iload hx hb d_Au_leastWord_39 (lv_at hl 3 rfl) ?_
      refine lv_iload hx hb d_Au_leastWord_41 (lv_at hl 1 rfl) ?_
      obtain ⟨u8, eu8, hf⟩ := obd hf
      refine p_call (W.runV (As := [.int v4, .int u7]) (rest := []) ⟨hx, hb, hml, hown, hts⟩ (c_Au_go l eu8) (gV 2 hts cd_Au_go ml_Au_31 im_Au_go se_Au_go ini_Au rfl rfl pd_Au_go ⟨Nat.le_trans (Nat.le_of_ble_eq_true rfl) hRf, Nat.le_trans (Nat.le_of_ble_eq_true rfl) hRl⟩) ⟨pPre_blind, va_recv hK hP (ci := 1) (q0 := 0) rfl rfl, pPre_of hP hK⟩ rfl rfl hl.1 rfl (lv_room (Nat.le_of_ble_eq_true rfl)) d_Au_leastWord_43 ⟨hRc, hRs⟩) ?_
      refine lv_istore (lv' := [(4, .int u8), (2, .long ((lshl v2 2) ||| u7.toInt64)), (6, .int u7), (5, .int v5), (0, .ref q)]) hx hb d_Au_leastWord_46 hl (by decide) rfl (fun ls hl => ?_)
      refine lv_iinc (v := v5 + (-1)) (lv' := [(5, .int (v5 + (-1))), (4, .int u8), (2, .long ((lshl v2 2) ||| u7.toInt64)), (6, .int u7), (0, .ref q)]) hx hb d_Au_leastWord_48 hl (k := 3) rfl (by first | rfl | (congr 1)) (by decide) rfl (fun ls hl => ?_)
      refine lv_goto (tgt := 10) hx hb d_Au_leastWord_51 (by decide) ?_
      exact ih _ _ _ hf _ (show lv_has ls 7 [(5, .int (v5 + (-1))), (4, .int u8), (2, .long ((lshl v2 2) ||| u7.toInt64)), (0, .ref q)] from lv_sub hl [0, 1, 2, 4] rfl)
def f_Au_leastWord (n : Nat) (p0 : Int32) (aNl : Nat) (aNext : Nat → Int32) (aAhead : Nat → Int64) : Option (Int64) :=
  (f_Au_leastWord_10 n aNl aNext aAhead n (p0 - 1) 0 0).bind fun u9 =>
  some u9.2.2
set_option maxHeartbeats 4000000 in
set_option maxRecDepth 100000 in
theorem w_Au_leastWord  {p0 : Int32}  (hx : p.tables.exec = Jvm.exec) (hb : c.code = b_Au_leastWord) (hml : c.maxLocals = 7) (hts : ∀ w ∈ gW, w.before args s = true) (hown : s.vm.findClass "RegularSolver$Automaton" = some m.cls) (hK : va_K D vwCl (tG K) s) (hRf : 2 ≤ R.frames) (hRl : 46 ≤ R.locals) (hRc : cells ≤ R.cells) (hRs : slots ≤ R.slots) (hP : va_P D vwCl (auW K q an aa aStates aNl aNext aLast aAhead) H) {out : Int64} (Kr : ∀ (r : Int64), out = r → ∀ (pc : Nat) (ls : Array Slot), decode b_Au_leastWord pc = .ok (.lreturn, 1) → W p l e R s m args below meth c H locs cells slots Q (F0 m pc ls [.long r])) (hf : f_Au_leastWord n p0 aNl aNext aAhead = some out) (ls : Array Slot) (hl : lv_has ls 7 [(0, .ref q), (1, .int p0)]) : W p l e R s m args below meth c H locs cells slots Q (F0 m 0 ls []) := by
  unfold f_Au_leastWord at hf
  refine lv_lconst (v := 0) hx hb d_Au_leastWord_0 (by decide) ?_
  refine lv_lstore_n (lv' := [(2, .long 0), (0, .ref q), (1, .int p0)]) hx hb d_Au_leastWord_1 rfl hl (by decide) rfl (fun ls hl => ?_)
  refine lv_iconst (v := 0) hx hb d_Au_leastWord_2 (by decide) ?_
  refine lv_istore (lv' := [(4, .int 0), (2, .long 0), (0, .ref q), (1, .int p0)]) hx hb d_Au_leastWord_3 hl (by decide) rfl (fun ls hl => ?_)
  refine lv_iload_n hx hb d_Au_leastWord_5 rfl (lv_at hl 3 rfl) ?_
  refine lv_iconst (v := 1) hx hb d_Au_leastWord_6 (by decide) ?_
  refine lv_isub hx hb d_Au_leastWord_7 ?_
  refine lv_istore (lv' := [(5, .int (p0 - 1)), (4, .int 0), (2, .long 0), (0, .ref q), (1, .int p0)]) hx hb d_Au_leastWord_8 hl (by decide) rfl (fun ls hl => ?_)
  obtain ⟨u9, eu9, hf⟩ := obd hf
  refine w_Au_leastWord_10 hx hb hml hts hown hK hRf hRl hRc hRs hP  (fun u9q eu ls hl => ?_) _ _ _ _ eu9 _ (show lv_has ls 7 [(5, .int (p0 - 1)), (4, .int 0), (2, .long 0), (0, .ref q)] from lv_sub hl [0, 1, 2, 3] rfl)
  subst eu
  refine lv_lload_n hx hb d_Au_leastWord_54 rfl (lv_at hl 0 rfl) ?_
  exact Kr _ (Option.some.inj hf).symm _ _ d_Au_leastWord_55
set_option maxHeartbeats 4000000 in
set_option maxRecDepth 100000 in
theorem c_Au_leastWord (l : Launch)  {p0 : Int32}  {r : Int64} (hf : f_Au_leastWord n p0 aNl aNext aAhead = some r) : Met l y_Au_leastWord w0_Au_leastWord ({ frames := 2, cells := 0, slots := 0, locals := 46 }) (pPre D K [.ref q, .int p0] ((auW K q an aa aStates aNl aNext aLast aAhead))) (pPost (some (.long r))) 0 0 (fun _ => False) := by
  refine Met.ofW (cc := b_Au_leastWord) (maxL := 7) (ret := (some .long)) (by decide) rfl ?_
  intro p e s m args below meth c s₁ B hml hv
  obtain ⟨rfl, hP, hK⟩ := hv
  have hl := lv_entry [.ref q, .int p0] (n := 7) (Nat.le_of_ble_eq_true rfl)
  rw [lg_entry_eq]
  generalize (lg_sl [.ref q, .int p0] ++ List.replicate (7 - (lg_sl [.ref q, .int p0]).length) Slot.unset).toArray = ls at hl ⊢
  refine w_Au_leastWord B.exec B.bytes hml (fun w hw => atoms_spec (ws := w0_Au_leastWord) B.pre w (List.mem_cons_of_mem _ hw)) (findClass_of_methodNamed B.named) hK (Nat.le_refl _) (Nat.le_refl _) (Nat.zero_le _) (Nat.zero_le _) hP (fun r er pc ls hd => ?_) hf ls hl
  subst er
  exact W.lret B.exec B.bytes B.returns (fun t ht hW => ⟨rfl, ht⟩) (fun q h => by cases h) hd (hlocks := B.notSynchronized)
end
section
variable {p : Program} {l : Launch} {e : Env} {R : Room} {s : State} {m : MethodId} {args : Array Value} {below : List Frame} {meth : Method} {c : Code} {H : Heap} {locs : List Loc} {cells slots : Nat} {Q : State → Prop} {A : Nat → Prop} {H0 : Heap}
variable {n : Nat} {D : va_G} {K : Nat → ClassId} {q : Nat} {an : Nat} {aa : Nat} {aStates : Int32} {aNl : Nat} {aNext : Nat → Int32} {aLast : Int64} {aAhead : Nat → Int64}
def f_Au_lengthsUpTo_5 (n : Nat) (v1 : Int32) (aAhead : Nat → Int64) : Nat → Int32 → Int64 → Option (Int32 × Int64)
  | 0, _, _ => none
  | k + 1, v4, v2 =>
    if v1 < v4 then
      some (v4, v2)
    else
      ogd (gin v4 64) <|
      f_Au_lengthsUpTo_5 n v1 aAhead k (v4 + 1) (v2 ||| (lshl ((aAhead v4.toNatClampNeg) &&& 1) v4))
set_option maxHeartbeats 4000000 in
set_option maxRecDepth 100000 in
theorem w_Au_lengthsUpTo_5  {v1 : Int32} (hx : p.tables.exec = Jvm.exec) (hb : c.code = b_Au_lengthsUpTo) (hml : c.maxLocals = 5) (hts : ∀ w ∈ gW, w.before args s = true) (hown : s.vm.findClass "RegularSolver$Automaton" = some m.cls) (hK : va_K D vwCl (tG K) s) (hRf : 0 ≤ R.frames) (hRl : 0 ≤ R.locals) (hRc : cells ≤ R.cells) (hRs : slots ≤ R.slots) (hP : va_P D vwCl (auW K q an aa aStates aNl aNext aLast aAhead) H)  {out : Int32 × Int64} (Kx : ∀ (u : Int32 × Int64), out = u → ∀ (ls : Array Slot), lv_has ls 5 [(2, .long u.2)] → W p l e R s m args below meth c H locs cells slots Q (F0 m 32 ls [])) :
    ∀ (k : Nat) (v4 : Int32) (v2 : Int64), f_Au_lengthsUpTo_5 n v1 aAhead k v4 v2 = some out → ∀ (ls : Array Slot), lv_has ls 5 [(4, .int v4), (2, .long v2), (0, .ref q), (1, .int v1)] → W p l e R s m args below meth c H locs cells slots Q (F0 m 5 ls []) := by
  intro k
  induction k with
  | zero => intro _ _ hf; exact nomatch (show none = some out from hf)
  | succ k ih =>
    intro v4 v2 hf ls hl
    rw [f_Au_lengthsUpTo_5] at hf
    refine lv_iload hx hb d_Au_lengthsUpTo_5 (lv_at hl 0 rfl) ?_
    refine lv_iload_n hx hb d_Au_lengthsUpTo_7 rfl (lv_at hl 3 rfl) ?_
    refine lv_icmp_gt (tgt := 32) hx hb d_Au_lengthsUpTo_8 (by decide) (fun c3 => ?_) (fun c3 => ?_)
    · rw [if_pos c3] at hf
      exact Kx _ (Option.some.inj hf).symm _ (show lv_has ls 5 [(2, .long v2)] from lv_sub hl [1] rfl)
    · rw [if_neg c3] at hf
      refine lv_lload_n hx hb d_Au_lengthsUpTo_11 rfl (lv_at hl 1 rfl) ?_
      refine lv_aload_n hx hb d_Au_lengthsUpTo_12 rfl (lv_at hl 2 rfl) ?_
      refine va_get (D := D) (ci := 1) (v := .ref aa) (C := R_Au) (T := T_Au) (N := 4) hx hb hts in_Au hown hK hP 0 rfl rfl 3 (by decide) (hts _ fl_Au_9) (fun _ h9 => h9) rfl d_Au_lengthsUpTo_13 ?_
      refine lv_iload hx hb d_Au_lengthsUpTo_16 (lv_at hl 0 rfl) ?_
      obtain ⟨g4, hf⟩ := ogi hf
      refine va_lald hx hb hK hP 2 1 rfl rfl (gin_in g4) d_Au_lengthsUpTo_18 ?_
      refine lv_lconst (v := 1) hx hb d_Au_lengthsUpTo_19 (by decide) ?_
      refine lv_land hx hb d_Au_lengthsUpTo_20 ?_
      refine lv_iload hx hb d_Au_lengthsUpTo_21 (lv_at hl 0 rfl) ?_
      refine lv_lshl (v := lshl ((aAhead v4.toNatClampNeg) &&& 1) v4) hx hb d_Au_lengthsUpTo_23 rfl ?_
      refine lv_lor hx hb d_Au_lengthsUpTo_24 ?_
      refine lv_lstore_n (lv' := [(2, .long (v2 ||| (lshl ((aAhead v4.toNatClampNeg) &&& 1) v4))), (4, .int v4), (0, .ref q), (1, .int v1)]) hx hb d_Au_lengthsUpTo_25 rfl hl (by decide) rfl (fun ls hl => ?_)
      refine lv_iinc (v := v4 + 1) (lv' := [(4, .int (v4 + 1)), (2, .long (v2 ||| (lshl ((aAhead v4.toNatClampNeg) &&& 1) v4))), (0, .ref q), (1, .int v1)]) hx hb d_Au_lengthsUpTo_26 hl (k := 1) rfl (by first | rfl | (congr 1)) (by decide) rfl (fun ls hl => ?_)
      refine lv_goto (tgt := 5) hx hb d_Au_lengthsUpTo_29 (by decide) ?_
      exact ih _ _ hf _ (show lv_has ls 5 [(4, .int (v4 + 1)), (2, .long (v2 ||| (lshl ((aAhead v4.toNatClampNeg) &&& 1) v4))), (0, .ref q), (1, .int v1)] from lv_sub hl [0, 1, 2, 3] rfl)
def f_Au_lengthsUpTo (n : Nat) (p0 : Int32) (aAhead : Nat → Int64) : Option (Int64) :=
  (f_Au_lengthsUpTo_5 n p0 aAhead n 0 0).bind fun u5 =>
  some u5.2
set_option maxHeartbeats 4000000 in
set_option maxRecDepth 100000 in
theorem w_Au_lengthsUpTo  {p0 : Int32}  (hx : p.tables.exec = Jvm.exec) (hb : c.code = b_Au_lengthsUpTo) (hml : c.maxLocals = 5) (hts : ∀ w ∈ gW, w.before args s = true) (hown : s.vm.findClass "RegularSolver$Automaton" = some m.cls) (hK : va_K D vwCl (tG K) s) (hRf : 0 ≤ R.frames) (hRl : 0 ≤ R.locals) (hRc : cells ≤ R.cells) (hRs : slots ≤ R.slots) (hP : va_P D vwCl (auW K q an aa aStates aNl aNext aLast aAhead) H) {out : Int64} (Kr : ∀ (r : Int64), out = r → ∀ (pc : Nat) (ls : Array Slot), decode b_Au_lengthsUpTo pc = .ok (.lreturn, 1) → W p l e R s m args below meth c H locs cells slots Q (F0 m pc ls [.long r])) (hf : f_Au_lengthsUpTo n p0 aAhead = some out) (ls : Array Slot) (hl : lv_has ls 5 [(0, .ref q), (1, .int p0)]) : W p l e R s m args below meth c H locs cells slots Q (F0 m 0 ls []) := by
  unfold f_Au_lengthsUpTo at hf
  refine lv_lconst (v := 0) hx hb d_Au_lengthsUpTo_0 (by decide) ?_
  refine lv_lstore_n (lv' := [(2, .long 0), (0, .ref q), (1, .int p0)]) hx hb d_Au_lengthsUpTo_1 rfl hl (by decide) rfl (fun ls hl => ?_)
  refine lv_iconst (v := 0) hx hb d_Au_lengthsUpTo_2 (by decide) ?_
  refine lv_istore (lv' := [(4, .int 0), (2, .long 0), (0, .ref q), (1, .int p0)]) hx hb d_Au_lengthsUpTo_3 hl (by decide) rfl (fun ls hl => ?_)
  obtain ⟨u5, eu5, hf⟩ := obd hf
  refine w_Au_lengthsUpTo_5 hx hb hml hts hown hK hRf hRl hRc hRs hP  (fun u5q eu ls hl => ?_) _ _ _ eu5 _ (show lv_has ls 5 [(4, .int 0), (2, .long 0), (0, .ref q), (1, .int p0)] from lv_sub hl [0, 1, 2, 3] rfl)
  subst eu
  refine lv_lload_n hx hb d_Au_lengthsUpTo_32 rfl (lv_at hl 0 rfl) ?_
  exact Kr _ (Option.some.inj hf).symm _ _ d_Au_lengthsUpTo_33
set_option maxHeartbeats 4000000 in
set_option maxRecDepth 100000 in
theorem c_Au_lengthsUpTo (l : Launch)  {p0 : Int32}  {r : Int64} (hf : f_Au_lengthsUpTo n p0 aAhead = some r) : Met l y_Au_lengthsUpTo w0_Au_lengthsUpTo ({ frames := 0, cells := 0, slots := 0, locals := 0 }) (pPre D K [.ref q, .int p0] ((auW K q an aa aStates aNl aNext aLast aAhead))) (pPost (some (.long r))) 0 0 (fun _ => False) := by
  refine Met.ofW (cc := b_Au_lengthsUpTo) (maxL := 5) (ret := (some .long)) (by decide) rfl ?_
  intro p e s m args below meth c s₁ B hml hv
  obtain ⟨rfl, hP, hK⟩ := hv
  have hl := lv_entry [.ref q, .int p0] (n := 5) (Nat.le_of_ble_eq_true rfl)
  rw [lg_entry_eq]
  generalize (lg_sl [.ref q, .int p0] ++ List.replicate (5 - (lg_sl [.ref q, .int p0]).length) Slot.unset).toArray = ls at hl ⊢
  refine w_Au_lengthsUpTo B.exec B.bytes hml (fun w hw => atoms_spec (ws := w0_Au_lengthsUpTo) B.pre w (List.mem_cons_of_mem _ hw)) (findClass_of_methodNamed B.named) hK (Nat.le_refl _) (Nat.le_refl _) (Nat.zero_le _) (Nat.zero_le _) hP (fun r er pc ls hd => ?_) hf ls hl
  subst er
  exact W.lret B.exec B.bytes B.returns (fun t ht hW => ⟨rfl, ht⟩) (fun q h => by cases h) hd (hlocks := B.notSynchronized)
end
