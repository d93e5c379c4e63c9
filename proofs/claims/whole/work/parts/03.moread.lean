abbrev moW (K : Nat → ClassId) (h : Nat) (a : Nat → Nat) (mErr : Int32) (mLanguages : Int32) (mBounds : Int32) (mSize : Nat → Int32) (mGoes : Nat → Int32) (mLast : Nat → Bool) (mLeft : Nat → Int32) (mNext : Nat → Int32) (mGroup : Nat → Int32) (mFresh : Nat → Int32) (mLeader : Nat → Int32) (mNumber : Nat → Int32) (mRight : Nat → Int64) (mEnds : Nat → Bool) (mWay : Int32) (mVariable : Nat → Int32) (mFactor : Nat → Int32) (mLeast : Nat → Int32) (mMost : Nat → Int32) (mLength : Nat → Int32) (mWord : Nat → Int64) (mKept : Bool) (mMany : Nat → Int64) (mMore : Nat → Int64) (mLeads : Nat → Int64) (mMet : Nat → Bool) (mTodo : Nat → Int32) (mMay : Nat → Bool) (mTries : Nat → Int32) : va_W := [(h, .inr (0, [.int mErr, .int mLanguages, .int mBounds, .ref (a 0), .ref (a 1), .ref (a 2), .ref (a 3), .ref (a 4), .ref (a 5), .ref (a 6), .ref (a 7), .ref (a 8), .ref (a 9), .ref (a 10), .int mWay, .ref (a 11), .ref (a 12), .ref (a 13), .ref (a 14), .ref (a 15), .ref (a 16), .int (bI mKept), .ref (a 17), .ref (a 18), .ref (a 19), .ref (a 20), .ref (a 21), .ref (a 22), .ref (a 23)])), ((a 0), .inl (K 0, 60, .inl mSize)), ((a 1), .inl (K 0, 15360, .inl mGoes)), ((a 2), .inl (K 2, 3840, .inl (fun j => bI (mLast j)))), ((a 3), .inl (K 0, 800, .inl mLeft)), ((a 4), .inl (K 0, 3200, .inl mNext)), ((a 5), .inl (K 0, 800, .inl mGroup)), ((a 6), .inl (K 0, 800, .inl mFresh)), ((a 7), .inl (K 0, 800, .inl mLeader)), ((a 8), .inl (K 0, 800, .inl mNumber)), ((a 9), .inl (K 1, 800, .inr (.inl mRight))), ((a 10), .inl (K 2, 800, .inl (fun j => bI (mEnds j)))), ((a 11), .inl (K 0, 4, .inl mVariable)), ((a 12), .inl (K 0, 32, .inl mFactor)), ((a 13), .inl (K 0, 8, .inl mLeast)), ((a 14), .inl (K 0, 8, .inl mMost)), ((a 15), .inl (K 0, 4, .inl mLength)), ((a 16), .inl (K 1, 4, .inr (.inl mWord))), ((a 17), .inl (K 1, 64, .inr (.inl mMany))), ((a 18), .inl (K 1, 64, .inr (.inl mMore))), ((a 19), .inl (K 1, 32, .inr (.inl mLeads))), ((a 20), .inl (K 2, 4096, .inl (fun j => bI (mMet j)))), ((a 21), .inl (K 0, 4096, .inl mTodo)), ((a 22), .inl (K 2, 128, .inl (fun j => bI (mMay j)))), ((a 23), .inl (K 0, 4, .inl mTries))]
abbrev b_Mo_thrown : ByteArray := prog_13_method_2_code
def y_Mo_thrown : MethodName := ⟨"RegularSolverModel", "thrown", "()I"⟩
abbrev w0_Mo_thrown : List Cond := Cond.code y_Mo_thrown b_Mo_thrown 1 (some .int) :: gW
theorem cd_Mo_thrown : Cond.code y_Mo_thrown b_Mo_thrown 1 (some .int) ∈ gW := gm 932 (by decide +kernel) (by decide +kernel)
theorem d_Mo_thrown_0 : decode b_Mo_thrown 0 = .ok (.aload_n 0, 1) := by decide +kernel
theorem d_Mo_thrown_1 : decode b_Mo_thrown 1 = .ok (.getfield 84, 3) := by decide +kernel
theorem d_Mo_thrown_4 : decode b_Mo_thrown 4 = .ok (.ireturn, 1) := by decide +kernel
abbrev b_Mo_in : ByteArray := prog_13_method_3_code
def y_Mo_in : MethodName := ⟨"RegularSolverModel", "in", "(JJJ)Z"⟩
abbrev w0_Mo_in : List Cond := Cond.code y_Mo_in b_Mo_in 6 (some .boolean) :: gW
theorem cd_Mo_in : Cond.code y_Mo_in b_Mo_in 6 (some .boolean) ∈ gW := gm 940 (by decide +kernel) (by decide +kernel)
theorem d_Mo_in_0 : decode b_Mo_in 0 = .ok (.lload_n 0, 1) := by decide +kernel
theorem d_Mo_in_1 : decode b_Mo_in 1 = .ok (.lload_n 2, 1) := by decide +kernel
theorem d_Mo_in_2 : decode b_Mo_in 2 = .ok (.lcmp, 1) := by decide +kernel
theorem d_Mo_in_3 : decode b_Mo_in 3 = .ok (.ifCond .lt 14, 3) := by decide +kernel
theorem d_Mo_in_6 : decode b_Mo_in 6 = .ok (.lload_n 0, 1) := by decide +kernel
theorem d_Mo_in_7 : decode b_Mo_in 7 = .ok (.lload 4, 2) := by decide +kernel
theorem d_Mo_in_9 : decode b_Mo_in 9 = .ok (.lcmp, 1) := by decide +kernel
theorem d_Mo_in_10 : decode b_Mo_in 10 = .ok (.ifCond .gt 7, 3) := by decide +kernel
theorem d_Mo_in_13 : decode b_Mo_in 13 = .ok (.iconst 1, 1) := by decide +kernel
theorem d_Mo_in_14 : decode b_Mo_in 14 = .ok (.goto 4, 3) := by decide +kernel
theorem d_Mo_in_17 : decode b_Mo_in 17 = .ok (.iconst 0, 1) := by decide +kernel
theorem d_Mo_in_18 : decode b_Mo_in 18 = .ok (.ireturn, 1) := by decide +kernel
abbrev b_Mo_go : ByteArray := prog_13_method_6_code
def y_Mo_go : MethodName := ⟨"RegularSolverModel", "go", "(III)I"⟩
abbrev w0_Mo_go : List Cond := Cond.code y_Mo_go b_Mo_go 4 (some .int) :: gW
theorem cd_Mo_go : Cond.code y_Mo_go b_Mo_go 4 (some .int) ∈ gW := gm 996 (by decide +kernel) (by decide +kernel)
theorem d_Mo_go_0 : decode b_Mo_go 0 = .ok (.aload_n 0, 1) := by decide +kernel
theorem d_Mo_go_1 : decode b_Mo_go 1 = .ok (.getfield 13, 3) := by decide +kernel
theorem d_Mo_go_4 : decode b_Mo_go 4 = .ok (.iconst 4, 1) := by decide +kernel
theorem d_Mo_go_5 : decode b_Mo_go 5 = .ok (.bipush 64, 2) := by decide +kernel
theorem d_Mo_go_7 : decode b_Mo_go 7 = .ok (.iload_n 1, 1) := by decide +kernel
theorem d_Mo_go_8 : decode b_Mo_go 8 = .ok (.imul, 1) := by decide +kernel
theorem d_Mo_go_9 : decode b_Mo_go 9 = .ok (.iload_n 2, 1) := by decide +kernel
theorem d_Mo_go_10 : decode b_Mo_go 10 = .ok (.iadd, 1) := by decide +kernel
theorem d_Mo_go_11 : decode b_Mo_go 11 = .ok (.imul, 1) := by decide +kernel
theorem d_Mo_go_12 : decode b_Mo_go 12 = .ok (.iload_n 3, 1) := by decide +kernel
theorem d_Mo_go_13 : decode b_Mo_go 13 = .ok (.iadd, 1) := by decide +kernel
theorem d_Mo_go_14 : decode b_Mo_go 14 = .ok (.iaload, 1) := by decide +kernel
theorem d_Mo_go_15 : decode b_Mo_go 15 = .ok (.ireturn, 1) := by decide +kernel
abbrev b_Mo_isLast : ByteArray := prog_13_method_7_code
def y_Mo_isLast : MethodName := ⟨"RegularSolverModel", "isLast", "(II)Z"⟩
abbrev w0_Mo_isLast : List Cond := Cond.code y_Mo_isLast b_Mo_isLast 3 (some .boolean) :: gW
theorem cd_Mo_isLast : Cond.code y_Mo_isLast b_Mo_isLast 3 (some .boolean) ∈ gW := gm 980 (by decide +kernel) (by decide +kernel)
theorem d_Mo_isLast_0 : decode b_Mo_isLast 0 = .ok (.aload_n 0, 1) := by decide +kernel
theorem d_Mo_isLast_1 : decode b_Mo_isLast 1 = .ok (.getfield 16, 3) := by decide +kernel
theorem d_Mo_isLast_4 : decode b_Mo_isLast 4 = .ok (.bipush 64, 2) := by decide +kernel
theorem d_Mo_isLast_6 : decode b_Mo_isLast 6 = .ok (.iload_n 1, 1) := by decide +kernel
theorem d_Mo_isLast_7 : decode b_Mo_isLast 7 = .ok (.imul, 1) := by decide +kernel
theorem d_Mo_isLast_8 : decode b_Mo_isLast 8 = .ok (.iload_n 2, 1) := by decide +kernel
theorem d_Mo_isLast_9 : decode b_Mo_isLast 9 = .ok (.iadd, 1) := by decide +kernel
theorem d_Mo_isLast_10 : decode b_Mo_isLast 10 = .ok (.baload, 1) := by decide +kernel
theorem d_Mo_isLast_11 : decode b_Mo_isLast 11 = .ok (.ireturn, 1) := by decide +kernel
abbrev b_Mo_step : ByteArray := prog_13_method_9_code
def y_Mo_step : MethodName := ⟨"RegularSolverModel", "step", "(IJI)J"⟩
abbrev w0_Mo_step : List Cond := Cond.code y_Mo_step b_Mo_step 8 (some .long) :: gW
theorem cd_Mo_step : Cond.code y_Mo_step b_Mo_step 8 (some .long) ∈ gW := gm 1000 (by decide +kernel) (by decide +kernel)
theorem d_Mo_step_0 : decode b_Mo_step 0 = .ok (.lconst 0, 1) := by decide +kernel
theorem d_Mo_step_1 : decode b_Mo_step 1 = .ok (.lstore 5, 2) := by decide +kernel
theorem d_Mo_step_3 : decode b_Mo_step 3 = .ok (.iconst 0, 1) := by decide +kernel
theorem d_Mo_step_4 : decode b_Mo_step 4 = .ok (.istore 7, 2) := by decide +kernel
theorem d_Mo_step_6 : decode b_Mo_step 6 = .ok (.iload 7, 2) := by decide +kernel
theorem d_Mo_step_8 : decode b_Mo_step 8 = .ok (.aload_n 0, 1) := by decide +kernel
theorem d_Mo_step_9 : decode b_Mo_step 9 = .ok (.getfield 9, 3) := by decide +kernel
theorem d_Mo_step_12 : decode b_Mo_step 12 = .ok (.iload_n 1, 1) := by decide +kernel
theorem d_Mo_step_13 : decode b_Mo_step 13 = .ok (.iaload, 1) := by decide +kernel
theorem d_Mo_step_14 : decode b_Mo_step 14 = .ok (.if_icmp .ge 36, 3) := by decide +kernel
theorem d_Mo_step_17 : decode b_Mo_step 17 = .ok (.lload_n 2, 1) := by decide +kernel
theorem d_Mo_step_18 : decode b_Mo_step 18 = .ok (.iload 7, 2) := by decide +kernel
theorem d_Mo_step_20 : decode b_Mo_step 20 = .ok (.lshr, 1) := by decide +kernel
theorem d_Mo_step_21 : decode b_Mo_step 21 = .ok (.lconst 1, 1) := by decide +kernel
theorem d_Mo_step_22 : decode b_Mo_step 22 = .ok (.land, 1) := by decide +kernel
theorem d_Mo_step_23 : decode b_Mo_step 23 = .ok (.lconst 0, 1) := by decide +kernel
theorem d_Mo_step_24 : decode b_Mo_step 24 = .ok (.lcmp, 1) := by decide +kernel
theorem d_Mo_step_25 : decode b_Mo_step 25 = .ok (.ifCond .eq 19, 3) := by decide +kernel
theorem d_Mo_step_28 : decode b_Mo_step 28 = .ok (.lload 5, 2) := by decide +kernel
theorem d_Mo_step_30 : decode b_Mo_step 30 = .ok (.lconst 1, 1) := by decide +kernel
theorem d_Mo_step_31 : decode b_Mo_step 31 = .ok (.aload_n 0, 1) := by decide +kernel
theorem d_Mo_step_32 : decode b_Mo_step 32 = .ok (.iload_n 1, 1) := by decide +kernel
theorem d_Mo_step_33 : decode b_Mo_step 33 = .ok (.iload 7, 2) := by decide +kernel
theorem d_Mo_step_35 : decode b_Mo_step 35 = .ok (.iload 4, 2) := by decide +kernel
theorem d_Mo_step_37 : decode b_Mo_step 37 = .ok (.invokevirtual 98, 3) := by decide +kernel
theorem d_Mo_step_40 : decode b_Mo_step 40 = .ok (.lshl, 1) := by decide +kernel
theorem d_Mo_step_41 : decode b_Mo_step 41 = .ok (.lor, 1) := by decide +kernel
theorem d_Mo_step_42 : decode b_Mo_step 42 = .ok (.lstore 5, 2) := by decide +kernel
theorem d_Mo_step_44 : decode b_Mo_step 44 = .ok (.iinc 7 1, 3) := by decide +kernel
theorem d_Mo_step_47 : decode b_Mo_step 47 = .ok (.goto (-41), 3) := by decide +kernel
theorem d_Mo_step_50 : decode b_Mo_step 50 = .ok (.lload 5, 2) := by decide +kernel
theorem d_Mo_step_52 : decode b_Mo_step 52 = .ok (.lreturn, 1) := by decide +kernel
abbrev b_Mo_hasLast : ByteArray := prog_13_method_10_code
def y_Mo_hasLast : MethodName := ⟨"RegularSolverModel", "hasLast", "(IJ)Z"⟩
abbrev w0_Mo_hasLast : List Cond := Cond.code y_Mo_hasLast b_Mo_hasLast 5 (some .boolean) :: gW
theorem cd_Mo_hasLast : Cond.code y_Mo_hasLast b_Mo_hasLast 5 (some .boolean) ∈ gW := gm 988 (by decide +kernel) (by decide +kernel)
theorem d_Mo_hasLast_0 : decode b_Mo_hasLast 0 = .ok (.iconst 0, 1) := by decide +kernel
theorem d_Mo_hasLast_1 : decode b_Mo_hasLast 1 = .ok (.istore 4, 2) := by decide +kernel
theorem d_Mo_hasLast_3 : decode b_Mo_hasLast 3 = .ok (.iload 4, 2) := by decide +kernel
theorem d_Mo_hasLast_5 : decode b_Mo_hasLast 5 = .ok (.aload_n 0, 1) := by decide +kernel
theorem d_Mo_hasLast_6 : decode b_Mo_hasLast 6 = .ok (.getfield 9, 3) := by decide +kernel
theorem d_Mo_hasLast_9 : decode b_Mo_hasLast 9 = .ok (.iload_n 1, 1) := by decide +kernel
theorem d_Mo_hasLast_10 : decode b_Mo_hasLast 10 = .ok (.iaload, 1) := by decide +kernel
theorem d_Mo_hasLast_11 : decode b_Mo_hasLast 11 = .ok (.if_icmp .ge 32, 3) := by decide +kernel
theorem d_Mo_hasLast_14 : decode b_Mo_hasLast 14 = .ok (.lload_n 2, 1) := by decide +kernel
theorem d_Mo_hasLast_15 : decode b_Mo_hasLast 15 = .ok (.iload 4, 2) := by decide +kernel
theorem d_Mo_hasLast_17 : decode b_Mo_hasLast 17 = .ok (.lshr, 1) := by decide +kernel
theorem d_Mo_hasLast_18 : decode b_Mo_hasLast 18 = .ok (.lconst 1, 1) := by decide +kernel
theorem d_Mo_hasLast_19 : decode b_Mo_hasLast 19 = .ok (.land, 1) := by decide +kernel
theorem d_Mo_hasLast_20 : decode b_Mo_hasLast 20 = .ok (.lconst 0, 1) := by decide +kernel
theorem d_Mo_hasLast_21 : decode b_Mo_hasLast 21 = .ok (.lcmp, 1) := by decide +kernel
theorem d_Mo_hasLast_22 : decode b_Mo_hasLast 22 = .ok (.ifCond .eq 15, 3) := by decide +kernel
theorem d_Mo_hasLast_25 : decode b_Mo_hasLast 25 = .ok (.aload_n 0, 1) := by decide +kernel
theorem d_Mo_hasLast_26 : decode b_Mo_hasLast 26 = .ok (.iload_n 1, 1) := by decide +kernel
theorem d_Mo_hasLast_27 : decode b_Mo_hasLast 27 = .ok (.iload 4, 2) := by decide +kernel
theorem d_Mo_hasLast_29 : decode b_Mo_hasLast 29 = .ok (.invokevirtual 102, 3) := by decide +kernel
theorem d_Mo_hasLast_32 : decode b_Mo_hasLast 32 = .ok (.ifCond .eq 5, 3) := by decide +kernel
theorem d_Mo_hasLast_35 : decode b_Mo_hasLast 35 = .ok (.iconst 1, 1) := by decide +kernel
theorem d_Mo_hasLast_36 : decode b_Mo_hasLast 36 = .ok (.ireturn, 1) := by decide +kernel
theorem d_Mo_hasLast_37 : decode b_Mo_hasLast 37 = .ok (.iinc 4 1, 3) := by decide +kernel
theorem d_Mo_hasLast_40 : decode b_Mo_hasLast 40 = .ok (.goto (-37), 3) := by decide +kernel
theorem d_Mo_hasLast_43 : decode b_Mo_hasLast 43 = .ok (.iconst 0, 1) := by decide +kernel
theorem d_Mo_hasLast_44 : decode b_Mo_hasLast 44 = .ok (.ireturn, 1) := by decide +kernel
abbrev b_Mo_ends : ByteArray := prog_13_method_11_code
def y_Mo_ends : MethodName := ⟨"RegularSolverModel", "ends", "(IIIIJ)Z"⟩
abbrev w0_Mo_ends : List Cond := Cond.code y_Mo_ends b_Mo_ends 7 (some .boolean) :: gW
theorem cd_Mo_ends : Cond.code y_Mo_ends b_Mo_ends 7 (some .boolean) ∈ gW := gm 984 (by decide +kernel) (by decide +kernel)
theorem d_Mo_ends_0 : decode b_Mo_ends 0 = .ok (.iload_n 1, 1) := by decide +kernel
theorem d_Mo_ends_1 : decode b_Mo_ends 1 = .ok (.tableswitch 89 0 2 #[27, 54, 81], 27) := by decide +kernel
theorem d_Mo_ends_28 : decode b_Mo_ends 28 = .ok (.aload_n 0, 1) := by decide +kernel
theorem d_Mo_ends_29 : decode b_Mo_ends 29 = .ok (.iload_n 2, 1) := by decide +kernel
theorem d_Mo_ends_30 : decode b_Mo_ends 30 = .ok (.iload 4, 2) := by decide +kernel
theorem d_Mo_ends_32 : decode b_Mo_ends 32 = .ok (.invokevirtual 102, 3) := by decide +kernel
theorem d_Mo_ends_35 : decode b_Mo_ends 35 = .ok (.ifCond .ne 14, 3) := by decide +kernel
theorem d_Mo_ends_38 : decode b_Mo_ends 38 = .ok (.aload_n 0, 1) := by decide +kernel
theorem d_Mo_ends_39 : decode b_Mo_ends 39 = .ok (.iload_n 3, 1) := by decide +kernel
theorem d_Mo_ends_40 : decode b_Mo_ends 40 = .ok (.lload 5, 2) := by decide +kernel
theorem d_Mo_ends_42 : decode b_Mo_ends 42 = .ok (.l2i, 1) := by decide +kernel
theorem d_Mo_ends_43 : decode b_Mo_ends 43 = .ok (.invokevirtual 102, 3) := by decide +kernel
theorem d_Mo_ends_46 : decode b_Mo_ends 46 = .ok (.ifCond .eq 7, 3) := by decide +kernel
theorem d_Mo_ends_49 : decode b_Mo_ends 49 = .ok (.iconst 1, 1) := by decide +kernel
theorem d_Mo_ends_50 : decode b_Mo_ends 50 = .ok (.goto 4, 3) := by decide +kernel
theorem d_Mo_ends_53 : decode b_Mo_ends 53 = .ok (.iconst 0, 1) := by decide +kernel
theorem d_Mo_ends_54 : decode b_Mo_ends 54 = .ok (.ireturn, 1) := by decide +kernel
theorem d_Mo_ends_55 : decode b_Mo_ends 55 = .ok (.aload_n 0, 1) := by decide +kernel
theorem d_Mo_ends_56 : decode b_Mo_ends 56 = .ok (.iload_n 2, 1) := by decide +kernel
theorem d_Mo_ends_57 : decode b_Mo_ends 57 = .ok (.iload 4, 2) := by decide +kernel
theorem d_Mo_ends_59 : decode b_Mo_ends 59 = .ok (.invokevirtual 102, 3) := by decide +kernel
theorem d_Mo_ends_62 : decode b_Mo_ends 62 = .ok (.ifCond .eq 18, 3) := by decide +kernel
theorem d_Mo_ends_65 : decode b_Mo_ends 65 = .ok (.aload_n 0, 1) := by decide +kernel
theorem d_Mo_ends_66 : decode b_Mo_ends 66 = .ok (.iload_n 3, 1) := by decide +kernel
theorem d_Mo_ends_67 : decode b_Mo_ends 67 = .ok (.lload 5, 2) := by decide +kernel
theorem d_Mo_ends_69 : decode b_Mo_ends 69 = .ok (.l2i, 1) := by decide +kernel
theorem d_Mo_ends_70 : decode b_Mo_ends 70 = .ok (.invokevirtual 102, 3) := by decide +kernel
theorem d_Mo_ends_73 : decode b_Mo_ends 73 = .ok (.ifCond .eq 7, 3) := by decide +kernel
theorem d_Mo_ends_76 : decode b_Mo_ends 76 = .ok (.iconst 1, 1) := by decide +kernel
theorem d_Mo_ends_77 : decode b_Mo_ends 77 = .ok (.goto 4, 3) := by decide +kernel
theorem d_Mo_ends_80 : decode b_Mo_ends 80 = .ok (.iconst 0, 1) := by decide +kernel
theorem d_Mo_ends_81 : decode b_Mo_ends 81 = .ok (.ireturn, 1) := by decide +kernel
theorem d_Mo_ends_82 : decode b_Mo_ends 82 = .ok (.aload_n 0, 1) := by decide +kernel
theorem d_Mo_ends_83 : decode b_Mo_ends 83 = .ok (.iload_n 3, 1) := by decide +kernel
theorem d_Mo_ends_84 : decode b_Mo_ends 84 = .ok (.lload 5, 2) := by decide +kernel
theorem d_Mo_ends_86 : decode b_Mo_ends 86 = .ok (.invokevirtual 106, 3) := by decide +kernel
theorem d_Mo_ends_89 : decode b_Mo_ends 89 = .ok (.ireturn, 1) := by decide +kernel
theorem d_Mo_ends_90 : decode b_Mo_ends 90 = .ok (.lload 5, 2) := by decide +kernel
theorem d_Mo_ends_92 : decode b_Mo_ends 92 = .ok (.lconst 0, 1) := by decide +kernel
theorem d_Mo_ends_93 : decode b_Mo_ends 93 = .ok (.lcmp, 1) := by decide +kernel
theorem d_Mo_ends_94 : decode b_Mo_ends 94 = .ok (.ifCond .eq 13, 3) := by decide +kernel
theorem d_Mo_ends_97 : decode b_Mo_ends 97 = .ok (.aload_n 0, 1) := by decide +kernel
theorem d_Mo_ends_98 : decode b_Mo_ends 98 = .ok (.iload_n 2, 1) := by decide +kernel
theorem d_Mo_ends_99 : decode b_Mo_ends 99 = .ok (.lload 5, 2) := by decide +kernel
theorem d_Mo_ends_101 : decode b_Mo_ends 101 = .ok (.invokevirtual 106, 3) := by decide +kernel
theorem d_Mo_ends_104 : decode b_Mo_ends 104 = .ok (.ifCond .eq 7, 3) := by decide +kernel
theorem d_Mo_ends_107 : decode b_Mo_ends 107 = .ok (.iconst 1, 1) := by decide +kernel
theorem d_Mo_ends_108 : decode b_Mo_ends 108 = .ok (.goto 4, 3) := by decide +kernel
theorem d_Mo_ends_111 : decode b_Mo_ends 111 = .ok (.iconst 0, 1) := by decide +kernel
theorem d_Mo_ends_112 : decode b_Mo_ends 112 = .ok (.ireturn, 1) := by decide +kernel
abbrev b_Mo_alike : ByteArray := prog_13_method_14_code
def y_Mo_alike : MethodName := ⟨"RegularSolverModel", "alike", "(II)Z"⟩
abbrev w0_Mo_alike : List Cond := Cond.code y_Mo_alike b_Mo_alike 4 (some .boolean) :: gW
theorem cd_Mo_alike : Cond.code y_Mo_alike b_Mo_alike 4 (some .boolean) ∈ gW := gm 956 (by decide +kernel) (by decide +kernel)
theorem d_Mo_alike_0 : decode b_Mo_alike 0 = .ok (.aload_n 0, 1) := by decide +kernel
theorem d_Mo_alike_1 : decode b_Mo_alike 1 = .ok (.getfield 26, 3) := by decide +kernel
theorem d_Mo_alike_4 : decode b_Mo_alike 4 = .ok (.iload_n 1, 1) := by decide +kernel
theorem d_Mo_alike_5 : decode b_Mo_alike 5 = .ok (.iaload, 1) := by decide +kernel
theorem d_Mo_alike_6 : decode b_Mo_alike 6 = .ok (.aload_n 0, 1) := by decide +kernel
theorem d_Mo_alike_7 : decode b_Mo_alike 7 = .ok (.getfield 26, 3) := by decide +kernel
theorem d_Mo_alike_10 : decode b_Mo_alike 10 = .ok (.iload_n 2, 1) := by decide +kernel
theorem d_Mo_alike_11 : decode b_Mo_alike 11 = .ok (.iaload, 1) := by decide +kernel
theorem d_Mo_alike_12 : decode b_Mo_alike 12 = .ok (.if_icmp .eq 5, 3) := by decide +kernel
theorem d_Mo_alike_15 : decode b_Mo_alike 15 = .ok (.iconst 0, 1) := by decide +kernel
theorem d_Mo_alike_16 : decode b_Mo_alike 16 = .ok (.ireturn, 1) := by decide +kernel
theorem d_Mo_alike_17 : decode b_Mo_alike 17 = .ok (.iconst 0, 1) := by decide +kernel
theorem d_Mo_alike_18 : decode b_Mo_alike 18 = .ok (.istore_n 3, 1) := by decide +kernel
theorem d_Mo_alike_19 : decode b_Mo_alike 19 = .ok (.iload_n 3, 1) := by decide +kernel
theorem d_Mo_alike_20 : decode b_Mo_alike 20 = .ok (.iconst 4, 1) := by decide +kernel
theorem d_Mo_alike_21 : decode b_Mo_alike 21 = .ok (.if_icmp .ge 44, 3) := by decide +kernel
theorem d_Mo_alike_24 : decode b_Mo_alike 24 = .ok (.aload_n 0, 1) := by decide +kernel
theorem d_Mo_alike_25 : decode b_Mo_alike 25 = .ok (.getfield 26, 3) := by decide +kernel
theorem d_Mo_alike_28 : decode b_Mo_alike 28 = .ok (.aload_n 0, 1) := by decide +kernel
theorem d_Mo_alike_29 : decode b_Mo_alike 29 = .ok (.getfield 23, 3) := by decide +kernel
theorem d_Mo_alike_32 : decode b_Mo_alike 32 = .ok (.iconst 4, 1) := by decide +kernel
theorem d_Mo_alike_33 : decode b_Mo_alike 33 = .ok (.iload_n 1, 1) := by decide +kernel
theorem d_Mo_alike_34 : decode b_Mo_alike 34 = .ok (.imul, 1) := by decide +kernel
theorem d_Mo_alike_35 : decode b_Mo_alike 35 = .ok (.iload_n 3, 1) := by decide +kernel
theorem d_Mo_alike_36 : decode b_Mo_alike 36 = .ok (.iadd, 1) := by decide +kernel
theorem d_Mo_alike_37 : decode b_Mo_alike 37 = .ok (.iaload, 1) := by decide +kernel
theorem d_Mo_alike_38 : decode b_Mo_alike 38 = .ok (.iaload, 1) := by decide +kernel
theorem d_Mo_alike_39 : decode b_Mo_alike 39 = .ok (.aload_n 0, 1) := by decide +kernel
theorem d_Mo_alike_40 : decode b_Mo_alike 40 = .ok (.getfield 26, 3) := by decide +kernel
theorem d_Mo_alike_43 : decode b_Mo_alike 43 = .ok (.aload_n 0, 1) := by decide +kernel
theorem d_Mo_alike_44 : decode b_Mo_alike 44 = .ok (.getfield 23, 3) := by decide +kernel
theorem d_Mo_alike_47 : decode b_Mo_alike 47 = .ok (.iconst 4, 1) := by decide +kernel
theorem d_Mo_alike_48 : decode b_Mo_alike 48 = .ok (.iload_n 2, 1) := by decide +kernel
theorem d_Mo_alike_49 : decode b_Mo_alike 49 = .ok (.imul, 1) := by decide +kernel
theorem d_Mo_alike_50 : decode b_Mo_alike 50 = .ok (.iload_n 3, 1) := by decide +kernel
theorem d_Mo_alike_51 : decode b_Mo_alike 51 = .ok (.iadd, 1) := by decide +kernel
theorem d_Mo_alike_52 : decode b_Mo_alike 52 = .ok (.iaload, 1) := by decide +kernel
theorem d_Mo_alike_53 : decode b_Mo_alike 53 = .ok (.iaload, 1) := by decide +kernel
theorem d_Mo_alike_54 : decode b_Mo_alike 54 = .ok (.if_icmp .eq 5, 3) := by decide +kernel
theorem d_Mo_alike_57 : decode b_Mo_alike 57 = .ok (.iconst 0, 1) := by decide +kernel
theorem d_Mo_alike_58 : decode b_Mo_alike 58 = .ok (.ireturn, 1) := by decide +kernel
theorem d_Mo_alike_59 : decode b_Mo_alike 59 = .ok (.iinc 3 1, 3) := by decide +kernel
theorem d_Mo_alike_62 : decode b_Mo_alike 62 = .ok (.goto (-43), 3) := by decide +kernel
theorem d_Mo_alike_65 : decode b_Mo_alike 65 = .ok (.iconst 1, 1) := by decide +kernel
theorem d_Mo_alike_66 : decode b_Mo_alike 66 = .ok (.ireturn, 1) := by decide +kernel
abbrev b_Mo_isLanguage : ByteArray := prog_13_method_5_code
def y_Mo_isLanguage : MethodName := ⟨"RegularSolverModel", "isLanguage", "(I)Z"⟩
abbrev w0_Mo_isLanguage : List Cond := Cond.code y_Mo_isLanguage b_Mo_isLanguage 2 (some .boolean) :: gW
theorem cd_Mo_isLanguage : Cond.code y_Mo_isLanguage b_Mo_isLanguage 2 (some .boolean) ∈ gW := gm 972 (by decide +kernel) (by decide +kernel)
theorem d_Mo_isLanguage_0 : decode b_Mo_isLanguage 0 = .ok (.iload_n 1, 1) := by decide +kernel
theorem d_Mo_isLanguage_1 : decode b_Mo_isLanguage 1 = .ok (.i2l, 1) := by decide +kernel
theorem d_Mo_isLanguage_2 : decode b_Mo_isLanguage 2 = .ok (.lconst 0, 1) := by decide +kernel
theorem d_Mo_isLanguage_3 : decode b_Mo_isLanguage 3 = .ok (.aload_n 0, 1) := by decide +kernel
theorem d_Mo_isLanguage_4 : decode b_Mo_isLanguage 4 = .ok (.getfield 88, 3) := by decide +kernel
theorem d_Mo_isLanguage_7 : decode b_Mo_isLanguage 7 = .ok (.iconst 1, 1) := by decide +kernel
theorem d_Mo_isLanguage_8 : decode b_Mo_isLanguage 8 = .ok (.isub, 1) := by decide +kernel
theorem d_Mo_isLanguage_9 : decode b_Mo_isLanguage 9 = .ok (.i2l, 1) := by decide +kernel
theorem d_Mo_isLanguage_10 : decode b_Mo_isLanguage 10 = .ok (.invokestatic 91, 3) := by decide +kernel
theorem d_Mo_isLanguage_13 : decode b_Mo_isLanguage 13 = .ok (.ireturn, 1) := by decide +kernel
abbrev b_Mo_holds : ByteArray := prog_13_method_35_code
def y_Mo_holds : MethodName := ⟨"RegularSolverModel", "holds", "()Z"⟩
abbrev w0_Mo_holds : List Cond := Cond.code y_Mo_holds b_Mo_holds 4 (some .boolean) :: gW
theorem cd_Mo_holds : Cond.code y_Mo_holds b_Mo_holds 4 (some .boolean) ∈ gW := gm 1077 (by decide +kernel) (by decide +kernel)
theorem d_Mo_holds_0 : decode b_Mo_holds 0 = .ok (.iconst 0, 1) := by decide +kernel
theorem d_Mo_holds_1 : decode b_Mo_holds 1 = .ok (.istore_n 1, 1) := by decide +kernel
theorem d_Mo_holds_2 : decode b_Mo_holds 2 = .ok (.iload_n 1, 1) := by decide +kernel
theorem d_Mo_holds_3 : decode b_Mo_holds 3 = .ok (.aload_n 0, 1) := by decide +kernel
theorem d_Mo_holds_4 : decode b_Mo_holds 4 = .ok (.getfield 166, 3) := by decide +kernel
theorem d_Mo_holds_7 : decode b_Mo_holds 7 = .ok (.if_icmp .ge 66, 3) := by decide +kernel
theorem d_Mo_holds_10 : decode b_Mo_holds 10 = .ok (.iconst 0, 1) := by decide +kernel
theorem d_Mo_holds_11 : decode b_Mo_holds 11 = .ok (.istore_n 2, 1) := by decide +kernel
theorem d_Mo_holds_12 : decode b_Mo_holds 12 = .ok (.iconst 0, 1) := by decide +kernel
theorem d_Mo_holds_13 : decode b_Mo_holds 13 = .ok (.istore_n 3, 1) := by decide +kernel
theorem d_Mo_holds_14 : decode b_Mo_holds 14 = .ok (.iload_n 3, 1) := by decide +kernel
theorem d_Mo_holds_15 : decode b_Mo_holds 15 = .ok (.iconst 4, 1) := by decide +kernel
theorem d_Mo_holds_16 : decode b_Mo_holds 16 = .ok (.if_icmp .ge 29, 3) := by decide +kernel
theorem d_Mo_holds_19 : decode b_Mo_holds 19 = .ok (.iload_n 2, 1) := by decide +kernel
theorem d_Mo_holds_20 : decode b_Mo_holds 20 = .ok (.aload_n 0, 1) := by decide +kernel
theorem d_Mo_holds_21 : decode b_Mo_holds 21 = .ok (.getfield 48, 3) := by decide +kernel
theorem d_Mo_holds_24 : decode b_Mo_holds 24 = .ok (.iconst 4, 1) := by decide +kernel
theorem d_Mo_holds_25 : decode b_Mo_holds 25 = .ok (.iload_n 1, 1) := by decide +kernel
theorem d_Mo_holds_26 : decode b_Mo_holds 26 = .ok (.imul, 1) := by decide +kernel
theorem d_Mo_holds_27 : decode b_Mo_holds 27 = .ok (.iload_n 3, 1) := by decide +kernel
theorem d_Mo_holds_28 : decode b_Mo_holds 28 = .ok (.iadd, 1) := by decide +kernel
theorem d_Mo_holds_29 : decode b_Mo_holds 29 = .ok (.iaload, 1) := by decide +kernel
theorem d_Mo_holds_30 : decode b_Mo_holds 30 = .ok (.aload_n 0, 1) := by decide +kernel
theorem d_Mo_holds_31 : decode b_Mo_holds 31 = .ok (.getfield 81, 3) := by decide +kernel
theorem d_Mo_holds_34 : decode b_Mo_holds 34 = .ok (.iload_n 3, 1) := by decide +kernel
theorem d_Mo_holds_35 : decode b_Mo_holds 35 = .ok (.iaload, 1) := by decide +kernel
theorem d_Mo_holds_36 : decode b_Mo_holds 36 = .ok (.imul, 1) := by decide +kernel
theorem d_Mo_holds_37 : decode b_Mo_holds 37 = .ok (.iadd, 1) := by decide +kernel
theorem d_Mo_holds_38 : decode b_Mo_holds 38 = .ok (.istore_n 2, 1) := by decide +kernel
theorem d_Mo_holds_39 : decode b_Mo_holds 39 = .ok (.iinc 3 1, 3) := by decide +kernel
theorem d_Mo_holds_42 : decode b_Mo_holds 42 = .ok (.goto (-28), 3) := by decide +kernel
theorem d_Mo_holds_45 : decode b_Mo_holds 45 = .ok (.iload_n 2, 1) := by decide +kernel
theorem d_Mo_holds_46 : decode b_Mo_holds 46 = .ok (.aload_n 0, 1) := by decide +kernel
theorem d_Mo_holds_47 : decode b_Mo_holds 47 = .ok (.getfield 51, 3) := by decide +kernel
theorem d_Mo_holds_50 : decode b_Mo_holds 50 = .ok (.iload_n 1, 1) := by decide +kernel
theorem d_Mo_holds_51 : decode b_Mo_holds 51 = .ok (.iaload, 1) := by decide +kernel
theorem d_Mo_holds_52 : decode b_Mo_holds 52 = .ok (.if_icmp .lt 13, 3) := by decide +kernel
theorem d_Mo_holds_55 : decode b_Mo_holds 55 = .ok (.iload_n 2, 1) := by decide +kernel
theorem d_Mo_holds_56 : decode b_Mo_holds 56 = .ok (.aload_n 0, 1) := by decide +kernel
theorem d_Mo_holds_57 : decode b_Mo_holds 57 = .ok (.getfield 54, 3) := by decide +kernel
theorem d_Mo_holds_60 : decode b_Mo_holds 60 = .ok (.iload_n 1, 1) := by decide +kernel
theorem d_Mo_holds_61 : decode b_Mo_holds 61 = .ok (.iaload, 1) := by decide +kernel
theorem d_Mo_holds_62 : decode b_Mo_holds 62 = .ok (.if_icmp .le 5, 3) := by decide +kernel
theorem d_Mo_holds_65 : decode b_Mo_holds 65 = .ok (.iconst 0, 1) := by decide +kernel
theorem d_Mo_holds_66 : decode b_Mo_holds 66 = .ok (.ireturn, 1) := by decide +kernel
theorem d_Mo_holds_67 : decode b_Mo_holds 67 = .ok (.iinc 1 1, 3) := by decide +kernel
theorem d_Mo_holds_70 : decode b_Mo_holds 70 = .ok (.goto (-68), 3) := by decide +kernel
theorem d_Mo_holds_73 : decode b_Mo_holds 73 = .ok (.iconst 1, 1) := by decide +kernel
theorem d_Mo_holds_74 : decode b_Mo_holds 74 = .ok (.ireturn, 1) := by decide +kernel
abbrev b_Mo_firstWord : ByteArray := prog_13_method_28_code
def y_Mo_firstWord : MethodName := ⟨"RegularSolverModel", "firstWord", "(II)J"⟩
abbrev w0_Mo_firstWord : List Cond := Cond.code y_Mo_firstWord b_Mo_firstWord 8 (some .long) :: gW
theorem cd_Mo_firstWord : Cond.code y_Mo_firstWord b_Mo_firstWord 8 (some .long) ∈ gW := gm 1043 (by decide +kernel) (by decide +kernel)
theorem d_Mo_firstWord_0 : decode b_Mo_firstWord 0 = .ok (.lconst 0, 1) := by decide +kernel
theorem d_Mo_firstWord_1 : decode b_Mo_firstWord 1 = .ok (.lstore_n 3, 1) := by decide +kernel
theorem d_Mo_firstWord_2 : decode b_Mo_firstWord 2 = .ok (.iconst 0, 1) := by decide +kernel
theorem d_Mo_firstWord_3 : decode b_Mo_firstWord 3 = .ok (.istore 5, 2) := by decide +kernel
theorem d_Mo_firstWord_5 : decode b_Mo_firstWord 5 = .ok (.iload_n 2, 1) := by decide +kernel
theorem d_Mo_firstWord_6 : decode b_Mo_firstWord 6 = .ok (.iconst 1, 1) := by decide +kernel
theorem d_Mo_firstWord_7 : decode b_Mo_firstWord 7 = .ok (.isub, 1) := by decide +kernel
theorem d_Mo_firstWord_8 : decode b_Mo_firstWord 8 = .ok (.istore 6, 2) := by decide +kernel
theorem d_Mo_firstWord_10 : decode b_Mo_firstWord 10 = .ok (.iload 6, 2) := by decide +kernel
theorem d_Mo_firstWord_12 : decode b_Mo_firstWord 12 = .ok (.ifCond .lt 61, 3) := by decide +kernel
theorem d_Mo_firstWord_15 : decode b_Mo_firstWord 15 = .ok (.iconst 0, 1) := by decide +kernel
theorem d_Mo_firstWord_16 : decode b_Mo_firstWord 16 = .ok (.istore 7, 2) := by decide +kernel
theorem d_Mo_firstWord_18 : decode b_Mo_firstWord 18 = .ok (.aload_n 0, 1) := by decide +kernel
theorem d_Mo_firstWord_19 : decode b_Mo_firstWord 19 = .ok (.getfield 69, 3) := by decide +kernel
theorem d_Mo_firstWord_22 : decode b_Mo_firstWord 22 = .ok (.iload 6, 2) := by decide +kernel
theorem d_Mo_firstWord_24 : decode b_Mo_firstWord 24 = .ok (.laload, 1) := by decide +kernel
theorem d_Mo_firstWord_25 : decode b_Mo_firstWord 25 = .ok (.aload_n 0, 1) := by decide +kernel
theorem d_Mo_firstWord_26 : decode b_Mo_firstWord 26 = .ok (.iload_n 1, 1) := by decide +kernel
theorem d_Mo_firstWord_27 : decode b_Mo_firstWord 27 = .ok (.iload 5, 2) := by decide +kernel
theorem d_Mo_firstWord_29 : decode b_Mo_firstWord 29 = .ok (.iload 7, 2) := by decide +kernel
theorem d_Mo_firstWord_31 : decode b_Mo_firstWord 31 = .ok (.invokevirtual 98, 3) := by decide +kernel
theorem d_Mo_firstWord_34 : decode b_Mo_firstWord 34 = .ok (.lshr, 1) := by decide +kernel
theorem d_Mo_firstWord_35 : decode b_Mo_firstWord 35 = .ok (.lconst 1, 1) := by decide +kernel
theorem d_Mo_firstWord_36 : decode b_Mo_firstWord 36 = .ok (.land, 1) := by decide +kernel
theorem d_Mo_firstWord_37 : decode b_Mo_firstWord 37 = .ok (.lconst 0, 1) := by decide +kernel
theorem d_Mo_firstWord_38 : decode b_Mo_firstWord 38 = .ok (.lcmp, 1) := by decide +kernel
theorem d_Mo_firstWord_39 : decode b_Mo_firstWord 39 = .ok (.ifCond .ne 9, 3) := by decide +kernel
theorem d_Mo_firstWord_42 : decode b_Mo_firstWord 42 = .ok (.iinc 7 1, 3) := by decide +kernel
theorem d_Mo_firstWord_45 : decode b_Mo_firstWord 45 = .ok (.goto (-27), 3) := by decide +kernel
theorem d_Mo_firstWord_48 : decode b_Mo_firstWord 48 = .ok (.lload_n 3, 1) := by decide +kernel
theorem d_Mo_firstWord_49 : decode b_Mo_firstWord 49 = .ok (.iconst 2, 1) := by decide +kernel
theorem d_Mo_firstWord_50 : decode b_Mo_firstWord 50 = .ok (.lshl, 1) := by decide +kernel
theorem d_Mo_firstWord_51 : decode b_Mo_firstWord 51 = .ok (.iload 7, 2) := by decide +kernel
theorem d_Mo_firstWord_53 : decode b_Mo_firstWord 53 = .ok (.i2l, 1) := by decide +kernel
theorem d_Mo_firstWord_54 : decode b_Mo_firstWord 54 = .ok (.lor, 1) := by decide +kernel
theorem d_Mo_firstWord_55 : decode b_Mo_firstWord 55 = .ok (.lstore_n 3, 1) := by decide +kernel
theorem d_Mo_firstWord_56 : decode b_Mo_firstWord 56 = .ok (.aload_n 0, 1) := by decide +kernel
theorem d_Mo_firstWord_57 : decode b_Mo_firstWord 57 = .ok (.iload_n 1, 1) := by decide +kernel
theorem d_Mo_firstWord_58 : decode b_Mo_firstWord 58 = .ok (.iload 5, 2) := by decide +kernel
theorem d_Mo_firstWord_60 : decode b_Mo_firstWord 60 = .ok (.iload 7, 2) := by decide +kernel
theorem d_Mo_firstWord_62 : decode b_Mo_firstWord 62 = .ok (.invokevirtual 98, 3) := by decide +kernel
theorem d_Mo_firstWord_65 : decode b_Mo_firstWord 65 = .ok (.istore 5, 2) := by decide +kernel
theorem d_Mo_firstWord_67 : decode b_Mo_firstWord 67 = .ok (.iinc 6 (-1), 3) := by decide +kernel
theorem d_Mo_firstWord_70 : decode b_Mo_firstWord 70 = .ok (.goto (-60), 3) := by decide +kernel
theorem d_Mo_firstWord_73 : decode b_Mo_firstWord 73 = .ok (.lload_n 3, 1) := by decide +kernel
theorem d_Mo_firstWord_74 : decode b_Mo_firstWord 74 = .ok (.lreturn, 1) := by decide +kernel
theorem fl_Mo_84 : (Cond.fieldLink "RegularSolverModel" 84 "RegularSolverModel" "err" "I") ∈ gW := gm 840 (by decide +kernel) (by decide +kernel)
theorem fl_Mo_13 : (Cond.fieldLink "RegularSolverModel" 13 "RegularSolverModel" "goes" "[I") ∈ gW := gm 844 (by decide +kernel) (by decide +kernel)
theorem fl_Mo_16 : (Cond.fieldLink "RegularSolverModel" 16 "RegularSolverModel" "last" "[Z") ∈ gW := gm 845 (by decide +kernel) (by decide +kernel)
theorem fl_Mo_9 : (Cond.fieldLink "RegularSolverModel" 9 "RegularSolverModel" "size" "[I") ∈ gW := gm 843 (by decide +kernel) (by decide +kernel)
theorem ml_Mo_98 : (Cond.methodLink "RegularSolverModel" 98 ({ cls := "RegularSolverModel", name := "go", desc := "(III)I" } : MethodName)) ∈ gW := gm 993 (by decide +kernel) (by decide +kernel)
theorem im_Mo_go : (Cond.instanceMethod ({ cls := "RegularSolverModel", name := "go", desc := "(III)I" } : MethodName)) ∈ gW := gm 995 (by decide +kernel) (by decide +kernel)
theorem ini_Mo : (Cond.initialized "RegularSolverModel") ∈ gW := gm 6 (by decide +kernel) (by decide +kernel)
theorem se_Mo_go : (Cond.selects "RegularSolverModel" ({ cls := "RegularSolverModel", name := "go", desc := "(III)I" } : MethodName) ({ cls := "RegularSolverModel", name := "go", desc := "(III)I" } : MethodName)) ∈ gW := gs (by decide +kernel) (by decide +kernel)
theorem ml_Mo_102 : (Cond.methodLink "RegularSolverModel" 102 ({ cls := "RegularSolverModel", name := "isLast", desc := "(II)Z" } : MethodName)) ∈ gW := gm 977 (by decide +kernel) (by decide +kernel)
theorem im_Mo_isLast : (Cond.instanceMethod ({ cls := "RegularSolverModel", name := "isLast", desc := "(II)Z" } : MethodName)) ∈ gW := gm 979 (by decide +kernel) (by decide +kernel)
theorem se_Mo_isLast : (Cond.selects "RegularSolverModel" ({ cls := "RegularSolverModel", name := "isLast", desc := "(II)Z" } : MethodName) ({ cls := "RegularSolverModel", name := "isLast", desc := "(II)Z" } : MethodName)) ∈ gW := gs (by decide +kernel) (by decide +kernel)
theorem ml_Mo_106 : (Cond.methodLink "RegularSolverModel" 106 ({ cls := "RegularSolverModel", name := "hasLast", desc := "(IJ)Z" } : MethodName)) ∈ gW := gm 985 (by decide +kernel) (by decide +kernel)
theorem im_Mo_hasLast : (Cond.instanceMethod ({ cls := "RegularSolverModel", name := "hasLast", desc := "(IJ)Z" } : MethodName)) ∈ gW := gm 987 (by decide +kernel) (by decide +kernel)
theorem se_Mo_hasLast : (Cond.selects "RegularSolverModel" ({ cls := "RegularSolverModel", name := "hasLast", desc := "(IJ)Z" } : MethodName) ({ cls := "RegularSolverModel", name := "hasLast", desc := "(IJ)Z" } : MethodName)) ∈ gW := gs (by decide +kernel) (by decide +kernel)
theorem fl_Mo_26 : (Cond.fieldLink "RegularSolverModel" 26 "RegularSolverModel" "group" "[I") ∈ gW := gm 848 (by decide +kernel) (by decide +kernel)
theorem fl_Mo_23 : (Cond.fieldLink "RegularSolverModel" 23 "RegularSolverModel" "next" "[I") ∈ gW := gm 847 (by decide +kernel) (by decide +kernel)
theorem fl_Mo_88 : (Cond.fieldLink "RegularSolverModel" 88 "RegularSolverModel" "languages" "I") ∈ gW := gm 841 (by decide +kernel) (by decide +kernel)
theorem ml_Mo_91 : (Cond.methodLink "RegularSolverModel" 91 ({ cls := "RegularSolverModel", name := "in", desc := "(JJJ)Z" } : MethodName)) ∈ gW := gm 938 (by decide +kernel) (by decide +kernel)
theorem st_Mo_in : (Cond.static ({ cls := "RegularSolverModel", name := "in", desc := "(JJJ)Z" } : MethodName)) ∈ gW := gm 939 (by decide +kernel) (by decide +kernel)
theorem fl_Mo_166 : (Cond.fieldLink "RegularSolverModel" 166 "RegularSolverModel" "bounds" "I") ∈ gW := gm 842 (by decide +kernel) (by decide +kernel)
theorem fl_Mo_48 : (Cond.fieldLink "RegularSolverModel" 48 "RegularSolverModel" "factor" "[I") ∈ gW := gm 856 (by decide +kernel) (by decide +kernel)
theorem fl_Mo_81 : (Cond.fieldLink "RegularSolverModel" 81 "RegularSolverModel" "tries" "[I") ∈ gW := gm 868 (by decide +kernel) (by decide +kernel)
theorem fl_Mo_51 : (Cond.fieldLink "RegularSolverModel" 51 "RegularSolverModel" "least" "[I") ∈ gW := gm 857 (by decide +kernel) (by decide +kernel)
theorem fl_Mo_54 : (Cond.fieldLink "RegularSolverModel" 54 "RegularSolverModel" "most" "[I") ∈ gW := gm 858 (by decide +kernel) (by decide +kernel)
theorem fl_Mo_69 : (Cond.fieldLink "RegularSolverModel" 69 "RegularSolverModel" "leads" "[J") ∈ gW := gm 864 (by decide +kernel) (by decide +kernel)
section
variable {p : Program} {l : Launch} {e : Env} {R : Room} {s : State} {m : MethodId} {args : Array Value} {below : List Frame} {meth : Method} {c : Code} {H : Heap} {locs : List Loc} {cells slots : Nat} {Q : State → Prop} {A : Nat → Prop} {H0 : Heap}
variable {n : Nat} {D : va_G} {K : Nat → ClassId} {h : Nat} {a : Nat → Nat} {mErr : Int32} {mLanguages : Int32} {mBounds : Int32} {mSize : Nat → Int32} {mGoes : Nat → Int32} {mLast : Nat → Bool} {mLeft : Nat → Int32} {mNext : Nat → Int32} {mGroup : Nat → Int32} {mFresh : Nat → Int32} {mLeader : Nat → Int32} {mNumber : Nat → Int32} {mRight : Nat → Int64} {mEnds : Nat → Bool} {mWay : Int32} {mVariable : Nat → Int32} {mFactor : Nat → Int32} {mLeast : Nat → Int32} {mMost : Nat → Int32} {mLength : Nat → Int32} {mWord : Nat → Int64} {mKept : Bool} {mMany : Nat → Int64} {mMore : Nat → Int64} {mLeads : Nat → Int64} {mMet : Nat → Bool} {mTodo : Nat → Int32} {mMay : Nat → Bool} {mTries : Nat → Int32}
theorem pd_Mo_thrown : y_Mo_thrown.cls ≠ "java/lang/invoke/MethodHandle" ∧ y_Mo_thrown.cls ≠ "java/lang/invoke/VarHandle" ∧ (parseMethodDescriptor y_Mo_thrown.desc).map (fun d => d.parameters.length) = some 0 := by decide +kernel
def f_Mo_thrown (n : Nat) (mErr : Int32) : Option (Int32) :=
  some mErr
set_option maxHeartbeats 4000000 in
set_option maxRecDepth 100000 in
theorem w_Mo_thrown    (hx : p.tables.exec = Jvm.exec) (hb : c.code = b_Mo_thrown) (hml : c.maxLocals = 1) (hts : ∀ w ∈ gW, w.before args s = true) (hown : s.vm.findClass "RegularSolverModel" = some m.cls) (hK : va_K D vwCl (tG K) s) (hRf : 0 ≤ R.frames) (hRl : 0 ≤ R.locals) (hRc : cells ≤ R.cells) (hRs : slots ≤ R.slots) (hP : va_P D vwCl (moW K h a mErr mLanguages mBounds mSize mGoes mLast mLeft mNext mGroup mFresh mLeader mNumber mRight mEnds mWay mVariable mFactor mLeast mMost mLength mWord mKept mMany mMore mLeads mMet mTodo mMay mTries) H) {out : Int32} (Kr : ∀ (r : Int32), out = r → ∀ (pc : Nat) (ls : Array Slot), decode b_Mo_thrown pc = .ok (.ireturn, 1) → W p l e R s m args below meth c H locs cells slots Q (F0 m pc ls [.int r])) (hf : f_Mo_thrown n mErr = some out) (ls : Array Slot) (hl : lv_has ls 1 [(0, .ref h)]) : W p l e R s m args below meth c H locs cells slots Q (F0 m 0 ls []) := by
  unfold f_Mo_thrown at hf
  refine lv_aload_n hx hb d_Mo_thrown_0 rfl (lv_at hl 0 rfl) ?_
  refine va_get (D := D) (ci := 0) (v := .int mErr) (C := R_Mo) (T := T_Mo) (N := 29) hx hb hts in_Mo hown hK hP 0 rfl rfl 0 (by decide) (hts _ fl_Mo_84) (fun _ h9 => h9) rfl d_Mo_thrown_1 ?_
  exact Kr _ (Option.some.inj hf).symm _ _ d_Mo_thrown_4
set_option maxHeartbeats 4000000 in
set_option maxRecDepth 100000 in
theorem c_Mo_thrown (l : Launch)    {r : Int32} (hf : f_Mo_thrown n mErr = some r) : Met l y_Mo_thrown w0_Mo_thrown ({ frames := 0, cells := 0, slots := 0, locals := 0 }) (pPre D K [.ref h] (moW K h a mErr mLanguages mBounds mSize mGoes mLast mLeft mNext mGroup mFresh mLeader mNumber mRight mEnds mWay mVariable mFactor mLeast mMost mLength mWord mKept mMany mMore mLeads mMet mTodo mMay mTries)) (pPost (some (.int r))) 0 0 (fun _ => False) := by
  refine Met.ofW (cc := b_Mo_thrown) (maxL := 1) (ret := (some .int)) (by decide) rfl ?_
  intro p e s m args below meth c s₁ B hml hv
  obtain ⟨rfl, hP, hK⟩ := hv
  have hl := lv_entry [.ref h] (n := 1) (Nat.le_of_ble_eq_true rfl)
  rw [lg_entry_eq]
  generalize (lg_sl [.ref h] ++ List.replicate (1 - (lg_sl [.ref h]).length) Slot.unset).toArray = ls at hl ⊢
  refine w_Mo_thrown B.exec B.bytes hml (fun w hw => atoms_spec (ws := w0_Mo_thrown) B.pre w (List.mem_cons_of_mem _ hw)) (findClass_of_methodNamed B.named) hK (Nat.le_refl _) (Nat.le_refl _) (Nat.zero_le _) (Nat.zero_le _) hP (fun r er pc ls hd => ?_) hf ls hl
  subst er
  exact W.iret B.exec B.bytes B.returns (fun t ht hW => ⟨rfl, ht⟩) (fun q h => by cases h) hd (hlocks := B.notSynchronized)
theorem pd_Mo_in : y_Mo_in.cls ≠ "java/lang/invoke/MethodHandle" ∧ y_Mo_in.cls ≠ "java/lang/invoke/VarHandle" ∧ (parseMethodDescriptor y_Mo_in.desc).map (fun d => d.parameters.length) = some 3 := by decide +kernel
def f_Mo_in (n : Nat) (p0 : Int64) (p1 : Int64) (p2 : Int64) : Option (Bool) :=
  if p0 < p1 then
    some false
  else
    if p2 < p0 then
      some false
    else
      some true
set_option maxHeartbeats 4000000 in
set_option maxRecDepth 100000 in
theorem w_Mo_in  {p0 : Int64} {p1 : Int64} {p2 : Int64}  (hx : p.tables.exec = Jvm.exec) (hb : c.code = b_Mo_in) (hml : c.maxLocals = 6) (hts : ∀ w ∈ gW, w.before args s = true) (hown : s.vm.findClass "RegularSolverModel" = some m.cls) (hK : va_K D vwCl (tG K) s) (hRf : 0 ≤ R.frames) (hRl : 0 ≤ R.locals) (hRc : cells ≤ R.cells) (hRs : slots ≤ R.slots) (hP : va_P D vwCl (moW K h a mErr mLanguages mBounds mSize mGoes mLast mLeft mNext mGroup mFresh mLeader mNumber mRight mEnds mWay mVariable mFactor mLeast mMost mLength mWord mKept mMany mMore mLeads mMet mTodo mMay mTries) H) {out : Bool} (Kr : ∀ (r : Bool), out = r → ∀ (pc : Nat) (ls : Array Slot), decode b_Mo_in pc = .ok (.ireturn, 1) → W p l e R s m args below meth c H locs cells slots Q (F0 m pc ls [.int (bI r)])) (hf : f_Mo_in n p0 p1 p2 = some out) (ls : Array Slot) (hl : lv_has ls 6 [(0, .long p0), (2, .long p1), (4, .long p2)]) : W p l e R s m args below meth c H locs cells slots Q (F0 m 0 ls []) := by
  unfold f_Mo_in at hf
  refine lv_lload_n hx hb d_Mo_in_0 rfl (lv_at hl 0 rfl) ?_
  refine lv_lload_n hx hb d_Mo_in_1 rfl (lv_at hl 1 rfl) ?_
  refine W.lcmp hx hb d_Mo_in_2 ?_
  refine lc_lt (tgt := 17) hx hb d_Mo_in_3 (by decide) (fun c1 => ?_) (fun c1 => ?_)
  · rw [if_pos c1] at hf
    refine lv_iconst (v := 0) hx hb d_Mo_in_17 (by decide) ?_
    exact Kr _ (Option.some.inj hf).symm _ _ d_Mo_in_18
  · rw [if_neg c1] at hf
    refine lv_lload_n hx hb d_Mo_in_6 rfl (lv_at hl 0 rfl) ?_
    refine lv_lload hx hb d_Mo_in_7 (lv_at hl 2 rfl) ?_
    refine W.lcmp hx hb d_Mo_in_9 ?_
    refine lc_gt (tgt := 17) hx hb d_Mo_in_10 (by decide) (fun c2 => ?_) (fun c2 => ?_)
    · rw [if_pos c2] at hf
      refine lv_iconst (v := 0) hx hb d_Mo_in_17 (by decide) ?_
      exact Kr _ (Option.some.inj hf).symm _ _ d_Mo_in_18
    · rw [if_neg c2] at hf
      refine lv_iconst (v := 1) hx hb d_Mo_in_13 (by decide) ?_
      refine lv_goto (tgt := 18) hx hb d_Mo_in_14 (by decide) ?_
      exact Kr _ (Option.some.inj hf).symm _ _ d_Mo_in_18
set_option maxHeartbeats 4000000 in
set_option maxRecDepth 100000 in
theorem c_Mo_in (l : Launch)  {p0 : Int64} {p1 : Int64} {p2 : Int64}  {r : Bool} (hf : f_Mo_in n p0 p1 p2 = some r) : Met l y_Mo_in w0_Mo_in ({ frames := 0, cells := 0, slots := 0, locals := 0 }) (pPre D K [.long p0, .long p1, .long p2] (moW K h a mErr mLanguages mBounds mSize mGoes mLast mLeft mNext mGroup mFresh mLeader mNumber mRight mEnds mWay mVariable mFactor mLeast mMost mLength mWord mKept mMany mMore mLeads mMet mTodo mMay mTries)) (pPost (some (.int (bI r)))) 0 0 (fun _ => False) := by
  refine Met.ofW (cc := b_Mo_in) (maxL := 6) (ret := (some .boolean)) (by decide) rfl ?_
  intro p e s m args below meth c s₁ B hml hv
  obtain ⟨rfl, hP, hK⟩ := hv
  have hl := lv_entry [.long p0, .long p1, .long p2] (n := 6) (Nat.le_of_ble_eq_true rfl)
  rw [lg_entry_eq]
  generalize (lg_sl [.long p0, .long p1, .long p2] ++ List.replicate (6 - (lg_sl [.long p0, .long p1, .long p2]).length) Slot.unset).toArray = ls at hl ⊢
  refine w_Mo_in B.exec B.bytes hml (fun w hw => atoms_spec (ws := w0_Mo_in) B.pre w (List.mem_cons_of_mem _ hw)) (findClass_of_methodNamed B.named) hK (Nat.le_refl _) (Nat.le_refl _) (Nat.zero_le _) (Nat.zero_le _) hP (fun r er pc ls hd => ?_) hf ls hl
  subst er
  exact W.zret B.exec B.bytes B.returns (bI_nar _) (fun t ht hW => ⟨rfl, ht⟩) (fun q h => by cases h) hd (hlocks := B.notSynchronized)
theorem pd_Mo_go : y_Mo_go.cls ≠ "java/lang/invoke/MethodHandle" ∧ y_Mo_go.cls ≠ "java/lang/invoke/VarHandle" ∧ (parseMethodDescriptor y_Mo_go.desc).map (fun d => d.parameters.length) = some 3 := by decide +kernel
def f_Mo_go (n : Nat) (p0 : Int32) (p1 : Int32) (p2 : Int32) (mGoes : Nat → Int32) : Option (Int32) :=
  ogd (gin ((4 * ((64 * p0) + p1)) + p2) 15360) <|
  some (mGoes ((4 * ((64 * p0) + p1)) + p2).toNatClampNeg)
set_option maxHeartbeats 4000000 in
set_option maxRecDepth 100000 in
theorem w_Mo_go  {p0 : Int32} {p1 : Int32} {p2 : Int32}  (hx : p.tables.exec = Jvm.exec) (hb : c.code = b_Mo_go) (hml : c.maxLocals = 4) (hts : ∀ w ∈ gW, w.before args s = true) (hown : s.vm.findClass "RegularSolverModel" = some m.cls) (hK : va_K D vwCl (tG K) s) (hRf : 0 ≤ R.frames) (hRl : 0 ≤ R.locals) (hRc : cells ≤ R.cells) (hRs : slots ≤ R.slots) (hP : va_P D vwCl (moW K h a mErr mLanguages mBounds mSize mGoes mLast mLeft mNext mGroup mFresh mLeader mNumber mRight mEnds mWay mVariable mFactor mLeast mMost mLength mWord mKept mMany mMore mLeads mMet mTodo mMay mTries) H) {out : Int32} (Kr : ∀ (r : Int32), out = r → ∀ (pc : Nat) (ls : Array Slot), decode b_Mo_go pc = .ok (.ireturn, 1) → W p l e R s m args below meth c H locs cells slots Q (F0 m pc ls [.int r])) (hf : f_Mo_go n p0 p1 p2 mGoes = some out) (ls : Array Slot) (hl : lv_has ls 4 [(0, .ref h), (1, .int p0), (2, .int p1), (3, .int p2)]) : W p l e R s m args below meth c H locs cells slots Q (F0 m 0 ls []) := by
  unfold f_Mo_go at hf
  refine lv_aload_n hx hb d_Mo_go_0 rfl (lv_at hl 0 rfl) ?_
  refine va_get (D := D) (ci := 0) (v := .ref (a 1)) (C := R_Mo) (T := T_Mo) (N := 29) hx hb hts in_Mo hown hK hP 0 rfl rfl 4 (by decide) (hts _ fl_Mo_13) (fun _ h9 => h9) rfl d_Mo_go_1 ?_
  refine lv_iconst (v := 4) hx hb d_Mo_go_4 (by decide) ?_
  refine lv_bipush (v := 64) hx hb d_Mo_go_5 (by decide) ?_
  refine lv_iload_n hx hb d_Mo_go_7 rfl (lv_at hl 1 rfl) ?_
  refine lv_imul hx hb d_Mo_go_8 ?_
  refine lv_iload_n hx hb d_Mo_go_9 rfl (lv_at hl 2 rfl) ?_
  refine lv_iadd hx hb d_Mo_go_10 ?_
  refine lv_imul hx hb d_Mo_go_11 ?_
  refine lv_iload_n hx hb d_Mo_go_12 rfl (lv_at hl 3 rfl) ?_
  refine lv_iadd hx hb d_Mo_go_13 ?_
  obtain ⟨g1, hf⟩ := ogi hf
  refine va_iald hx hb hK hP 2 0 rfl rfl (gin_in g1) d_Mo_go_14 ?_
  exact Kr _ (Option.some.inj hf).symm _ _ d_Mo_go_15
set_option maxHeartbeats 4000000 in
set_option maxRecDepth 100000 in
theorem c_Mo_go (l : Launch)  {p0 : Int32} {p1 : Int32} {p2 : Int32}  {r : Int32} (hf : f_Mo_go n p0 p1 p2 mGoes = some r) : Met l y_Mo_go w0_Mo_go ({ frames := 0, cells := 0, slots := 0, locals := 0 }) (pPre D K [.ref h, .int p0, .int p1, .int p2] (moW K h a mErr mLanguages mBounds mSize mGoes mLast mLeft mNext mGroup mFresh mLeader mNumber mRight mEnds mWay mVariable mFactor mLeast mMost mLength mWord mKept mMany mMore mLeads mMet mTodo mMay mTries)) (pPost (some (.int r))) 0 0 (fun _ => False) := by
  refine Met.ofW (cc := b_Mo_go) (maxL := 4) (ret := (some .int)) (by decide) rfl ?_
  intro p e s m args below meth c s₁ B hml hv
  obtain ⟨rfl, hP, hK⟩ := hv
  have hl := lv_entry [.ref h, .int p0, .int p1, .int p2] (n := 4) (Nat.le_of_ble_eq_true rfl)
  rw [lg_entry_eq]
  generalize (lg_sl [.ref h, .int p0, .int p1, .int p2] ++ List.replicate (4 - (lg_sl [.ref h, .int p0, .int p1, .int p2]).length) Slot.unset).toArray = ls at hl ⊢
  refine w_Mo_go B.exec B.bytes hml (fun w hw => atoms_spec (ws := w0_Mo_go) B.pre w (List.mem_cons_of_mem _ hw)) (findClass_of_methodNamed B.named) hK (Nat.le_refl _) (Nat.le_refl _) (Nat.zero_le _) (Nat.zero_le _) hP (fun r er pc ls hd => ?_) hf ls hl
  subst er
  exact W.iret B.exec B.bytes B.returns (fun t ht hW => ⟨rfl, ht⟩) (fun q h => by cases h) hd (hlocks := B.notSynchronized)
theorem pd_Mo_isLast : y_Mo_isLast.cls ≠ "java/lang/invoke/MethodHandle" ∧ y_Mo_isLast.cls ≠ "java/lang/invoke/VarHandle" ∧ (parseMethodDescriptor y_Mo_isLast.desc).map (fun d => d.parameters.length) = some 2 := by decide +kernel
def f_Mo_isLast (n : Nat) (p0 : Int32) (p1 : Int32) (mLast : Nat → Bool) : Option (Bool) :=
  ogd (gin ((64 * p0) + p1) 3840) <|
  some (mLast ((64 * p0) + p1).toNatClampNeg)
set_option maxHeartbeats 4000000 in
set_option maxRecDepth 100000 in
theorem w_Mo_isLast  {p0 : Int32} {p1 : Int32}  (hx : p.tables.exec = Jvm.exec) (hb : c.code = b_Mo_isLast) (hml : c.maxLocals = 3) (hts : ∀ w ∈ gW, w.before args s = true) (hown : s.vm.findClass "RegularSolverModel" = some m.cls) (hK : va_K D vwCl (tG K) s) (hRf : 0 ≤ R.frames) (hRl : 0 ≤ R.locals) (hRc : cells ≤ R.cells) (hRs : slots ≤ R.slots) (hP : va_P D vwCl (moW K h a mErr mLanguages mBounds mSize mGoes mLast mLeft mNext mGroup mFresh mLeader mNumber mRight mEnds mWay mVariable mFactor mLeast mMost mLength mWord mKept mMany mMore mLeads mMet mTodo mMay mTries) H) {out : Bool} (Kr : ∀ (r : Bool), out = r → ∀ (pc : Nat) (ls : Array Slot), decode b_Mo_isLast pc = .ok (.ireturn, 1) → W p l e R s m args below meth c H locs cells slots Q (F0 m pc ls [.int (bI r)])) (hf : f_Mo_isLast n p0 p1 mLast = some out) (ls : Array Slot) (hl : lv_has ls 3 [(0, .ref h), (1, .int p0), (2, .int p1)]) : W p l e R s m args below meth c H locs cells slots Q (F0 m 0 ls []) := by
  unfold f_Mo_isLast at hf
  refine lv_aload_n hx hb d_Mo_isLast_0 rfl (lv_at hl 0 rfl) ?_
  refine va_get (D := D) (ci := 0) (v := .ref (a 2)) (C := R_Mo) (T := T_Mo) (N := 29) hx hb hts in_Mo hown hK hP 0 rfl rfl 5 (by decide) (hts _ fl_Mo_16) (fun _ h9 => h9) rfl d_Mo_isLast_1 ?_
  refine lv_bipush (v := 64) hx hb d_Mo_isLast_4 (by decide) ?_
  refine lv_iload_n hx hb d_Mo_isLast_6 rfl (lv_at hl 1 rfl) ?_
  refine lv_imul hx hb d_Mo_isLast_7 ?_
  refine lv_iload_n hx hb d_Mo_isLast_8 rfl (lv_at hl 2 rfl) ?_
  refine lv_iadd hx hb d_Mo_isLast_9 ?_
  obtain ⟨g1, hf⟩ := ogi hf
  refine bz_ald hx hb hK hP 3 2 rfl rfl (gin_in g1) d_Mo_isLast_10 ?_
  exact Kr _ (Option.some.inj hf).symm _ _ d_Mo_isLast_11
set_option maxHeartbeats 4000000 in
set_option maxRecDepth 100000 in
theorem c_Mo_isLast (l : Launch)  {p0 : Int32} {p1 : Int32}  {r : Bool} (hf : f_Mo_isLast n p0 p1 mLast = some r) : Met l y_Mo_isLast w0_Mo_isLast ({ frames := 0, cells := 0, slots := 0, locals := 0 }) (pPre D K [.ref h, .int p0, .int p1] (moW K h a mErr mLanguages mBounds mSize mGoes mLast mLeft mNext mGroup mFresh mLeader mNumber mRight mEnds mWay mVariable mFactor mLeast mMost mLength mWord mKept mMany mMore mLeads mMet mTodo mMay mTries)) (pPost (some (.int (bI r)))) 0 0 (fun _ => False) := by
  refine Met.ofW (cc := b_Mo_isLast) (maxL := 3) (ret := (some .boolean)) (by decide) rfl ?_
  intro p e s m args below meth c s₁ B hml hv
  obtain ⟨rfl, hP, hK⟩ := hv
  have hl := lv_entry [.ref h, .int p0, .int p1] (n := 3) (Nat.le_of_ble_eq_true rfl)
  rw [lg_entry_eq]
  generalize (lg_sl [.ref h, .int p0, .int p1] ++ List.replicate (3 - (lg_sl [.ref h, .int p0, .int p1]).length) Slot.unset).toArray = ls at hl ⊢
  refine w_Mo_isLast B.exec B.bytes hml (fun w hw => atoms_spec (ws := w0_Mo_isLast) B.pre w (List.mem_cons_of_mem _ hw)) (findClass_of_methodNamed B.named) hK (Nat.le_refl _) (Nat.le_refl _) (Nat.zero_le _) (Nat.zero_le _) hP (fun r er pc ls hd => ?_) hf ls hl
  subst er
  exact W.zret B.exec B.bytes B.returns (bI_nar _) (fun t ht hW => ⟨rfl, ht⟩) (fun q h => by cases h) hd (hlocks := B.notSynchronized)
theorem pd_Mo_step : y_Mo_step.cls ≠ "java/lang/invoke/MethodHandle" ∧ y_Mo_step.cls ≠ "java/lang/invoke/VarHandle" ∧ (parseMethodDescriptor y_Mo_step.desc).map (fun d => d.parameters.length) = some 3 := by decide +kernel
def f_Mo_step_6 (n : Nat) (v1 : Int32) (v2 : Int64) (v4 : Int32) (mSize : Nat → Int32) (mGoes : Nat → Int32) : Nat → Int32 → Int64 → Option (Int32 × Int64)
  | 0, _, _ => none
  | k + 1, v7, v5 =>
    ogd (gin v1 60) <|
    if (mSize v1.toNatClampNeg) ≤ v7 then
      some (v7, v5)
    else
      if ((lshr v2 v7) &&& 1) = 0 then
        f_Mo_step_6 n v1 v2 v4 mSize mGoes k (v7 + 1) v5
      else
        (f_Mo_go n v1 v7 v4 mGoes).bind fun u8 =>
        f_Mo_step_6 n v1 v2 v4 mSize mGoes k (v7 + 1) (v5 ||| (lshl 1 u8))
set_option maxHeartbeats 4000000 in
set_option maxRecDepth 100000 in
theorem w_Mo_step_6  {v1 : Int32} {v2 : Int64} {v4 : Int32} (hx : p.tables.exec = Jvm.exec) (hb : c.code = b_Mo_step) (hml : c.maxLocals = 8) (hts : ∀ w ∈ gW, w.before args s = true) (hown : s.vm.findClass "RegularSolverModel" = some m.cls) (hK : va_K D vwCl (tG K) s) (hRf : 1 ≤ R.frames) (hRl : 23 ≤ R.locals) (hRc : cells ≤ R.cells) (hRs : slots ≤ R.slots) (hP : va_P D vwCl (moW K h a mErr mLanguages mBounds mSize mGoes mLast mLeft mNext mGroup mFresh mLeader mNumber mRight mEnds mWay mVariable mFactor mLeast mMost mLength mWord mKept mMany mMore mLeads mMet mTodo mMay mTries) H)  {out : Int32 × Int64} (Kx : ∀ (u : Int32 × Int64), out = u → ∀ (ls : Array Slot), lv_has ls 8 [(5, .long u.2)] → W p l e R s m args below meth c H locs cells slots Q (F0 m 50 ls [])) :
    ∀ (k : Nat) (v7 : Int32) (v5 : Int64), f_Mo_step_6 n v1 v2 v4 mSize mGoes k v7 v5 = some out → ∀ (ls : Array Slot), lv_has ls 8 [(7, .int v7), (5, .long v5), (0, .ref h), (1, .int v1), (2, .long v2), (4, .int v4)] → W p l e R s m args below meth c H locs cells slots Q (F0 m 6 ls []) := by
  intro k
  induction k with
  | zero => intro _ _ hf; exact nomatch (show none = some out from hf)
  | succ k ih =>
    intro v7 v5 hf ls hl
    rw [f_Mo_step_6] at hf
    refine lv_iload hx hb d_Mo_step_6 (lv_at hl 0 rfl) ?_
    refine lv_aload_n hx hb d_Mo_step_8 rfl (lv_at hl 2 rfl) ?_
    refine va_get (D := D) (ci := 0) (v := .ref (a 0)) (C := R_Mo) (T := T_Mo) (N := 29) hx hb hts in_Mo hown hK hP 0 rfl rfl 3 (by decide) (hts _ fl_Mo_9) (fun _ h9 => h9) rfl d_Mo_step_9 ?_
    refine lv_iload_n hx hb d_Mo_step_12 rfl (lv_at hl 3 rfl) ?_
    obtain ⟨g5, hf⟩ := ogi hf
    refine va_iald hx hb hK hP 1 0 rfl rfl (gin_in g5) d_Mo_step_13 ?_
    refine lv_icmp_ge (tgt := 50) hx hb d_Mo_step_14 (by decide) (fun c6 => ?_) (fun c6 => ?_)
    · rw [if_pos c6] at hf
      exact Kx _ (Option.some.inj hf).symm _ (show lv_has ls 8 [(5, .long v5)] from lv_sub hl [1] rfl)
    · rw [if_neg c6] at hf
      refine lv_lload_n hx hb d_Mo_step_17 rfl (lv_at hl 4 rfl) ?_
      refine lv_iload hx hb d_Mo_step_18 (lv_at hl 0 rfl) ?_
      refine lv_lshr (v := lshr v2 v7) hx hb d_Mo_step_20 rfl ?_
      refine lv_lconst (v := 1) hx hb d_Mo_step_21 (by decide) ?_
      refine lv_land hx hb d_Mo_step_22 ?_
      refine lv_lconst (v := 0) hx hb d_Mo_step_23 (by decide) ?_
      refine W.lcmp hx hb d_Mo_step_24 ?_
      refine lc_eq (tgt := 44) hx hb d_Mo_step_25 (by decide) (fun c7 => ?_) (fun c7 => ?_)
      · rw [if_pos c7] at hf
        refine lv_iinc (v := v7 + 1) (lv' := [(7, .int (v7 + 1)), (5, .long v5), (0, .ref h), (1, .int v1), (2, .long v2), (4, .int v4)]) hx hb d_Mo_step_44 hl (k := 0) rfl (by first | rfl | (congr 1)) (by decide) rfl (fun ls hl => ?_)
        refine lv_goto (tgt := 6) hx hb d_Mo_step_47 (by decide) ?_
        exact ih _ _ hf _ (show lv_has ls 8 [(7, .int (v7 + 1)), (5, .long v5), (0, .ref h), (1, .int v1), (2, .long v2), (4, .int v4)] from lv_sub hl [0, 1, 2, 3, 4, 5] rfl)
      · rw [if_neg c7] at hf
        refine lv_lload hx hb d_Mo_step_28 (lv_at hl 1 rfl) ?_
        refine lv_lconst (v := 1) hx hb d_Mo_step_30 (by decide) ?_
        refine lv_aload_n hx hb d_Mo_step_31 rfl (lv_at hl 2 rfl) ?_
        refine lv_iload_n hx hb d_Mo_step_32 rfl (lv_at hl 3 rfl) ?_
        refine lv_iload hx hb d_Mo_step_33 (lv_at hl 0 rfl) ?_
        refine lv_iload hx hb d_Mo_step_35 (lv_at hl 5 rfl) ?_
        obtain ⟨u8, eu8, hf⟩ := obd hf
        refine p_call (W.runV (As := [.int v1, .int v7, .int v4]) (rest := [.long 1, .long v5]) ⟨hx, hb, hml, hown, hts⟩ (c_Mo_go l eu8) (gV 3 hts cd_Mo_go ml_Mo_98 im_Mo_go se_Mo_go ini_Mo rfl rfl pd_Mo_go ⟨Nat.le_trans (Nat.le_of_ble_eq_true rfl) hRf, Nat.le_trans (Nat.le_of_ble_eq_true rfl) hRl⟩) ⟨pPre_blind, va_recv hK hP (ci := 0) (q0 := 0) rfl rfl, pPre_of hP hK⟩ rfl rfl hl.1 rfl (lv_room (Nat.le_of_ble_eq_true rfl)) d_Mo_step_37 ⟨hRc, hRs⟩) ?_
        refine lv_lshl (v := lshl 1 u8) hx hb d_Mo_step_40 rfl ?_
        refine lv_lor hx hb d_Mo_step_41 ?_
        refine lv_lstore (lv' := [(5, .long (v5 ||| (lshl 1 u8))), (7, .int v7), (0, .ref h), (1, .int v1), (2, .long v2), (4, .int v4)]) hx hb d_Mo_step_42 hl (by decide) rfl (fun ls hl => ?_)
        refine lv_iinc (v := v7 + 1) (lv' := [(7, .int (v7 + 1)), (5, .long (v5 ||| (lshl 1 u8))), (0, .ref h), (1, .int v1), (2, .long v2), (4, .int v4)]) hx hb d_Mo_step_44 hl (k := 1) rfl (by first | rfl | (congr 1)) (by decide) rfl (fun ls hl => ?_)
        refine lv_goto (tgt := 6) hx hb d_Mo_step_47 (by decide) ?_
        exact ih _ _ hf _ (show lv_has ls 8 [(7, .int (v7 + 1)), (5, .long (v5 ||| (lshl 1 u8))), (0, .ref h), (1, .int v1), (2, .long v2), (4, .int v4)] from lv_sub hl [0, 1, 2, 3, 4, 5] rfl)
def f_Mo_step (n : Nat) (p0 : Int32) (p1 : Int64) (p2 : Int32) (mSize : Nat → Int32) (mGoes : Nat → Int32) : Option (Int64) :=
  (f_Mo_step_6 n p0 p1 p2 mSize mGoes n 0 0).bind fun u9 =>
  some u9.2
set_option maxHeartbeats 4000000 in
set_option maxRecDepth 100000 in
theorem w_Mo_step  {p0 : Int32} {p1 : Int64} {p2 : Int32}  (hx : p.tables.exec = Jvm.exec) (hb : c.code = b_Mo_step) (hml : c.maxLocals = 8) (hts : ∀ w ∈ gW, w.before args s = true) (hown : s.vm.findClass "RegularSolverModel" = some m.cls) (hK : va_K D vwCl (tG K) s) (hRf : 1 ≤ R.frames) (hRl : 23 ≤ R.locals) (hRc : cells ≤ R.cells) (hRs : slots ≤ R.slots) (hP : va_P D vwCl (moW K h a mErr mLanguages mBounds mSize mGoes mLast mLeft mNext mGroup mFresh mLeader mNumber mRight mEnds mWay mVariable mFactor mLeast mMost mLength mWord mKept mMany mMore mLeads mMet mTodo mMay mTries) H) {out : Int64} (Kr : ∀ (r : Int64), out = r → ∀ (pc : Nat) (ls : Array Slot), decode b_Mo_step pc = .ok (.lreturn, 1) → W p l e R s m args below meth c H locs cells slots Q (F0 m pc ls [.long r])) (hf : f_Mo_step n p0 p1 p2 mSize mGoes = some out) (ls : Array Slot) (hl : lv_has ls 8 [(0, .ref h), (1, .int p0), (2, .long p1), (4, .int p2)]) : W p l e R s m args below meth c H locs cells slots Q (F0 m 0 ls []) := by
  unfold f_Mo_step at hf
  refine lv_lconst (v := 0) hx hb d_Mo_step_0 (by decide) ?_
  refine lv_lstore (lv' := [(5, .long 0), (0, .ref h), (1, .int p0), (2, .long p1), (4, .int p2)]) hx hb d_Mo_step_1 hl (by decide) rfl (fun ls hl => ?_)
  refine lv_iconst (v := 0) hx hb d_Mo_step_3 (by decide) ?_
  refine lv_istore (lv' := [(7, .int 0), (5, .long 0), (0, .ref h), (1, .int p0), (2, .long p1), (4, .int p2)]) hx hb d_Mo_step_4 hl (by decide) rfl (fun ls hl => ?_)
  obtain ⟨u9, eu9, hf⟩ := obd hf
  refine w_Mo_step_6 hx hb hml hts hown hK hRf hRl hRc hRs hP  (fun u9q eu ls hl => ?_) _ _ _ eu9 _ (show lv_has ls 8 [(7, .int 0), (5, .long 0), (0, .ref h), (1, .int p0), (2, .long p1), (4, .int p2)] from lv_sub hl [0, 1, 2, 3, 4, 5] rfl)
  subst eu
  refine lv_lload hx hb d_Mo_step_50 (lv_at hl 0 rfl) ?_
  exact Kr _ (Option.some.inj hf).symm _ _ d_Mo_step_52
set_option maxHeartbeats 4000000 in
set_option maxRecDepth 100000 in
theorem c_Mo_step (l : Launch)  {p0 : Int32} {p1 : Int64} {p2 : Int32}  {r : Int64} (hf : f_Mo_step n p0 p1 p2 mSize mGoes = some r) : Met l y_Mo_step w0_Mo_step ({ frames := 1, cells := 0, slots := 0, locals := 23 }) (pPre D K [.ref h, .int p0, .long p1, .int p2] (moW K h a mErr mLanguages mBounds mSize mGoes mLast mLeft mNext mGroup mFresh mLeader mNumber mRight mEnds mWay mVariable mFactor mLeast mMost mLength mWord mKept mMany mMore mLeads mMet mTodo mMay mTries)) (pPost (some (.long r))) 0 0 (fun _ => False) := by
  refine Met.ofW (cc := b_Mo_step) (maxL := 8) (ret := (some .long)) (by decide) rfl ?_
  intro p e s m args below meth c s₁ B hml hv
  obtain ⟨rfl, hP, hK⟩ := hv
  have hl := lv_entry [.ref h, .int p0, .long p1, .int p2] (n := 8) (Nat.le_of_ble_eq_true rfl)
  rw [lg_entry_eq]
  generalize (lg_sl [.ref h, .int p0, .long p1, .int p2] ++ List.replicate (8 - (lg_sl [.ref h, .int p0, .long p1, .int p2]).length) Slot.unset).toArray = ls at hl ⊢
  refine w_Mo_step B.exec B.bytes hml (fun w hw => atoms_spec (ws := w0_Mo_step) B.pre w (List.mem_cons_of_mem _ hw)) (findClass_of_methodNamed B.named) hK (Nat.le_refl _) (Nat.le_refl _) (Nat.zero_le _) (Nat.zero_le _) hP (fun r er pc ls hd => ?_) hf ls hl
  subst er
  exact W.lret B.exec B.bytes B.returns (fun t ht hW => ⟨rfl, ht⟩) (fun q h => by cases h) hd (hlocks := B.notSynchronized)
theorem pd_Mo_hasLast : y_Mo_hasLast.cls ≠ "java/lang/invoke/MethodHandle" ∧ y_Mo_hasLast.cls ≠ "java/lang/invoke/VarHandle" ∧ (parseMethodDescriptor y_Mo_hasLast.desc).map (fun d => d.parameters.length) = some 2 := by decide +kernel
def f_Mo_hasLast_3 (n : Nat) (v1 : Int32) (v2 : Int64) (mSize : Nat → Int32) (mLast : Nat → Bool) : Nat → Int32 → Option ((Bool) ⊕ (Int32))
  | 0, _ => none
  | k + 1, v4 =>
    ogd (gin v1 60) <|
    if (mSize v1.toNatClampNeg) ≤ v4 then
      some (.inr v4)
    else
      if ((lshr v2 v4) &&& 1) = 0 then
        f_Mo_hasLast_3 n v1 v2 mSize mLast k (v4 + 1)
      else
        (f_Mo_isLast n v1 v4 mLast).bind fun u9 =>
        if u9 = true then
          some (.inl true)
        else
          f_Mo_hasLast_3 n v1 v2 mSize mLast k (v4 + 1)
set_option maxHeartbeats 4000000 in
set_option maxRecDepth 100000 in
theorem w_Mo_hasLast_3  {v1 : Int32} {v2 : Int64} (hx : p.tables.exec = Jvm.exec) (hb : c.code = b_Mo_hasLast) (hml : c.maxLocals = 5) (hts : ∀ w ∈ gW, w.before args s = true) (hown : s.vm.findClass "RegularSolverModel" = some m.cls) (hK : va_K D vwCl (tG K) s) (hRf : 1 ≤ R.frames) (hRl : 22 ≤ R.locals) (hRc : cells ≤ R.cells) (hRs : slots ≤ R.slots) (hP : va_P D vwCl (moW K h a mErr mLanguages mBounds mSize mGoes mLast mLeft mNext mGroup mFresh mLeader mNumber mRight mEnds mWay mVariable mFactor mLeast mMost mLength mWord mKept mMany mMore mLeads mMet mTodo mMay mTries) H)  {out : (Bool) ⊕ (Int32)} (Kr : ∀ (r : Bool), out = .inl r → ∀ (pc : Nat) (ls : Array Slot), decode b_Mo_hasLast pc = .ok (.ireturn, 1) → W p l e R s m args below meth c H locs cells slots Q (F0 m pc ls [.int (bI r)])) (Kx : ∀ (u : Int32), out = .inr u → ∀ (ls : Array Slot), lv_has ls 5 [] → W p l e R s m args below meth c H locs cells slots Q (F0 m 43 ls [])) :
    ∀ (k : Nat) (v4 : Int32), f_Mo_hasLast_3 n v1 v2 mSize mLast k v4 = some out → ∀ (ls : Array Slot), lv_has ls 5 [(4, .int v4), (0, .ref h), (1, .int v1), (2, .long v2)] → W p l e R s m args below meth c H locs cells slots Q (F0 m 3 ls []) := by
  intro k
  induction k with
  | zero => intro _ hf; exact nomatch (show none = some out from hf)
  | succ k ih =>
    intro v4 hf ls hl
    rw [f_Mo_hasLast_3] at hf
    refine lv_iload hx hb d_Mo_hasLast_3 (lv_at hl 0 rfl) ?_
    refine lv_aload_n hx hb d_Mo_hasLast_5 rfl (lv_at hl 1 rfl) ?_
    refine va_get (D := D) (ci := 0) (v := .ref (a 0)) (C := R_Mo) (T := T_Mo) (N := 29) hx hb hts in_Mo hown hK hP 0 rfl rfl 3 (by decide) (hts _ fl_Mo_9) (fun _ h9 => h9) rfl d_Mo_hasLast_6 ?_
    refine lv_iload_n hx hb d_Mo_hasLast_9 rfl (lv_at hl 2 rfl) ?_
    obtain ⟨g6, hf⟩ := ogi hf
    refine va_iald hx hb hK hP 1 0 rfl rfl (gin_in g6) d_Mo_hasLast_10 ?_
    refine lv_icmp_ge (tgt := 43) hx hb d_Mo_hasLast_11 (by decide) (fun c7 => ?_) (fun c7 => ?_)
    · rw [if_pos c7] at hf
      exact Kx _ (Option.some.inj hf).symm _ (show lv_has ls 5 [] from lv_sub hl [] rfl)
    · rw [if_neg c7] at hf
      refine lv_lload_n hx hb d_Mo_hasLast_14 rfl (lv_at hl 3 rfl) ?_
      refine lv_iload hx hb d_Mo_hasLast_15 (lv_at hl 0 rfl) ?_
      refine lv_lshr (v := lshr v2 v4) hx hb d_Mo_hasLast_17 rfl ?_
      refine lv_lconst (v := 1) hx hb d_Mo_hasLast_18 (by decide) ?_
      refine lv_land hx hb d_Mo_hasLast_19 ?_
      refine lv_lconst (v := 0) hx hb d_Mo_hasLast_20 (by decide) ?_
      refine W.lcmp hx hb d_Mo_hasLast_21 ?_
      refine lc_eq (tgt := 37) hx hb d_Mo_hasLast_22 (by decide) (fun c8 => ?_) (fun c8 => ?_)
      · rw [if_pos c8] at hf
        refine lv_iinc (v := v4 + 1) (lv' := [(4, .int (v4 + 1)), (0, .ref h), (1, .int v1), (2, .long v2)]) hx hb d_Mo_hasLast_37 hl (k := 0) rfl (by first | rfl | (congr 1)) (by decide) rfl (fun ls hl => ?_)
        refine lv_goto (tgt := 3) hx hb d_Mo_hasLast_40 (by decide) ?_
        exact ih _ hf _ (show lv_has ls 5 [(4, .int (v4 + 1)), (0, .ref h), (1, .int v1), (2, .long v2)] from lv_sub hl [0, 1, 2, 3] rfl)
      · rw [if_neg c8] at hf
        refine lv_aload_n hx hb d_Mo_hasLast_25 rfl (lv_at hl 1 rfl) ?_
        refine lv_iload_n hx hb d_Mo_hasLast_26 rfl (lv_at hl 2 rfl) ?_
        refine lv_iload hx hb d_Mo_hasLast_27 (lv_at hl 0 rfl) ?_
        obtain ⟨u9, eu9, hf⟩ := obd hf
        refine p_call (W.runV (As := [.int v1, .int v4]) (rest := []) ⟨hx, hb, hml, hown, hts⟩ (c_Mo_isLast l eu9) (gV 2 hts cd_Mo_isLast ml_Mo_102 im_Mo_isLast se_Mo_isLast ini_Mo rfl rfl pd_Mo_isLast ⟨Nat.le_trans (Nat.le_of_ble_eq_true rfl) hRf, Nat.le_trans (Nat.le_of_ble_eq_true rfl) hRl⟩) ⟨pPre_blind, va_recv hK hP (ci := 0) (q0 := 0) rfl rfl, pPre_of hP hK⟩ rfl rfl hl.1 rfl (lv_room (Nat.le_of_ble_eq_true rfl)) d_Mo_hasLast_29 ⟨hRc, hRs⟩) ?_
        refine bz_eq (tgt := 37) hx hb d_Mo_hasLast_32 (by decide) (fun c10 => ?_) (fun c10 => ?_)
        · rw [if_neg c10] at hf
          refine lv_iinc (v := v4 + 1) (lv' := [(4, .int (v4 + 1)), (0, .ref h), (1, .int v1), (2, .long v2)]) hx hb d_Mo_hasLast_37 hl (k := 0) rfl (by first | rfl | (congr 1)) (by decide) rfl (fun ls hl => ?_)
          refine lv_goto (tgt := 3) hx hb d_Mo_hasLast_40 (by decide) ?_
          exact ih _ hf _ (show lv_has ls 5 [(4, .int (v4 + 1)), (0, .ref h), (1, .int v1), (2, .long v2)] from lv_sub hl [0, 1, 2, 3] rfl)
        · rw [if_pos c10] at hf
          refine lv_iconst (v := 1) hx hb d_Mo_hasLast_35 (by decide) ?_
          exact Kr _ (Option.some.inj hf).symm _ _ d_Mo_hasLast_36
def f_Mo_hasLast (n : Nat) (p0 : Int32) (p1 : Int64) (mSize : Nat → Int32) (mLast : Nat → Bool) : Option (Bool) :=
  (f_Mo_hasLast_3 n p0 p1 mSize mLast n 0).bind fun u11 => u11.elim (fun r => some r) fun x11 =>
  some false
set_option maxHeartbeats 4000000 in
set_option maxRecDepth 100000 in
theorem w_Mo_hasLast  {p0 : Int32} {p1 : Int64}  (hx : p.tables.exec = Jvm.exec) (hb : c.code = b_Mo_hasLast) (hml : c.maxLocals = 5) (hts : ∀ w ∈ gW, w.before args s = true) (hown : s.vm.findClass "RegularSolverModel" = some m.cls) (hK : va_K D vwCl (tG K) s) (hRf : 1 ≤ R.frames) (hRl : 22 ≤ R.locals) (hRc : cells ≤ R.cells) (hRs : slots ≤ R.slots) (hP : va_P D vwCl (moW K h a mErr mLanguages mBounds mSize mGoes mLast mLeft mNext mGroup mFresh mLeader mNumber mRight mEnds mWay mVariable mFactor mLeast mMost mLength mWord mKept mMany mMore mLeads mMet mTodo mMay mTries) H) {out : Bool} (Kr : ∀ (r : Bool), out = r → ∀ (pc : Nat) (ls : Array Slot), decode b_Mo_hasLast pc = .ok (.ireturn, 1) → W p l e R s m args below meth c H locs cells slots Q (F0 m pc ls [.int (bI r)])) (hf : f_Mo_hasLast n p0 p1 mSize mLast = some out) (ls : Array Slot) (hl : lv_has ls 5 [(0, .ref h), (1, .int p0), (2, .long p1)]) : W p l e R s m args below meth c H locs cells slots Q (F0 m 0 ls []) := by
  unfold f_Mo_hasLast at hf
  refine lv_iconst (v := 0) hx hb d_Mo_hasLast_0 (by decide) ?_
  refine lv_istore (lv' := [(4, .int 0), (0, .ref h), (1, .int p0), (2, .long p1)]) hx hb d_Mo_hasLast_1 hl (by decide) rfl (fun ls hl => ?_)
  obtain ⟨u11, eu11, hf⟩ := obd hf
  refine w_Mo_hasLast_3 hx hb hml hts hown hK hRf hRl hRc hRs hP (fun r er pc ls hd => Kr r (by subst er; exact (Option.some.inj hf).symm) pc ls hd) (fun x11 eu ls hl => ?_) _ _ eu11 _ (show lv_has ls 5 [(4, .int 0), (0, .ref h), (1, .int p0), (2, .long p1)] from lv_sub hl [0, 1, 2, 3] rfl)
  subst eu
  replace hf := oel hf
  refine lv_iconst (v := 0) hx hb d_Mo_hasLast_43 (by decide) ?_
  exact Kr _ (Option.some.inj hf).symm _ _ d_Mo_hasLast_44
set_option maxHeartbeats 4000000 in
set_option maxRecDepth 100000 in
theorem c_Mo_hasLast (l : Launch)  {p0 : Int32} {p1 : Int64}  {r : Bool} (hf : f_Mo_hasLast n p0 p1 mSize mLast = some r) : Met l y_Mo_hasLast w0_Mo_hasLast ({ frames := 1, cells := 0, slots := 0, locals := 22 }) (pPre D K [.ref h, .int p0, .long p1] (moW K h a mErr mLanguages mBounds mSize mGoes mLast mLeft mNext mGroup mFresh mLeader mNumber mRight mEnds mWay mVariable mFactor mLeast mMost mLength mWord mKept mMany mMore mLeads mMet mTodo mMay mTries)) (pPost (some (.int (bI r)))) 0 0 (fun _ => False) := by
  refine Met.ofW (cc := b_Mo_hasLast) (maxL := 5) (ret := (some .boolean)) (by decide) rfl ?_
  intro p e s m args below meth c s₁ B hml hv
  obtain ⟨rfl, hP, hK⟩ := hv
  have hl := lv_entry [.ref h, .int p0, .long p1] (n := 5) (Nat.le_of_ble_eq_true rfl)
  rw [lg_entry_eq]
  generalize (lg_sl [.ref h, .int p0, .long p1] ++ List.replicate (5 - (lg_sl [.ref h, .int p0, .long p1]).length) Slot.unset).toArray = ls at hl ⊢
  refine w_Mo_hasLast B.exec B.bytes hml (fun w hw => atoms_spec (ws := w0_Mo_hasLast) B.pre w (List.mem_cons_of_mem _ hw)) (findClass_of_methodNamed B.named) hK (Nat.le_refl _) (Nat.le_refl _) (Nat.zero_le _) (Nat.zero_le _) hP (fun r er pc ls hd => ?_) hf ls hl
  subst er
  exact W.zret B.exec B.bytes B.returns (bI_nar _) (fun t ht hW => ⟨rfl, ht⟩) (fun q h => by cases h) hd (hlocks := B.notSynchronized)
theorem pd_Mo_ends : y_Mo_ends.cls ≠ "java/lang/invoke/MethodHandle" ∧ y_Mo_ends.cls ≠ "java/lang/invoke/VarHandle" ∧ (parseMethodDescriptor y_Mo_ends.desc).map (fun d => d.parameters.length) = some 5 := by decide +kernel
def f_Mo_ends (n : Nat) (p0 : Int32) (p1 : Int32) (p2 : Int32) (p3 : Int32) (p4 : Int64) (mSize : Nat → Int32) (mLast : Nat → Bool) : Option (Bool) :=
  if p0 = 0 then
    (f_Mo_isLast n p1 p3 mLast).bind fun u4 =>
    if u4 = true then
      some true
    else
      (f_Mo_isLast n p2 p4.toInt32 mLast).bind fun u6 =>
      if u6 = true then
        some true
      else
        some false
  else
    if p0 = 1 then
      (f_Mo_isLast n p1 p3 mLast).bind fun u8 =>
      if u8 = true then
        (f_Mo_isLast n p2 p4.toInt32 mLast).bind fun u10 =>
        if u10 = true then
          some true
        else
          some false
      else
        some false
    else
      if p0 = 2 then
        (f_Mo_hasLast n p2 p4 mSize mLast).bind fun u12 =>
        some u12
      else
        if p4 = 0 then
          some true
        else
          (f_Mo_hasLast n p1 p4 mSize mLast).bind fun u14 =>
          if u14 = true then
            some true
          else
            some false
set_option maxHeartbeats 4000000 in
set_option maxRecDepth 100000 in
theorem w_Mo_ends  {p0 : Int32} {p1 : Int32} {p2 : Int32} {p3 : Int32} {p4 : Int64}  (hx : p.tables.exec = Jvm.exec) (hb : c.code = b_Mo_ends) (hml : c.maxLocals = 7) (hts : ∀ w ∈ gW, w.before args s = true) (hown : s.vm.findClass "RegularSolverModel" = some m.cls) (hK : va_K D vwCl (tG K) s) (hRf : 2 ≤ R.frames) (hRl : 46 ≤ R.locals) (hRc : cells ≤ R.cells) (hRs : slots ≤ R.slots) (hP : va_P D vwCl (moW K h a mErr mLanguages mBounds mSize mGoes mLast mLeft mNext mGroup mFresh mLeader mNumber mRight mEnds mWay mVariable mFactor mLeast mMost mLength mWord mKept mMany mMore mLeads mMet mTodo mMay mTries) H) {out : Bool} (Kr : ∀ (r : Bool), out = r → ∀ (pc : Nat) (ls : Array Slot), decode b_Mo_ends pc = .ok (.ireturn, 1) → W p l e R s m args below meth c H locs cells slots Q (F0 m pc ls [.int (bI r)])) (hf : f_Mo_ends n p0 p1 p2 p3 p4 mSize mLast = some out) (ls : Array Slot) (hl : lv_has ls 7 [(0, .ref h), (1, .int p0), (2, .int p1), (3, .int p2), (4, .int p3), (5, .long p4)]) : W p l e R s m args below meth c H locs cells slots Q (F0 m 0 ls []) := by
  unfold f_Mo_ends at hf
  refine lv_iload_n hx hb d_Mo_ends_0 rfl (lv_at hl 1 rfl) ?_
  by_cases c1 : p0 = 0
  · rw [if_pos c1] at hf
    refine lv_tableIn (tgt := 28) (off := 27) hx hb d_Mo_ends_1 (by rw [c1]; decide) (by rw [c1]; decide) (by rw [c1]; rfl) (by decide) ?_
    refine lv_aload_n hx hb d_Mo_ends_28 rfl (lv_at hl 0 rfl) ?_
    refine lv_iload_n hx hb d_Mo_ends_29 rfl (lv_at hl 2 rfl) ?_
    refine lv_iload hx hb d_Mo_ends_30 (lv_at hl 4 rfl) ?_
    obtain ⟨u4, eu4, hf⟩ := obd hf
    refine p_call (W.runV (As := [.int p1, .int p3]) (rest := []) ⟨hx, hb, hml, hown, hts⟩ (c_Mo_isLast l eu4) (gV 2 hts cd_Mo_isLast ml_Mo_102 im_Mo_isLast se_Mo_isLast ini_Mo rfl rfl pd_Mo_isLast ⟨Nat.le_trans (Nat.le_of_ble_eq_true rfl) hRf, Nat.le_trans (Nat.le_of_ble_eq_true rfl) hRl⟩) ⟨pPre_blind, va_recv hK hP (ci := 0) (q0 := 0) rfl rfl, pPre_of hP hK⟩ rfl rfl hl.1 rfl (lv_room (Nat.le_of_ble_eq_true rfl)) d_Mo_ends_32 ⟨hRc, hRs⟩) ?_
    refine bz_ne (tgt := 49) hx hb d_Mo_ends_35 (by decide) (fun c5 => ?_) (fun c5 => ?_)
    · rw [if_pos c5] at hf
      refine lv_iconst (v := 1) hx hb d_Mo_ends_49 (by decide) ?_
      refine lv_goto (tgt := 54) hx hb d_Mo_ends_50 (by decide) ?_
      exact Kr _ (Option.some.inj hf).symm _ _ d_Mo_ends_54
    · rw [if_neg c5] at hf
      refine lv_aload_n hx hb d_Mo_ends_38 rfl (lv_at hl 0 rfl) ?_
      refine lv_iload_n hx hb d_Mo_ends_39 rfl (lv_at hl 3 rfl) ?_
      refine lv_lload hx hb d_Mo_ends_40 (lv_at hl 5 rfl) ?_
      refine lv_l2i (v := p4.toInt32) hx hb d_Mo_ends_42 rfl ?_
      obtain ⟨u6, eu6, hf⟩ := obd hf
      refine p_call (W.runV (As := [.int p2, .int p4.toInt32]) (rest := []) ⟨hx, hb, hml, hown, hts⟩ (c_Mo_isLast l eu6) (gV 2 hts cd_Mo_isLast ml_Mo_102 im_Mo_isLast se_Mo_isLast ini_Mo rfl rfl pd_Mo_isLast ⟨Nat.le_trans (Nat.le_of_ble_eq_true rfl) hRf, Nat.le_trans (Nat.le_of_ble_eq_true rfl) hRl⟩) ⟨pPre_blind, va_recv hK hP (ci := 0) (q0 := 0) rfl rfl, pPre_of hP hK⟩ rfl rfl hl.1 rfl (lv_room (Nat.le_of_ble_eq_true rfl)) d_Mo_ends_43 ⟨hRc, hRs⟩) ?_
      refine bz_eq (tgt := 53) hx hb d_Mo_ends_46 (by decide) (fun c7 => ?_) (fun c7 => ?_)
      · rw [if_neg c7] at hf
        refine lv_iconst (v := 0) hx hb d_Mo_ends_53 (by decide) ?_
        exact Kr _ (Option.some.inj hf).symm _ _ d_Mo_ends_54
      · rw [if_pos c7] at hf
        refine lv_iconst (v := 1) hx hb d_Mo_ends_49 (by decide) ?_
        refine lv_goto (tgt := 54) hx hb d_Mo_ends_50 (by decide) ?_
        exact Kr _ (Option.some.inj hf).symm _ _ d_Mo_ends_54
  · rw [if_neg c1] at hf
    by_cases c2 : p0 = 1
    · rw [if_pos c2] at hf
      refine lv_tableIn (tgt := 55) (off := 54) hx hb d_Mo_ends_1 (by rw [c2]; decide) (by rw [c2]; decide) (by rw [c2]; rfl) (by decide) ?_
      refine lv_aload_n hx hb d_Mo_ends_55 rfl (lv_at hl 0 rfl) ?_
      refine lv_iload_n hx hb d_Mo_ends_56 rfl (lv_at hl 2 rfl) ?_
      refine lv_iload hx hb d_Mo_ends_57 (lv_at hl 4 rfl) ?_
      obtain ⟨u8, eu8, hf⟩ := obd hf
      refine p_call (W.runV (As := [.int p1, .int p3]) (rest := []) ⟨hx, hb, hml, hown, hts⟩ (c_Mo_isLast l eu8) (gV 2 hts cd_Mo_isLast ml_Mo_102 im_Mo_isLast se_Mo_isLast ini_Mo rfl rfl pd_Mo_isLast ⟨Nat.le_trans (Nat.le_of_ble_eq_true rfl) hRf, Nat.le_trans (Nat.le_of_ble_eq_true rfl) hRl⟩) ⟨pPre_blind, va_recv hK hP (ci := 0) (q0 := 0) rfl rfl, pPre_of hP hK⟩ rfl rfl hl.1 rfl (lv_room (Nat.le_of_ble_eq_true rfl)) d_Mo_ends_59 ⟨hRc, hRs⟩) ?_
      refine bz_eq (tgt := 80) hx hb d_Mo_ends_62 (by decide) (fun c9 => ?_) (fun c9 => ?_)
      · rw [if_neg c9] at hf
        refine lv_iconst (v := 0) hx hb d_Mo_ends_80 (by decide) ?_
        exact Kr _ (Option.some.inj hf).symm _ _ d_Mo_ends_81
      · rw [if_pos c9] at hf
        refine lv_aload_n hx hb d_Mo_ends_65 rfl (lv_at hl 0 rfl) ?_
        refine lv_iload_n hx hb d_Mo_ends_66 rfl (lv_at hl 3 rfl) ?_
        refine lv_lload hx hb d_Mo_ends_67 (lv_at hl 5 rfl) ?_
        refine lv_l2i (v := p4.toInt32) hx hb d_Mo_ends_69 rfl ?_
        obtain ⟨u10, eu10, hf⟩ := obd hf
        refine p_call (W.runV (As := [.int p2, .int p4.toInt32]) (rest := []) ⟨hx, hb, hml, hown, hts⟩ (c_Mo_isLast l eu10) (gV 2 hts cd_Mo_isLast ml_Mo_102 im_Mo_isLast se_Mo_isLast ini_Mo rfl rfl pd_Mo_isLast ⟨Nat.le_trans (Nat.le_of_ble_eq_true rfl) hRf, Nat.le_trans (Nat.le_of_ble_eq_true rfl) hRl⟩) ⟨pPre_blind, va_recv hK hP (ci := 0) (q0 := 0) rfl rfl, pPre_of hP hK⟩ rfl rfl hl.1 rfl (lv_room (Nat.le_of_ble_eq_true rfl)) d_Mo_ends_70 ⟨hRc, hRs⟩) ?_
        refine bz_eq (tgt := 80) hx hb d_Mo_ends_73 (by decide) (fun c11 => ?_) (fun c11 => ?_)
        · rw [if_neg c11] at hf
          refine lv_iconst (v := 0) hx hb d_Mo_ends_80 (by decide) ?_
          exact Kr _ (Option.some.inj hf).symm _ _ d_Mo_ends_81
        · rw [if_pos c11] at hf
          refine lv_iconst (v := 1) hx hb d_Mo_ends_76 (by decide) ?_
          refine lv_goto (tgt := 81) hx hb d_Mo_ends_77 (by decide) ?_
          exact Kr _ (Option.some.inj hf).symm _ _ d_Mo_ends_81
    · rw [if_neg c2] at hf
      by_cases c3 : p0 = 2
      · rw [if_pos c3] at hf
        refine lv_tableIn (tgt := 82) (off := 81) hx hb d_Mo_ends_1 (by rw [c3]; decide) (by rw [c3]; decide) (by rw [c3]; rfl) (by decide) ?_
        refine lv_aload_n hx hb d_Mo_ends_82 rfl (lv_at hl 0 rfl) ?_
        refine lv_iload_n hx hb d_Mo_ends_83 rfl (lv_at hl 3 rfl) ?_
        refine lv_lload hx hb d_Mo_ends_84 (lv_at hl 5 rfl) ?_
        obtain ⟨u12, eu12, hf⟩ := obd hf
        refine p_call (W.runV (As := [.int p2, .long p4]) (rest := []) ⟨hx, hb, hml, hown, hts⟩ (c_Mo_hasLast l eu12) (gV 2 hts cd_Mo_hasLast ml_Mo_106 im_Mo_hasLast se_Mo_hasLast ini_Mo rfl rfl pd_Mo_hasLast ⟨Nat.le_trans (Nat.le_of_ble_eq_true rfl) hRf, Nat.le_trans (Nat.le_of_ble_eq_true rfl) hRl⟩) ⟨pPre_blind, va_recv hK hP (ci := 0) (q0 := 0) rfl rfl, pPre_of hP hK⟩ rfl rfl hl.1 rfl (lv_room (Nat.le_of_ble_eq_true rfl)) d_Mo_ends_86 ⟨hRc, hRs⟩) ?_
        exact Kr _ (Option.some.inj hf).symm _ _ d_Mo_ends_89
      · rw [if_neg c3] at hf
        refine lv_tableOut (tgt := 90) hx hb d_Mo_ends_1 (sw_out 3 (by decide) (by decide) (fun j hj => by match j, hj with | 0, _ => exact c1 | 1, _ => exact c2 | 2, _ => exact c3 | q + 3, h9 => exact absurd h9 (by omega))) (by decide) ?_
        refine lv_lload hx hb d_Mo_ends_90 (lv_at hl 5 rfl) ?_
        refine lv_lconst (v := 0) hx hb d_Mo_ends_92 (by decide) ?_
        refine W.lcmp hx hb d_Mo_ends_93 ?_
        refine lc_eq (tgt := 107) hx hb d_Mo_ends_94 (by decide) (fun c13 => ?_) (fun c13 => ?_)
        · rw [if_pos c13] at hf
          refine lv_iconst (v := 1) hx hb d_Mo_ends_107 (by decide) ?_
          refine lv_goto (tgt := 112) hx hb d_Mo_ends_108 (by decide) ?_
          exact Kr _ (Option.some.inj hf).symm _ _ d_Mo_ends_112
        · rw [if_neg c13] at hf
          refine lv_aload_n hx hb d_Mo_ends_97 rfl (lv_at hl 0 rfl) ?_
          refine lv_iload_n hx hb d_Mo_ends_98 rfl (lv_at hl 2 rfl) ?_
          refine lv_lload hx hb d_Mo_ends_99 (lv_at hl 5 rfl) ?_
          obtain ⟨u14, eu14, hf⟩ := obd hf
          refine p_call (W.runV (As := [.int p1, .long p4]) (rest := []) ⟨hx, hb, hml, hown, hts⟩ (c_Mo_hasLast l eu14) (gV 2 hts cd_Mo_hasLast ml_Mo_106 im_Mo_hasLast se_Mo_hasLast ini_Mo rfl rfl pd_Mo_hasLast ⟨Nat.le_trans (Nat.le_of_ble_eq_true rfl) hRf, Nat.le_trans (Nat.le_of_ble_eq_true rfl) hRl⟩) ⟨pPre_blind, va_recv hK hP (ci := 0) (q0 := 0) rfl rfl, pPre_of hP hK⟩ rfl rfl hl.1 rfl (lv_room (Nat.le_of_ble_eq_true rfl)) d_Mo_ends_101 ⟨hRc, hRs⟩) ?_
          refine bz_eq (tgt := 111) hx hb d_Mo_ends_104 (by decide) (fun c15 => ?_) (fun c15 => ?_)
          · rw [if_neg c15] at hf
            refine lv_iconst (v := 0) hx hb d_Mo_ends_111 (by decide) ?_
            exact Kr _ (Option.some.inj hf).symm _ _ d_Mo_ends_112
          · rw [if_pos c15] at hf
            refine lv_iconst (v := 1) hx hb d_Mo_ends_107 (by decide) ?_
            refine lv_goto (tgt := 112) hx hb d_Mo_ends_108 (by decide) ?_
            exact Kr _ (Option.some.inj hf).symm _ _ d_Mo_ends_112
set_option maxHeartbeats 4000000 in
set_option maxRecDepth 100000 in
theorem c_Mo_ends (l : Launch)  {p0 : Int32} {p1 : Int32} {p2 : Int32} {p3 : Int32} {p4 : Int64}  {r : Bool} (hf : f_Mo_ends n p0 p1 p2 p3 p4 mSize mLast = some r) : Met l y_Mo_ends w0_Mo_ends ({ frames := 2, cells := 0, slots := 0, locals := 46 }) (pPre D K [.ref h, .int p0, .int p1, .int p2, .int p3, .long p4] (moW K h a mErr mLanguages mBounds mSize mGoes mLast mLeft mNext mGroup mFresh mLeader mNumber mRight mEnds mWay mVariable mFactor mLeast mMost mLength mWord mKept mMany mMore mLeads mMet mTodo mMay mTries)) (pPost (some (.int (bI r)))) 0 0 (fun _ => False) := by
  refine Met.ofW (cc := b_Mo_ends) (maxL := 7) (ret := (some .boolean)) (by decide) rfl ?_
  intro p e s m args below meth c s₁ B hml hv
  obtain ⟨rfl, hP, hK⟩ := hv
  have hl := lv_entry [.ref h, .int p0, .int p1, .int p2, .int p3, .long p4] (n := 7) (Nat.le_of_ble_eq_true rfl)
  rw [lg_entry_eq]
  generalize (lg_sl [.ref h, .int p0, .int p1, .int p2, .int p3, .long p4] ++ List.replicate (7 - (lg_sl [.ref h, .int p0, .int p1, .int p2, .int p3, .long p4]).length) Slot.unset).toArray = ls at hl ⊢
  refine w_Mo_ends B.exec B.bytes hml (fun w hw => atoms_spec (ws := w0_Mo_ends) B.pre w (List.mem_cons_of_mem _ hw)) (findClass_of_methodNamed B.named) hK (Nat.le_refl _) (Nat.le_refl _) (Nat.zero_le _) (Nat.zero_le _) hP (fun r er pc ls hd => ?_) hf ls hl
  subst er
  exact W.zret B.exec B.bytes B.returns (bI_nar _) (fun t ht hW => ⟨rfl, ht⟩) (fun q h => by cases h) hd (hlocks := B.notSynchronized)
theorem pd_Mo_alike : y_Mo_alike.cls ≠ "java/lang/invoke/MethodHandle" ∧ y_Mo_alike.cls ≠ "java/lang/invoke/VarHandle" ∧ (parseMethodDescriptor y_Mo_alike.desc).map (fun d => d.parameters.length) = some 2 := by decide +kernel
def f_Mo_alike_19 (n : Nat) (v1 : Int32) (v2 : Int32) (mNext : Nat → Int32) (mGroup : Nat → Int32) : Nat → Int32 → Option ((Bool) ⊕ (Int32))
  | 0, _ => none
  | k + 1, v3 =>
    if 4 ≤ v3 then
      some (.inr v3)
    else
      ogd (gin ((4 * v1) + v3) 3200) <|
      ogd (gin (mNext ((4 * v1) + v3).toNatClampNeg) 800) <|
      ogd (gin ((4 * v2) + v3) 3200) <|
      ogd (gin (mNext ((4 * v2) + v3).toNatClampNeg) 800) <|
      if (mGroup (mNext ((4 * v1) + v3).toNatClampNeg).toNatClampNeg) = (mGroup (mNext ((4 * v2) + v3).toNatClampNeg).toNatClampNeg) then
        f_Mo_alike_19 n v1 v2 mNext mGroup k (v3 + 1)
      else
        some (.inl false)
set_option maxHeartbeats 4000000 in
set_option maxRecDepth 100000 in
theorem w_Mo_alike_19  {v1 : Int32} {v2 : Int32} (hx : p.tables.exec = Jvm.exec) (hb : c.code = b_Mo_alike) (hml : c.maxLocals = 4) (hts : ∀ w ∈ gW, w.before args s = true) (hown : s.vm.findClass "RegularSolverModel" = some m.cls) (hK : va_K D vwCl (tG K) s) (hRf : 0 ≤ R.frames) (hRl : 0 ≤ R.locals) (hRc : cells ≤ R.cells) (hRs : slots ≤ R.slots) (hP : va_P D vwCl (moW K h a mErr mLanguages mBounds mSize mGoes mLast mLeft mNext mGroup mFresh mLeader mNumber mRight mEnds mWay mVariable mFactor mLeast mMost mLength mWord mKept mMany mMore mLeads mMet mTodo mMay mTries) H)  {out : (Bool) ⊕ (Int32)} (Kr : ∀ (r : Bool), out = .inl r → ∀ (pc : Nat) (ls : Array Slot), decode b_Mo_alike pc = .ok (.ireturn, 1) → W p l e R s m args below meth c H locs cells slots Q (F0 m pc ls [.int (bI r)])) (Kx : ∀ (u : Int32), out = .inr u → ∀ (ls : Array Slot), lv_has ls 4 [] → W p l e R s m args below meth c H locs cells slots Q (F0 m 65 ls [])) :
    ∀ (k : Nat) (v3 : Int32), f_Mo_alike_19 n v1 v2 mNext mGroup k v3 = some out → ∀ (ls : Array Slot), lv_has ls 4 [(3, .int v3), (0, .ref h), (1, .int v1), (2, .int v2)] → W p l e R s m args below meth c H locs cells slots Q (F0 m 19 ls []) := by
  intro k
  induction k with
  | zero => intro _ hf; exact nomatch (show none = some out from hf)
  | succ k ih =>
    intro v3 hf ls hl
    rw [f_Mo_alike_19] at hf
    refine lv_iload_n hx hb d_Mo_alike_19 rfl (lv_at hl 0 rfl) ?_
    refine lv_iconst (v := 4) hx hb d_Mo_alike_20 (by decide) ?_
    refine lv_icmp_ge (tgt := 65) hx hb d_Mo_alike_21 (by decide) (fun c10 => ?_) (fun c10 => ?_)
    · rw [if_pos c10] at hf
      exact Kx _ (Option.some.inj hf).symm _ (show lv_has ls 4 [] from lv_sub hl [] rfl)
    · rw [if_neg c10] at hf
      refine lv_aload_n hx hb d_Mo_alike_24 rfl (lv_at hl 1 rfl) ?_
      refine va_get (D := D) (ci := 0) (v := .ref (a 5)) (C := R_Mo) (T := T_Mo) (N := 29) hx hb hts in_Mo hown hK hP 0 rfl rfl 8 (by decide) (hts _ fl_Mo_26) (fun _ h9 => h9) rfl d_Mo_alike_25 ?_
      refine lv_aload_n hx hb d_Mo_alike_28 rfl (lv_at hl 1 rfl) ?_
      refine va_get (D := D) (ci := 0) (v := .ref (a 4)) (C := R_Mo) (T := T_Mo) (N := 29) hx hb hts in_Mo hown hK hP 0 rfl rfl 7 (by decide) (hts _ fl_Mo_23) (fun _ h9 => h9) rfl d_Mo_alike_29 ?_
      refine lv_iconst (v := 4) hx hb d_Mo_alike_32 (by decide) ?_
      refine lv_iload_n hx hb d_Mo_alike_33 rfl (lv_at hl 2 rfl) ?_
      refine lv_imul hx hb d_Mo_alike_34 ?_
      refine lv_iload_n hx hb d_Mo_alike_35 rfl (lv_at hl 0 rfl) ?_
      refine lv_iadd hx hb d_Mo_alike_36 ?_
      obtain ⟨g11, hf⟩ := ogi hf
      refine va_iald hx hb hK hP 5 0 rfl rfl (gin_in g11) d_Mo_alike_37 ?_
      obtain ⟨g12, hf⟩ := ogi hf
      refine va_iald hx hb hK hP 6 0 rfl rfl (gin_in g12) d_Mo_alike_38 ?_
      refine lv_aload_n hx hb d_Mo_alike_39 rfl (lv_at hl 1 rfl) ?_
      refine va_get (D := D) (ci := 0) (v := .ref (a 5)) (C := R_Mo) (T := T_Mo) (N := 29) hx hb hts in_Mo hown hK hP 0 rfl rfl 8 (by decide) (hts _ fl_Mo_26) (fun _ h9 => h9) rfl d_Mo_alike_40 ?_
      refine lv_aload_n hx hb d_Mo_alike_43 rfl (lv_at hl 1 rfl) ?_
      refine va_get (D := D) (ci := 0) (v := .ref (a 4)) (C := R_Mo) (T := T_Mo) (N := 29) hx hb hts in_Mo hown hK hP 0 rfl rfl 7 (by decide) (hts _ fl_Mo_23) (fun _ h9 => h9) rfl d_Mo_alike_44 ?_
      refine lv_iconst (v := 4) hx hb d_Mo_alike_47 (by decide) ?_
      refine lv_iload_n hx hb d_Mo_alike_48 rfl (lv_at hl 3 rfl) ?_
      refine lv_imul hx hb d_Mo_alike_49 ?_
      refine lv_iload_n hx hb d_Mo_alike_50 rfl (lv_at hl 0 rfl) ?_
      refine lv_iadd hx hb d_Mo_alike_51 ?_
      obtain ⟨g13, hf⟩ := ogi hf
      refine va_iald hx hb hK hP 5 0 rfl rfl (gin_in g13) d_Mo_alike_52 ?_
      obtain ⟨g14, hf⟩ := ogi hf
      refine va_iald hx hb hK hP 6 0 rfl rfl (gin_in g14) d_Mo_alike_53 ?_
      refine lv_icmp_eq (tgt := 59) hx hb d_Mo_alike_54 (by decide) (fun c15 => ?_) (fun c15 => ?_)
      · rw [if_pos c15] at hf
        refine lv_iinc (v := v3 + 1) (lv' := [(3, .int (v3 + 1)), (0, .ref h), (1, .int v1), (2, .int v2)]) hx hb d_Mo_alike_59 hl (k := 0) rfl (by first | rfl | (congr 1)) (by decide) rfl (fun ls hl => ?_)
        refine lv_goto (tgt := 19) hx hb d_Mo_alike_62 (by decide) ?_
        exact ih _ hf _ (show lv_has ls 4 [(3, .int (v3 + 1)), (0, .ref h), (1, .int v1), (2, .int v2)] from lv_sub hl [0, 1, 2, 3] rfl)
      · rw [if_neg c15] at hf
        refine lv_iconst (v := 0) hx hb d_Mo_alike_57 (by decide) ?_
        exact Kr _ (Option.some.inj hf).symm _ _ d_Mo_alike_58
def f_Mo_alike (n : Nat) (p0 : Int32) (p1 : Int32) (mNext : Nat → Int32) (mGroup : Nat → Int32) : Option (Bool) :=
  ogd (gin p0 800) <|
  ogd (gin p1 800) <|
  if (mGroup p0.toNatClampNeg) = (mGroup p1.toNatClampNeg) then
    (f_Mo_alike_19 n p0 p1 mNext mGroup n 0).bind fun u16 => u16.elim (fun r => some r) fun x16 =>
    some true
  else
    some false
set_option maxHeartbeats 4000000 in
set_option maxRecDepth 100000 in
theorem w_Mo_alike  {p0 : Int32} {p1 : Int32}  (hx : p.tables.exec = Jvm.exec) (hb : c.code = b_Mo_alike) (hml : c.maxLocals = 4) (hts : ∀ w ∈ gW, w.before args s = true) (hown : s.vm.findClass "RegularSolverModel" = some m.cls) (hK : va_K D vwCl (tG K) s) (hRf : 0 ≤ R.frames) (hRl : 0 ≤ R.locals) (hRc : cells ≤ R.cells) (hRs : slots ≤ R.slots) (hP : va_P D vwCl (moW K h a mErr mLanguages mBounds mSize mGoes mLast mLeft mNext mGroup mFresh mLeader mNumber mRight mEnds mWay mVariable mFactor mLeast mMost mLength mWord mKept mMany mMore mLeads mMet mTodo mMay mTries) H) {out : Bool} (Kr : ∀ (r : Bool), out = r → ∀ (pc : Nat) (ls : Array Slot), decode b_Mo_alike pc = .ok (.ireturn, 1) → W p l e R s m args below meth c H locs cells slots Q (F0 m pc ls [.int (bI r)])) (hf : f_Mo_alike n p0 p1 mNext mGroup = some out) (ls : Array Slot) (hl : lv_has ls 4 [(0, .ref h), (1, .int p0), (2, .int p1)]) : W p l e R s m args below meth c H locs cells slots Q (F0 m 0 ls []) := by
  unfold f_Mo_alike at hf
  refine lv_aload_n hx hb d_Mo_alike_0 rfl (lv_at hl 0 rfl) ?_
  refine va_get (D := D) (ci := 0) (v := .ref (a 5)) (C := R_Mo) (T := T_Mo) (N := 29) hx hb hts in_Mo hown hK hP 0 rfl rfl 8 (by decide) (hts _ fl_Mo_26) (fun _ h9 => h9) rfl d_Mo_alike_1 ?_
  refine lv_iload_n hx hb d_Mo_alike_4 rfl (lv_at hl 1 rfl) ?_
  obtain ⟨g1, hf⟩ := ogi hf
  refine va_iald hx hb hK hP 6 0 rfl rfl (gin_in g1) d_Mo_alike_5 ?_
  refine lv_aload_n hx hb d_Mo_alike_6 rfl (lv_at hl 0 rfl) ?_
  refine va_get (D := D) (ci := 0) (v := .ref (a 5)) (C := R_Mo) (T := T_Mo) (N := 29) hx hb hts in_Mo hown hK hP 0 rfl rfl 8 (by decide) (hts _ fl_Mo_26) (fun _ h9 => h9) rfl d_Mo_alike_7 ?_
  refine lv_iload_n hx hb d_Mo_alike_10 rfl (lv_at hl 2 rfl) ?_
  obtain ⟨g2, hf⟩ := ogi hf
  refine va_iald hx hb hK hP 6 0 rfl rfl (gin_in g2) d_Mo_alike_11 ?_
  refine lv_icmp_eq (tgt := 17) hx hb d_Mo_alike_12 (by decide) (fun c3 => ?_) (fun c3 => ?_)
  · rw [if_pos c3] at hf
    refine lv_iconst (v := 0) hx hb d_Mo_alike_17 (by decide) ?_
    refine lv_istore_n (lv' := [(3, .int 0), (0, .ref h), (1, .int p0), (2, .int p1)]) hx hb d_Mo_alike_18 rfl hl (by decide) rfl (fun ls hl => ?_)
    obtain ⟨u16, eu16, hf⟩ := obd hf
    refine w_Mo_alike_19 hx hb hml hts hown hK hRf hRl hRc hRs hP (fun r er pc ls hd => Kr r (by subst er; exact (Option.some.inj hf).symm) pc ls hd) (fun x16 eu ls hl => ?_) _ _ eu16 _ (show lv_has ls 4 [(3, .int 0), (0, .ref h), (1, .int p0), (2, .int p1)] from lv_sub hl [0, 1, 2, 3] rfl)
    subst eu
    replace hf := oel hf
    refine lv_iconst (v := 1) hx hb d_Mo_alike_65 (by decide) ?_
    exact Kr _ (Option.some.inj hf).symm _ _ d_Mo_alike_66
  · rw [if_neg c3] at hf
    refine lv_iconst (v := 0) hx hb d_Mo_alike_15 (by decide) ?_
    exact Kr _ (Option.some.inj hf).symm _ _ d_Mo_alike_16
set_option maxHeartbeats 4000000 in
set_option maxRecDepth 100000 in
theorem c_Mo_alike (l : Launch)  {p0 : Int32} {p1 : Int32}  {r : Bool} (hf : f_Mo_alike n p0 p1 mNext mGroup = some r) : Met l y_Mo_alike w0_Mo_alike ({ frames := 0, cells := 0, slots := 0, locals := 0 }) (pPre D K [.ref h, .int p0, .int p1] (moW K h a mErr mLanguages mBounds mSize mGoes mLast mLeft mNext mGroup mFresh mLeader mNumber mRight mEnds mWay mVariable mFactor mLeast mMost mLength mWord mKept mMany mMore mLeads mMet mTodo mMay mTries)) (pPost (some (.int (bI r)))) 0 0 (fun _ => False) := by
  refine Met.ofW (cc := b_Mo_alike) (maxL := 4) (ret := (some .boolean)) (by decide) rfl ?_
  intro p e s m args below meth c s₁ B hml hv
  obtain ⟨rfl, hP, hK⟩ := hv
  have hl := lv_entry [.ref h, .int p0, .int p1] (n := 4) (Nat.le_of_ble_eq_true rfl)
  rw [lg_entry_eq]
  generalize (lg_sl [.ref h, .int p0, .int p1] ++ List.replicate (4 - (lg_sl [.ref h, .int p0, .int p1]).length) Slot.unset).toArray = ls at hl ⊢
  refine w_Mo_alike B.exec B.bytes hml (fun w hw => atoms_spec (ws := w0_Mo_alike) B.pre w (List.mem_cons_of_mem _ hw)) (findClass_of_methodNamed B.named) hK (Nat.le_refl _) (Nat.le_refl _) (Nat.zero_le _) (Nat.zero_le _) hP (fun r er pc ls hd => ?_) hf ls hl
  subst er
  exact W.zret B.exec B.bytes B.returns (bI_nar _) (fun t ht hW => ⟨rfl, ht⟩) (fun q h => by cases h) hd (hlocks := B.notSynchronized)
theorem pd_Mo_isLanguage : y_Mo_isLanguage.cls ≠ "java/lang/invoke/MethodHandle" ∧ y_Mo_isLanguage.cls ≠ "java/lang/invoke/VarHandle" ∧ (parseMethodDescriptor y_Mo_isLanguage.desc).map (fun d => d.parameters.length) = some 1 := by decide +kernel
def f_Mo_isLanguage (n : Nat) (p0 : Int32) (mLanguages : Int32) : Option (Bool) :=
  (f_Mo_in n p0.toInt64 0 ((mLanguages - 1).toInt64)).bind fun u1 =>
  some u1
set_option maxHeartbeats 4000000 in
set_option maxRecDepth 100000 in
theorem w_Mo_isLanguage  {p0 : Int32}  (hx : p.tables.exec = Jvm.exec) (hb : c.code = b_Mo_isLanguage) (hml : c.maxLocals = 2) (hts : ∀ w ∈ gW, w.before args s = true) (hown : s.vm.findClass "RegularSolverModel" = some m.cls) (hK : va_K D vwCl (tG K) s) (hRf : 1 ≤ R.frames) (hRl : 25 ≤ R.locals) (hRc : cells ≤ R.cells) (hRs : slots ≤ R.slots) (hP : va_P D vwCl (moW K h a mErr mLanguages mBounds mSize mGoes mLast mLeft mNext mGroup mFresh mLeader mNumber mRight mEnds mWay mVariable mFactor mLeast mMost mLength mWord mKept mMany mMore mLeads mMet mTodo mMay mTries) H) {out : Bool} (Kr : ∀ (r : Bool), out = r → ∀ (pc : Nat) (ls : Array Slot), decode b_Mo_isLanguage pc = .ok (.ireturn, 1) → W p l e R s m args below meth c H locs cells slots Q (F0 m pc ls [.int (bI r)])) (hf : f_Mo_isLanguage n p0 mLanguages = some out) (ls : Array Slot) (hl : lv_has ls 2 [(0, .ref h), (1, .int p0)]) : W p l e R s m args below meth c H locs cells slots Q (F0 m 0 ls []) := by
  unfold f_Mo_isLanguage at hf
  refine lv_iload_n hx hb d_Mo_isLanguage_0 rfl (lv_at hl 1 rfl) ?_
  refine lv_i2l (v := p0.toInt64) hx hb d_Mo_isLanguage_1 rfl ?_
  refine lv_lconst (v := 0) hx hb d_Mo_isLanguage_2 (by decide) ?_
  refine lv_aload_n hx hb d_Mo_isLanguage_3 rfl (lv_at hl 0 rfl) ?_
  refine va_get (D := D) (ci := 0) (v := .int mLanguages) (C := R_Mo) (T := T_Mo) (N := 29) hx hb hts in_Mo hown hK hP 0 rfl rfl 1 (by decide) (hts _ fl_Mo_88) (fun _ h9 => h9) rfl d_Mo_isLanguage_4 ?_
  refine lv_iconst (v := 1) hx hb d_Mo_isLanguage_7 (by decide) ?_
  refine lv_isub hx hb d_Mo_isLanguage_8 ?_
  refine lv_i2l (v := (mLanguages - 1).toInt64) hx hb d_Mo_isLanguage_9 rfl ?_
  obtain ⟨u1, eu1, hf⟩ := obd hf
  refine p_call (W.runS (As := [.long p0.toInt64, .long 0, .long ((mLanguages - 1).toInt64)]) (rest := []) ⟨hx, hb, hml, hown, hts⟩ (c_Mo_in l eu1) (gS 3 hts cd_Mo_in ml_Mo_91 st_Mo_in ini_Mo rfl rfl pd_Mo_in ⟨Nat.le_trans (Nat.le_of_ble_eq_true rfl) hRf, Nat.le_trans (Nat.le_of_ble_eq_true rfl) hRl⟩) ⟨pPre_blind, pPre_of hP hK⟩ rfl rfl hl.1 rfl (lv_room (Nat.le_of_ble_eq_true rfl)) d_Mo_isLanguage_10 ⟨hRc, hRs⟩) ?_
  exact Kr _ (Option.some.inj hf).symm _ _ d_Mo_isLanguage_13
set_option maxHeartbeats 4000000 in
set_option maxRecDepth 100000 in
theorem c_Mo_isLanguage (l : Launch)  {p0 : Int32}  {r : Bool} (hf : f_Mo_isLanguage n p0 mLanguages = some r) : Met l y_Mo_isLanguage w0_Mo_isLanguage ({ frames := 1, cells := 0, slots := 0, locals := 25 }) (pPre D K [.ref h, .int p0] (moW K h a mErr mLanguages mBounds mSize mGoes mLast mLeft mNext mGroup mFresh mLeader mNumber mRight mEnds mWay mVariable mFactor mLeast mMost mLength mWord mKept mMany mMore mLeads mMet mTodo mMay mTries)) (pPost (some (.int (bI r)))) 0 0 (fun _ => False) := by
  refine Met.ofW (cc := b_Mo_isLanguage) (maxL := 2) (ret := (some .boolean)) (by decide) rfl ?_
  intro p e s m args below meth c s₁ B hml hv
  obtain ⟨rfl, hP, hK⟩ := hv
  have hl := lv_entry [.ref h, .int p0] (n := 2) (Nat.le_of_ble_eq_true rfl)
  rw [lg_entry_eq]
  generalize (lg_sl [.ref h, .int p0] ++ List.replicate (2 - (lg_sl [.ref h, .int p0]).length) Slot.unset).toArray = ls at hl ⊢
  refine w_Mo_isLanguage B.exec B.bytes hml (fun w hw => atoms_spec (ws := w0_Mo_isLanguage) B.pre w (List.mem_cons_of_mem _ hw)) (findClass_of_methodNamed B.named) hK (Nat.le_refl _) (Nat.le_refl _) (Nat.zero_le _) (Nat.zero_le _) hP (fun r er pc ls hd => ?_) hf ls hl
  subst er
  exact W.zret B.exec B.bytes B.returns (bI_nar _) (fun t ht hW => ⟨rfl, ht⟩) (fun q h => by cases h) hd (hlocks := B.notSynchronized)
theorem pd_Mo_holds : y_Mo_holds.cls ≠ "java/lang/invoke/MethodHandle" ∧ y_Mo_holds.cls ≠ "java/lang/invoke/VarHandle" ∧ (parseMethodDescriptor y_Mo_holds.desc).map (fun d => d.parameters.length) = some 0 := by decide +kernel
def f_Mo_holds_14 (n : Nat) (v1 : Int32) (mFactor : Nat → Int32) (mTries : Nat → Int32) : Nat → Int32 → Int32 → Option (Int32 × Int32)
  | 0, _, _ => none
  | k + 1, v3, v2 =>
    if 4 ≤ v3 then
      some (v3, v2)
    else
      ogd (gin ((4 * v1) + v3) 32) <|
      ogd (gin v3 4) <|
      f_Mo_holds_14 n v1 mFactor mTries k (v3 + 1) (v2 + ((mFactor ((4 * v1) + v3).toNatClampNeg) * (mTries v3.toNatClampNeg)))
set_option maxHeartbeats 4000000 in
set_option maxRecDepth 100000 in
theorem w_Mo_holds_14  {v1 : Int32} (hx : p.tables.exec = Jvm.exec) (hb : c.code = b_Mo_holds) (hml : c.maxLocals = 4) (hts : ∀ w ∈ gW, w.before args s = true) (hown : s.vm.findClass "RegularSolverModel" = some m.cls) (hK : va_K D vwCl (tG K) s) (hRf : 0 ≤ R.frames) (hRl : 0 ≤ R.locals) (hRc : cells ≤ R.cells) (hRs : slots ≤ R.slots) (hP : va_P D vwCl (moW K h a mErr mLanguages mBounds mSize mGoes mLast mLeft mNext mGroup mFresh mLeader mNumber mRight mEnds mWay mVariable mFactor mLeast mMost mLength mWord mKept mMany mMore mLeads mMet mTodo mMay mTries) H)  {out : Int32 × Int32} (Kx : ∀ (u : Int32 × Int32), out = u → ∀ (ls : Array Slot), lv_has ls 4 [(2, .int u.2), (1, .int v1), (0, .ref h)] → W p l e R s m args below meth c H locs cells slots Q (F0 m 45 ls [])) :
    ∀ (k : Nat) (v3 : Int32) (v2 : Int32), f_Mo_holds_14 n v1 mFactor mTries k v3 v2 = some out → ∀ (ls : Array Slot), lv_has ls 4 [(3, .int v3), (2, .int v2), (1, .int v1), (0, .ref h)] → W p l e R s m args below meth c H locs cells slots Q (F0 m 14 ls []) := by
  intro k
  induction k with
  | zero => intro _ _ hf; exact nomatch (show none = some out from hf)
  | succ k ih =>
    intro v3 v2 hf ls hl
    rw [f_Mo_holds_14] at hf
    refine lv_iload_n hx hb d_Mo_holds_14 rfl (lv_at hl 0 rfl) ?_
    refine lv_iconst (v := 4) hx hb d_Mo_holds_15 (by decide) ?_
    refine lv_icmp_ge (tgt := 45) hx hb d_Mo_holds_16 (by decide) (fun c11 => ?_) (fun c11 => ?_)
    · rw [if_pos c11] at hf
      exact Kx _ (Option.some.inj hf).symm _ (show lv_has ls 4 [(2, .int v2), (1, .int v1), (0, .ref h)] from lv_sub hl [1, 2, 3] rfl)
    · rw [if_neg c11] at hf
      refine lv_iload_n hx hb d_Mo_holds_19 rfl (lv_at hl 1 rfl) ?_
      refine lv_aload_n hx hb d_Mo_holds_20 rfl (lv_at hl 3 rfl) ?_
      refine va_get (D := D) (ci := 0) (v := .ref (a 12)) (C := R_Mo) (T := T_Mo) (N := 29) hx hb hts in_Mo hown hK hP 0 rfl rfl 16 (by decide) (hts _ fl_Mo_48) (fun _ h9 => h9) rfl d_Mo_holds_21 ?_
      refine lv_iconst (v := 4) hx hb d_Mo_holds_24 (by decide) ?_
      refine lv_iload_n hx hb d_Mo_holds_25 rfl (lv_at hl 2 rfl) ?_
      refine lv_imul hx hb d_Mo_holds_26 ?_
      refine lv_iload_n hx hb d_Mo_holds_27 rfl (lv_at hl 0 rfl) ?_
      refine lv_iadd hx hb d_Mo_holds_28 ?_
      obtain ⟨g12, hf⟩ := ogi hf
      refine va_iald hx hb hK hP 13 0 rfl rfl (gin_in g12) d_Mo_holds_29 ?_
      refine lv_aload_n hx hb d_Mo_holds_30 rfl (lv_at hl 3 rfl) ?_
      refine va_get (D := D) (ci := 0) (v := .ref (a 23)) (C := R_Mo) (T := T_Mo) (N := 29) hx hb hts in_Mo hown hK hP 0 rfl rfl 28 (by decide) (hts _ fl_Mo_81) (fun _ h9 => h9) rfl d_Mo_holds_31 ?_
      refine lv_iload_n hx hb d_Mo_holds_34 rfl (lv_at hl 0 rfl) ?_
      obtain ⟨g13, hf⟩ := ogi hf
      refine va_iald hx hb hK hP 24 0 rfl rfl (gin_in g13) d_Mo_holds_35 ?_
      refine lv_imul hx hb d_Mo_holds_36 ?_
      refine lv_iadd hx hb d_Mo_holds_37 ?_
      refine lv_istore_n (lv' := [(2, .int (v2 + ((mFactor ((4 * v1) + v3).toNatClampNeg) * (mTries v3.toNatClampNeg)))), (3, .int v3), (1, .int v1), (0, .ref h)]) hx hb d_Mo_holds_38 rfl hl (by decide) rfl (fun ls hl => ?_)
      refine lv_iinc (v := v3 + 1) (lv' := [(3, .int (v3 + 1)), (2, .int (v2 + ((mFactor ((4 * v1) + v3).toNatClampNeg) * (mTries v3.toNatClampNeg)))), (1, .int v1), (0, .ref h)]) hx hb d_Mo_holds_39 hl (k := 1) rfl (by first | rfl | (congr 1)) (by decide) rfl (fun ls hl => ?_)
      refine lv_goto (tgt := 14) hx hb d_Mo_holds_42 (by decide) ?_
      exact ih _ _ hf _ (show lv_has ls 4 [(3, .int (v3 + 1)), (2, .int (v2 + ((mFactor ((4 * v1) + v3).toNatClampNeg) * (mTries v3.toNatClampNeg)))), (1, .int v1), (0, .ref h)] from lv_sub hl [0, 1, 2, 3] rfl)
def f_Mo_holds_2 (n : Nat) (mBounds : Int32) (mFactor : Nat → Int32) (mLeast : Nat → Int32) (mMost : Nat → Int32) (mTries : Nat → Int32) : Nat → Int32 → Option ((Bool) ⊕ (Int32))
  | 0, _ => none
  | k + 1, v1 =>
    if mBounds ≤ v1 then
      some (.inr v1)
    else
      (f_Mo_holds_14 n v1 mFactor mTries n 0 0).bind fun u14 =>
      ogd (gin v1 8) <|
      if u14.2 < (mLeast v1.toNatClampNeg) then
        some (.inl false)
      else
        ogd (gin v1 8) <|
        if u14.2 ≤ (mMost v1.toNatClampNeg) then
          f_Mo_holds_2 n mBounds mFactor mLeast mMost mTries k (v1 + 1)
        else
          some (.inl false)
set_option maxHeartbeats 4000000 in
set_option maxRecDepth 100000 in
theorem w_Mo_holds_2   (hx : p.tables.exec = Jvm.exec) (hb : c.code = b_Mo_holds) (hml : c.maxLocals = 4) (hts : ∀ w ∈ gW, w.before args s = true) (hown : s.vm.findClass "RegularSolverModel" = some m.cls) (hK : va_K D vwCl (tG K) s) (hRf : 0 ≤ R.frames) (hRl : 0 ≤ R.locals) (hRc : cells ≤ R.cells) (hRs : slots ≤ R.slots) (hP : va_P D vwCl (moW K h a mErr mLanguages mBounds mSize mGoes mLast mLeft mNext mGroup mFresh mLeader mNumber mRight mEnds mWay mVariable mFactor mLeast mMost mLength mWord mKept mMany mMore mLeads mMet mTodo mMay mTries) H)  {out : (Bool) ⊕ (Int32)} (Kr : ∀ (r : Bool), out = .inl r → ∀ (pc : Nat) (ls : Array Slot), decode b_Mo_holds pc = .ok (.ireturn, 1) → W p l e R s m args below meth c H locs cells slots Q (F0 m pc ls [.int (bI r)])) (Kx : ∀ (u : Int32), out = .inr u → ∀ (ls : Array Slot), lv_has ls 4 [] → W p l e R s m args below meth c H locs cells slots Q (F0 m 73 ls [])) :
    ∀ (k : Nat) (v1 : Int32), f_Mo_holds_2 n mBounds mFactor mLeast mMost mTries k v1 = some out → ∀ (ls : Array Slot), lv_has ls 4 [(1, .int v1), (0, .ref h)] → W p l e R s m args below meth c H locs cells slots Q (F0 m 2 ls []) := by
  intro k
  induction k with
  | zero => intro _ hf; exact nomatch (show none = some out from hf)
  | succ k ih =>
    intro v1 hf ls hl
    rw [f_Mo_holds_2] at hf
    refine lv_iload_n hx hb d_Mo_holds_2 rfl (lv_at hl 0 rfl) ?_
    refine lv_aload_n hx hb d_Mo_holds_3 rfl (lv_at hl 1 rfl) ?_
    refine va_get (D := D) (ci := 0) (v := .int mBounds) (C := R_Mo) (T := T_Mo) (N := 29) hx hb hts in_Mo hown hK hP 0 rfl rfl 2 (by decide) (hts _ fl_Mo_166) (fun _ h9 => h9) rfl d_Mo_holds_4 ?_
    refine lv_icmp_ge (tgt := 73) hx hb d_Mo_holds_7 (by decide) (fun c10 => ?_) (fun c10 => ?_)
    · rw [if_pos c10] at hf
      exact Kx _ (Option.some.inj hf).symm _ (show lv_has ls 4 [] from lv_sub hl [] rfl)
    · rw [if_neg c10] at hf
      refine lv_iconst (v := 0) hx hb d_Mo_holds_10 (by decide) ?_
      refine lv_istore_n (lv' := [(2, .int 0), (1, .int v1), (0, .ref h)]) hx hb d_Mo_holds_11 rfl hl (by decide) rfl (fun ls hl => ?_)
      refine lv_iconst (v := 0) hx hb d_Mo_holds_12 (by decide) ?_
      refine lv_istore_n (lv' := [(3, .int 0), (2, .int 0), (1, .int v1), (0, .ref h)]) hx hb d_Mo_holds_13 rfl hl (by decide) rfl (fun ls hl => ?_)
      obtain ⟨u14, eu14, hf⟩ := obd hf
      refine w_Mo_holds_14 hx hb hml hts hown hK hRf hRl hRc hRs hP  (fun u14q eu ls hl => ?_) _ _ _ eu14 _ (show lv_has ls 4 [(3, .int 0), (2, .int 0), (1, .int v1), (0, .ref h)] from lv_sub hl [0, 1, 2, 3] rfl)
      subst eu
      refine lv_iload_n hx hb d_Mo_holds_45 rfl (lv_at hl 0 rfl) ?_
      refine lv_aload_n hx hb d_Mo_holds_46 rfl (lv_at hl 2 rfl) ?_
      refine va_get (D := D) (ci := 0) (v := .ref (a 13)) (C := R_Mo) (T := T_Mo) (N := 29) hx hb hts in_Mo hown hK hP 0 rfl rfl 17 (by decide) (hts _ fl_Mo_51) (fun _ h9 => h9) rfl d_Mo_holds_47 ?_
      refine lv_iload_n hx hb d_Mo_holds_50 rfl (lv_at hl 1 rfl) ?_
      obtain ⟨g15, hf⟩ := ogi hf
      refine va_iald hx hb hK hP 14 0 rfl rfl (gin_in g15) d_Mo_holds_51 ?_
      refine lv_icmp_lt (tgt := 65) hx hb d_Mo_holds_52 (by decide) (fun c16 => ?_) (fun c16 => ?_)
      · rw [if_pos c16] at hf
        refine lv_iconst (v := 0) hx hb d_Mo_holds_65 (by decide) ?_
        exact Kr _ (Option.some.inj hf).symm _ _ d_Mo_holds_66
      · rw [if_neg c16] at hf
        refine lv_iload_n hx hb d_Mo_holds_55 rfl (lv_at hl 0 rfl) ?_
        refine lv_aload_n hx hb d_Mo_holds_56 rfl (lv_at hl 2 rfl) ?_
        refine va_get (D := D) (ci := 0) (v := .ref (a 14)) (C := R_Mo) (T := T_Mo) (N := 29) hx hb hts in_Mo hown hK hP 0 rfl rfl 18 (by decide) (hts _ fl_Mo_54) (fun _ h9 => h9) rfl d_Mo_holds_57 ?_
        refine lv_iload_n hx hb d_Mo_holds_60 rfl (lv_at hl 1 rfl) ?_
        obtain ⟨g17, hf⟩ := ogi hf
        refine va_iald hx hb hK hP 15 0 rfl rfl (gin_in g17) d_Mo_holds_61 ?_
        refine lv_icmp_le (tgt := 67) hx hb d_Mo_holds_62 (by decide) (fun c18 => ?_) (fun c18 => ?_)
        · rw [if_pos c18] at hf
          refine lv_iinc (v := v1 + 1) (lv' := [(1, .int (v1 + 1)), (2, .int u14.2), (0, .ref h)]) hx hb d_Mo_holds_67 hl (k := 1) rfl (by first | rfl | (congr 1)) (by decide) rfl (fun ls hl => ?_)
          refine lv_goto (tgt := 2) hx hb d_Mo_holds_70 (by decide) ?_
          exact ih _ hf _ (show lv_has ls 4 [(1, .int (v1 + 1)), (0, .ref h)] from lv_sub hl [0, 2] rfl)
        · rw [if_neg c18] at hf
          refine lv_iconst (v := 0) hx hb d_Mo_holds_65 (by decide) ?_
          exact Kr _ (Option.some.inj hf).symm _ _ d_Mo_holds_66
def f_Mo_holds (n : Nat) (mBounds : Int32) (mFactor : Nat → Int32) (mLeast : Nat → Int32) (mMost : Nat → Int32) (mTries : Nat → Int32) : Option (Bool) :=
  (f_Mo_holds_2 n mBounds mFactor mLeast mMost mTries n 0).bind fun u19 => u19.elim (fun r => some r) fun x19 =>
  some true
set_option maxHeartbeats 4000000 in
set_option maxRecDepth 100000 in
theorem w_Mo_holds    (hx : p.tables.exec = Jvm.exec) (hb : c.code = b_Mo_holds) (hml : c.maxLocals = 4) (hts : ∀ w ∈ gW, w.before args s = true) (hown : s.vm.findClass "RegularSolverModel" = some m.cls) (hK : va_K D vwCl (tG K) s) (hRf : 0 ≤ R.frames) (hRl : 0 ≤ R.locals) (hRc : cells ≤ R.cells) (hRs : slots ≤ R.slots) (hP : va_P D vwCl (moW K h a mErr mLanguages mBounds mSize mGoes mLast mLeft mNext mGroup mFresh mLeader mNumber mRight mEnds mWay mVariable mFactor mLeast mMost mLength mWord mKept mMany mMore mLeads mMet mTodo mMay mTries) H) {out : Bool} (Kr : ∀ (r : Bool), out = r → ∀ (pc : Nat) (ls : Array Slot), decode b_Mo_holds pc = .ok (.ireturn, 1) → W p l e R s m args below meth c H locs cells slots Q (F0 m pc ls [.int (bI r)])) (hf : f_Mo_holds n mBounds mFactor mLeast mMost mTries = some out) (ls : Array Slot) (hl : lv_has ls 4 [(0, .ref h)]) : W p l e R s m args below meth c H locs cells slots Q (F0 m 0 ls []) := by
  unfold f_Mo_holds at hf
  refine lv_iconst (v := 0) hx hb d_Mo_holds_0 (by decide) ?_
  refine lv_istore_n (lv' := [(1, .int 0), (0, .ref h)]) hx hb d_Mo_holds_1 rfl hl (by decide) rfl (fun ls hl => ?_)
  obtain ⟨u19, eu19, hf⟩ := obd hf
  refine w_Mo_holds_2 hx hb hml hts hown hK hRf hRl hRc hRs hP (fun r er pc ls hd => Kr r (by subst er; exact (Option.some.inj hf).symm) pc ls hd) (fun x19 eu ls hl => ?_) _ _ eu19 _ (show lv_has ls 4 [(1, .int 0), (0, .ref h)] from lv_sub hl [0, 1] rfl)
  subst eu
  replace hf := oel hf
  refine lv_iconst (v := 1) hx hb d_Mo_holds_73 (by decide) ?_
  exact Kr _ (Option.some.inj hf).symm _ _ d_Mo_holds_74
set_option maxHeartbeats 4000000 in
set_option maxRecDepth 100000 in
theorem c_Mo_holds (l : Launch)    {r : Bool} (hf : f_Mo_holds n mBounds mFactor mLeast mMost mTries = some r) : Met l y_Mo_holds w0_Mo_holds ({ frames := 0, cells := 0, slots := 0, locals := 0 }) (pPre D K [.ref h] (moW K h a mErr mLanguages mBounds mSize mGoes mLast mLeft mNext mGroup mFresh mLeader mNumber mRight mEnds mWay mVariable mFactor mLeast mMost mLength mWord mKept mMany mMore mLeads mMet mTodo mMay mTries)) (pPost (some (.int (bI r)))) 0 0 (fun _ => False) := by
  refine Met.ofW (cc := b_Mo_holds) (maxL := 4) (ret := (some .boolean)) (by decide) rfl ?_
  intro p e s m args below meth c s₁ B hml hv
  obtain ⟨rfl, hP, hK⟩ := hv
  have hl := lv_entry [.ref h] (n := 4) (Nat.le_of_ble_eq_true rfl)
  rw [lg_entry_eq]
  generalize (lg_sl [.ref h] ++ List.replicate (4 - (lg_sl [.ref h]).length) Slot.unset).toArray = ls at hl ⊢
  refine w_Mo_holds B.exec B.bytes hml (fun w hw => atoms_spec (ws := w0_Mo_holds) B.pre w (List.mem_cons_of_mem _ hw)) (findClass_of_methodNamed B.named) hK (Nat.le_refl _) (Nat.le_refl _) (Nat.zero_le _) (Nat.zero_le _) hP (fun r er pc ls hd => ?_) hf ls hl
  subst er
  exact W.zret B.exec B.bytes B.returns (bI_nar _) (fun t ht hW => ⟨rfl, ht⟩) (fun q h => by cases h) hd (hlocks := B.notSynchronized)
theorem pd_Mo_firstWord : y_Mo_firstWord.cls ≠ "java/lang/invoke/MethodHandle" ∧ y_Mo_firstWord.cls ≠ "java/lang/invoke/VarHandle" ∧ (parseMethodDescriptor y_Mo_firstWord.desc).map (fun d => d.parameters.length) = some 2 := by decide +kernel
def f_Mo_firstWord_18 (n : Nat) (v6 : Int32) (v5 : Int32) (v1 : Int32) (mGoes : Nat → Int32) (mLeads : Nat → Int64) : Nat → Int32 → Option (Int32)
  | 0, _ => none
  | k + 1, v7 =>
    ogd (gin v6 32) <|
    (f_Mo_go n v1 v5 v7 mGoes).bind fun u9 =>
    if ((lshr (mLeads v6.toNatClampNeg) u9) &&& 1) = 0 then
      f_Mo_firstWord_18 n v6 v5 v1 mGoes mLeads k (v7 + 1)
    else
      some v7
set_option maxHeartbeats 4000000 in
set_option maxRecDepth 100000 in
theorem w_Mo_firstWord_18  {v6 : Int32} {v5 : Int32} {v3 : Int64} {v1 : Int32} (hx : p.tables.exec = Jvm.exec) (hb : c.code = b_Mo_firstWord) (hml : c.maxLocals = 8) (hts : ∀ w ∈ gW, w.before args s = true) (hown : s.vm.findClass "RegularSolverModel" = some m.cls) (hK : va_K D vwCl (tG K) s) (hRf : 1 ≤ R.frames) (hRl : 23 ≤ R.locals) (hRc : cells ≤ R.cells) (hRs : slots ≤ R.slots) (hP : va_P D vwCl (moW K h a mErr mLanguages mBounds mSize mGoes mLast mLeft mNext mGroup mFresh mLeader mNumber mRight mEnds mWay mVariable mFactor mLeast mMost mLength mWord mKept mMany mMore mLeads mMet mTodo mMay mTries) H)  {out : Int32} (Kx : ∀ (u : Int32), out = u → ∀ (ls : Array Slot), lv_has ls 8 [(7, .int u), (6, .int v6), (5, .int v5), (3, .long v3), (0, .ref h), (1, .int v1)] → W p l e R s m args below meth c H locs cells slots Q (F0 m 48 ls [])) :
    ∀ (k : Nat) (v7 : Int32), f_Mo_firstWord_18 n v6 v5 v1 mGoes mLeads k v7 = some out → ∀ (ls : Array Slot), lv_has ls 8 [(7, .int v7), (6, .int v6), (5, .int v5), (3, .long v3), (0, .ref h), (1, .int v1)] → W p l e R s m args below meth c H locs cells slots Q (F0 m 18 ls []) := by
  intro k
  induction k with
  | zero => intro _ hf; exact nomatch (show none = some out from hf)
  | succ k ih =>
    intro v7 hf ls hl
    rw [f_Mo_firstWord_18] at hf
    refine lv_aload_n hx hb d_Mo_firstWord_18 rfl (lv_at hl 4 rfl) ?_
    refine va_get (D := D) (ci := 0) (v := .ref (a 19)) (C := R_Mo) (T := T_Mo) (N := 29) hx hb hts in_Mo hown hK hP 0 rfl rfl 24 (by decide) (hts _ fl_Mo_69) (fun _ h9 => h9) rfl d_Mo_firstWord_19 ?_
    refine lv_iload hx hb d_Mo_firstWord_22 (lv_at hl 1 rfl) ?_
    obtain ⟨g8, hf⟩ := ogi hf
    refine va_lald hx hb hK hP 20 1 rfl rfl (gin_in g8) d_Mo_firstWord_24 ?_
    refine lv_aload_n hx hb d_Mo_firstWord_25 rfl (lv_at hl 4 rfl) ?_
    refine lv_iload_n hx hb d_Mo_firstWord_26 rfl (lv_at hl 5 rfl) ?_
    refine lv_iload hx hb d_Mo_firstWord_27 (lv_at hl 2 rfl) ?_
    refine lv_iload hx hb d_Mo_firstWord_29 (lv_at hl 0 rfl) ?_
    obtain ⟨u9, eu9, hf⟩ := obd hf
    refine p_call (W.runV (As := [.int v1, .int v5, .int v7]) (rest := [.long (mLeads v6.toNatClampNeg)]) ⟨hx, hb, hml, hown, hts⟩ (c_Mo_go l eu9) (gV 3 hts cd_Mo_go ml_Mo_98 im_Mo_go se_Mo_go ini_Mo rfl rfl pd_Mo_go ⟨Nat.le_trans (Nat.le_of_ble_eq_true rfl) hRf, Nat.le_trans (Nat.le_of_ble_eq_true rfl) hRl⟩) ⟨pPre_blind, va_recv hK hP (ci := 0) (q0 := 0) rfl rfl, pPre_of hP hK⟩ rfl rfl hl.1 rfl (lv_room (Nat.le_of_ble_eq_true rfl)) d_Mo_firstWord_31 ⟨hRc, hRs⟩) ?_
    refine lv_lshr (v := lshr (mLeads v6.toNatClampNeg) u9) hx hb d_Mo_firstWord_34 rfl ?_
    refine lv_lconst (v := 1) hx hb d_Mo_firstWord_35 (by decide) ?_
    refine lv_land hx hb d_Mo_firstWord_36 ?_
    refine lv_lconst (v := 0) hx hb d_Mo_firstWord_37 (by decide) ?_
    refine W.lcmp hx hb d_Mo_firstWord_38 ?_
    refine lc_ne (tgt := 48) hx hb d_Mo_firstWord_39 (by decide) (fun c10 => ?_) (fun c10 => ?_)
    · rw [if_neg c10] at hf
      exact Kx _ (Option.some.inj hf).symm _ (show lv_has ls 8 [(7, .int v7), (6, .int v6), (5, .int v5), (3, .long v3), (0, .ref h), (1, .int v1)] from lv_sub hl [0, 1, 2, 3, 4, 5] rfl)
    · rw [if_pos c10] at hf
      refine lv_iinc (v := v7 + 1) (lv' := [(7, .int (v7 + 1)), (6, .int v6), (5, .int v5), (3, .long v3), (0, .ref h), (1, .int v1)]) hx hb d_Mo_firstWord_42 hl (k := 0) rfl (by first | rfl | (congr 1)) (by decide) rfl (fun ls hl => ?_)
      refine lv_goto (tgt := 18) hx hb d_Mo_firstWord_45 (by decide) ?_
      exact ih _ hf _ (show lv_has ls 8 [(7, .int (v7 + 1)), (6, .int v6), (5, .int v5), (3, .long v3), (0, .ref h), (1, .int v1)] from lv_sub hl [0, 1, 2, 3, 4, 5] rfl)
def f_Mo_firstWord_10 (n : Nat) (v1 : Int32) (mGoes : Nat → Int32) (mLeads : Nat → Int64) : Nat → Int32 → Int32 → Int64 → Option (Int32 × Int32 × Int64)
  | 0, _, _, _ => none
  | k + 1, v6, v5, v3 =>
    if v6 < 0 then
      some (v6, v5, v3)
    else
      (f_Mo_firstWord_18 n v6 v5 v1 mGoes mLeads n 0).bind fun u11 =>
      (f_Mo_go n v1 v5 u11 mGoes).bind fun u12 =>
      f_Mo_firstWord_10 n v1 mGoes mLeads k (v6 + (-1)) u12 ((lshl v3 2) ||| u11.toInt64)
set_option maxHeartbeats 4000000 in
set_option maxRecDepth 100000 in
theorem w_Mo_firstWord_10  {v1 : Int32} (hx : p.tables.exec = Jvm.exec) (hb : c.code = b_Mo_firstWord) (hml : c.maxLocals = 8) (hts : ∀ w ∈ gW, w.before args s = true) (hown : s.vm.findClass "RegularSolverModel" = some m.cls) (hK : va_K D vwCl (tG K) s) (hRf : 1 ≤ R.frames) (hRl : 23 ≤ R.locals) (hRc : cells ≤ R.cells) (hRs : slots ≤ R.slots) (hP : va_P D vwCl (moW K h a mErr mLanguages mBounds mSize mGoes mLast mLeft mNext mGroup mFresh mLeader mNumber mRight mEnds mWay mVariable mFactor mLeast mMost mLength mWord mKept mMany mMore mLeads mMet mTodo mMay mTries) H)  {out : Int32 × Int32 × Int64} (Kx : ∀ (u : Int32 × Int32 × Int64), out = u → ∀ (ls : Array Slot), lv_has ls 8 [(3, .long u.2.2)] → W p l e R s m args below meth c H locs cells slots Q (F0 m 73 ls [])) :
    ∀ (k : Nat) (v6 : Int32) (v5 : Int32) (v3 : Int64), f_Mo_firstWord_10 n v1 mGoes mLeads k v6 v5 v3 = some out → ∀ (ls : Array Slot), lv_has ls 8 [(6, .int v6), (5, .int v5), (3, .long v3), (0, .ref h), (1, .int v1)] → W p l e R s m args below meth c H locs cells slots Q (F0 m 10 ls []) := by
  intro k
  induction k with
  | zero => intro _ _ _ hf; exact nomatch (show none = some out from hf)
  | succ k ih =>
    intro v6 v5 v3 hf ls hl
    rw [f_Mo_firstWord_10] at hf
    refine lv_iload hx hb d_Mo_firstWord_10 (lv_at hl 0 rfl) ?_
    refine lv_if_lt (tgt := 73) hx hb d_Mo_firstWord_12 (by decide) (fun c7 => ?_) (fun c7 => ?_)
    · rw [if_pos c7] at hf
      exact Kx _ (Option.some.inj hf).symm _ (show lv_has ls 8 [(3, .long v3)] from lv_sub hl [2] rfl)
    · rw [if_neg c7] at hf
      refine lv_iconst (v := 0) hx hb d_Mo_firstWord_15 (by decide) ?_
      refine lv_istore (lv' := [(7, .int 0), (6, .int v6), (5, .int v5), (3, .long v3), (0, .ref h), (1, .int v1)]) hx hb d_Mo_firstWord_16 hl (by decide) rfl (fun ls hl => ?_)
      obtain ⟨u11, eu11, hf⟩ := obd hf
      refine w_Mo_firstWord_18 hx hb hml hts hown hK hRf hRl hRc hRs hP  (fun u11q eu ls hl => ?_) _ _ eu11 _ (show lv_has ls 8 [(7, .int 0), (6, .int v6), (5, .int v5), (3, .long v3), (0, .ref h), (1, .int v1)] from lv_sub hl [0, 1, 2, 3, 4, 5] rfl)
      subst eu
      refine lv_lload_n hx hb d_Mo_firstWord_48 rfl (lv_at hl 3 rfl) ?_
      refine lv_iconst (v := 2) hx hb d_Mo_firstWord_49 (by decide) ?_
      refine lv_lshl (v := lshl v3 2) hx hb d_Mo_firstWord_50 rfl ?_
      refine lv_iload hx hb d_Mo_firstWord_51 (lv_at hl 0 rfl) ?_
      refine lv_i2l (v := u11.toInt64) hx hb d_Mo_firstWord_53 rfl ?_
      refine lv_lor hx hb d_Mo_firstWord_54 ?_
      refine lv_lstore_n (lv' := [(3, .long ((lshl v3 2) ||| u11.toInt64)), (7, .int u11), (6, .int v6), (5, .int v5), (0, .ref h), (1, .int v1)]) hx hb d_Mo_firstWord_55 rfl hl (by decide) rfl (fun ls hl => ?_)
      refine lv_aload_n hx hb d_Mo_firstWord_56 rfl (lv_at hl 4 rfl) ?_
      refine lv_iload_n hx hb d_Mo_firstWord_57 rfl (lv_at hl 5 rfl) ?_
      refine lv_iload hx hb d_Mo_firstWord_58 (lv_at hl 3 rfl) ?_
      refine lv_iload hx hb d_Mo_firstWord_60 (lv_at hl 1 rfl) ?_
      obtain ⟨u12, eu12, hf⟩ := obd hf
      refine p_call (W.runV (As := [.int v1, .int v5, .int u11]) (rest := []) ⟨hx, hb, hml, hown, hts⟩ (c_Mo_go l eu12) (gV 3 hts cd_Mo_go ml_Mo_98 im_Mo_go se_Mo_go ini_Mo rfl rfl pd_Mo_go ⟨Nat.le_trans (Nat.le_of_ble_eq_true rfl) hRf, Nat.le_trans (Nat.le_of_ble_eq_true rfl) hRl⟩) ⟨pPre_blind, va_recv hK hP (ci := 0) (q0 := 0) rfl rfl, pPre_of hP hK⟩ rfl rfl hl.1 rfl (lv_room (Nat.le_of_ble_eq_true rfl)) d_Mo_firstWord_62 ⟨hRc, hRs⟩) ?_
      refine lv_istore (lv' := [(5, .int u12), (3, .long ((lshl v3 2) ||| u11.toInt64)), (7, .int u11), (6, .int v6), (0, .ref h), (1, .int v1)]) hx hb d_Mo_firstWord_65 hl (by decide) rfl (fun ls hl => ?_)
      refine lv_iinc (v := v6 + (-1)) (lv' := [(6, .int (v6 + (-1))), (5, .int u12), (3, .long ((lshl v3 2) ||| u11.toInt64)), (7, .int u11), (0, .ref h), (1, .int v1)]) hx hb d_Mo_firstWord_67 hl (k := 3) rfl (by first | rfl | (congr 1)) (by decide) rfl (fun ls hl => ?_)
      refine lv_goto (tgt := 10) hx hb d_Mo_firstWord_70 (by decide) ?_
      exact ih _ _ _ hf _ (show lv_has ls 8 [(6, .int (v6 + (-1))), (5, .int u12), (3, .long ((lshl v3 2) ||| u11.toInt64)), (0, .ref h), (1, .int v1)] from lv_sub hl [0, 1, 2, 4, 5] rfl)
def f_Mo_firstWord (n : Nat) (p0 : Int32) (p1 : Int32) (mGoes : Nat → Int32) (mLeads : Nat → Int64) : Option (Int64) :=
  (f_Mo_firstWord_10 n p0 mGoes mLeads n (p1 - 1) 0 0).bind fun u13 =>
  some u13.2.2
set_option maxHeartbeats 4000000 in
set_option maxRecDepth 100000 in
theorem w_Mo_firstWord  {p0 : Int32} {p1 : Int32}  (hx : p.tables.exec = Jvm.exec) (hb : c.code = b_Mo_firstWord) (hml : c.maxLocals = 8) (hts : ∀ w ∈ gW, w.before args s = true) (hown : s.vm.findClass "RegularSolverModel" = some m.cls) (hK : va_K D vwCl (tG K) s) (hRf : 1 ≤ R.frames) (hRl : 23 ≤ R.locals) (hRc : cells ≤ R.cells) (hRs : slots ≤ R.slots) (hP : va_P D vwCl (moW K h a mErr mLanguages mBounds mSize mGoes mLast mLeft mNext mGroup mFresh mLeader mNumber mRight mEnds mWay mVariable mFactor mLeast mMost mLength mWord mKept mMany mMore mLeads mMet mTodo mMay mTries) H) {out : Int64} (Kr : ∀ (r : Int64), out = r → ∀ (pc : Nat) (ls : Array Slot), decode b_Mo_firstWord pc = .ok (.lreturn, 1) → W p l e R s m args below meth c H locs cells slots Q (F0 m pc ls [.long r])) (hf : f_Mo_firstWord n p0 p1 mGoes mLeads = some out) (ls : Array Slot) (hl : lv_has ls 8 [(0, .ref h), (1, .int p0), (2, .int p1)]) : W p l e R s m args below meth c H locs cells slots Q (F0 m 0 ls []) := by
  unfold f_Mo_firstWord at hf
  refine lv_lconst (v := 0) hx hb d_Mo_firstWord_0 (by decide) ?_
  refine lv_lstore_n (lv' := [(3, .long 0), (0, .ref h), (1, .int p0), (2, .int p1)]) hx hb d_Mo_firstWord_1 rfl hl (by decide) rfl (fun ls hl => ?_)
  refine lv_iconst (v := 0) hx hb d_Mo_firstWord_2 (by decide) ?_
  refine lv_istore (lv' := [(5, .int 0), (3, .long 0), (0, .ref h), (1, .int p0), (2, .int p1)]) hx hb d_Mo_firstWord_3 hl (by decide) rfl (fun ls hl => ?_)
  refine lv_iload_n hx hb d_Mo_firstWord_5 rfl (lv_at hl 4 rfl) ?_
  refine lv_iconst (v := 1) hx hb d_Mo_firstWord_6 (by decide) ?_
  refine lv_isub hx hb d_Mo_firstWord_7 ?_
  refine lv_istore (lv' := [(6, .int (p1 - 1)), (5, .int 0), (3, .long 0), (0, .ref h), (1, .int p0), (2, .int p1)]) hx hb d_Mo_firstWord_8 hl (by decide) rfl (fun ls hl => ?_)
  obtain ⟨u13, eu13, hf⟩ := obd hf
  refine w_Mo_firstWord_10 hx hb hml hts hown hK hRf hRl hRc hRs hP  (fun u13q eu ls hl => ?_) _ _ _ _ eu13 _ (show lv_has ls 8 [(6, .int (p1 - 1)), (5, .int 0), (3, .long 0), (0, .ref h), (1, .int p0)] from lv_sub hl [0, 1, 2, 3, 4] rfl)
  subst eu
  refine lv_lload_n hx hb d_Mo_firstWord_73 rfl (lv_at hl 0 rfl) ?_
  exact Kr _ (Option.some.inj hf).symm _ _ d_Mo_firstWord_74
set_option maxHeartbeats 4000000 in
set_option maxRecDepth 100000 in
theorem c_Mo_firstWord (l : Launch)  {p0 : Int32} {p1 : Int32}  {r : Int64} (hf : f_Mo_firstWord n p0 p1 mGoes mLeads = some r) : Met l y_Mo_firstWord w0_Mo_firstWord ({ frames := 1, cells := 0, slots := 0, locals := 23 }) (pPre D K [.ref h, .int p0, .int p1] (moW K h a mErr mLanguages mBounds mSize mGoes mLast mLeft mNext mGroup mFresh mLeader mNumber mRight mEnds mWay mVariable mFactor mLeast mMost mLength mWord mKept mMany mMore mLeads mMet mTodo mMay mTries)) (pPost (some (.long r))) 0 0 (fun _ => False) := by
  refine Met.ofW (cc := b_Mo_firstWord) (maxL := 8) (ret := (some .long)) (by decide) rfl ?_
  intro p e s m args below meth c s₁ B hml hv
  obtain ⟨rfl, hP, hK⟩ := hv
  have hl := lv_entry [.ref h, .int p0, .int p1] (n := 8) (Nat.le_of_ble_eq_true rfl)
  rw [lg_entry_eq]
  generalize (lg_sl [.ref h, .int p0, .int p1] ++ List.replicate (8 - (lg_sl [.ref h, .int p0, .int p1]).length) Slot.unset).toArray = ls at hl ⊢
  refine w_Mo_firstWord B.exec B.bytes hml (fun w hw => atoms_spec (ws := w0_Mo_firstWord) B.pre w (List.mem_cons_of_mem _ hw)) (findClass_of_methodNamed B.named) hK (Nat.le_refl _) (Nat.le_refl _) (Nat.zero_le _) (Nat.zero_le _) hP (fun r er pc ls hd => ?_) hf ls hl
  subst er
  exact W.lret B.exec B.bytes B.returns (fun t ht hW => ⟨rfl, ht⟩) (fun q h => by cases h) hd (hlocks := B.notSynchronized)
end
