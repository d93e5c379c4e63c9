abbrev coW (K : Nat → ClassId) (cq : Nat) (c1 : Nat) (c2 : Nat) (cCounts : Nat → Int64) (cLonger : Nat → Int64) : va_W := [(cq, .inr (7, [.ref c1, .ref c2])), (c1, .inl (K 1, 64, .inr (.inl cCounts))), (c2, .inl (K 1, 64, .inr (.inl cLonger)))]
abbrev inW (K : Nat → ClassId) (iq : Nat) (i1 : Nat) (i2 : Nat) (iSeen : Nat → Int64) (iWaiting : Nat → Int64) : va_W := [(iq, .inr (8, [.ref i1, .ref i2])), (i1, .inl (K 1, 64, .inr (.inl iSeen))), (i2, .inl (K 1, 64, .inr (.inl iWaiting)))]
abbrev brW (K : Nat → ClassId) (wq : Nat) (wHead : Int32) (wTail : Int64) (bSet : Int32) (bEnd : Int32) : va_W := [(wq, .inr (2, [.int wHead, .long wTail, .int bSet, .int bEnd]))]
abbrev chW (K : Nat → ClassId) (wq : Nat) (q1 : Nat) (q2 : Nat) (wHead : Int32) (wTail : Int64) : va_W := [(wq, .inr (3, [.int wHead, .long wTail, .ref q1, .ref q2]))]
abbrev paW (K : Nat → ClassId) (wq : Nat) (q1 : Nat) (q2 : Nat) (wHead : Int32) (wTail : Int64) (pBoth : Bool) : va_W := [(wq, .inr (4, [.int wHead, .long wTail, .ref q1, .ref q2, .int (bI pBoth)]))]
abbrev reW (K : Nat → ClassId) (wq : Nat) (q1 : Nat) (wHead : Int32) (wTail : Int64) : va_W := [(wq, .inr (5, [.int wHead, .long wTail, .ref q1]))]
abbrev mkW (K : Nat → ClassId) (mq : Nat) (m0 : Nat) (m1 : Nat) (m2 : Nat) (m3 : Nat) (m5 : Nat) (m6 : Nat) (m7 : Nat) (m8 : Nat) (m9 : Nat) (kHeads : Nat → Int32) (kTails : Nat → Int64) (kNext : Nat → Int32) (kSlots : Nat → Int32) (kReached : Int32) (kClassOf : Nat → Int32) (kFinerOf : Nat → Int32) (kMarkOf : Nat → Int32) (kFirstOf : Nat → Int32) (kMarkSlots : Nat → Int32) (kClasses : Int32) : va_W := [(mq, .inr (6, [.ref m0, .ref m1, .ref m2, .ref m3, .int kReached, .ref m5, .ref m6, .ref m7, .ref m8, .ref m9, .int kClasses])), (m0, .inl (K 0, 800, .inl kHeads)), (m1, .inl (K 1, 800, .inr (.inl kTails))), (m2, .inl (K 0, 3200, .inl kNext)), (m3, .inl (K 0, 2048, .inl kSlots)), (m5, .inl (K 0, 800, .inl kClassOf)), (m6, .inl (K 0, 800, .inl kFinerOf)), (m7, .inl (K 0, 64, .inl kMarkOf)), (m8, .inl (K 0, 64, .inl kFirstOf)), (m9, .inl (K 0, 256, .inl kMarkSlots))]
abbrev b_Co_addLetter : ByteArray := prog_5_method_3_code
def y_Co_addLetter : MethodName := ⟨"RegularSolver$Counter", "addLetter", "(I[I)V"⟩
abbrev w0_Co_addLetter : List Cond := Cond.code y_Co_addLetter b_Co_addLetter 5 none :: gW
theorem cd_Co_addLetter : Cond.code y_Co_addLetter b_Co_addLetter 5 none ∈ gW := gm 632 (by decide +kernel) (by decide +kernel)
theorem d_Co_addLetter_0 : decode b_Co_addLetter 0 = .ok (.iconst 0, 1) := by decide +kernel
theorem d_Co_addLetter_1 : decode b_Co_addLetter 1 = .ok (.istore_n 3, 1) := by decide +kernel
theorem d_Co_addLetter_2 : decode b_Co_addLetter 2 = .ok (.iload_n 3, 1) := by decide +kernel
theorem d_Co_addLetter_3 : decode b_Co_addLetter 3 = .ok (.iload_n 1, 1) := by decide +kernel
theorem d_Co_addLetter_4 : decode b_Co_addLetter 4 = .ok (.if_icmp .ge 65, 3) := by decide +kernel
theorem d_Co_addLetter_7 : decode b_Co_addLetter 7 = .ok (.iconst 4, 1) := by decide +kernel
theorem d_Co_addLetter_8 : decode b_Co_addLetter 8 = .ok (.iload_n 3, 1) := by decide +kernel
theorem d_Co_addLetter_9 : decode b_Co_addLetter 9 = .ok (.imul, 1) := by decide +kernel
theorem d_Co_addLetter_10 : decode b_Co_addLetter 10 = .ok (.istore 4, 2) := by decide +kernel
theorem d_Co_addLetter_12 : decode b_Co_addLetter 12 = .ok (.aload_n 0, 1) := by decide +kernel
theorem d_Co_addLetter_13 : decode b_Co_addLetter 13 = .ok (.getfield 15, 3) := by decide +kernel
theorem d_Co_addLetter_16 : decode b_Co_addLetter 16 = .ok (.iload_n 3, 1) := by decide +kernel
theorem d_Co_addLetter_17 : decode b_Co_addLetter 17 = .ok (.aload_n 0, 1) := by decide +kernel
theorem d_Co_addLetter_18 : decode b_Co_addLetter 18 = .ok (.getfield 9, 3) := by decide +kernel
theorem d_Co_addLetter_21 : decode b_Co_addLetter 21 = .ok (.aload_n 2, 1) := by decide +kernel
theorem d_Co_addLetter_22 : decode b_Co_addLetter 22 = .ok (.iload 4, 2) := by decide +kernel
theorem d_Co_addLetter_24 : decode b_Co_addLetter 24 = .ok (.iaload, 1) := by decide +kernel
theorem d_Co_addLetter_25 : decode b_Co_addLetter 25 = .ok (.laload, 1) := by decide +kernel
theorem d_Co_addLetter_26 : decode b_Co_addLetter 26 = .ok (.aload_n 0, 1) := by decide +kernel
theorem d_Co_addLetter_27 : decode b_Co_addLetter 27 = .ok (.getfield 9, 3) := by decide +kernel
theorem d_Co_addLetter_30 : decode b_Co_addLetter 30 = .ok (.aload_n 2, 1) := by decide +kernel
theorem d_Co_addLetter_31 : decode b_Co_addLetter 31 = .ok (.iload 4, 2) := by decide +kernel
theorem d_Co_addLetter_33 : decode b_Co_addLetter 33 = .ok (.iconst 1, 1) := by decide +kernel
theorem d_Co_addLetter_34 : decode b_Co_addLetter 34 = .ok (.iadd, 1) := by decide +kernel
theorem d_Co_addLetter_35 : decode b_Co_addLetter 35 = .ok (.iaload, 1) := by decide +kernel
theorem d_Co_addLetter_36 : decode b_Co_addLetter 36 = .ok (.laload, 1) := by decide +kernel
theorem d_Co_addLetter_37 : decode b_Co_addLetter 37 = .ok (.ladd, 1) := by decide +kernel
theorem d_Co_addLetter_38 : decode b_Co_addLetter 38 = .ok (.aload_n 0, 1) := by decide +kernel
theorem d_Co_addLetter_39 : decode b_Co_addLetter 39 = .ok (.getfield 9, 3) := by decide +kernel
theorem d_Co_addLetter_42 : decode b_Co_addLetter 42 = .ok (.aload_n 2, 1) := by decide +kernel
theorem d_Co_addLetter_43 : decode b_Co_addLetter 43 = .ok (.iload 4, 2) := by decide +kernel
theorem d_Co_addLetter_45 : decode b_Co_addLetter 45 = .ok (.iconst 2, 1) := by decide +kernel
theorem d_Co_addLetter_46 : decode b_Co_addLetter 46 = .ok (.iadd, 1) := by decide +kernel
theorem d_Co_addLetter_47 : decode b_Co_addLetter 47 = .ok (.iaload, 1) := by decide +kernel
theorem d_Co_addLetter_48 : decode b_Co_addLetter 48 = .ok (.laload, 1) := by decide +kernel
theorem d_Co_addLetter_49 : decode b_Co_addLetter 49 = .ok (.ladd, 1) := by decide +kernel
theorem d_Co_addLetter_50 : decode b_Co_addLetter 50 = .ok (.aload_n 0, 1) := by decide +kernel
theorem d_Co_addLetter_51 : decode b_Co_addLetter 51 = .ok (.getfield 9, 3) := by decide +kernel
theorem d_Co_addLetter_54 : decode b_Co_addLetter 54 = .ok (.aload_n 2, 1) := by decide +kernel
theorem d_Co_addLetter_55 : decode b_Co_addLetter 55 = .ok (.iload 4, 2) := by decide +kernel
theorem d_Co_addLetter_57 : decode b_Co_addLetter 57 = .ok (.iconst 3, 1) := by decide +kernel
theorem d_Co_addLetter_58 : decode b_Co_addLetter 58 = .ok (.iadd, 1) := by decide +kernel
theorem d_Co_addLetter_59 : decode b_Co_addLetter 59 = .ok (.iaload, 1) := by decide +kernel
theorem d_Co_addLetter_60 : decode b_Co_addLetter 60 = .ok (.laload, 1) := by decide +kernel
theorem d_Co_addLetter_61 : decode b_Co_addLetter 61 = .ok (.ladd, 1) := by decide +kernel
theorem d_Co_addLetter_62 : decode b_Co_addLetter 62 = .ok (.lastore, 1) := by decide +kernel
theorem d_Co_addLetter_63 : decode b_Co_addLetter 63 = .ok (.iinc 3 1, 3) := by decide +kernel
theorem d_Co_addLetter_66 : decode b_Co_addLetter 66 = .ok (.goto (-64), 3) := by decide +kernel
theorem d_Co_addLetter_69 : decode b_Co_addLetter 69 = .ok (.aload_n 0, 1) := by decide +kernel
theorem d_Co_addLetter_70 : decode b_Co_addLetter 70 = .ok (.getfield 9, 3) := by decide +kernel
theorem d_Co_addLetter_73 : decode b_Co_addLetter 73 = .ok (.astore_n 3, 1) := by decide +kernel
theorem d_Co_addLetter_74 : decode b_Co_addLetter 74 = .ok (.aload_n 0, 1) := by decide +kernel
theorem d_Co_addLetter_75 : decode b_Co_addLetter 75 = .ok (.aload_n 0, 1) := by decide +kernel
theorem d_Co_addLetter_76 : decode b_Co_addLetter 76 = .ok (.getfield 15, 3) := by decide +kernel
theorem d_Co_addLetter_79 : decode b_Co_addLetter 79 = .ok (.putfield 9, 3) := by decide +kernel
theorem d_Co_addLetter_82 : decode b_Co_addLetter 82 = .ok (.aload_n 0, 1) := by decide +kernel
theorem d_Co_addLetter_83 : decode b_Co_addLetter 83 = .ok (.aload_n 3, 1) := by decide +kernel
theorem d_Co_addLetter_84 : decode b_Co_addLetter 84 = .ok (.putfield 15, 3) := by decide +kernel
theorem d_Co_addLetter_87 : decode b_Co_addLetter 87 = .ok (.return_, 1) := by decide +kernel
abbrev b_Co_count : ByteArray := prog_5_method_2_code
def y_Co_count : MethodName := ⟨"RegularSolver$Counter", "count", "(LRegularSolver$Automaton;I)J"⟩
abbrev w0_Co_count : List Cond := Cond.code y_Co_count b_Co_count 4 (some .long) :: gW
theorem cd_Co_count : Cond.code y_Co_count b_Co_count 4 (some .long) ∈ gW := gm 627 (by decide +kernel) (by decide +kernel)
theorem d_Co_count_0 : decode b_Co_count 0 = .ok (.iconst 0, 1) := by decide +kernel
theorem d_Co_count_1 : decode b_Co_count 1 = .ok (.istore_n 3, 1) := by decide +kernel
theorem d_Co_count_2 : decode b_Co_count 2 = .ok (.iload_n 3, 1) := by decide +kernel
theorem d_Co_count_3 : decode b_Co_count 3 = .ok (.aload_n 1, 1) := by decide +kernel
theorem d_Co_count_4 : decode b_Co_count 4 = .ok (.getfield 18, 3) := by decide +kernel
theorem d_Co_count_7 : decode b_Co_count 7 = .ok (.if_icmp .ge 28, 3) := by decide +kernel
theorem d_Co_count_10 : decode b_Co_count 10 = .ok (.aload_n 0, 1) := by decide +kernel
theorem d_Co_count_11 : decode b_Co_count 11 = .ok (.getfield 9, 3) := by decide +kernel
theorem d_Co_count_14 : decode b_Co_count 14 = .ok (.iload_n 3, 1) := by decide +kernel
theorem d_Co_count_15 : decode b_Co_count 15 = .ok (.aload_n 1, 1) := by decide +kernel
theorem d_Co_count_16 : decode b_Co_count 16 = .ok (.iload_n 3, 1) := by decide +kernel
theorem d_Co_count_17 : decode b_Co_count 17 = .ok (.invokevirtual 24, 3) := by decide +kernel
theorem d_Co_count_20 : decode b_Co_count 20 = .ok (.ifCond .eq 7, 3) := by decide +kernel
theorem d_Co_count_23 : decode b_Co_count 23 = .ok (.lconst 1, 1) := by decide +kernel
theorem d_Co_count_24 : decode b_Co_count 24 = .ok (.goto 4, 3) := by decide +kernel
theorem d_Co_count_27 : decode b_Co_count 27 = .ok (.lconst 0, 1) := by decide +kernel
theorem d_Co_count_28 : decode b_Co_count 28 = .ok (.lastore, 1) := by decide +kernel
theorem d_Co_count_29 : decode b_Co_count 29 = .ok (.iinc 3 1, 3) := by decide +kernel
theorem d_Co_count_32 : decode b_Co_count 32 = .ok (.goto (-30), 3) := by decide +kernel
theorem d_Co_count_35 : decode b_Co_count 35 = .ok (.iconst 0, 1) := by decide +kernel
theorem d_Co_count_36 : decode b_Co_count 36 = .ok (.istore_n 3, 1) := by decide +kernel
theorem d_Co_count_37 : decode b_Co_count 37 = .ok (.iload_n 3, 1) := by decide +kernel
theorem d_Co_count_38 : decode b_Co_count 38 = .ok (.iload_n 2, 1) := by decide +kernel
theorem d_Co_count_39 : decode b_Co_count 39 = .ok (.if_icmp .ge 21, 3) := by decide +kernel
theorem d_Co_count_42 : decode b_Co_count 42 = .ok (.aload_n 0, 1) := by decide +kernel
theorem d_Co_count_43 : decode b_Co_count 43 = .ok (.aload_n 1, 1) := by decide +kernel
theorem d_Co_count_44 : decode b_Co_count 44 = .ok (.getfield 18, 3) := by decide +kernel
theorem d_Co_count_47 : decode b_Co_count 47 = .ok (.aload_n 1, 1) := by decide +kernel
theorem d_Co_count_48 : decode b_Co_count 48 = .ok (.getfield 28, 3) := by decide +kernel
theorem d_Co_count_51 : decode b_Co_count 51 = .ok (.invokevirtual 32, 3) := by decide +kernel
theorem d_Co_count_54 : decode b_Co_count 54 = .ok (.iinc 3 1, 3) := by decide +kernel
theorem d_Co_count_57 : decode b_Co_count 57 = .ok (.goto (-20), 3) := by decide +kernel
theorem d_Co_count_60 : decode b_Co_count 60 = .ok (.aload_n 0, 1) := by decide +kernel
theorem d_Co_count_61 : decode b_Co_count 61 = .ok (.getfield 9, 3) := by decide +kernel
theorem d_Co_count_64 : decode b_Co_count 64 = .ok (.iconst 0, 1) := by decide +kernel
theorem d_Co_count_65 : decode b_Co_count 65 = .ok (.laload, 1) := by decide +kernel
theorem d_Co_count_66 : decode b_Co_count 66 = .ok (.lreturn, 1) := by decide +kernel
abbrev b_In_comeTo : ByteArray := prog_6_method_4_code
def y_In_comeTo : MethodName := ⟨"RegularSolver$Inclusion", "comeTo", "(IJ)V"⟩
abbrev w0_In_comeTo : List Cond := Cond.code y_In_comeTo b_In_comeTo 6 none :: gW
theorem cd_In_comeTo : Cond.code y_In_comeTo b_In_comeTo 6 none ∈ gW := gm 688 (by decide +kernel) (by decide +kernel)
theorem d_In_comeTo_0 : decode b_In_comeTo 0 = .ok (.lload_n 2, 1) := by decide +kernel
theorem d_In_comeTo_1 : decode b_In_comeTo 1 = .ok (.aload_n 0, 1) := by decide +kernel
theorem d_In_comeTo_2 : decode b_In_comeTo 2 = .ok (.getfield 9, 3) := by decide +kernel
theorem d_In_comeTo_5 : decode b_In_comeTo 5 = .ok (.iload_n 1, 1) := by decide +kernel
theorem d_In_comeTo_6 : decode b_In_comeTo 6 = .ok (.laload, 1) := by decide +kernel
theorem d_In_comeTo_7 : decode b_In_comeTo 7 = .ok (.ldc2_w 42, 3) := by decide +kernel
theorem d_In_comeTo_10 : decode b_In_comeTo 10 = .ok (.lxor, 1) := by decide +kernel
theorem d_In_comeTo_11 : decode b_In_comeTo 11 = .ok (.land, 1) := by decide +kernel
theorem d_In_comeTo_12 : decode b_In_comeTo 12 = .ok (.lstore 4, 2) := by decide +kernel
theorem d_In_comeTo_14 : decode b_In_comeTo 14 = .ok (.aload_n 0, 1) := by decide +kernel
theorem d_In_comeTo_15 : decode b_In_comeTo 15 = .ok (.getfield 9, 3) := by decide +kernel
theorem d_In_comeTo_18 : decode b_In_comeTo 18 = .ok (.iload_n 1, 1) := by decide +kernel
theorem d_In_comeTo_19 : decode b_In_comeTo 19 = .ok (.dup2, 1) := by decide +kernel
theorem d_In_comeTo_20 : decode b_In_comeTo 20 = .ok (.laload, 1) := by decide +kernel
theorem d_In_comeTo_21 : decode b_In_comeTo 21 = .ok (.lload 4, 2) := by decide +kernel
theorem d_In_comeTo_23 : decode b_In_comeTo 23 = .ok (.lor, 1) := by decide +kernel
theorem d_In_comeTo_24 : decode b_In_comeTo 24 = .ok (.lastore, 1) := by decide +kernel
theorem d_In_comeTo_25 : decode b_In_comeTo 25 = .ok (.aload_n 0, 1) := by decide +kernel
theorem d_In_comeTo_26 : decode b_In_comeTo 26 = .ok (.getfield 15, 3) := by decide +kernel
theorem d_In_comeTo_29 : decode b_In_comeTo 29 = .ok (.iload_n 1, 1) := by decide +kernel
theorem d_In_comeTo_30 : decode b_In_comeTo 30 = .ok (.dup2, 1) := by decide +kernel
theorem d_In_comeTo_31 : decode b_In_comeTo 31 = .ok (.laload, 1) := by decide +kernel
theorem d_In_comeTo_32 : decode b_In_comeTo 32 = .ok (.lload 4, 2) := by decide +kernel
theorem d_In_comeTo_34 : decode b_In_comeTo 34 = .ok (.lor, 1) := by decide +kernel
theorem d_In_comeTo_35 : decode b_In_comeTo 35 = .ok (.lastore, 1) := by decide +kernel
theorem d_In_comeTo_36 : decode b_In_comeTo 36 = .ok (.return_, 1) := by decide +kernel
abbrev b_In_goOn : ByteArray := prog_6_method_3_code
def y_In_goOn : MethodName := ⟨"RegularSolver$Inclusion", "goOn", "(LRegularSolver$Automaton;LRegularSolver$Automaton;)Z"⟩
abbrev w0_In_goOn : List Cond := Cond.code y_In_goOn b_In_goOn 8 (some .boolean) :: gW
theorem cd_In_goOn : Cond.code y_In_goOn b_In_goOn 8 (some .boolean) ∈ gW := gm 682 (by decide +kernel) (by decide +kernel)
theorem d_In_goOn_0 : decode b_In_goOn 0 = .ok (.iconst 0, 1) := by decide +kernel
theorem d_In_goOn_1 : decode b_In_goOn 1 = .ok (.istore_n 3, 1) := by decide +kernel
theorem d_In_goOn_2 : decode b_In_goOn 2 = .ok (.iconst 0, 1) := by decide +kernel
theorem d_In_goOn_3 : decode b_In_goOn 3 = .ok (.istore 4, 2) := by decide +kernel
theorem d_In_goOn_5 : decode b_In_goOn 5 = .ok (.iload 4, 2) := by decide +kernel
theorem d_In_goOn_7 : decode b_In_goOn 7 = .ok (.aload_n 1, 1) := by decide +kernel
theorem d_In_goOn_8 : decode b_In_goOn 8 = .ok (.getfield 28, 3) := by decide +kernel
theorem d_In_goOn_11 : decode b_In_goOn 11 = .ok (.if_icmp .ge 70, 3) := by decide +kernel
theorem d_In_goOn_14 : decode b_In_goOn 14 = .ok (.aload_n 0, 1) := by decide +kernel
theorem d_In_goOn_15 : decode b_In_goOn 15 = .ok (.getfield 15, 3) := by decide +kernel
theorem d_In_goOn_18 : decode b_In_goOn 18 = .ok (.iload 4, 2) := by decide +kernel
theorem d_In_goOn_20 : decode b_In_goOn 20 = .ok (.laload, 1) := by decide +kernel
theorem d_In_goOn_21 : decode b_In_goOn 21 = .ok (.lstore 5, 2) := by decide +kernel
theorem d_In_goOn_23 : decode b_In_goOn 23 = .ok (.lload 5, 2) := by decide +kernel
theorem d_In_goOn_25 : decode b_In_goOn 25 = .ok (.lconst 0, 1) := by decide +kernel
theorem d_In_goOn_26 : decode b_In_goOn 26 = .ok (.lcmp, 1) := by decide +kernel
theorem d_In_goOn_27 : decode b_In_goOn 27 = .ok (.ifCond .eq 48, 3) := by decide +kernel
theorem d_In_goOn_30 : decode b_In_goOn 30 = .ok (.iconst 1, 1) := by decide +kernel
theorem d_In_goOn_31 : decode b_In_goOn 31 = .ok (.istore_n 3, 1) := by decide +kernel
theorem d_In_goOn_32 : decode b_In_goOn 32 = .ok (.aload_n 0, 1) := by decide +kernel
theorem d_In_goOn_33 : decode b_In_goOn 33 = .ok (.getfield 15, 3) := by decide +kernel
theorem d_In_goOn_36 : decode b_In_goOn 36 = .ok (.iload 4, 2) := by decide +kernel
theorem d_In_goOn_38 : decode b_In_goOn 38 = .ok (.lconst 0, 1) := by decide +kernel
theorem d_In_goOn_39 : decode b_In_goOn 39 = .ok (.lastore, 1) := by decide +kernel
theorem d_In_goOn_40 : decode b_In_goOn 40 = .ok (.iconst 0, 1) := by decide +kernel
theorem d_In_goOn_41 : decode b_In_goOn 41 = .ok (.istore 7, 2) := by decide +kernel
theorem d_In_goOn_43 : decode b_In_goOn 43 = .ok (.iload 7, 2) := by decide +kernel
theorem d_In_goOn_45 : decode b_In_goOn 45 = .ok (.iconst 4, 1) := by decide +kernel
theorem d_In_goOn_46 : decode b_In_goOn 46 = .ok (.if_icmp .ge 29, 3) := by decide +kernel
theorem d_In_goOn_49 : decode b_In_goOn 49 = .ok (.aload_n 0, 1) := by decide +kernel
theorem d_In_goOn_50 : decode b_In_goOn 50 = .ok (.aload_n 1, 1) := by decide +kernel
theorem d_In_goOn_51 : decode b_In_goOn 51 = .ok (.iload 4, 2) := by decide +kernel
theorem d_In_goOn_53 : decode b_In_goOn 53 = .ok (.iload 7, 2) := by decide +kernel
theorem d_In_goOn_55 : decode b_In_goOn 55 = .ok (.invokevirtual 44, 3) := by decide +kernel
theorem d_In_goOn_58 : decode b_In_goOn 58 = .ok (.aload_n 2, 1) := by decide +kernel
theorem d_In_goOn_59 : decode b_In_goOn 59 = .ok (.lload 5, 2) := by decide +kernel
theorem d_In_goOn_61 : decode b_In_goOn 61 = .ok (.iload 7, 2) := by decide +kernel
theorem d_In_goOn_63 : decode b_In_goOn 63 = .ok (.invokevirtual 48, 3) := by decide +kernel
theorem d_In_goOn_66 : decode b_In_goOn 66 = .ok (.invokevirtual 52, 3) := by decide +kernel
theorem d_In_goOn_69 : decode b_In_goOn 69 = .ok (.iinc 7 1, 3) := by decide +kernel
theorem d_In_goOn_72 : decode b_In_goOn 72 = .ok (.goto (-29), 3) := by decide +kernel
theorem d_In_goOn_75 : decode b_In_goOn 75 = .ok (.iinc 4 1, 3) := by decide +kernel
theorem d_In_goOn_78 : decode b_In_goOn 78 = .ok (.goto (-73), 3) := by decide +kernel
theorem d_In_goOn_81 : decode b_In_goOn 81 = .ok (.iload_n 3, 1) := by decide +kernel
theorem d_In_goOn_82 : decode b_In_goOn 82 = .ok (.ireturn, 1) := by decide +kernel
abbrev b_In_holds : ByteArray := prog_6_method_2_code
def y_In_holds : MethodName := ⟨"RegularSolver$Inclusion", "holds", "(LRegularSolver$Automaton;LRegularSolver$Automaton;)Z"⟩
abbrev w0_In_holds : List Cond := Cond.code y_In_holds b_In_holds 5 (some .boolean) :: gW
theorem cd_In_holds : Cond.code y_In_holds b_In_holds 5 (some .boolean) ∈ gW := gm 675 (by decide +kernel) (by decide +kernel)
theorem d_In_holds_0 : decode b_In_holds 0 = .ok (.aload_n 0, 1) := by decide +kernel
theorem d_In_holds_1 : decode b_In_holds 1 = .ok (.getfield 9, 3) := by decide +kernel
theorem d_In_holds_4 : decode b_In_holds 4 = .ok (.lconst 0, 1) := by decide +kernel
theorem d_In_holds_5 : decode b_In_holds 5 = .ok (.invokestatic 18, 3) := by decide +kernel
theorem d_In_holds_8 : decode b_In_holds 8 = .ok (.aload_n 0, 1) := by decide +kernel
theorem d_In_holds_9 : decode b_In_holds 9 = .ok (.getfield 15, 3) := by decide +kernel
theorem d_In_holds_12 : decode b_In_holds 12 = .ok (.lconst 0, 1) := by decide +kernel
theorem d_In_holds_13 : decode b_In_holds 13 = .ok (.invokestatic 18, 3) := by decide +kernel
theorem d_In_holds_16 : decode b_In_holds 16 = .ok (.aload_n 0, 1) := by decide +kernel
theorem d_In_holds_17 : decode b_In_holds 17 = .ok (.getfield 9, 3) := by decide +kernel
theorem d_In_holds_20 : decode b_In_holds 20 = .ok (.iconst 0, 1) := by decide +kernel
theorem d_In_holds_21 : decode b_In_holds 21 = .ok (.lconst 1, 1) := by decide +kernel
theorem d_In_holds_22 : decode b_In_holds 22 = .ok (.lastore, 1) := by decide +kernel
theorem d_In_holds_23 : decode b_In_holds 23 = .ok (.aload_n 0, 1) := by decide +kernel
theorem d_In_holds_24 : decode b_In_holds 24 = .ok (.getfield 15, 3) := by decide +kernel
theorem d_In_holds_27 : decode b_In_holds 27 = .ok (.iconst 0, 1) := by decide +kernel
theorem d_In_holds_28 : decode b_In_holds 28 = .ok (.lconst 1, 1) := by decide +kernel
theorem d_In_holds_29 : decode b_In_holds 29 = .ok (.lastore, 1) := by decide +kernel
theorem d_In_holds_30 : decode b_In_holds 30 = .ok (.iconst 1, 1) := by decide +kernel
theorem d_In_holds_31 : decode b_In_holds 31 = .ok (.istore_n 3, 1) := by decide +kernel
theorem d_In_holds_32 : decode b_In_holds 32 = .ok (.iconst 0, 1) := by decide +kernel
theorem d_In_holds_33 : decode b_In_holds 33 = .ok (.istore 4, 2) := by decide +kernel
theorem d_In_holds_35 : decode b_In_holds 35 = .ok (.iload 4, 2) := by decide +kernel
theorem d_In_holds_37 : decode b_In_holds 37 = .ok (.sipush 4096, 3) := by decide +kernel
theorem d_In_holds_40 : decode b_In_holds 40 = .ok (.if_icmp .ge 20, 3) := by decide +kernel
theorem d_In_holds_43 : decode b_In_holds 43 = .ok (.iload_n 3, 1) := by decide +kernel
theorem d_In_holds_44 : decode b_In_holds 44 = .ok (.ifCond .eq 16, 3) := by decide +kernel
theorem d_In_holds_47 : decode b_In_holds 47 = .ok (.aload_n 0, 1) := by decide +kernel
theorem d_In_holds_48 : decode b_In_holds 48 = .ok (.aload_n 1, 1) := by decide +kernel
theorem d_In_holds_49 : decode b_In_holds 49 = .ok (.aload_n 2, 1) := by decide +kernel
theorem d_In_holds_50 : decode b_In_holds 50 = .ok (.invokevirtual 24, 3) := by decide +kernel
theorem d_In_holds_53 : decode b_In_holds 53 = .ok (.istore_n 3, 1) := by decide +kernel
theorem d_In_holds_54 : decode b_In_holds 54 = .ok (.iinc 4 1, 3) := by decide +kernel
theorem d_In_holds_57 : decode b_In_holds 57 = .ok (.goto (-22), 3) := by decide +kernel
theorem d_In_holds_60 : decode b_In_holds 60 = .ok (.iconst 0, 1) := by decide +kernel
theorem d_In_holds_61 : decode b_In_holds 61 = .ok (.istore 4, 2) := by decide +kernel
theorem d_In_holds_63 : decode b_In_holds 63 = .ok (.iload 4, 2) := by decide +kernel
theorem d_In_holds_65 : decode b_In_holds 65 = .ok (.aload_n 1, 1) := by decide +kernel
theorem d_In_holds_66 : decode b_In_holds 66 = .ok (.getfield 28, 3) := by decide +kernel
theorem d_In_holds_69 : decode b_In_holds 69 = .ok (.if_icmp .ge 41, 3) := by decide +kernel
theorem d_In_holds_72 : decode b_In_holds 72 = .ok (.aload_n 1, 1) := by decide +kernel
theorem d_In_holds_73 : decode b_In_holds 73 = .ok (.iload 4, 2) := by decide +kernel
theorem d_In_holds_75 : decode b_In_holds 75 = .ok (.invokevirtual 34, 3) := by decide +kernel
theorem d_In_holds_78 : decode b_In_holds 78 = .ok (.ifCond .eq 26, 3) := by decide +kernel
theorem d_In_holds_81 : decode b_In_holds 81 = .ok (.aload_n 0, 1) := by decide +kernel
theorem d_In_holds_82 : decode b_In_holds 82 = .ok (.getfield 9, 3) := by decide +kernel
theorem d_In_holds_85 : decode b_In_holds 85 = .ok (.iload 4, 2) := by decide +kernel
theorem d_In_holds_87 : decode b_In_holds 87 = .ok (.laload, 1) := by decide +kernel
theorem d_In_holds_88 : decode b_In_holds 88 = .ok (.aload_n 2, 1) := by decide +kernel
theorem d_In_holds_89 : decode b_In_holds 89 = .ok (.getfield 38, 3) := by decide +kernel
theorem d_In_holds_92 : decode b_In_holds 92 = .ok (.ldc2_w 42, 3) := by decide +kernel
theorem d_In_holds_95 : decode b_In_holds 95 = .ok (.lxor, 1) := by decide +kernel
theorem d_In_holds_96 : decode b_In_holds 96 = .ok (.land, 1) := by decide +kernel
theorem d_In_holds_97 : decode b_In_holds 97 = .ok (.lconst 0, 1) := by decide +kernel
theorem d_In_holds_98 : decode b_In_holds 98 = .ok (.lcmp, 1) := by decide +kernel
theorem d_In_holds_99 : decode b_In_holds 99 = .ok (.ifCond .eq 5, 3) := by decide +kernel
theorem d_In_holds_102 : decode b_In_holds 102 = .ok (.iconst 0, 1) := by decide +kernel
theorem d_In_holds_103 : decode b_In_holds 103 = .ok (.ireturn, 1) := by decide +kernel
theorem d_In_holds_104 : decode b_In_holds 104 = .ok (.iinc 4 1, 3) := by decide +kernel
theorem d_In_holds_107 : decode b_In_holds 107 = .ok (.goto (-44), 3) := by decide +kernel
theorem d_In_holds_110 : decode b_In_holds 110 = .ok (.iconst 1, 1) := by decide +kernel
theorem d_In_holds_111 : decode b_In_holds 111 = .ok (.ireturn, 1) := by decide +kernel
theorem pd_Co_addLetter : y_Co_addLetter.cls ≠ "java/lang/invoke/MethodHandle" ∧ y_Co_addLetter.cls ≠ "java/lang/invoke/VarHandle" ∧ (parseMethodDescriptor y_Co_addLetter.desc).map (fun d => d.parameters.length) = some 2 := by decide +kernel
theorem pd_Co_count : y_Co_count.cls ≠ "java/lang/invoke/MethodHandle" ∧ y_Co_count.cls ≠ "java/lang/invoke/VarHandle" ∧ (parseMethodDescriptor y_Co_count.desc).map (fun d => d.parameters.length) = some 2 := by decide +kernel
theorem pd_In_comeTo : y_In_comeTo.cls ≠ "java/lang/invoke/MethodHandle" ∧ y_In_comeTo.cls ≠ "java/lang/invoke/VarHandle" ∧ (parseMethodDescriptor y_In_comeTo.desc).map (fun d => d.parameters.length) = some 2 := by decide +kernel
theorem pd_In_goOn : y_In_goOn.cls ≠ "java/lang/invoke/MethodHandle" ∧ y_In_goOn.cls ≠ "java/lang/invoke/VarHandle" ∧ (parseMethodDescriptor y_In_goOn.desc).map (fun d => d.parameters.length) = some 2 := by decide +kernel
theorem pd_In_holds : y_In_holds.cls ≠ "java/lang/invoke/MethodHandle" ∧ y_In_holds.cls ≠ "java/lang/invoke/VarHandle" ∧ (parseMethodDescriptor y_In_holds.desc).map (fun d => d.parameters.length) = some 2 := by decide +kernel
theorem fl_Co_15 : (Cond.fieldLink "RegularSolver$Counter" 15 "RegularSolver$Counter" "longerCounts" "[J") ∈ gW := gm 82 (by decide +kernel) (by decide +kernel)
theorem fl_Co_9 : (Cond.fieldLink "RegularSolver$Counter" 9 "RegularSolver$Counter" "counts" "[J") ∈ gW := gm 81 (by decide +kernel) (by decide +kernel)
theorem fl_Co_18 : (Cond.fieldLink "RegularSolver$Counter" 18 "RegularSolver$Automaton" "states" "I") ∈ gW := gm 443 (by decide +kernel) (by decide +kernel)
theorem ml_Co_24 : (Cond.methodLink "RegularSolver$Counter" 24 ({ cls := "RegularSolver$Automaton", name := "isLast", desc := "(I)Z" } : MethodName)) ∈ gW := gm 628 (by decide +kernel) (by decide +kernel)
theorem fl_Co_28 : (Cond.fieldLink "RegularSolver$Counter" 28 "RegularSolver$Automaton" "next" "[I") ∈ gW := gm 447 (by decide +kernel) (by decide +kernel)
theorem ml_Co_32 : (Cond.methodLink "RegularSolver$Counter" 32 ({ cls := "RegularSolver$Counter", name := "addLetter", desc := "(I[I)V" } : MethodName)) ∈ gW := gm 629 (by decide +kernel) (by decide +kernel)
theorem ini_Co : (Cond.initialized "RegularSolver$Counter") ∈ gW := gm 3 (by decide +kernel) (by decide +kernel)
theorem im_Co_addLetter : (Cond.instanceMethod ({ cls := "RegularSolver$Counter", name := "addLetter", desc := "(I[I)V" } : MethodName)) ∈ gW := gm 631 (by decide +kernel) (by decide +kernel)
theorem se_Co_addLetter : (Cond.selects "RegularSolver$Counter" ({ cls := "RegularSolver$Counter", name := "addLetter", desc := "(I[I)V" } : MethodName) ({ cls := "RegularSolver$Counter", name := "addLetter", desc := "(I[I)V" } : MethodName)) ∈ gW := gs (by decide +kernel) (by decide +kernel)
theorem fl_In_9 : (Cond.fieldLink "RegularSolver$Inclusion" 9 "RegularSolver$Inclusion" "seen" "[J") ∈ gW := gm 94 (by decide +kernel) (by decide +kernel)
theorem kl_In_42 : (Cond.constantLong "RegularSolver$Inclusion" 42 (-1)) ∈ gW := gm 689 (by decide +kernel) (by decide +kernel)
theorem fl_In_15 : (Cond.fieldLink "RegularSolver$Inclusion" 15 "RegularSolver$Inclusion" "waiting" "[J") ∈ gW := gm 95 (by decide +kernel) (by decide +kernel)
theorem fl_In_28 : (Cond.fieldLink "RegularSolver$Inclusion" 28 "RegularSolver$Automaton" "states" "I") ∈ gW := gm 444 (by decide +kernel) (by decide +kernel)
theorem ml_In_44 : (Cond.methodLink "RegularSolver$Inclusion" 44 ({ cls := "RegularSolver$Automaton", name := "go", desc := "(II)I" } : MethodName)) ∈ gW := gm 683 (by decide +kernel) (by decide +kernel)
theorem ml_In_48 : (Cond.methodLink "RegularSolver$Inclusion" 48 ({ cls := "RegularSolver$Automaton", name := "goAll", desc := "(JI)J" } : MethodName)) ∈ gW := gm 684 (by decide +kernel) (by decide +kernel)
theorem im_Au_goAll : (Cond.instanceMethod ({ cls := "RegularSolver$Automaton", name := "goAll", desc := "(JI)J" } : MethodName)) ∈ gW := gm 369 (by decide +kernel) (by decide +kernel)
theorem se_Au_goAll : (Cond.selects "RegularSolver$Automaton" ({ cls := "RegularSolver$Automaton", name := "goAll", desc := "(JI)J" } : MethodName) ({ cls := "RegularSolver$Automaton", name := "goAll", desc := "(JI)J" } : MethodName)) ∈ gW := gm 370 (by decide +kernel) (by decide +kernel)
theorem ml_In_52 : (Cond.methodLink "RegularSolver$Inclusion" 52 ({ cls := "RegularSolver$Inclusion", name := "comeTo", desc := "(IJ)V" } : MethodName)) ∈ gW := gm 685 (by decide +kernel) (by decide +kernel)
theorem ini_In : (Cond.initialized "RegularSolver$Inclusion") ∈ gW := gm 4 (by decide +kernel) (by decide +kernel)
theorem im_In_comeTo : (Cond.instanceMethod ({ cls := "RegularSolver$Inclusion", name := "comeTo", desc := "(IJ)V" } : MethodName)) ∈ gW := gm 687 (by decide +kernel) (by decide +kernel)
theorem se_In_comeTo : (Cond.selects "RegularSolver$Inclusion" ({ cls := "RegularSolver$Inclusion", name := "comeTo", desc := "(IJ)V" } : MethodName) ({ cls := "RegularSolver$Inclusion", name := "comeTo", desc := "(IJ)V" } : MethodName)) ∈ gW := gs (by decide +kernel) (by decide +kernel)
theorem ml_In_18 : (Cond.methodLink "RegularSolver$Inclusion" 18 ({ cls := "java/util/Arrays", name := "fill", desc := "([JJ)V" } : MethodName)) ∈ gW := gm 676 (by decide +kernel) (by decide +kernel)
theorem ini_Ar : (Cond.initialized "java/util/Arrays") ∈ gW := gm 14 (by decide +kernel) (by decide +kernel)
theorem st_Ar_fillJ : (Cond.static ({ cls := "java/util/Arrays", name := "fill", desc := "([JJ)V" } : MethodName)) ∈ gW := gm 677 (by decide +kernel) (by decide +kernel)
theorem ml_In_24 : (Cond.methodLink "RegularSolver$Inclusion" 24 ({ cls := "RegularSolver$Inclusion", name := "goOn", desc := "(LRegularSolver$Automaton;LRegularSolver$Automaton;)Z" } : MethodName)) ∈ gW := gm 679 (by decide +kernel) (by decide +kernel)
theorem im_In_goOn : (Cond.instanceMethod ({ cls := "RegularSolver$Inclusion", name := "goOn", desc := "(LRegularSolver$Automaton;LRegularSolver$Automaton;)Z" } : MethodName)) ∈ gW := gm 681 (by decide +kernel) (by decide +kernel)
theorem se_In_goOn : (Cond.selects "RegularSolver$Inclusion" ({ cls := "RegularSolver$Inclusion", name := "goOn", desc := "(LRegularSolver$Automaton;LRegularSolver$Automaton;)Z" } : MethodName) ({ cls := "RegularSolver$Inclusion", name := "goOn", desc := "(LRegularSolver$Automaton;LRegularSolver$Automaton;)Z" } : MethodName)) ∈ gW := gs (by decide +kernel) (by decide +kernel)
theorem ml_In_34 : (Cond.methodLink "RegularSolver$Inclusion" 34 ({ cls := "RegularSolver$Automaton", name := "isLast", desc := "(I)Z" } : MethodName)) ∈ gW := gm 690 (by decide +kernel) (by decide +kernel)
theorem fl_In_38 : (Cond.fieldLink "RegularSolver$Inclusion" 38 "RegularSolver$Automaton" "last" "J") ∈ gW := gm 450 (by decide +kernel) (by decide +kernel)
section
variable {p : Program} {l : Launch} {e : Env} {R : Room} {s : State} {m : MethodId} {args : Array Value} {below : List Frame} {meth : Method} {c : Code} {H : Heap} {locs : List Loc} {cells slots : Nat} {Q : State → Prop} {A : Nat → Prop} {H0 : Heap}
variable {n : Nat} {D : va_G} {K : Nat → ClassId} {cq : Nat} {c1 : Nat} {c2 : Nat} {ia : Nat} {cCounts : Nat → Int64} {cLonger : Nat → Int64} {iN : Nat} {iF : Nat → Int32}
def f_Co_addLetter_2 (n : Nat) (v1 : Int32) (cCounts : Nat → Int64) (iN : Nat) (iF : Nat → Int32) : Nat → Int32 → (Nat → Int64) → Option (Int32 × (Nat → Int64))
  | 0, _, _ => none
  | k + 1, v3, cLonger =>
    if v1 ≤ v3 then
      some (v3, cLonger)
    else
      ogd (gin (4 * v3) iN) <|
      ogd (gin (iF (4 * v3).toNatClampNeg) 64) <|
      ogd (gin ((4 * v3) + 1) iN) <|
      ogd (gin (iF ((4 * v3) + 1).toNatClampNeg) 64) <|
      ogd (gin ((4 * v3) + 2) iN) <|
      ogd (gin (iF ((4 * v3) + 2).toNatClampNeg) 64) <|
      ogd (gin ((4 * v3) + 3) iN) <|
      ogd (gin (iF ((4 * v3) + 3).toNatClampNeg) 64) <|
      ogd (gin v3 64) <|
      f_Co_addLetter_2 n v1 cCounts iN iF k (v3 + 1) (vp_updL cLonger v3.toNatClampNeg ((((cCounts (iF (4 * v3).toNatClampNeg).toNatClampNeg) + (cCounts (iF ((4 * v3) + 1).toNatClampNeg).toNatClampNeg)) + (cCounts (iF ((4 * v3) + 2).toNatClampNeg).toNatClampNeg)) + (cCounts (iF ((4 * v3) + 3).toNatClampNeg).toNatClampNeg)))
set_option maxHeartbeats 4000000 in
set_option maxRecDepth 100000 in
theorem w_Co_addLetter_2  {v1 : Int32} (hx : p.tables.exec = Jvm.exec) (hb : c.code = b_Co_addLetter) (hml : c.maxLocals = 5) (hts : ∀ w ∈ gW, w.before args s = true) (hown : s.vm.findClass "RegularSolver$Counter" = some m.cls) (hK : va_K D vwCl (tG K) s) (hO1 : ∀ (H : Heap) (locs : List Loc), va_S A H0 H locs → va_P D vwCl (iaW K ia iN iF) H) (hw1 : gAw A (iaW K ia iN iF)) (hRf : 0 ≤ R.frames) (hRl : 0 ≤ R.locals) (hRc : cells ≤ R.cells) (hRs : slots ≤ R.slots) (hA : ∀ q, H0.size ≤ q → A q)  {out : Int32 × (Nat → Int64)} (Kx : ∀ (u : Int32 × (Nat → Int64)), out = u → ∀ (c1 : Nat) (c2 : Nat), ∀ (ls : Array Slot) (H : Heap) (locs : List Loc), va_P D vwCl (coW K cq c1 c2 cCounts u.2) H → va_D A (coW K cq c1 c2 cCounts u.2) → va_S A H0 H locs → lv_has ls 5 [(0, .ref cq)] → W p l e R s m args below meth c H locs cells slots Q (F0 m 69 ls [])) :
    ∀ (k : Nat) (v3 : Int32) (cLonger : Nat → Int64), f_Co_addLetter_2 n v1 cCounts iN iF k v3 cLonger = some out → ∀ (c1 : Nat) (c2 : Nat), ∀ (ls : Array Slot) (H : Heap) (locs : List Loc), va_P D vwCl (coW K cq c1 c2 cCounts cLonger) H → va_D A (coW K cq c1 c2 cCounts cLonger) → va_S A H0 H locs → lv_has ls 5 [(3, .int v3), (0, .ref cq), (1, .int v1), (2, .ref ia)] → W p l e R s m args below meth c H locs cells slots Q (F0 m 2 ls []) := by
  intro k
  induction k with
  | zero => intro _ _ hf; exact nomatch (show none = some out from hf)
  | succ k ih =>
    intro v3 cLonger hf c1 c2 ls H locs hP hD hS hl
    rw [f_Co_addLetter_2] at hf
    refine lv_iload_n hx hb d_Co_addLetter_2 rfl (lv_at hl 0 rfl) ?_
    refine lv_iload_n hx hb d_Co_addLetter_3 rfl (lv_at hl 2 rfl) ?_
    refine lv_icmp_ge (tgt := 69) hx hb d_Co_addLetter_4 (by decide) (fun c11 => ?_) (fun c11 => ?_)
    · rw [if_pos c11] at hf
      exact Kx _ (Option.some.inj hf).symm _ _ _ _ _ hP hD hS (show lv_has ls 5 [(0, .ref cq)] from lv_sub hl [1] rfl)
    · rw [if_neg c11] at hf
      refine lv_iconst (v := 4) hx hb d_Co_addLetter_7 (by decide) ?_
      refine lv_iload_n hx hb d_Co_addLetter_8 rfl (lv_at hl 0 rfl) ?_
      refine lv_imul hx hb d_Co_addLetter_9 ?_
      refine lv_istore (lv' := [(4, .int (4 * v3)), (3, .int v3), (0, .ref cq), (1, .int v1), (2, .ref ia)]) hx hb d_Co_addLetter_10 hl (by decide) rfl (fun ls hl => ?_)
      refine lv_aload_n hx hb d_Co_addLetter_12 rfl (lv_at hl 2 rfl) ?_
      refine va_get (D := D) (ci := 7) (v := .ref c2) (C := R_Co) (T := T_Co) (N := 2) hx hb hts in_Co hown hK hP 0 rfl rfl 1 (by decide) (hts _ fl_Co_15) (fun _ h9 => h9) rfl d_Co_addLetter_13 ?_
      refine lv_iload_n hx hb d_Co_addLetter_16 rfl (lv_at hl 1 rfl) ?_
      refine lv_aload_n hx hb d_Co_addLetter_17 rfl (lv_at hl 2 rfl) ?_
      refine va_get (D := D) (ci := 7) (v := .ref c1) (C := R_Co) (T := T_Co) (N := 2) hx hb hts in_Co hown hK hP 0 rfl rfl 0 (by decide) (hts _ fl_Co_9) (fun _ h9 => h9) rfl d_Co_addLetter_18 ?_
      refine lv_aload_n hx hb d_Co_addLetter_21 rfl (lv_at hl 4 rfl) ?_
      refine lv_iload hx hb d_Co_addLetter_22 (lv_at hl 0 rfl) ?_
      obtain ⟨g12, hf⟩ := ogi hf
      refine va_iald hx hb hK (hO1 _ _ hS) 0 0 rfl rfl (gin_in g12) d_Co_addLetter_24 ?_
      obtain ⟨g13, hf⟩ := ogi hf
      refine va_lald hx hb hK hP 1 1 rfl rfl (gin_in g13) d_Co_addLetter_25 ?_
      refine lv_aload_n hx hb d_Co_addLetter_26 rfl (lv_at hl 2 rfl) ?_
      refine va_get (D := D) (ci := 7) (v := .ref c1) (C := R_Co) (T := T_Co) (N := 2) hx hb hts in_Co hown hK hP 0 rfl rfl 0 (by decide) (hts _ fl_Co_9) (fun _ h9 => h9) rfl d_Co_addLetter_27 ?_
      refine lv_aload_n hx hb d_Co_addLetter_30 rfl (lv_at hl 4 rfl) ?_
      refine lv_iload hx hb d_Co_addLetter_31 (lv_at hl 0 rfl) ?_
      refine lv_iconst (v := 1) hx hb d_Co_addLetter_33 (by decide) ?_
      refine lv_iadd hx hb d_Co_addLetter_34 ?_
      obtain ⟨g14, hf⟩ := ogi hf
      refine va_iald hx hb hK (hO1 _ _ hS) 0 0 rfl rfl (gin_in g14) d_Co_addLetter_35 ?_
      obtain ⟨g15, hf⟩ := ogi hf
      refine va_lald hx hb hK hP 1 1 rfl rfl (gin_in g15) d_Co_addLetter_36 ?_
      refine lv_ladd hx hb d_Co_addLetter_37 ?_
      refine lv_aload_n hx hb d_Co_addLetter_38 rfl (lv_at hl 2 rfl) ?_
      refine va_get (D := D) (ci := 7) (v := .ref c1) (C := R_Co) (T := T_Co) (N := 2) hx hb hts in_Co hown hK hP 0 rfl rfl 0 (by decide) (hts _ fl_Co_9) (fun _ h9 => h9) rfl d_Co_addLetter_39 ?_
      refine lv_aload_n hx hb d_Co_addLetter_42 rfl (lv_at hl 4 rfl) ?_
      refine lv_iload hx hb d_Co_addLetter_43 (lv_at hl 0 rfl) ?_
      refine lv_iconst (v := 2) hx hb d_Co_addLetter_45 (by decide) ?_
      refine lv_iadd hx hb d_Co_addLetter_46 ?_
      obtain ⟨g16, hf⟩ := ogi hf
      refine va_iald hx hb hK (hO1 _ _ hS) 0 0 rfl rfl (gin_in g16) d_Co_addLetter_47 ?_
      obtain ⟨g17, hf⟩ := ogi hf
      refine va_lald hx hb hK hP 1 1 rfl rfl (gin_in g17) d_Co_addLetter_48 ?_
      refine lv_ladd hx hb d_Co_addLetter_49 ?_
      refine lv_aload_n hx hb d_Co_addLetter_50 rfl (lv_at hl 2 rfl) ?_
      refine va_get (D := D) (ci := 7) (v := .ref c1) (C := R_Co) (T := T_Co) (N := 2) hx hb hts in_Co hown hK hP 0 rfl rfl 0 (by decide) (hts _ fl_Co_9) (fun _ h9 => h9) rfl d_Co_addLetter_51 ?_
      refine lv_aload_n hx hb d_Co_addLetter_54 rfl (lv_at hl 4 rfl) ?_
      refine lv_iload hx hb d_Co_addLetter_55 (lv_at hl 0 rfl) ?_
      refine lv_iconst (v := 3) hx hb d_Co_addLetter_57 (by decide) ?_
      refine lv_iadd hx hb d_Co_addLetter_58 ?_
      obtain ⟨g18, hf⟩ := ogi hf
      refine va_iald hx hb hK (hO1 _ _ hS) 0 0 rfl rfl (gin_in g18) d_Co_addLetter_59 ?_
      obtain ⟨g19, hf⟩ := ogi hf
      refine va_lald hx hb hK hP 1 1 rfl rfl (gin_in g19) d_Co_addLetter_60 ?_
      refine lv_ladd hx hb d_Co_addLetter_61 ?_
      obtain ⟨g20, hf⟩ := ogi hf
      refine va_last hx hb hK hP hD hS 2 1 rfl rfl (gin_in g20) d_Co_addLetter_62 (fun H locs hP hD hS => ?_)
      have hP : va_P D vwCl (coW K cq c1 c2 cCounts (vp_updL cLonger v3.toNatClampNeg ((((cCounts (iF (4 * v3).toNatClampNeg).toNatClampNeg) + (cCounts (iF ((4 * v3) + 1).toNatClampNeg).toNatClampNeg)) + (cCounts (iF ((4 * v3) + 2).toNatClampNeg).toNatClampNeg)) + (cCounts (iF ((4 * v3) + 3).toNatClampNeg).toNatClampNeg)))) H := hP
      have hD : va_D A (coW K cq c1 c2 cCounts (vp_updL cLonger v3.toNatClampNeg ((((cCounts (iF (4 * v3).toNatClampNeg).toNatClampNeg) + (cCounts (iF ((4 * v3) + 1).toNatClampNeg).toNatClampNeg)) + (cCounts (iF ((4 * v3) + 2).toNatClampNeg).toNatClampNeg)) + (cCounts (iF ((4 * v3) + 3).toNatClampNeg).toNatClampNeg)))) := hD
      refine lv_iinc (v := v3 + 1) (lv' := [(3, .int (v3 + 1)), (4, .int (4 * v3)), (0, .ref cq), (1, .int v1), (2, .ref ia)]) hx hb d_Co_addLetter_63 hl (k := 1) rfl (by first | rfl | (congr 1)) (by decide) rfl (fun ls hl => ?_)
      refine lv_goto (tgt := 2) hx hb d_Co_addLetter_66 (by decide) ?_
      exact ih _ _ hf _ _ _ _ _ hP hD hS (show lv_has ls 5 [(3, .int (v3 + 1)), (0, .ref cq), (1, .int v1), (2, .ref ia)] from lv_sub hl [0, 2, 3, 4] rfl)
def f_Co_addLetter (n : Nat) (p0 : Int32) (cCounts : Nat → Int64) (cLonger : Nat → Int64) (iN : Nat) (iF : Nat → Int32) : Option ((Nat → Int64) × (Nat → Int64)) :=
  (f_Co_addLetter_2 n p0 cCounts iN iF n 0 cLonger).bind fun u21 =>
  some (u21.2, cCounts)
set_option maxHeartbeats 4000000 in
set_option maxRecDepth 100000 in
theorem w_Co_addLetter  {p0 : Int32}  (hx : p.tables.exec = Jvm.exec) (hb : c.code = b_Co_addLetter) (hml : c.maxLocals = 5) (hts : ∀ w ∈ gW, w.before args s = true) (hown : s.vm.findClass "RegularSolver$Counter" = some m.cls) (hK : va_K D vwCl (tG K) s) (hO1 : ∀ (H : Heap) (locs : List Loc), va_S A H0 H locs → va_P D vwCl (iaW K ia iN iF) H) (hw1 : gAw A (iaW K ia iN iF)) (hRf : 0 ≤ R.frames) (hRl : 0 ≤ R.locals) (hRc : cells ≤ R.cells) (hRs : slots ≤ R.slots) (hA : ∀ q, H0.size ≤ q → A q) {out : (Nat → Int64) × (Nat → Int64)} (Kr : ∀ (r : (Nat → Int64) × (Nat → Int64)), out = r → ∀ (c1 : Nat) (c2 : Nat), ∀ (pc : Nat) (ls : Array Slot) (H : Heap) (locs : List Loc), decode b_Co_addLetter pc = .ok (.return_, 1) → va_P D vwCl (coW K cq c1 c2 r.1 r.2) H → va_D A (coW K cq c1 c2 r.1 r.2) → va_S A H0 H locs → W p l e R s m args below meth c H locs cells slots Q (F0 m pc ls [])) (hf : f_Co_addLetter n p0 cCounts cLonger iN iF = some out) (ls : Array Slot) (hP : va_P D vwCl (coW K cq c1 c2 cCounts cLonger) H) (hD : va_D A (coW K cq c1 c2 cCounts cLonger)) (hS : va_S A H0 H locs) (hl : lv_has ls 5 [(0, .ref cq), (1, .int p0), (2, .ref ia)]) : W p l e R s m args below meth c H locs cells slots Q (F0 m 0 ls []) := by
  unfold f_Co_addLetter at hf
  refine lv_iconst (v := 0) hx hb d_Co_addLetter_0 (by decide) ?_
  refine lv_istore_n (lv' := [(3, .int 0), (0, .ref cq), (1, .int p0), (2, .ref ia)]) hx hb d_Co_addLetter_1 rfl hl (by decide) rfl (fun ls hl => ?_)
  obtain ⟨u21, eu21, hf⟩ := obd hf
  refine w_Co_addLetter_2 hx hb hml hts hown hK hO1 hw1 hRf hRl hRc hRs hA  (fun u21q eu c1 c2 ls H locs hP hD hS hl => ?_) _ _ _ eu21 _ _ _ _ _ hP hD hS (show lv_has ls 5 [(3, .int 0), (0, .ref cq), (1, .int p0), (2, .ref ia)] from lv_sub hl [0, 1, 2, 3] rfl)
  subst eu
  refine lv_aload_n hx hb d_Co_addLetter_69 rfl (lv_at hl 0 rfl) ?_
  refine va_get (D := D) (ci := 7) (v := .ref c1) (C := R_Co) (T := T_Co) (N := 2) hx hb hts in_Co hown hK hP 0 rfl rfl 0 (by decide) (hts _ fl_Co_9) (fun _ h9 => h9) rfl d_Co_addLetter_70 ?_
  refine lv_astore_n (lv' := [(3, .ref c1), (0, .ref cq)]) hx hb d_Co_addLetter_73 rfl hl (by decide) rfl (fun ls hl => ?_)
  refine lv_aload_n hx hb d_Co_addLetter_74 rfl (lv_at hl 1 rfl) ?_
  refine lv_aload_n hx hb d_Co_addLetter_75 rfl (lv_at hl 1 rfl) ?_
  refine va_get (D := D) (ci := 7) (v := .ref c2) (C := R_Co) (T := T_Co) (N := 2) hx hb hts in_Co hown hK hP 0 rfl rfl 1 (by decide) (hts _ fl_Co_15) (fun _ h9 => h9) rfl d_Co_addLetter_76 ?_
  refine va_put (D := D) (ci := 7) (v := .ref c2) (ty := (.array .long)) (C := R_Co) (T := T_Co) (N := 2) hx hb hts in_Co t_Co t_Co_ok n_Co hown hK hP hD hS 0 rfl rfl 0 (by decide) (hts _ fl_Co_9) (fun _ h9 => h9) rfl (by decide +kernel) rfl rfl (Nat.le_of_ble_eq_true rfl) d_Co_addLetter_79 (fun H locs hP hD hS => ?_)
  refine lv_aload_n hx hb d_Co_addLetter_82 rfl (lv_at hl 1 rfl) ?_
  refine lv_aload_n hx hb d_Co_addLetter_83 rfl (lv_at hl 0 rfl) ?_
  refine va_put (D := D) (ci := 7) (v := .ref c1) (ty := (.array .long)) (C := R_Co) (T := T_Co) (N := 2) hx hb hts in_Co t_Co t_Co_ok n_Co hown hK hP hD hS 0 rfl rfl 1 (by decide) (hts _ fl_Co_15) (fun _ h9 => h9) rfl (by decide +kernel) rfl rfl (Nat.le_of_ble_eq_true rfl) d_Co_addLetter_84 (fun H locs hP hD hS => ?_)
  have hP : va_P D vwCl (coW K cq c2 c1 u21.2 cCounts) H := hP.sub [0, 2, 1] rfl
  have hD : va_D A (coW K cq c2 c1 u21.2 cCounts) := hD.sub [0, 2, 1] (by decide) rfl
  exact Kr _ (Option.some.inj hf).symm _ _ _ _ _ _ d_Co_addLetter_87 hP hD hS
set_option maxHeartbeats 4000000 in
set_option maxRecDepth 100000 in
theorem c_Co_addLetter (l : Launch)  {p0 : Int32}  {r : (Nat → Int64) × (Nat → Int64)} (sz : Nat) (hf : f_Co_addLetter n p0 cCounts cLonger iN iF = some r) : Met l y_Co_addLetter w0_Co_addLetter ({ frames := 0, cells := 0, slots := 0, locals := 0 }) (wPreR D K [.ref cq, .int p0, .ref ia] (coW K cq c1 c2 cCounts cLonger) ((iaW K ia iN iF)) sz) (wPostG D K (fun _ : Nat × Nat => none) (fun g => (coW K cq g.1 g.2 r.1 r.2)) (va_A (coW K cq c1 c2 cCounts cLonger) sz)) 0 0 (va_A (coW K cq c1 c2 cCounts cLonger) sz) := by
  refine Met.ofW (cc := b_Co_addLetter) (maxL := 5) (ret := none) (by decide) rfl ?_
  intro p e s m args below meth c s₁ B hml hv
  obtain ⟨rfl, hsz, hP, hK, hD0, hR, hw⟩ := hv
  subst hsz
  have hl := lv_entry [.ref cq, .int p0, .ref ia] (n := 5) (Nat.le_of_ble_eq_true rfl)
  rw [lg_entry_eq]
  generalize (lg_sl [.ref cq, .int p0, .ref ia] ++ List.replicate (5 - (lg_sl [.ref cq, .int p0, .ref ia]).length) Slot.unset).toArray = ls at hl ⊢
  refine w_Co_addLetter (A := va_A (coW K cq c1 c2 cCounts cLonger) s.heap.size) (H0 := s.heap) B.exec B.bytes hml (fun w hw => atoms_spec (ws := w0_Co_addLetter) B.pre w (List.mem_cons_of_mem _ hw)) (findClass_of_methodNamed B.named) hK (fun _ _ hS => ro_of hR hw hS) hw (Nat.le_refl _) (Nat.le_refl _) (Nat.zero_le _) (Nat.zero_le _) (fun q h => Or.inr h) (fun r er c1 c2 pc ls H locs hd hP hD hS => ?_) hf ls hP (hD0.self (sz := s.heap.size)) va_S.rf hl
  subst er
  exact W.vret B.exec B.bytes B.returns (fun t ht hW => ⟨⟨(c1, c2), rfl, by rw [ht]; exact hP, va_K.moved hW.alike hK, hD⟩, hS.F ht⟩) hS.2.2 hd (hlocks := B.notSynchronized)
end
section
variable {p : Program} {l : Launch} {e : Env} {R : Room} {s : State} {m : MethodId} {args : Array Value} {below : List Frame} {meth : Method} {c : Code} {H : Heap} {locs : List Loc} {cells slots : Nat} {Q : State → Prop} {A : Nat → Prop} {H0 : Heap}
variable {n : Nat} {D : va_G} {K : Nat → ClassId} {cq : Nat} {c1 : Nat} {c2 : Nat} {q : Nat} {an : Nat} {aa : Nat} {cCounts : Nat → Int64} {cLonger : Nat → Int64} {aStates : Int32} {aNl : Nat} {aNext : Nat → Int32} {aLast : Int64} {aAhead : Nat → Int64}
def f_Co_count_2 (n : Nat) (aStates : Int32) (aLast : Int64) : Nat → Int32 → (Nat → Int64) → Option (Int32 × (Nat → Int64))
  | 0, _, _ => none
  | k + 1, v3, cCounts =>
    if aStates ≤ v3 then
      some (v3, cCounts)
    else
      (f_Au_isLast n v3 aLast).bind fun u7 =>
      if u7 = true then
        ogd (gin v3 64) <|
        f_Co_count_2 n aStates aLast k (v3 + 1) (vp_updL cCounts v3.toNatClampNeg 1)
      else
        ogd (gin v3 64) <|
        f_Co_count_2 n aStates aLast k (v3 + 1) (vp_updL cCounts v3.toNatClampNeg 0)
set_option maxHeartbeats 4000000 in
set_option maxRecDepth 100000 in
theorem w_Co_count_2  {v2 : Int32} (hx : p.tables.exec = Jvm.exec) (hb : c.code = b_Co_count) (hml : c.maxLocals = 4) (hts : ∀ w ∈ gW, w.before args s = true) (hown : s.vm.findClass "RegularSolver$Counter" = some m.cls) (hK : va_K D vwCl (tG K) s) (hO1 : ∀ (H : Heap) (locs : List Loc), va_S A H0 H locs → va_P D vwCl (auW K q an aa aStates aNl aNext aLast aAhead) H) (hw1 : gAw A (auW K q an aa aStates aNl aNext aLast aAhead)) (hRf : 1 ≤ R.frames) (hRl : 24 ≤ R.locals) (hRc : cells ≤ R.cells) (hRs : slots ≤ R.slots) (hA : ∀ q, H0.size ≤ q → A q)  {out : Int32 × (Nat → Int64)} (Kx : ∀ (u : Int32 × (Nat → Int64)), out = u → ∀ (c1 : Nat) (c2 : Nat), ∀ (ls : Array Slot) (H : Heap) (locs : List Loc), va_P D vwCl (coW K cq c1 c2 u.2 cLonger) H → va_D A (coW K cq c1 c2 u.2 cLonger) → va_S A H0 H locs → lv_has ls 4 [(0, .ref cq), (1, .ref q), (2, .int v2)] → W p l e R s m args below meth c H locs cells slots Q (F0 m 35 ls [])) :
    ∀ (k : Nat) (v3 : Int32) (cCounts : Nat → Int64), f_Co_count_2 n aStates aLast k v3 cCounts = some out → ∀ (c1 : Nat) (c2 : Nat), ∀ (ls : Array Slot) (H : Heap) (locs : List Loc), va_P D vwCl (coW K cq c1 c2 cCounts cLonger) H → va_D A (coW K cq c1 c2 cCounts cLonger) → va_S A H0 H locs → lv_has ls 4 [(3, .int v3), (0, .ref cq), (1, .ref q), (2, .int v2)] → W p l e R s m args below meth c H locs cells slots Q (F0 m 2 ls []) := by
  intro k
  induction k with
  | zero => intro _ _ hf; exact nomatch (show none = some out from hf)
  | succ k ih =>
    intro v3 cCounts hf c1 c2 ls H locs hP hD hS hl
    rw [f_Co_count_2] at hf
    refine lv_iload_n hx hb d_Co_count_2 rfl (lv_at hl 0 rfl) ?_
    refine lv_aload_n hx hb d_Co_count_3 rfl (lv_at hl 2 rfl) ?_
    refine va_get (D := D) (ci := 1) (v := .int aStates) (C := R_Au) (T := T_Au) (N := 4) hx hb hts in_Au hown hK (hO1 _ _ hS) 0 rfl rfl 0 (by decide) (hts _ fl_Co_18) (fun _ h9 => h9) rfl d_Co_count_4 ?_
    refine lv_icmp_ge (tgt := 35) hx hb d_Co_count_7 (by decide) (fun c6 => ?_) (fun c6 => ?_)
    · rw [if_pos c6] at hf
      exact Kx _ (Option.some.inj hf).symm _ _ _ _ _ hP hD hS (show lv_has ls 4 [(0, .ref cq), (1, .ref q), (2, .int v2)] from lv_sub hl [1, 2, 3] rfl)
    · rw [if_neg c6] at hf
      refine lv_aload_n hx hb d_Co_count_10 rfl (lv_at hl 1 rfl) ?_
      refine va_get (D := D) (ci := 7) (v := .ref c1) (C := R_Co) (T := T_Co) (N := 2) hx hb hts in_Co hown hK hP 0 rfl rfl 0 (by decide) (hts _ fl_Co_9) (fun _ h9 => h9) rfl d_Co_count_11 ?_
      refine lv_iload_n hx hb d_Co_count_14 rfl (lv_at hl 0 rfl) ?_
      refine lv_aload_n hx hb d_Co_count_15 rfl (lv_at hl 2 rfl) ?_
      refine lv_iload_n hx hb d_Co_count_16 rfl (lv_at hl 0 rfl) ?_
      obtain ⟨u7, eu7, hf⟩ := obd hf
      refine p_call (W.runV (As := [.int v3]) (rest := [.int v3, .ref c1]) ⟨hx, hb, hml, hown, hts⟩ (c_Au_isLast l eu7) (gV 1 hts cd_Au_isLast ml_Co_24 im_Au_isLast se_Au_isLast ini_Au rfl rfl pd_Au_isLast ⟨Nat.le_trans (Nat.le_of_ble_eq_true rfl) hRf, Nat.le_trans (Nat.le_of_ble_eq_true rfl) hRl⟩) ⟨pPre_blind, va_recv hK (hO1 _ _ hS) (ci := 1) (q0 := 0) rfl rfl, pPre_of (hO1 _ _ hS) hK⟩ rfl rfl hl.1 rfl (lv_room (Nat.le_of_ble_eq_true rfl)) d_Co_count_17 ⟨hRc, hRs⟩) ?_
      refine bz_eq (tgt := 27) hx hb d_Co_count_20 (by decide) (fun c8 => ?_) (fun c8 => ?_)
      · rw [if_neg c8] at hf
        refine lv_lconst (v := 0) hx hb d_Co_count_27 (by decide) ?_
        obtain ⟨g9, hf⟩ := ogi hf
        refine va_last hx hb hK hP hD hS 1 1 rfl rfl (gin_in g9) d_Co_count_28 (fun H locs hP hD hS => ?_)
        have hP : va_P D vwCl (coW K cq c1 c2 (vp_updL cCounts v3.toNatClampNeg 0) cLonger) H := hP
        have hD : va_D A (coW K cq c1 c2 (vp_updL cCounts v3.toNatClampNeg 0) cLonger) := hD
        refine lv_iinc (v := v3 + 1) (lv' := [(3, .int (v3 + 1)), (0, .ref cq), (1, .ref q), (2, .int v2)]) hx hb d_Co_count_29 hl (k := 0) rfl (by first | rfl | (congr 1)) (by decide) rfl (fun ls hl => ?_)
        refine lv_goto (tgt := 2) hx hb d_Co_count_32 (by decide) ?_
        exact ih _ _ hf _ _ _ _ _ hP hD hS (show lv_has ls 4 [(3, .int (v3 + 1)), (0, .ref cq), (1, .ref q), (2, .int v2)] from lv_sub hl [0, 1, 2, 3] rfl)
      · rw [if_pos c8] at hf
        refine lv_lconst (v := 1) hx hb d_Co_count_23 (by decide) ?_
        refine lv_goto (tgt := 28) hx hb d_Co_count_24 (by decide) ?_
        obtain ⟨g10, hf⟩ := ogi hf
        refine va_last hx hb hK hP hD hS 1 1 rfl rfl (gin_in g10) d_Co_count_28 (fun H locs hP hD hS => ?_)
        have hP : va_P D vwCl (coW K cq c1 c2 (vp_updL cCounts v3.toNatClampNeg 1) cLonger) H := hP
        have hD : va_D A (coW K cq c1 c2 (vp_updL cCounts v3.toNatClampNeg 1) cLonger) := hD
        refine lv_iinc (v := v3 + 1) (lv' := [(3, .int (v3 + 1)), (0, .ref cq), (1, .ref q), (2, .int v2)]) hx hb d_Co_count_29 hl (k := 0) rfl (by first | rfl | (congr 1)) (by decide) rfl (fun ls hl => ?_)
        refine lv_goto (tgt := 2) hx hb d_Co_count_32 (by decide) ?_
        exact ih _ _ hf _ _ _ _ _ hP hD hS (show lv_has ls 4 [(3, .int (v3 + 1)), (0, .ref cq), (1, .ref q), (2, .int v2)] from lv_sub hl [0, 1, 2, 3] rfl)
def f_Co_count_37 (n : Nat) (v2 : Int32) (aStates : Int32) (aNl : Nat) (aNext : Nat → Int32) : Nat → Int32 → (Nat → Int64) → (Nat → Int64) → Option (Int32 × (Nat → Int64) × (Nat → Int64))
  | 0, _, _, _ => none
  | k + 1, v3, cCounts, cLonger =>
    if v2 ≤ v3 then
      some (v3, cCounts, cLonger)
    else
      (f_Co_addLetter n aStates cCounts cLonger aNl aNext).bind fun u16 =>
      f_Co_count_37 n v2 aStates aNl aNext k (v3 + 1) u16.1 u16.2
set_option maxHeartbeats 4000000 in
set_option maxRecDepth 100000 in
theorem w_Co_count_37  {v2 : Int32} (hx : p.tables.exec = Jvm.exec) (hb : c.code = b_Co_count) (hml : c.maxLocals = 4) (hts : ∀ w ∈ gW, w.before args s = true) (hown : s.vm.findClass "RegularSolver$Counter" = some m.cls) (hK : va_K D vwCl (tG K) s) (hO1 : ∀ (H : Heap) (locs : List Loc), va_S A H0 H locs → va_P D vwCl (auW K q an aa aStates aNl aNext aLast aAhead) H) (hw1 : gAw A (auW K q an aa aStates aNl aNext aLast aAhead)) (hRf : 1 ≤ R.frames) (hRl : 24 ≤ R.locals) (hRc : cells ≤ R.cells) (hRs : slots ≤ R.slots) (hA : ∀ q, H0.size ≤ q → A q)  {out : Int32 × (Nat → Int64) × (Nat → Int64)} (Kx : ∀ (u : Int32 × (Nat → Int64) × (Nat → Int64)), out = u → ∀ (c1 : Nat) (c2 : Nat), ∀ (ls : Array Slot) (H : Heap) (locs : List Loc), va_P D vwCl (coW K cq c1 c2 u.2.1 u.2.2) H → va_D A (coW K cq c1 c2 u.2.1 u.2.2) → va_S A H0 H locs → lv_has ls 4 [(0, .ref cq)] → W p l e R s m args below meth c H locs cells slots Q (F0 m 60 ls [])) :
    ∀ (k : Nat) (v3 : Int32) (cCounts : Nat → Int64) (cLonger : Nat → Int64), f_Co_count_37 n v2 aStates aNl aNext k v3 cCounts cLonger = some out → ∀ (c1 : Nat) (c2 : Nat), ∀ (ls : Array Slot) (H : Heap) (locs : List Loc), va_P D vwCl (coW K cq c1 c2 cCounts cLonger) H → va_D A (coW K cq c1 c2 cCounts cLonger) → va_S A H0 H locs → lv_has ls 4 [(3, .int v3), (0, .ref cq), (1, .ref q), (2, .int v2)] → W p l e R s m args below meth c H locs cells slots Q (F0 m 37 ls []) := by
  intro k
  induction k with
  | zero => intro _ _ _ hf; exact nomatch (show none = some out from hf)
  | succ k ih =>
    intro v3 cCounts cLonger hf c1 c2 ls H locs hP hD hS hl
    rw [f_Co_count_37] at hf
    refine lv_iload_n hx hb d_Co_count_37 rfl (lv_at hl 0 rfl) ?_
    refine lv_iload_n hx hb d_Co_count_38 rfl (lv_at hl 3 rfl) ?_
    refine lv_icmp_ge (tgt := 60) hx hb d_Co_count_39 (by decide) (fun c15 => ?_) (fun c15 => ?_)
    · rw [if_pos c15] at hf
      exact Kx _ (Option.some.inj hf).symm _ _ _ _ _ hP hD hS (show lv_has ls 4 [(0, .ref cq)] from lv_sub hl [1] rfl)
    · rw [if_neg c15] at hf
      refine lv_aload_n hx hb d_Co_count_42 rfl (lv_at hl 1 rfl) ?_
      refine lv_aload_n hx hb d_Co_count_43 rfl (lv_at hl 2 rfl) ?_
      refine va_get (D := D) (ci := 1) (v := .int aStates) (C := R_Au) (T := T_Au) (N := 4) hx hb hts in_Au hown hK (hO1 _ _ hS) 0 rfl rfl 0 (by decide) (hts _ fl_Co_18) (fun _ h9 => h9) rfl d_Co_count_44 ?_
      refine lv_aload_n hx hb d_Co_count_47 rfl (lv_at hl 2 rfl) ?_
      refine va_get (D := D) (ci := 1) (v := .ref an) (C := R_Au) (T := T_Au) (N := 4) hx hb hts in_Au hown hK (hO1 _ _ hS) 0 rfl rfl 1 (by decide) (hts _ fl_Co_28) (fun _ h9 => h9) rfl d_Co_count_48 ?_
      obtain ⟨u16, eu16, hf⟩ := obd hf
      refine w_callA (va_runV (As := [.int aStates, .ref an]) (rest := []) ⟨hx, hb, hml, hown, hts⟩ (c_Co_addLetter l H.size eu16) (gV 2 hts cd_Co_addLetter ml_Co_32 im_Co_addLetter se_Co_addLetter ini_Co rfl rfl pd_Co_addLetter ⟨Nat.le_trans (Nat.le_of_ble_eq_true rfl) hRf, Nat.le_trans (Nat.le_of_ble_eq_true rfl) hRl⟩) ⟨wPreR_blind, va_recv hK hP (ci := 7) (q0 := 0) rfl rfl, wPreR_of hP hK hD hS hA (vaC (hO1 _ _ hS) 1 rfl) (hw1.cell 1 rfl)⟩ rfl rfl hl.1 rfl (lv_room (Nat.le_of_ble_eq_true rfl)) d_Co_count_51 ⟨hRc, hRs⟩) hD hS hA (fun g17 H1 locs hP1 hD1 hk1 hS1 => ?_)
      obtain ⟨hP, hD⟩ : _ ∧ _ := ⟨hP1, hD1.weaken (fun _ q _ h => va_sub hD hS hA q.1 h)⟩
      have hS := hS1
      generalize H1 = H at hP hS ⊢
      have hP : va_P D vwCl (coW K cq g17.1 g17.2 u16.1 u16.2) H := hP
      have hD : va_D A (coW K cq g17.1 g17.2 u16.1 u16.2) := hD
      refine lv_iinc (v := v3 + 1) (lv' := [(3, .int (v3 + 1)), (0, .ref cq), (1, .ref q), (2, .int v2)]) hx hb d_Co_count_54 hl (k := 0) rfl (by first | rfl | (congr 1)) (by decide) rfl (fun ls hl => ?_)
      refine lv_goto (tgt := 37) hx hb d_Co_count_57 (by decide) ?_
      exact ih _ _ _ hf _ _ _ _ _ hP hD hS (show lv_has ls 4 [(3, .int (v3 + 1)), (0, .ref cq), (1, .ref q), (2, .int v2)] from lv_sub hl [0, 1, 2, 3] rfl)
def f_Co_count (n : Nat) (p1 : Int32) (cCounts : Nat → Int64) (cLonger : Nat → Int64) (aStates : Int32) (aNl : Nat) (aNext : Nat → Int32) (aLast : Int64) : Option (Int64 × (Nat → Int64) × (Nat → Int64)) :=
  (f_Co_count_2 n aStates aLast n 0 cCounts).bind fun u11 =>
  (f_Co_count_37 n p1 aStates aNl aNext n 0 u11.2 cLonger).bind fun u18 =>
  ogd (gin 0 64) <|
  some (u18.2.1 (0 : Int32).toNatClampNeg, u18.2.1, u18.2.2)
set_option maxHeartbeats 4000000 in
set_option maxRecDepth 100000 in
theorem w_Co_count  {p1 : Int32}  (hx : p.tables.exec = Jvm.exec) (hb : c.code = b_Co_count) (hml : c.maxLocals = 4) (hts : ∀ w ∈ gW, w.before args s = true) (hown : s.vm.findClass "RegularSolver$Counter" = some m.cls) (hK : va_K D vwCl (tG K) s) (hO1 : ∀ (H : Heap) (locs : List Loc), va_S A H0 H locs → va_P D vwCl (auW K q an aa aStates aNl aNext aLast aAhead) H) (hw1 : gAw A (auW K q an aa aStates aNl aNext aLast aAhead)) (hRf : 1 ≤ R.frames) (hRl : 24 ≤ R.locals) (hRc : cells ≤ R.cells) (hRs : slots ≤ R.slots) (hA : ∀ q, H0.size ≤ q → A q) {out : Int64 × (Nat → Int64) × (Nat → Int64)} (Kr : ∀ (r : Int64 × (Nat → Int64) × (Nat → Int64)), out = r → ∀ (c1 : Nat) (c2 : Nat), ∀ (pc : Nat) (ls : Array Slot) (H : Heap) (locs : List Loc), decode b_Co_count pc = .ok (.lreturn, 1) → va_P D vwCl (coW K cq c1 c2 r.2.1 r.2.2) H → va_D A (coW K cq c1 c2 r.2.1 r.2.2) → va_S A H0 H locs → W p l e R s m args below meth c H locs cells slots Q (F0 m pc ls [.long r.1])) (hf : f_Co_count n p1 cCounts cLonger aStates aNl aNext aLast = some out) (ls : Array Slot) (hP : va_P D vwCl (coW K cq c1 c2 cCounts cLonger) H) (hD : va_D A (coW K cq c1 c2 cCounts cLonger)) (hS : va_S A H0 H locs) (hl : lv_has ls 4 [(0, .ref cq), (1, .ref q), (2, .int p1)]) : W p l e R s m args below meth c H locs cells slots Q (F0 m 0 ls []) := by
  unfold f_Co_count at hf
  refine lv_iconst (v := 0) hx hb d_Co_count_0 (by decide) ?_
  refine lv_istore_n (lv' := [(3, .int 0), (0, .ref cq), (1, .ref q), (2, .int p1)]) hx hb d_Co_count_1 rfl hl (by decide) rfl (fun ls hl => ?_)
  obtain ⟨u11, eu11, hf⟩ := obd hf
  refine w_Co_count_2 hx hb hml hts hown hK hO1 hw1 hRf hRl hRc hRs hA  (fun u11q eu c1 c2 ls H locs hP hD hS hl => ?_) _ _ _ eu11 _ _ _ _ _ hP hD hS (show lv_has ls 4 [(3, .int 0), (0, .ref cq), (1, .ref q), (2, .int p1)] from lv_sub hl [0, 1, 2, 3] rfl)
  subst eu
  refine lv_iconst (v := 0) hx hb d_Co_count_35 (by decide) ?_
  refine lv_istore_n (lv' := [(3, .int 0), (0, .ref cq), (1, .ref q), (2, .int p1)]) hx hb d_Co_count_36 rfl hl (by decide) rfl (fun ls hl => ?_)
  obtain ⟨u18, eu18, hf⟩ := obd hf
  refine w_Co_count_37 hx hb hml hts hown hK hO1 hw1 hRf hRl hRc hRs hA  (fun u18q eu c1 c2 ls H locs hP hD hS hl => ?_) _ _ _ _ eu18 _ _ _ _ _ hP hD hS (show lv_has ls 4 [(3, .int 0), (0, .ref cq), (1, .ref q), (2, .int p1)] from lv_sub hl [0, 1, 2, 3] rfl)
  subst eu
  refine lv_aload_n hx hb d_Co_count_60 rfl (lv_at hl 0 rfl) ?_
  refine va_get (D := D) (ci := 7) (v := .ref c1) (C := R_Co) (T := T_Co) (N := 2) hx hb hts in_Co hown hK hP 0 rfl rfl 0 (by decide) (hts _ fl_Co_9) (fun _ h9 => h9) rfl d_Co_count_61 ?_
  refine lv_iconst (v := 0) hx hb d_Co_count_64 (by decide) ?_
  obtain ⟨g19, hf⟩ := ogi hf
  refine va_lald hx hb hK hP 1 1 rfl rfl (gin_in g19) d_Co_count_65 ?_
  exact Kr _ (Option.some.inj hf).symm _ _ _ _ _ _ d_Co_count_66 hP hD hS
set_option maxHeartbeats 4000000 in
set_option maxRecDepth 100000 in
theorem c_Co_count (l : Launch)  {p1 : Int32}  {r : Int64 × (Nat → Int64) × (Nat → Int64)} (sz : Nat) (hf : f_Co_count n p1 cCounts cLonger aStates aNl aNext aLast = some r) : Met l y_Co_count w0_Co_count ({ frames := 1, cells := 0, slots := 0, locals := 24 }) (wPreR D K [.ref cq, .ref q, .int p1] (coW K cq c1 c2 cCounts cLonger) ((auW K q an aa aStates aNl aNext aLast aAhead)) sz) (wPostG D K (fun _ : Nat × Nat => (some (.long r.1))) (fun g => (coW K cq g.1 g.2 r.2.1 r.2.2)) (va_A (coW K cq c1 c2 cCounts cLonger) sz)) 0 0 (va_A (coW K cq c1 c2 cCounts cLonger) sz) := by
  refine Met.ofW (cc := b_Co_count) (maxL := 4) (ret := (some .long)) (by decide) rfl ?_
  intro p e s m args below meth c s₁ B hml hv
  obtain ⟨rfl, hsz, hP, hK, hD0, hR, hw⟩ := hv
  subst hsz
  have hl := lv_entry [.ref cq, .ref q, .int p1] (n := 4) (Nat.le_of_ble_eq_true rfl)
  rw [lg_entry_eq]
  generalize (lg_sl [.ref cq, .ref q, .int p1] ++ List.replicate (4 - (lg_sl [.ref cq, .ref q, .int p1]).length) Slot.unset).toArray = ls at hl ⊢
  refine w_Co_count (A := va_A (coW K cq c1 c2 cCounts cLonger) s.heap.size) (H0 := s.heap) B.exec B.bytes hml (fun w hw => atoms_spec (ws := w0_Co_count) B.pre w (List.mem_cons_of_mem _ hw)) (findClass_of_methodNamed B.named) hK (fun _ _ hS => ro_of hR hw hS) hw (Nat.le_refl _) (Nat.le_refl _) (Nat.zero_le _) (Nat.zero_le _) (fun q h => Or.inr h) (fun r er c1 c2 pc ls H locs hd hP hD hS => ?_) hf ls hP (hD0.self (sz := s.heap.size)) va_S.rf hl
  subst er
  exact W.lret B.exec B.bytes B.returns (fun t ht hW => ⟨⟨(c1, c2), rfl, by rw [ht]; exact hP, va_K.moved hW.alike hK, hD⟩, hS.F ht⟩) hS.2.2 hd (hlocks := B.notSynchronized)
end
section
variable {p : Program} {l : Launch} {e : Env} {R : Room} {s : State} {m : MethodId} {args : Array Value} {below : List Frame} {meth : Method} {c : Code} {H : Heap} {locs : List Loc} {cells slots : Nat} {Q : State → Prop} {A : Nat → Prop} {H0 : Heap}
variable {n : Nat} {D : va_G} {K : Nat → ClassId} {iq : Nat} {i1 : Nat} {i2 : Nat} {iSeen : Nat → Int64} {iWaiting : Nat → Int64}
def f_In_comeTo (n : Nat) (p0 : Int32) (p1 : Int64) (iSeen : Nat → Int64) (iWaiting : Nat → Int64) : Option ((Nat → Int64) × (Nat → Int64)) :=
  ogd (gin p0 64) <|
  ogd (gin p0 64) <|
  ogd (gin p0 64) <|
  ogd (gin p0 64) <|
  ogd (gin p0 64) <|
  some (vp_updL iSeen p0.toNatClampNeg ((iSeen p0.toNatClampNeg) ||| (p1 &&& ((iSeen p0.toNatClampNeg) ^^^ (-1)))), vp_updL iWaiting p0.toNatClampNeg ((iWaiting p0.toNatClampNeg) ||| (p1 &&& ((iSeen p0.toNatClampNeg) ^^^ (-1)))))
set_option maxHeartbeats 4000000 in
set_option maxRecDepth 100000 in
theorem w_In_comeTo  {p0 : Int32} {p1 : Int64}  (hx : p.tables.exec = Jvm.exec) (hb : c.code = b_In_comeTo) (hml : c.maxLocals = 6) (hts : ∀ w ∈ gW, w.before args s = true) (hown : s.vm.findClass "RegularSolver$Inclusion" = some m.cls) (hK : va_K D vwCl (tG K) s) (hRf : 0 ≤ R.frames) (hRl : 0 ≤ R.locals) (hRc : cells ≤ R.cells) (hRs : slots ≤ R.slots) (hA : ∀ q, H0.size ≤ q → A q) {out : (Nat → Int64) × (Nat → Int64)} (Kr : ∀ (r : (Nat → Int64) × (Nat → Int64)), out = r → ∀ (pc : Nat) (ls : Array Slot) (H : Heap) (locs : List Loc), decode b_In_comeTo pc = .ok (.return_, 1) → va_P D vwCl (inW K iq i1 i2 r.1 r.2) H → va_D A (inW K iq i1 i2 r.1 r.2) → va_S A H0 H locs → W p l e R s m args below meth c H locs cells slots Q (F0 m pc ls [])) (hf : f_In_comeTo n p0 p1 iSeen iWaiting = some out) (ls : Array Slot) (hP : va_P D vwCl (inW K iq i1 i2 iSeen iWaiting) H) (hD : va_D A (inW K iq i1 i2 iSeen iWaiting)) (hS : va_S A H0 H locs) (hl : lv_has ls 6 [(0, .ref iq), (1, .int p0), (2, .long p1)]) : W p l e R s m args below meth c H locs cells slots Q (F0 m 0 ls []) := by
  unfold f_In_comeTo at hf
  refine lv_lload_n hx hb d_In_comeTo_0 rfl (lv_at hl 2 rfl) ?_
  refine lv_aload_n hx hb d_In_comeTo_1 rfl (lv_at hl 0 rfl) ?_
  refine va_get (D := D) (ci := 8) (v := .ref i1) (C := R_In) (T := T_In) (N := 2) hx hb hts in_In hown hK hP 0 rfl rfl 0 (by decide) (hts _ fl_In_9) (fun _ h9 => h9) rfl d_In_comeTo_2 ?_
  refine lv_iload_n hx hb d_In_comeTo_5 rfl (lv_at hl 1 rfl) ?_
  obtain ⟨g1, hf⟩ := ogi hf
  refine va_lald hx hb hK hP 1 1 rfl rfl (gin_in g1) d_In_comeTo_6 ?_
  refine lv_ldc2 (v := (-1)) hx hb hown (hts _ kl_In_42) d_In_comeTo_7 ?_
  refine lv_lxor hx hb d_In_comeTo_10 ?_
  refine lv_land hx hb d_In_comeTo_11 ?_
  refine lv_lstore (lv' := [(4, .long (p1 &&& ((iSeen p0.toNatClampNeg) ^^^ (-1)))), (0, .ref iq), (1, .int p0), (2, .long p1)]) hx hb d_In_comeTo_12 hl (by decide) rfl (fun ls hl => ?_)
  refine lv_aload_n hx hb d_In_comeTo_14 rfl (lv_at hl 1 rfl) ?_
  refine va_get (D := D) (ci := 8) (v := .ref i1) (C := R_In) (T := T_In) (N := 2) hx hb hts in_In hown hK hP 0 rfl rfl 0 (by decide) (hts _ fl_In_9) (fun _ h9 => h9) rfl d_In_comeTo_15 ?_
  refine lv_iload_n hx hb d_In_comeTo_18 rfl (lv_at hl 2 rfl) ?_
  refine lv_dup2_11 hx hb d_In_comeTo_19 rfl rfl ?_
  obtain ⟨g2, hf⟩ := ogi hf
  refine va_lald hx hb hK hP 1 1 rfl rfl (gin_in g2) d_In_comeTo_20 ?_
  refine lv_lload hx hb d_In_comeTo_21 (lv_at hl 0 rfl) ?_
  refine lv_lor hx hb d_In_comeTo_23 ?_
  obtain ⟨g3, hf⟩ := ogi hf
  refine va_last hx hb hK hP hD hS 1 1 rfl rfl (gin_in g3) d_In_comeTo_24 (fun H locs hP hD hS => ?_)
  have hP : va_P D vwCl (inW K iq i1 i2 (vp_updL iSeen p0.toNatClampNeg ((iSeen p0.toNatClampNeg) ||| (p1 &&& ((iSeen p0.toNatClampNeg) ^^^ (-1))))) iWaiting) H := hP
  have hD : va_D A (inW K iq i1 i2 (vp_updL iSeen p0.toNatClampNeg ((iSeen p0.toNatClampNeg) ||| (p1 &&& ((iSeen p0.toNatClampNeg) ^^^ (-1))))) iWaiting) := hD
  refine lv_aload_n hx hb d_In_comeTo_25 rfl (lv_at hl 1 rfl) ?_
  refine va_get (D := D) (ci := 8) (v := .ref i2) (C := R_In) (T := T_In) (N := 2) hx hb hts in_In hown hK hP 0 rfl rfl 1 (by decide) (hts _ fl_In_15) (fun _ h9 => h9) rfl d_In_comeTo_26 ?_
  refine lv_iload_n hx hb d_In_comeTo_29 rfl (lv_at hl 2 rfl) ?_
  refine lv_dup2_11 hx hb d_In_comeTo_30 rfl rfl ?_
  obtain ⟨g4, hf⟩ := ogi hf
  refine va_lald hx hb hK hP 2 1 rfl rfl (gin_in g4) d_In_comeTo_31 ?_
  refine lv_lload hx hb d_In_comeTo_32 (lv_at hl 0 rfl) ?_
  refine lv_lor hx hb d_In_comeTo_34 ?_
  obtain ⟨g5, hf⟩ := ogi hf
  refine va_last hx hb hK hP hD hS 2 1 rfl rfl (gin_in g5) d_In_comeTo_35 (fun H locs hP hD hS => ?_)
  have hP : va_P D vwCl (inW K iq i1 i2 (vp_updL iSeen p0.toNatClampNeg ((iSeen p0.toNatClampNeg) ||| (p1 &&& ((iSeen p0.toNatClampNeg) ^^^ (-1))))) (vp_updL iWaiting p0.toNatClampNeg ((iWaiting p0.toNatClampNeg) ||| (p1 &&& ((iSeen p0.toNatClampNeg) ^^^ (-1)))))) H := hP
  have hD : va_D A (inW K iq i1 i2 (vp_updL iSeen p0.toNatClampNeg ((iSeen p0.toNatClampNeg) ||| (p1 &&& ((iSeen p0.toNatClampNeg) ^^^ (-1))))) (vp_updL iWaiting p0.toNatClampNeg ((iWaiting p0.toNatClampNeg) ||| (p1 &&& ((iSeen p0.toNatClampNeg) ^^^ (-1)))))) := hD
  exact Kr _ (Option.some.inj hf).symm _ _ _ _ d_In_comeTo_36 hP hD hS
set_option maxHeartbeats 4000000 in
set_option maxRecDepth 100000 in
theorem c_In_comeTo (l : Launch)  {p0 : Int32} {p1 : Int64}  {r : (Nat → Int64) × (Nat → Int64)} (sz : Nat) (hf : f_In_comeTo n p0 p1 iSeen iWaiting = some r) : Met l y_In_comeTo w0_In_comeTo ({ frames := 0, cells := 0, slots := 0, locals := 0 }) (wPre D K [.ref iq, .int p0, .long p1] (inW K iq i1 i2 iSeen iWaiting) sz) (wPost D K none (inW K iq i1 i2 r.1 r.2) (va_A (inW K iq i1 i2 iSeen iWaiting) sz)) 0 0 (va_A (inW K iq i1 i2 iSeen iWaiting) sz) := by
  refine Met.ofW (cc := b_In_comeTo) (maxL := 6) (ret := none) (by decide) rfl ?_
  intro p e s m args below meth c s₁ B hml hv
  obtain ⟨rfl, hsz, hP, hK, hD0⟩ := hv
  subst hsz
  have hl := lv_entry [.ref iq, .int p0, .long p1] (n := 6) (Nat.le_of_ble_eq_true rfl)
  rw [lg_entry_eq]
  generalize (lg_sl [.ref iq, .int p0, .long p1] ++ List.replicate (6 - (lg_sl [.ref iq, .int p0, .long p1]).length) Slot.unset).toArray = ls at hl ⊢
  refine w_In_comeTo (A := va_A (inW K iq i1 i2 iSeen iWaiting) s.heap.size) (H0 := s.heap) B.exec B.bytes hml (fun w hw => atoms_spec (ws := w0_In_comeTo) B.pre w (List.mem_cons_of_mem _ hw)) (findClass_of_methodNamed B.named) hK (Nat.le_refl _) (Nat.le_refl _) (Nat.zero_le _) (Nat.zero_le _) (fun q h => Or.inr h) (fun r er pc ls H locs hd hP hD hS => ?_) hf ls hP (hD0.self (sz := s.heap.size)) va_S.rf hl
  subst er
  exact W.vret B.exec B.bytes B.returns (fun t ht hW => ⟨⟨rfl, by rw [ht]; exact hP, va_K.moved hW.alike hK, hD⟩, hS.F ht⟩) hS.2.2 hd (hlocks := B.notSynchronized)
end
section
variable {p : Program} {l : Launch} {e : Env} {R : Room} {s : State} {m : MethodId} {args : Array Value} {below : List Frame} {meth : Method} {c : Code} {H : Heap} {locs : List Loc} {cells slots : Nat} {Q : State → Prop} {A : Nat → Prop} {H0 : Heap}
variable {n : Nat} {D : va_G} {K : Nat → ClassId} {iq : Nat} {i1 : Nat} {i2 : Nat} {q1 : Nat} {an1 : Nat} {aa1 : Nat} {q2 : Nat} {an2 : Nat} {aa2 : Nat} {iSeen : Nat → Int64} {iWaiting : Nat → Int64} {aStates1 : Int32} {aNl1 : Nat} {aNext1 : Nat → Int32} {aLast1 : Int64} {aAhead1 : Nat → Int64} {aStates2 : Int32} {aNl2 : Nat} {aNext2 : Nat → Int32} {aLast2 : Int64} {aAhead2 : Nat → Int64}
def f_In_goOn_43 (n : Nat) (v5 : Int64) (v4 : Int32) (aNl1 : Nat) (aNext1 : Nat → Int32) (aStates2 : Int32) (aNl2 : Nat) (aNext2 : Nat → Int32) : Nat → Int32 → (Nat → Int64) → (Nat → Int64) → Option (Int32 × (Nat → Int64) × (Nat → Int64))
  | 0, _, _, _ => none
  | k + 1, v7, iSeen, iWaiting =>
    if 4 ≤ v7 then
      some (v7, iSeen, iWaiting)
    else
      (f_Au_go n v4 v7 aNl1 aNext1).bind fun u16 =>
      (f_Au_goAll n v5 v7 aStates2 aNl2 aNext2).bind fun u17 =>
      (f_In_comeTo n u16 u17 iSeen iWaiting).bind fun u18 =>
      f_In_goOn_43 n v5 v4 aNl1 aNext1 aStates2 aNl2 aNext2 k (v7 + 1) u18.1 u18.2
set_option maxHeartbeats 4000000 in
set_option maxRecDepth 100000 in
theorem w_In_goOn_43  {v3 : Bool} {v5 : Int64} {v4 : Int32} (hx : p.tables.exec = Jvm.exec) (hb : c.code = b_In_goOn) (hml : c.maxLocals = 8) (hts : ∀ w ∈ gW, w.before args s = true) (hown : s.vm.findClass "RegularSolver$Inclusion" = some m.cls) (hK : va_K D vwCl (tG K) s) (hO1 : ∀ (H : Heap) (locs : List Loc), va_S A H0 H locs → va_P D vwCl (auW K q1 an1 aa1 aStates1 aNl1 aNext1 aLast1 aAhead1) H) (hw1 : gAw A (auW K q1 an1 aa1 aStates1 aNl1 aNext1 aLast1 aAhead1)) (hO2 : ∀ (H : Heap) (locs : List Loc), va_S A H0 H locs → va_P D vwCl (auW K q2 an2 aa2 aStates2 aNl2 aNext2 aLast2 aAhead2) H) (hw2 : gAw A (auW K q2 an2 aa2 aStates2 aNl2 aNext2 aLast2 aAhead2)) (hRf : 2 ≤ R.frames) (hRl : 50 ≤ R.locals) (hRc : cells ≤ R.cells) (hRs : slots ≤ R.slots) (hA : ∀ q, H0.size ≤ q → A q)  {out : Int32 × (Nat → Int64) × (Nat → Int64)} (Kx : ∀ (u : Int32 × (Nat → Int64) × (Nat → Int64)), out = u → ∀ (ls : Array Slot) (H : Heap) (locs : List Loc), va_P D vwCl (inW K iq i1 i2 u.2.1 u.2.2) H → va_D A (inW K iq i1 i2 u.2.1 u.2.2) → va_S A H0 H locs → lv_has ls 8 [(3, .int (bI v3)), (4, .int v4), (0, .ref iq), (1, .ref q1), (2, .ref q2)] → W p l e R s m args below meth c H locs cells slots Q (F0 m 75 ls [])) :
    ∀ (k : Nat) (v7 : Int32) (iSeen : Nat → Int64) (iWaiting : Nat → Int64), f_In_goOn_43 n v5 v4 aNl1 aNext1 aStates2 aNl2 aNext2 k v7 iSeen iWaiting = some out → ∀ (ls : Array Slot) (H : Heap) (locs : List Loc), va_P D vwCl (inW K iq i1 i2 iSeen iWaiting) H → va_D A (inW K iq i1 i2 iSeen iWaiting) → va_S A H0 H locs → lv_has ls 8 [(7, .int v7), (3, .int (bI v3)), (5, .long v5), (4, .int v4), (0, .ref iq), (1, .ref q1), (2, .ref q2)] → W p l e R s m args below meth c H locs cells slots Q (F0 m 43 ls []) := by
  intro k
  induction k with
  | zero => intro _ _ _ hf; exact nomatch (show none = some out from hf)
  | succ k ih =>
    intro v7 iSeen iWaiting hf ls H locs hP hD hS hl
    rw [f_In_goOn_43] at hf
    refine lv_iload hx hb d_In_goOn_43 (lv_at hl 0 rfl) ?_
    refine lv_iconst (v := 4) hx hb d_In_goOn_45 (by decide) ?_
    refine lv_icmp_ge (tgt := 75) hx hb d_In_goOn_46 (by decide) (fun c15 => ?_) (fun c15 => ?_)
    · rw [if_pos c15] at hf
      exact Kx _ (Option.some.inj hf).symm _ _ _ hP hD hS (show lv_has ls 8 [(3, .int (bI v3)), (4, .int v4), (0, .ref iq), (1, .ref q1), (2, .ref q2)] from lv_sub hl [1, 3, 4, 5, 6] rfl)
    · rw [if_neg c15] at hf
      refine lv_aload_n hx hb d_In_goOn_49 rfl (lv_at hl 4 rfl) ?_
      refine lv_aload_n hx hb d_In_goOn_50 rfl (lv_at hl 5 rfl) ?_
      refine lv_iload hx hb d_In_goOn_51 (lv_at hl 3 rfl) ?_
      refine lv_iload hx hb d_In_goOn_53 (lv_at hl 0 rfl) ?_
      obtain ⟨u16, eu16, hf⟩ := obd hf
      refine p_call (W.runV (As := [.int v4, .int v7]) (rest := [.ref iq]) ⟨hx, hb, hml, hown, hts⟩ (c_Au_go l eu16) (gV 2 hts cd_Au_go ml_In_44 im_Au_go se_Au_go ini_Au rfl rfl pd_Au_go ⟨Nat.le_trans (Nat.le_of_ble_eq_true rfl) hRf, Nat.le_trans (Nat.le_of_ble_eq_true rfl) hRl⟩) ⟨pPre_blind, va_recv hK (hO1 _ _ hS) (ci := 1) (q0 := 0) rfl rfl, pPre_of (hO1 _ _ hS) hK⟩ rfl rfl hl.1 rfl (lv_room (Nat.le_of_ble_eq_true rfl)) d_In_goOn_55 ⟨hRc, hRs⟩) ?_
      refine lv_aload_n hx hb d_In_goOn_58 rfl (lv_at hl 6 rfl) ?_
      refine lv_lload hx hb d_In_goOn_59 (lv_at hl 2 rfl) ?_
      refine lv_iload hx hb d_In_goOn_61 (lv_at hl 0 rfl) ?_
      obtain ⟨u17, eu17, hf⟩ := obd hf
      refine p_call (W.runV (As := [.long v5, .int v7]) (rest := [.int u16, .ref iq]) ⟨hx, hb, hml, hown, hts⟩ (c_Au_goAll l eu17) (gV 2 hts cd_Au_goAll ml_In_48 im_Au_goAll se_Au_goAll ini_Au rfl rfl pd_Au_goAll ⟨Nat.le_trans (Nat.le_of_ble_eq_true rfl) hRf, Nat.le_trans (Nat.le_of_ble_eq_true rfl) hRl⟩) ⟨pPre_blind, va_recv hK (hO2 _ _ hS) (ci := 1) (q0 := 0) rfl rfl, pPre_of (hO2 _ _ hS) hK⟩ rfl rfl hl.1 rfl (lv_room (Nat.le_of_ble_eq_true rfl)) d_In_goOn_63 ⟨hRc, hRs⟩) ?_
      obtain ⟨u18, eu18, hf⟩ := obd hf
      refine w_callA (va_runV (As := [.int u16, .long u17]) (rest := []) ⟨hx, hb, hml, hown, hts⟩ (Met_G (c_In_comeTo l H.size eu18)) (gV 2 hts cd_In_comeTo ml_In_52 im_In_comeTo se_In_comeTo ini_In rfl rfl pd_In_comeTo ⟨Nat.le_trans (Nat.le_of_ble_eq_true rfl) hRf, Nat.le_trans (Nat.le_of_ble_eq_true rfl) hRl⟩) ⟨wPre_blind, va_recv hK hP (ci := 8) (q0 := 0) rfl rfl, wPre_of hP hK hD⟩ rfl rfl hl.1 rfl (lv_room (Nat.le_of_ble_eq_true rfl)) d_In_goOn_66 ⟨hRc, hRs⟩) hD hS hA (fun g19 H1 locs hP1 hD1 hk1 hS1 => ?_)
      obtain ⟨hP, hD⟩ : _ ∧ _ := ⟨hP1, hD1.weaken (fun _ q _ h => va_sub hD hS hA q.1 h)⟩
      have hS := hS1
      generalize H1 = H at hP hS ⊢
      have hP : va_P D vwCl (inW K iq i1 i2 u18.1 u18.2) H := hP
      have hD : va_D A (inW K iq i1 i2 u18.1 u18.2) := hD
      refine lv_iinc (v := v7 + 1) (lv' := [(7, .int (v7 + 1)), (3, .int (bI v3)), (5, .long v5), (4, .int v4), (0, .ref iq), (1, .ref q1), (2, .ref q2)]) hx hb d_In_goOn_69 hl (k := 0) rfl (by first | rfl | (congr 1)) (by decide) rfl (fun ls hl => ?_)
      refine lv_goto (tgt := 43) hx hb d_In_goOn_72 (by decide) ?_
      exact ih _ _ _ hf _ _ _ hP hD hS (show lv_has ls 8 [(7, .int (v7 + 1)), (3, .int (bI v3)), (5, .long v5), (4, .int v4), (0, .ref iq), (1, .ref q1), (2, .ref q2)] from lv_sub hl [0, 1, 2, 3, 4, 5, 6] rfl)
def f_In_goOn_5 (n : Nat) (aStates1 : Int32) (aNl1 : Nat) (aNext1 : Nat → Int32) (aStates2 : Int32) (aNl2 : Nat) (aNext2 : Nat → Int32) : Nat → Int32 → Bool → (Nat → Int64) → (Nat → Int64) → Option (Int32 × Bool × (Nat → Int64) × (Nat → Int64))
  | 0, _, _, _, _ => none
  | k + 1, v4, v3, iSeen, iWaiting =>
    if aStates1 ≤ v4 then
      some (v4, v3, iSeen, iWaiting)
    else
      ogd (gin v4 64) <|
      if (iWaiting v4.toNatClampNeg) = 0 then
        f_In_goOn_5 n aStates1 aNl1 aNext1 aStates2 aNl2 aNext2 k (v4 + 1) v3 iSeen iWaiting
      else
        ogd (gin v4 64) <|
        (f_In_goOn_43 n (iWaiting v4.toNatClampNeg) v4 aNl1 aNext1 aStates2 aNl2 aNext2 n 0 iSeen (vp_updL iWaiting v4.toNatClampNeg 0)).bind fun u20 =>
        f_In_goOn_5 n aStates1 aNl1 aNext1 aStates2 aNl2 aNext2 k (v4 + 1) true u20.2.1 u20.2.2
set_option maxHeartbeats 4000000 in
set_option maxRecDepth 100000 in
theorem w_In_goOn_5   (hx : p.tables.exec = Jvm.exec) (hb : c.code = b_In_goOn) (hml : c.maxLocals = 8) (hts : ∀ w ∈ gW, w.before args s = true) (hown : s.vm.findClass "RegularSolver$Inclusion" = some m.cls) (hK : va_K D vwCl (tG K) s) (hO1 : ∀ (H : Heap) (locs : List Loc), va_S A H0 H locs → va_P D vwCl (auW K q1 an1 aa1 aStates1 aNl1 aNext1 aLast1 aAhead1) H) (hw1 : gAw A (auW K q1 an1 aa1 aStates1 aNl1 aNext1 aLast1 aAhead1)) (hO2 : ∀ (H : Heap) (locs : List Loc), va_S A H0 H locs → va_P D vwCl (auW K q2 an2 aa2 aStates2 aNl2 aNext2 aLast2 aAhead2) H) (hw2 : gAw A (auW K q2 an2 aa2 aStates2 aNl2 aNext2 aLast2 aAhead2)) (hRf : 2 ≤ R.frames) (hRl : 50 ≤ R.locals) (hRc : cells ≤ R.cells) (hRs : slots ≤ R.slots) (hA : ∀ q, H0.size ≤ q → A q)  {out : Int32 × Bool × (Nat → Int64) × (Nat → Int64)} (Kx : ∀ (u : Int32 × Bool × (Nat → Int64) × (Nat → Int64)), out = u → ∀ (ls : Array Slot) (H : Heap) (locs : List Loc), va_P D vwCl (inW K iq i1 i2 u.2.2.1 u.2.2.2) H → va_D A (inW K iq i1 i2 u.2.2.1 u.2.2.2) → va_S A H0 H locs → lv_has ls 8 [(3, .int (bI u.2.1))] → W p l e R s m args below meth c H locs cells slots Q (F0 m 81 ls [])) :
    ∀ (k : Nat) (v4 : Int32) (v3 : Bool) (iSeen : Nat → Int64) (iWaiting : Nat → Int64), f_In_goOn_5 n aStates1 aNl1 aNext1 aStates2 aNl2 aNext2 k v4 v3 iSeen iWaiting = some out → ∀ (ls : Array Slot) (H : Heap) (locs : List Loc), va_P D vwCl (inW K iq i1 i2 iSeen iWaiting) H → va_D A (inW K iq i1 i2 iSeen iWaiting) → va_S A H0 H locs → lv_has ls 8 [(4, .int v4), (3, .int (bI v3)), (0, .ref iq), (1, .ref q1), (2, .ref q2)] → W p l e R s m args below meth c H locs cells slots Q (F0 m 5 ls []) := by
  intro k
  induction k with
  | zero => intro _ _ _ _ hf; exact nomatch (show none = some out from hf)
  | succ k ih =>
    intro v4 v3 iSeen iWaiting hf ls H locs hP hD hS hl
    rw [f_In_goOn_5] at hf
    refine lv_iload hx hb d_In_goOn_5 (lv_at hl 0 rfl) ?_
    refine lv_aload_n hx hb d_In_goOn_7 rfl (lv_at hl 3 rfl) ?_
    refine va_get (D := D) (ci := 1) (v := .int aStates1) (C := R_Au) (T := T_Au) (N := 4) hx hb hts in_Au hown hK (hO1 _ _ hS) 0 rfl rfl 0 (by decide) (hts _ fl_In_28) (fun _ h9 => h9) rfl d_In_goOn_8 ?_
    refine lv_icmp_ge (tgt := 81) hx hb d_In_goOn_11 (by decide) (fun c11 => ?_) (fun c11 => ?_)
    · rw [if_pos c11] at hf
      exact Kx _ (Option.some.inj hf).symm _ _ _ hP hD hS (show lv_has ls 8 [(3, .int (bI v3))] from lv_sub hl [1] rfl)
    · rw [if_neg c11] at hf
      refine lv_aload_n hx hb d_In_goOn_14 rfl (lv_at hl 2 rfl) ?_
      refine va_get (D := D) (ci := 8) (v := .ref i2) (C := R_In) (T := T_In) (N := 2) hx hb hts in_In hown hK hP 0 rfl rfl 1 (by decide) (hts _ fl_In_15) (fun _ h9 => h9) rfl d_In_goOn_15 ?_
      refine lv_iload hx hb d_In_goOn_18 (lv_at hl 0 rfl) ?_
      obtain ⟨g12, hf⟩ := ogi hf
      refine va_lald hx hb hK hP 2 1 rfl rfl (gin_in g12) d_In_goOn_20 ?_
      refine lv_lstore (lv' := [(5, .long (iWaiting v4.toNatClampNeg)), (4, .int v4), (3, .int (bI v3)), (0, .ref iq), (1, .ref q1), (2, .ref q2)]) hx hb d_In_goOn_21 hl (by decide) rfl (fun ls hl => ?_)
      refine lv_lload hx hb d_In_goOn_23 (lv_at hl 0 rfl) ?_
      refine lv_lconst (v := 0) hx hb d_In_goOn_25 (by decide) ?_
      refine W.lcmp hx hb d_In_goOn_26 ?_
      refine lc_eq (tgt := 75) hx hb d_In_goOn_27 (by decide) (fun c13 => ?_) (fun c13 => ?_)
      · rw [if_pos c13] at hf
        refine lv_iinc (v := v4 + 1) (lv' := [(4, .int (v4 + 1)), (5, .long (iWaiting v4.toNatClampNeg)), (3, .int (bI v3)), (0, .ref iq), (1, .ref q1), (2, .ref q2)]) hx hb d_In_goOn_75 hl (k := 1) rfl (by first | rfl | (congr 1)) (by decide) rfl (fun ls hl => ?_)
        refine lv_goto (tgt := 5) hx hb d_In_goOn_78 (by decide) ?_
        exact ih _ _ _ _ hf _ _ _ hP hD hS (show lv_has ls 8 [(4, .int (v4 + 1)), (3, .int (bI v3)), (0, .ref iq), (1, .ref q1), (2, .ref q2)] from lv_sub hl [0, 2, 3, 4, 5] rfl)
      · rw [if_neg c13] at hf
        refine lv_iconst (v := 1) hx hb d_In_goOn_30 (by decide) ?_
        refine lv_istore_n (lv' := [(3, .int 1), (5, .long (iWaiting v4.toNatClampNeg)), (4, .int v4), (0, .ref iq), (1, .ref q1), (2, .ref q2)]) hx hb d_In_goOn_31 rfl hl (by decide) rfl (fun ls hl => ?_)
        refine lv_aload_n hx hb d_In_goOn_32 rfl (lv_at hl 3 rfl) ?_
        refine va_get (D := D) (ci := 8) (v := .ref i2) (C := R_In) (T := T_In) (N := 2) hx hb hts in_In hown hK hP 0 rfl rfl 1 (by decide) (hts _ fl_In_15) (fun _ h9 => h9) rfl d_In_goOn_33 ?_
        refine lv_iload hx hb d_In_goOn_36 (lv_at hl 2 rfl) ?_
        refine lv_lconst (v := 0) hx hb d_In_goOn_38 (by decide) ?_
        obtain ⟨g14, hf⟩ := ogi hf
        refine va_last hx hb hK hP hD hS 2 1 rfl rfl (gin_in g14) d_In_goOn_39 (fun H locs hP hD hS => ?_)
        have hP : va_P D vwCl (inW K iq i1 i2 iSeen (vp_updL iWaiting v4.toNatClampNeg 0)) H := hP
        have hD : va_D A (inW K iq i1 i2 iSeen (vp_updL iWaiting v4.toNatClampNeg 0)) := hD
        refine lv_iconst (v := 0) hx hb d_In_goOn_40 (by decide) ?_
        refine lv_istore (lv' := [(7, .int 0), (3, .int 1), (5, .long (iWaiting v4.toNatClampNeg)), (4, .int v4), (0, .ref iq), (1, .ref q1), (2, .ref q2)]) hx hb d_In_goOn_41 hl (by decide) rfl (fun ls hl => ?_)
        obtain ⟨u20, eu20, hf⟩ := obd hf
        refine w_In_goOn_43 hx hb hml hts hown hK hO1 hw1 hO2 hw2 hRf hRl hRc hRs hA  (fun u20q eu ls H locs hP hD hS hl => ?_) _ _ _ _ eu20 _ _ _ hP hD hS (show lv_has ls 8 [(7, .int 0), (3, .int (bI true)), (5, .long (iWaiting v4.toNatClampNeg)), (4, .int v4), (0, .ref iq), (1, .ref q1), (2, .ref q2)] from lv_sub hl [0, 1, 2, 3, 4, 5, 6] rfl)
        subst eu
        refine lv_iinc (v := v4 + 1) (lv' := [(4, .int (v4 + 1)), (3, .int 1), (0, .ref iq), (1, .ref q1), (2, .ref q2)]) hx hb d_In_goOn_75 hl (k := 1) rfl (by first | rfl | (congr 1)) (by decide) rfl (fun ls hl => ?_)
        refine lv_goto (tgt := 5) hx hb d_In_goOn_78 (by decide) ?_
        exact ih _ _ _ _ hf _ _ _ hP hD hS (show lv_has ls 8 [(4, .int (v4 + 1)), (3, .int (bI true)), (0, .ref iq), (1, .ref q1), (2, .ref q2)] from lv_sub hl [0, 1, 2, 3, 4] rfl)
def f_In_goOn (n : Nat) (iSeen : Nat → Int64) (iWaiting : Nat → Int64) (aStates1 : Int32) (aNl1 : Nat) (aNext1 : Nat → Int32) (aStates2 : Int32) (aNl2 : Nat) (aNext2 : Nat → Int32) : Option (Bool × (Nat → Int64) × (Nat → Int64)) :=
  (f_In_goOn_5 n aStates1 aNl1 aNext1 aStates2 aNl2 aNext2 n 0 false iSeen iWaiting).bind fun u21 =>
  some (u21.2.1, u21.2.2.1, u21.2.2.2)
set_option maxHeartbeats 4000000 in
set_option maxRecDepth 100000 in
theorem w_In_goOn    (hx : p.tables.exec = Jvm.exec) (hb : c.code = b_In_goOn) (hml : c.maxLocals = 8) (hts : ∀ w ∈ gW, w.before args s = true) (hown : s.vm.findClass "RegularSolver$Inclusion" = some m.cls) (hK : va_K D vwCl (tG K) s) (hO1 : ∀ (H : Heap) (locs : List Loc), va_S A H0 H locs → va_P D vwCl (auW K q1 an1 aa1 aStates1 aNl1 aNext1 aLast1 aAhead1) H) (hw1 : gAw A (auW K q1 an1 aa1 aStates1 aNl1 aNext1 aLast1 aAhead1)) (hO2 : ∀ (H : Heap) (locs : List Loc), va_S A H0 H locs → va_P D vwCl (auW K q2 an2 aa2 aStates2 aNl2 aNext2 aLast2 aAhead2) H) (hw2 : gAw A (auW K q2 an2 aa2 aStates2 aNl2 aNext2 aLast2 aAhead2)) (hRf : 2 ≤ R.frames) (hRl : 50 ≤ R.locals) (hRc : cells ≤ R.cells) (hRs : slots ≤ R.slots) (hA : ∀ q, H0.size ≤ q → A q) {out : Bool × (Nat → Int64) × (Nat → Int64)} (Kr : ∀ (r : Bool × (Nat → Int64) × (Nat → Int64)), out = r → ∀ (pc : Nat) (ls : Array Slot) (H : Heap) (locs : List Loc), decode b_In_goOn pc = .ok (.ireturn, 1) → va_P D vwCl (inW K iq i1 i2 r.2.1 r.2.2) H → va_D A (inW K iq i1 i2 r.2.1 r.2.2) → va_S A H0 H locs → W p l e R s m args below meth c H locs cells slots Q (F0 m pc ls [.int (bI r.1)])) (hf : f_In_goOn n iSeen iWaiting aStates1 aNl1 aNext1 aStates2 aNl2 aNext2 = some out) (ls : Array Slot) (hP : va_P D vwCl (inW K iq i1 i2 iSeen iWaiting) H) (hD : va_D A (inW K iq i1 i2 iSeen iWaiting)) (hS : va_S A H0 H locs) (hl : lv_has ls 8 [(0, .ref iq), (1, .ref q1), (2, .ref q2)]) : W p l e R s m args below meth c H locs cells slots Q (F0 m 0 ls []) := by
  unfold f_In_goOn at hf
  refine lv_iconst (v := 0) hx hb d_In_goOn_0 (by decide) ?_
  refine lv_istore_n (lv' := [(3, .int 0), (0, .ref iq), (1, .ref q1), (2, .ref q2)]) hx hb d_In_goOn_1 rfl hl (by decide) rfl (fun ls hl => ?_)
  refine lv_iconst (v := 0) hx hb d_In_goOn_2 (by decide) ?_
  refine lv_istore (lv' := [(4, .int 0), (3, .int 0), (0, .ref iq), (1, .ref q1), (2, .ref q2)]) hx hb d_In_goOn_3 hl (by decide) rfl (fun ls hl => ?_)
  obtain ⟨u21, eu21, hf⟩ := obd hf
  refine w_In_goOn_5 hx hb hml hts hown hK hO1 hw1 hO2 hw2 hRf hRl hRc hRs hA  (fun u21q eu ls H locs hP hD hS hl => ?_) _ _ _ _ _ eu21 _ _ _ hP hD hS (show lv_has ls 8 [(4, .int 0), (3, .int (bI false)), (0, .ref iq), (1, .ref q1), (2, .ref q2)] from lv_sub hl [0, 1, 2, 3, 4] rfl)
  subst eu
  refine lv_iload_n hx hb d_In_goOn_81 rfl (lv_at hl 0 rfl) ?_
  exact Kr _ (Option.some.inj hf).symm _ _ _ _ d_In_goOn_82 hP hD hS
set_option maxHeartbeats 4000000 in
set_option maxRecDepth 100000 in
theorem c_In_goOn (l : Launch)    {r : Bool × (Nat → Int64) × (Nat → Int64)} (sz : Nat) (hf : f_In_goOn n iSeen iWaiting aStates1 aNl1 aNext1 aStates2 aNl2 aNext2 = some r) : Met l y_In_goOn w0_In_goOn ({ frames := 2, cells := 0, slots := 0, locals := 50 }) (wPreR D K [.ref iq, .ref q1, .ref q2] (inW K iq i1 i2 iSeen iWaiting) ((auW K q1 an1 aa1 aStates1 aNl1 aNext1 aLast1 aAhead1) ++ (auW K q2 an2 aa2 aStates2 aNl2 aNext2 aLast2 aAhead2)) sz) (wPost D K (some (.int (bI r.1))) (inW K iq i1 i2 r.2.1 r.2.2) (va_A (inW K iq i1 i2 iSeen iWaiting) sz)) 0 0 (va_A (inW K iq i1 i2 iSeen iWaiting) sz) := by
  refine Met.ofW (cc := b_In_goOn) (maxL := 8) (ret := (some .boolean)) (by decide) rfl ?_
  intro p e s m args below meth c s₁ B hml hv
  obtain ⟨rfl, hsz, hP, hK, hD0, hR, hw⟩ := hv
  subst hsz
  have hl := lv_entry [.ref iq, .ref q1, .ref q2] (n := 8) (Nat.le_of_ble_eq_true rfl)
  rw [lg_entry_eq]
  generalize (lg_sl [.ref iq, .ref q1, .ref q2] ++ List.replicate (8 - (lg_sl [.ref iq, .ref q1, .ref q2]).length) Slot.unset).toArray = ls at hl ⊢
  refine w_In_goOn (A := va_A (inW K iq i1 i2 iSeen iWaiting) s.heap.size) (H0 := s.heap) B.exec B.bytes hml (fun w hw => atoms_spec (ws := w0_In_goOn) B.pre w (List.mem_cons_of_mem _ hw)) (findClass_of_methodNamed B.named) hK (fun _ _ hS => ro_of (vaL hR) (gAw.left hw) hS) (gAw.left hw) (fun _ _ hS => ro_of (vaR hR) (gAw.right hw) hS) (gAw.right hw) (Nat.le_refl _) (Nat.le_refl _) (Nat.zero_le _) (Nat.zero_le _) (fun q h => Or.inr h) (fun r er pc ls H locs hd hP hD hS => ?_) hf ls hP (hD0.self (sz := s.heap.size)) va_S.rf hl
  subst er
  exact W.zret B.exec B.bytes B.returns (bI_nar _) (fun t ht hW => ⟨⟨rfl, by rw [ht]; exact hP, va_K.moved hW.alike hK, hD⟩, hS.F ht⟩) hS.2.2 hd (hlocks := B.notSynchronized)
end
section
variable {p : Program} {l : Launch} {e : Env} {R : Room} {s : State} {m : MethodId} {args : Array Value} {below : List Frame} {meth : Method} {c : Code} {H : Heap} {locs : List Loc} {cells slots : Nat} {Q : State → Prop} {A : Nat → Prop} {H0 : Heap}
variable {n : Nat} {D : va_G} {K : Nat → ClassId} {iq : Nat} {i1 : Nat} {i2 : Nat} {q1 : Nat} {an1 : Nat} {aa1 : Nat} {q2 : Nat} {an2 : Nat} {aa2 : Nat} {iSeen : Nat → Int64} {iWaiting : Nat → Int64} {aStates1 : Int32} {aNl1 : Nat} {aNext1 : Nat → Int32} {aLast1 : Int64} {aAhead1 : Nat → Int64} {aStates2 : Int32} {aNl2 : Nat} {aNext2 : Nat → Int32} {aLast2 : Int64} {aAhead2 : Nat → Int64}
def f_In_holds_35 (n : Nat) (aStates1 : Int32) (aNl1 : Nat) (aNext1 : Nat → Int32) (aStates2 : Int32) (aNl2 : Nat) (aNext2 : Nat → Int32) : Nat → Int32 → Bool → (Nat → Int64) → (Nat → Int64) → Option (Int32 × Bool × (Nat → Int64) × (Nat → Int64))
  | 0, _, _, _, _ => none
  | k + 1, v4, v3, iSeen, iWaiting =>
    if 4096 ≤ v4 then
      some (v4, v3, iSeen, iWaiting)
    else
      if v3 = true then
        (f_In_goOn n iSeen iWaiting aStates1 aNl1 aNext1 aStates2 aNl2 aNext2).bind fun u13 =>
        f_In_holds_35 n aStates1 aNl1 aNext1 aStates2 aNl2 aNext2 k (v4 + 1) u13.1 u13.2.1 u13.2.2
      else
        some (v4, v3, iSeen, iWaiting)
set_option maxHeartbeats 4000000 in
set_option maxRecDepth 100000 in
theorem w_In_holds_35   (hx : p.tables.exec = Jvm.exec) (hb : c.code = b_In_holds) (hml : c.maxLocals = 5) (hts : ∀ w ∈ gW, w.before args s = true) (hown : s.vm.findClass "RegularSolver$Inclusion" = some m.cls) (hK : va_K D vwCl (tG K) s) (hO1 : ∀ (H : Heap) (locs : List Loc), va_S A H0 H locs → va_P D vwCl (auW K q1 an1 aa1 aStates1 aNl1 aNext1 aLast1 aAhead1) H) (hw1 : gAw A (auW K q1 an1 aa1 aStates1 aNl1 aNext1 aLast1 aAhead1)) (hO2 : ∀ (H : Heap) (locs : List Loc), va_S A H0 H locs → va_P D vwCl (auW K q2 an2 aa2 aStates2 aNl2 aNext2 aLast2 aAhead2) H) (hw2 : gAw A (auW K q2 an2 aa2 aStates2 aNl2 aNext2 aLast2 aAhead2)) (hRf : 3 ≤ R.frames) (hRl : 77 ≤ R.locals) (hRc : cells ≤ R.cells) (hRs : slots ≤ R.slots) (hA : ∀ q, H0.size ≤ q → A q)  {out : Int32 × Bool × (Nat → Int64) × (Nat → Int64)} (Kx : ∀ (u : Int32 × Bool × (Nat → Int64) × (Nat → Int64)), out = u → ∀ (ls : Array Slot) (H : Heap) (locs : List Loc), va_P D vwCl (inW K iq i1 i2 u.2.2.1 u.2.2.2) H → va_D A (inW K iq i1 i2 u.2.2.1 u.2.2.2) → va_S A H0 H locs → lv_has ls 5 [(0, .ref iq), (1, .ref q1), (2, .ref q2)] → W p l e R s m args below meth c H locs cells slots Q (F0 m 60 ls [])) :
    ∀ (k : Nat) (v4 : Int32) (v3 : Bool) (iSeen : Nat → Int64) (iWaiting : Nat → Int64), f_In_holds_35 n aStates1 aNl1 aNext1 aStates2 aNl2 aNext2 k v4 v3 iSeen iWaiting = some out → ∀ (ls : Array Slot) (H : Heap) (locs : List Loc), va_P D vwCl (inW K iq i1 i2 iSeen iWaiting) H → va_D A (inW K iq i1 i2 iSeen iWaiting) → va_S A H0 H locs → lv_has ls 5 [(4, .int v4), (3, .int (bI v3)), (0, .ref iq), (1, .ref q1), (2, .ref q2)] → W p l e R s m args below meth c H locs cells slots Q (F0 m 35 ls []) := by
  intro k
  induction k with
  | zero => intro _ _ _ _ hf; exact nomatch (show none = some out from hf)
  | succ k ih =>
    intro v4 v3 iSeen iWaiting hf ls H locs hP hD hS hl
    rw [f_In_holds_35] at hf
    refine lv_iload hx hb d_In_holds_35 (lv_at hl 0 rfl) ?_
    refine lv_sipush (v := 4096) hx hb d_In_holds_37 (by decide) ?_
    refine lv_icmp_ge (tgt := 60) hx hb d_In_holds_40 (by decide) (fun c11 => ?_) (fun c11 => ?_)
    · rw [if_pos c11] at hf
      exact Kx _ (Option.some.inj hf).symm _ _ _ hP hD hS (show lv_has ls 5 [(0, .ref iq), (1, .ref q1), (2, .ref q2)] from lv_sub hl [2, 3, 4] rfl)
    · rw [if_neg c11] at hf
      refine lv_iload_n hx hb d_In_holds_43 rfl (lv_at hl 1 rfl) ?_
      refine bz_eq (tgt := 60) hx hb d_In_holds_44 (by decide) (fun c12 => ?_) (fun c12 => ?_)
      · rw [if_neg c12] at hf
        exact Kx _ (Option.some.inj hf).symm _ _ _ hP hD hS (show lv_has ls 5 [(0, .ref iq), (1, .ref q1), (2, .ref q2)] from lv_sub hl [2, 3, 4] rfl)
      · rw [if_pos c12] at hf
        refine lv_aload_n hx hb d_In_holds_47 rfl (lv_at hl 2 rfl) ?_
        refine lv_aload_n hx hb d_In_holds_48 rfl (lv_at hl 3 rfl) ?_
        refine lv_aload_n hx hb d_In_holds_49 rfl (lv_at hl 4 rfl) ?_
        obtain ⟨u13, eu13, hf⟩ := obd hf
        refine w_callA (va_runV (As := [.ref q1, .ref q2]) (rest := []) ⟨hx, hb, hml, hown, hts⟩ (Met_G (c_In_goOn l H.size eu13)) (gV 2 hts cd_In_goOn ml_In_24 im_In_goOn se_In_goOn ini_In rfl rfl pd_In_goOn ⟨Nat.le_trans (Nat.le_of_ble_eq_true rfl) hRf, Nat.le_trans (Nat.le_of_ble_eq_true rfl) hRl⟩) ⟨wPreR_blind, va_recv hK hP (ci := 8) (q0 := 0) rfl rfl, wPreR_of hP hK hD hS hA (va_P.app (hO1 _ _ hS) (hO2 _ _ hS)) (gAw.app hw1 hw2)⟩ rfl rfl hl.1 rfl (lv_room (Nat.le_of_ble_eq_true rfl)) d_In_holds_50 ⟨hRc, hRs⟩) hD hS hA (fun g14 H1 locs hP1 hD1 hk1 hS1 => ?_)
        obtain ⟨hP, hD⟩ : _ ∧ _ := ⟨hP1, hD1.weaken (fun _ q _ h => va_sub hD hS hA q.1 h)⟩
        have hS := hS1
        generalize H1 = H at hP hS ⊢
        have hP : va_P D vwCl (inW K iq i1 i2 u13.2.1 u13.2.2) H := hP
        have hD : va_D A (inW K iq i1 i2 u13.2.1 u13.2.2) := hD
        refine lv_istore_n (lv' := [(3, .int (bI u13.1)), (4, .int v4), (0, .ref iq), (1, .ref q1), (2, .ref q2)]) hx hb d_In_holds_53 rfl hl (by decide) rfl (fun ls hl => ?_)
        refine lv_iinc (v := v4 + 1) (lv' := [(4, .int (v4 + 1)), (3, .int (bI u13.1)), (0, .ref iq), (1, .ref q1), (2, .ref q2)]) hx hb d_In_holds_54 hl (k := 1) rfl (by first | rfl | (congr 1)) (by decide) rfl (fun ls hl => ?_)
        refine lv_goto (tgt := 35) hx hb d_In_holds_57 (by decide) ?_
        exact ih _ _ _ _ hf _ _ _ hP hD hS (show lv_has ls 5 [(4, .int (v4 + 1)), (3, .int (bI u13.1)), (0, .ref iq), (1, .ref q1), (2, .ref q2)] from lv_sub hl [0, 1, 2, 3, 4] rfl)
def f_In_holds_63 (n : Nat) (iSeen : Nat → Int64) (iWaiting : Nat → Int64) (aStates1 : Int32) (aLast1 : Int64) (aLast2 : Int64) : Nat → Int32 → Option ((Bool × (Nat → Int64) × (Nat → Int64)) ⊕ (Int32))
  | 0, _ => none
  | k + 1, v4 =>
    if aStates1 ≤ v4 then
      some (.inr v4)
    else
      (f_Au_isLast n v4 aLast1).bind fun u22 =>
      if u22 = true then
        ogd (gin v4 64) <|
        if ((iSeen v4.toNatClampNeg) &&& (aLast2 ^^^ (-1))) = 0 then
          f_In_holds_63 n iSeen iWaiting aStates1 aLast1 aLast2 k (v4 + 1)
        else
          some (.inl (false, iSeen, iWaiting))
      else
        f_In_holds_63 n iSeen iWaiting aStates1 aLast1 aLast2 k (v4 + 1)
set_option maxHeartbeats 4000000 in
set_option maxRecDepth 100000 in
theorem w_In_holds_63   (hx : p.tables.exec = Jvm.exec) (hb : c.code = b_In_holds) (hml : c.maxLocals = 5) (hts : ∀ w ∈ gW, w.before args s = true) (hown : s.vm.findClass "RegularSolver$Inclusion" = some m.cls) (hK : va_K D vwCl (tG K) s) (hO1 : ∀ (H : Heap) (locs : List Loc), va_S A H0 H locs → va_P D vwCl (auW K q1 an1 aa1 aStates1 aNl1 aNext1 aLast1 aAhead1) H) (hw1 : gAw A (auW K q1 an1 aa1 aStates1 aNl1 aNext1 aLast1 aAhead1)) (hO2 : ∀ (H : Heap) (locs : List Loc), va_S A H0 H locs → va_P D vwCl (auW K q2 an2 aa2 aStates2 aNl2 aNext2 aLast2 aAhead2) H) (hw2 : gAw A (auW K q2 an2 aa2 aStates2 aNl2 aNext2 aLast2 aAhead2)) (hRf : 3 ≤ R.frames) (hRl : 77 ≤ R.locals) (hRc : cells ≤ R.cells) (hRs : slots ≤ R.slots) (hA : ∀ q, H0.size ≤ q → A q)  {out : (Bool × (Nat → Int64) × (Nat → Int64)) ⊕ (Int32)} (Kr : ∀ (r : Bool × (Nat → Int64) × (Nat → Int64)), out = .inl r → ∀ (pc : Nat) (ls : Array Slot) (H : Heap) (locs : List Loc), decode b_In_holds pc = .ok (.ireturn, 1) → va_P D vwCl (inW K iq i1 i2 r.2.1 r.2.2) H → va_D A (inW K iq i1 i2 r.2.1 r.2.2) → va_S A H0 H locs → W p l e R s m args below meth c H locs cells slots Q (F0 m pc ls [.int (bI r.1)])) (Kx : ∀ (u : Int32), out = .inr u → ∀ (ls : Array Slot) (H : Heap) (locs : List Loc), va_P D vwCl (inW K iq i1 i2 iSeen iWaiting) H → va_D A (inW K iq i1 i2 iSeen iWaiting) → va_S A H0 H locs → lv_has ls 5 [] → W p l e R s m args below meth c H locs cells slots Q (F0 m 110 ls [])) :
    ∀ (k : Nat) (v4 : Int32), f_In_holds_63 n iSeen iWaiting aStates1 aLast1 aLast2 k v4 = some out → ∀ (ls : Array Slot) (H : Heap) (locs : List Loc), va_P D vwCl (inW K iq i1 i2 iSeen iWaiting) H → va_D A (inW K iq i1 i2 iSeen iWaiting) → va_S A H0 H locs → lv_has ls 5 [(4, .int v4), (0, .ref iq), (1, .ref q1), (2, .ref q2)] → W p l e R s m args below meth c H locs cells slots Q (F0 m 63 ls []) := by
  intro k
  induction k with
  | zero => intro _ hf; exact nomatch (show none = some out from hf)
  | succ k ih =>
    intro v4 hf ls H locs hP hD hS hl
    rw [f_In_holds_63] at hf
    refine lv_iload hx hb d_In_holds_63 (lv_at hl 0 rfl) ?_
    refine lv_aload_n hx hb d_In_holds_65 rfl (lv_at hl 2 rfl) ?_
    refine va_get (D := D) (ci := 1) (v := .int aStates1) (C := R_Au) (T := T_Au) (N := 4) hx hb hts in_Au hown hK (hO1 _ _ hS) 0 rfl rfl 0 (by decide) (hts _ fl_In_28) (fun _ h9 => h9) rfl d_In_holds_66 ?_
    refine lv_icmp_ge (tgt := 110) hx hb d_In_holds_69 (by decide) (fun c21 => ?_) (fun c21 => ?_)
    · rw [if_pos c21] at hf
      exact Kx _ (Option.some.inj hf).symm _ _ _ hP hD hS (show lv_has ls 5 [] from lv_sub hl [] rfl)
    · rw [if_neg c21] at hf
      refine lv_aload_n hx hb d_In_holds_72 rfl (lv_at hl 2 rfl) ?_
      refine lv_iload hx hb d_In_holds_73 (lv_at hl 0 rfl) ?_
      obtain ⟨u22, eu22, hf⟩ := obd hf
      refine p_call (W.runV (As := [.int v4]) (rest := []) ⟨hx, hb, hml, hown, hts⟩ (c_Au_isLast l eu22) (gV 1 hts cd_Au_isLast ml_In_34 im_Au_isLast se_Au_isLast ini_Au rfl rfl pd_Au_isLast ⟨Nat.le_trans (Nat.le_of_ble_eq_true rfl) hRf, Nat.le_trans (Nat.le_of_ble_eq_true rfl) hRl⟩) ⟨pPre_blind, va_recv hK (hO1 _ _ hS) (ci := 1) (q0 := 0) rfl rfl, pPre_of (hO1 _ _ hS) hK⟩ rfl rfl hl.1 rfl (lv_room (Nat.le_of_ble_eq_true rfl)) d_In_holds_75 ⟨hRc, hRs⟩) ?_
      refine bz_eq (tgt := 104) hx hb d_In_holds_78 (by decide) (fun c23 => ?_) (fun c23 => ?_)
      · rw [if_neg c23] at hf
        refine lv_iinc (v := v4 + 1) (lv' := [(4, .int (v4 + 1)), (0, .ref iq), (1, .ref q1), (2, .ref q2)]) hx hb d_In_holds_104 hl (k := 0) rfl (by first | rfl | (congr 1)) (by decide) rfl (fun ls hl => ?_)
        refine lv_goto (tgt := 63) hx hb d_In_holds_107 (by decide) ?_
        exact ih _ hf _ _ _ hP hD hS (show lv_has ls 5 [(4, .int (v4 + 1)), (0, .ref iq), (1, .ref q1), (2, .ref q2)] from lv_sub hl [0, 1, 2, 3] rfl)
      · rw [if_pos c23] at hf
        refine lv_aload_n hx hb d_In_holds_81 rfl (lv_at hl 1 rfl) ?_
        refine va_get (D := D) (ci := 8) (v := .ref i1) (C := R_In) (T := T_In) (N := 2) hx hb hts in_In hown hK hP 0 rfl rfl 0 (by decide) (hts _ fl_In_9) (fun _ h9 => h9) rfl d_In_holds_82 ?_
        refine lv_iload hx hb d_In_holds_85 (lv_at hl 0 rfl) ?_
        obtain ⟨g24, hf⟩ := ogi hf
        refine va_lald hx hb hK hP 1 1 rfl rfl (gin_in g24) d_In_holds_87 ?_
        refine lv_aload_n hx hb d_In_holds_88 rfl (lv_at hl 3 rfl) ?_
        refine va_get (D := D) (ci := 1) (v := .long aLast2) (C := R_Au) (T := T_Au) (N := 4) hx hb hts in_Au hown hK (hO2 _ _ hS) 0 rfl rfl 2 (by decide) (hts _ fl_In_38) (fun _ h9 => h9) rfl d_In_holds_89 ?_
        refine lv_ldc2 (v := (-1)) hx hb hown (hts _ kl_In_42) d_In_holds_92 ?_
        refine lv_lxor hx hb d_In_holds_95 ?_
        refine lv_land hx hb d_In_holds_96 ?_
        refine lv_lconst (v := 0) hx hb d_In_holds_97 (by decide) ?_
        refine W.lcmp hx hb d_In_holds_98 ?_
        refine lc_eq (tgt := 104) hx hb d_In_holds_99 (by decide) (fun c25 => ?_) (fun c25 => ?_)
        · rw [if_pos c25] at hf
          refine lv_iinc (v := v4 + 1) (lv' := [(4, .int (v4 + 1)), (0, .ref iq), (1, .ref q1), (2, .ref q2)]) hx hb d_In_holds_104 hl (k := 0) rfl (by first | rfl | (congr 1)) (by decide) rfl (fun ls hl => ?_)
          refine lv_goto (tgt := 63) hx hb d_In_holds_107 (by decide) ?_
          exact ih _ hf _ _ _ hP hD hS (show lv_has ls 5 [(4, .int (v4 + 1)), (0, .ref iq), (1, .ref q1), (2, .ref q2)] from lv_sub hl [0, 1, 2, 3] rfl)
        · rw [if_neg c25] at hf
          refine lv_iconst (v := 0) hx hb d_In_holds_102 (by decide) ?_
          exact Kr _ (Option.some.inj hf).symm _ _ _ _ d_In_holds_103 hP hD hS
def f_In_holds (n : Nat) (iSeen : Nat → Int64) (iWaiting : Nat → Int64) (aStates1 : Int32) (aNl1 : Nat) (aNext1 : Nat → Int32) (aLast1 : Int64) (aStates2 : Int32) (aNl2 : Nat) (aNext2 : Nat → Int32) (aLast2 : Int64) : Option (Bool × (Nat → Int64) × (Nat → Int64)) :=
  (f_Ar_fillJ n 0 64 iSeen).bind fun u1 =>
  (f_Ar_fillJ n 0 64 iWaiting).bind fun u3 =>
  ogd (gin 0 64) <|
  ogd (gin 0 64) <|
  (f_In_holds_35 n aStates1 aNl1 aNext1 aStates2 aNl2 aNext2 n 0 true (vp_updL u1 (0 : Int32).toNatClampNeg 1) (vp_updL u3 (0 : Int32).toNatClampNeg 1)).bind fun u15 =>
  (f_In_holds_63 n u15.2.2.1 u15.2.2.2 aStates1 aLast1 aLast2 n 0).bind fun u26 => u26.elim (fun r => some r) fun x26 =>
  some (true, u15.2.2.1, u15.2.2.2)
set_option maxHeartbeats 4000000 in
set_option maxRecDepth 100000 in
theorem w_In_holds    (hx : p.tables.exec = Jvm.exec) (hb : c.code = b_In_holds) (hml : c.maxLocals = 5) (hts : ∀ w ∈ gW, w.before args s = true) (hown : s.vm.findClass "RegularSolver$Inclusion" = some m.cls) (hK : va_K D vwCl (tG K) s) (hO1 : ∀ (H : Heap) (locs : List Loc), va_S A H0 H locs → va_P D vwCl (auW K q1 an1 aa1 aStates1 aNl1 aNext1 aLast1 aAhead1) H) (hw1 : gAw A (auW K q1 an1 aa1 aStates1 aNl1 aNext1 aLast1 aAhead1)) (hO2 : ∀ (H : Heap) (locs : List Loc), va_S A H0 H locs → va_P D vwCl (auW K q2 an2 aa2 aStates2 aNl2 aNext2 aLast2 aAhead2) H) (hw2 : gAw A (auW K q2 an2 aa2 aStates2 aNl2 aNext2 aLast2 aAhead2)) (hRf : 3 ≤ R.frames) (hRl : 77 ≤ R.locals) (hRc : cells ≤ R.cells) (hRs : slots ≤ R.slots) (hA : ∀ q, H0.size ≤ q → A q) {out : Bool × (Nat → Int64) × (Nat → Int64)} (Kr : ∀ (r : Bool × (Nat → Int64) × (Nat → Int64)), out = r → ∀ (pc : Nat) (ls : Array Slot) (H : Heap) (locs : List Loc), decode b_In_holds pc = .ok (.ireturn, 1) → va_P D vwCl (inW K iq i1 i2 r.2.1 r.2.2) H → va_D A (inW K iq i1 i2 r.2.1 r.2.2) → va_S A H0 H locs → W p l e R s m args below meth c H locs cells slots Q (F0 m pc ls [.int (bI r.1)])) (hf : f_In_holds n iSeen iWaiting aStates1 aNl1 aNext1 aLast1 aStates2 aNl2 aNext2 aLast2 = some out) (ls : Array Slot) (hP : va_P D vwCl (inW K iq i1 i2 iSeen iWaiting) H) (hD : va_D A (inW K iq i1 i2 iSeen iWaiting)) (hS : va_S A H0 H locs) (hl : lv_has ls 5 [(0, .ref iq), (1, .ref q1), (2, .ref q2)]) : W p l e R s m args below meth c H locs cells slots Q (F0 m 0 ls []) := by
  unfold f_In_holds at hf
  refine lv_aload_n hx hb d_In_holds_0 rfl (lv_at hl 0 rfl) ?_
  refine va_get (D := D) (ci := 8) (v := .ref i1) (C := R_In) (T := T_In) (N := 2) hx hb hts in_In hown hK hP 0 rfl rfl 0 (by decide) (hts _ fl_In_9) (fun _ h9 => h9) rfl d_In_holds_1 ?_
  refine lv_lconst (v := 0) hx hb d_In_holds_4 (by decide) ?_
  obtain ⟨u1, eu1, hf⟩ := obd hf
  refine w_callA (va_runS (As := [.ref i1, .long 0]) (rest := []) ⟨hx, hb, hml, hown, hts⟩ (Met_G (c_Ar_fillJ l H.size eu1)) (gS 2 hts cd_Ar_fillJ ml_In_18 st_Ar_fillJ ini_Ar rfl rfl pd_Ar_fillJ ⟨Nat.le_trans (Nat.le_of_ble_eq_true rfl) hRf, Nat.le_trans (Nat.le_of_ble_eq_true rfl) hRl⟩) ⟨wPre_blind, wPre_of (vaC hP 1 rfl) hK (vdC hD 1 rfl)⟩ rfl rfl hl.1 rfl (lv_room (Nat.le_of_ble_eq_true rfl)) d_In_holds_5 ⟨hRc, hRs⟩) (vdC hD 1 rfl) hS hA (fun g2 H1 locs hP1 hD1 hk1 hS1 => ?_)
  obtain ⟨hP, hD⟩ := va_keepC 1 rfl hP hD hk1 hP1
  have hS := hS1
  generalize H1 = H at hP hS ⊢
  have hP : va_P D vwCl (inW K iq i1 i2 u1 iWaiting) H := hP
  have hD : va_D A (inW K iq i1 i2 u1 iWaiting) := hD
  refine lv_aload_n hx hb d_In_holds_8 rfl (lv_at hl 0 rfl) ?_
  refine va_get (D := D) (ci := 8) (v := .ref i2) (C := R_In) (T := T_In) (N := 2) hx hb hts in_In hown hK hP 0 rfl rfl 1 (by decide) (hts _ fl_In_15) (fun _ h9 => h9) rfl d_In_holds_9 ?_
  refine lv_lconst (v := 0) hx hb d_In_holds_12 (by decide) ?_
  obtain ⟨u3, eu3, hf⟩ := obd hf
  refine w_callA (va_runS (As := [.ref i2, .long 0]) (rest := []) ⟨hx, hb, hml, hown, hts⟩ (Met_G (c_Ar_fillJ l H.size eu3)) (gS 2 hts cd_Ar_fillJ ml_In_18 st_Ar_fillJ ini_Ar rfl rfl pd_Ar_fillJ ⟨Nat.le_trans (Nat.le_of_ble_eq_true rfl) hRf, Nat.le_trans (Nat.le_of_ble_eq_true rfl) hRl⟩) ⟨wPre_blind, wPre_of (vaC hP 2 rfl) hK (vdC hD 2 rfl)⟩ rfl rfl hl.1 rfl (lv_room (Nat.le_of_ble_eq_true rfl)) d_In_holds_13 ⟨hRc, hRs⟩) (vdC hD 2 rfl) hS hA (fun g4 H1 locs hP1 hD1 hk1 hS1 => ?_)
  obtain ⟨hP, hD⟩ := va_keepC 2 rfl hP hD hk1 hP1
  have hS := hS1
  generalize H1 = H at hP hS ⊢
  have hP : va_P D vwCl (inW K iq i1 i2 u1 u3) H := hP
  have hD : va_D A (inW K iq i1 i2 u1 u3) := hD
  refine lv_aload_n hx hb d_In_holds_16 rfl (lv_at hl 0 rfl) ?_
  refine va_get (D := D) (ci := 8) (v := .ref i1) (C := R_In) (T := T_In) (N := 2) hx hb hts in_In hown hK hP 0 rfl rfl 0 (by decide) (hts _ fl_In_9) (fun _ h9 => h9) rfl d_In_holds_17 ?_
  refine lv_iconst (v := 0) hx hb d_In_holds_20 (by decide) ?_
  refine lv_lconst (v := 1) hx hb d_In_holds_21 (by decide) ?_
  obtain ⟨g5, hf⟩ := ogi hf
  refine va_last hx hb hK hP hD hS 1 1 rfl rfl (gin_in g5) d_In_holds_22 (fun H locs hP hD hS => ?_)
  have hP : va_P D vwCl (inW K iq i1 i2 (vp_updL u1 (0 : Int32).toNatClampNeg 1) u3) H := hP
  have hD : va_D A (inW K iq i1 i2 (vp_updL u1 (0 : Int32).toNatClampNeg 1) u3) := hD
  refine lv_aload_n hx hb d_In_holds_23 rfl (lv_at hl 0 rfl) ?_
  refine va_get (D := D) (ci := 8) (v := .ref i2) (C := R_In) (T := T_In) (N := 2) hx hb hts in_In hown hK hP 0 rfl rfl 1 (by decide) (hts _ fl_In_15) (fun _ h9 => h9) rfl d_In_holds_24 ?_
  refine lv_iconst (v := 0) hx hb d_In_holds_27 (by decide) ?_
  refine lv_lconst (v := 1) hx hb d_In_holds_28 (by decide) ?_
  obtain ⟨g6, hf⟩ := ogi hf
  refine va_last hx hb hK hP hD hS 2 1 rfl rfl (gin_in g6) d_In_holds_29 (fun H locs hP hD hS => ?_)
  have hP : va_P D vwCl (inW K iq i1 i2 (vp_updL u1 (0 : Int32).toNatClampNeg 1) (vp_updL u3 (0 : Int32).toNatClampNeg 1)) H := hP
  have hD : va_D A (inW K iq i1 i2 (vp_updL u1 (0 : Int32).toNatClampNeg 1) (vp_updL u3 (0 : Int32).toNatClampNeg 1)) := hD
  refine lv_iconst (v := 1) hx hb d_In_holds_30 (by decide) ?_
  refine lv_istore_n (lv' := [(3, .int 1), (0, .ref iq), (1, .ref q1), (2, .ref q2)]) hx hb d_In_holds_31 rfl hl (by decide) rfl (fun ls hl => ?_)
  refine lv_iconst (v := 0) hx hb d_In_holds_32 (by decide) ?_
  refine lv_istore (lv' := [(4, .int 0), (3, .int 1), (0, .ref iq), (1, .ref q1), (2, .ref q2)]) hx hb d_In_holds_33 hl (by decide) rfl (fun ls hl => ?_)
  obtain ⟨u15, eu15, hf⟩ := obd hf
  refine w_In_holds_35 hx hb hml hts hown hK hO1 hw1 hO2 hw2 hRf hRl hRc hRs hA  (fun u15q eu ls H locs hP hD hS hl => ?_) _ _ _ _ _ eu15 _ _ _ hP hD hS (show lv_has ls 5 [(4, .int 0), (3, .int (bI true)), (0, .ref iq), (1, .ref q1), (2, .ref q2)] from lv_sub hl [0, 1, 2, 3, 4] rfl)
  subst eu
  refine lv_iconst (v := 0) hx hb d_In_holds_60 (by decide) ?_
  refine lv_istore (lv' := [(4, .int 0), (0, .ref iq), (1, .ref q1), (2, .ref q2)]) hx hb d_In_holds_61 hl (by decide) rfl (fun ls hl => ?_)
  obtain ⟨u26, eu26, hf⟩ := obd hf
  refine w_In_holds_63 hx hb hml hts hown hK hO1 hw1 hO2 hw2 hRf hRl hRc hRs hA (fun r er pc ls H locs hd hP hD hS => Kr r (by subst er; exact (Option.some.inj hf).symm) pc ls H locs hd hP hD hS) (fun x26 eu ls H locs hP hD hS hl => ?_) _ _ eu26 _ _ _ hP hD hS (show lv_has ls 5 [(4, .int 0), (0, .ref iq), (1, .ref q1), (2, .ref q2)] from lv_sub hl [0, 1, 2, 3] rfl)
  subst eu
  replace hf := oel hf
  refine lv_iconst (v := 1) hx hb d_In_holds_110 (by decide) ?_
  exact Kr _ (Option.some.inj hf).symm _ _ _ _ d_In_holds_111 hP hD hS
set_option maxHeartbeats 4000000 in
set_option maxRecDepth 100000 in
theorem c_In_holds (l : Launch)    {r : Bool × (Nat → Int64) × (Nat → Int64)} (sz : Nat) (hf : f_In_holds n iSeen iWaiting aStates1 aNl1 aNext1 aLast1 aStates2 aNl2 aNext2 aLast2 = some r) : Met l y_In_holds w0_In_holds ({ frames := 3, cells := 0, slots := 0, locals := 77 }) (wPreR D K [.ref iq, .ref q1, .ref q2] (inW K iq i1 i2 iSeen iWaiting) ((auW K q1 an1 aa1 aStates1 aNl1 aNext1 aLast1 aAhead1) ++ (auW K q2 an2 aa2 aStates2 aNl2 aNext2 aLast2 aAhead2)) sz) (wPost D K (some (.int (bI r.1))) (inW K iq i1 i2 r.2.1 r.2.2) (va_A (inW K iq i1 i2 iSeen iWaiting) sz)) 0 0 (va_A (inW K iq i1 i2 iSeen iWaiting) sz) := by
  refine Met.ofW (cc := b_In_holds) (maxL := 5) (ret := (some .boolean)) (by decide) rfl ?_
  intro p e s m args below meth c s₁ B hml hv
  obtain ⟨rfl, hsz, hP, hK, hD0, hR, hw⟩ := hv
  subst hsz
  have hl := lv_entry [.ref iq, .ref q1, .ref q2] (n := 5) (Nat.le_of_ble_eq_true rfl)
  rw [lg_entry_eq]
  generalize (lg_sl [.ref iq, .ref q1, .ref q2] ++ List.replicate (5 - (lg_sl [.ref iq, .ref q1, .ref q2]).length) Slot.unset).toArray = ls at hl ⊢
  refine w_In_holds (A := va_A (inW K iq i1 i2 iSeen iWaiting) s.heap.size) (H0 := s.heap) B.exec B.bytes hml (fun w hw => atoms_spec (ws := w0_In_holds) B.pre w (List.mem_cons_of_mem _ hw)) (findClass_of_methodNamed B.named) hK (fun _ _ hS => ro_of (vaL hR) (gAw.left hw) hS) (gAw.left hw) (fun _ _ hS => ro_of (vaR hR) (gAw.right hw) hS) (gAw.right hw) (Nat.le_refl _) (Nat.le_refl _) (Nat.zero_le _) (Nat.zero_le _) (fun q h => Or.inr h) (fun r er pc ls H locs hd hP hD hS => ?_) hf ls hP (hD0.self (sz := s.heap.size)) va_S.rf hl
  subst er
  exact W.zret B.exec B.bytes B.returns (bI_nar _) (fun t ht hW => ⟨⟨rfl, by rw [ht]; exact hP, va_K.moved hW.alike hK, hD⟩, hS.F ht⟩) hS.2.2 hd (hlocks := B.notSynchronized)
end
