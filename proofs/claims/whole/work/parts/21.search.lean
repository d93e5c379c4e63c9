abbrev seW (K : Nat → ClassId) (sq : Nat) (sA : Nat) (sF : Nat) (sLe : Nat) (sMo : Nat) (sAl : Nat) (sRL : Nat) (sRM : Nat) (sLn : Nat) (sKL : Nat) (sKW : Nat) (fF : Nat → Nat) (fL : Nat → Nat) (fM : Nat → Nat) (sAssigned : Nat → Option Nat) (sLeast : Nat → Int32) (sMost : Nat → Int32) (sCount : Int32) (sAllowed : Nat → Int64) (sLengths : Nat → Int32) (sKept : Bool) (sKeptLengths : Nat → Int32) (sKeptWords : Nat → Int64) : va_W := [(sq, .inr (9, [.ref sA, .ref sF, .ref sLe, .ref sMo, .int sCount, .ref sAl, .ref sRL, .ref sRM, .ref sLn, .int (bI sKept), .ref sKL, .ref sKW])), (sA, .inl (K 3, 4, .inr (.inr (.inr (.inr sAssigned))))), (sF, .inl (K 4, 8, .inr (.inr (.inr (.inr (fun i => if i < 8 then some (fF i) else none)))))), (sLe, .inl (K 0, 8, .inl sLeast)), (sMo, .inl (K 0, 8, .inl sMost)), (sAl, .inl (K 1, 4, .inr (.inl sAllowed))), (sRL, .inl (K 4, 8, .inr (.inr (.inr (.inr (fun i => if i < 8 then some (fL i) else none)))))), (sRM, .inl (K 4, 8, .inr (.inr (.inr (.inr (fun i => if i < 8 then some (fM i) else none)))))), (sLn, .inl (K 0, 4, .inl sLengths)), (sKL, .inl (K 0, 4, .inl sKeptLengths)), (sKW, .inl (K 1, 4, .inr (.inl sKeptWords)))]
abbrev b_Se_isFull : ByteArray := prog_10_method_3_code
def y_Se_isFull : MethodName := ⟨"RegularSolver$Search", "isFull", "()Z"⟩
abbrev w0_Se_isFull : List Cond := Cond.code y_Se_isFull b_Se_isFull 1 (some .boolean) :: gW
theorem cd_Se_isFull : Cond.code y_Se_isFull b_Se_isFull 1 (some .boolean) ∈ gW := gm 715 (by decide +kernel) (by decide +kernel)
theorem d_Se_isFull_0 : decode b_Se_isFull 0 = .ok (.aload_n 0, 1) := by decide +kernel
theorem d_Se_isFull_1 : decode b_Se_isFull 1 = .ok (.getfield 29, 3) := by decide +kernel
theorem d_Se_isFull_4 : decode b_Se_isFull 4 = .ok (.bipush 8, 2) := by decide +kernel
theorem d_Se_isFull_6 : decode b_Se_isFull 6 = .ok (.if_icmp .lt 7, 3) := by decide +kernel
theorem d_Se_isFull_9 : decode b_Se_isFull 9 = .ok (.iconst 1, 1) := by decide +kernel
theorem d_Se_isFull_10 : decode b_Se_isFull 10 = .ok (.goto 4, 3) := by decide +kernel
theorem d_Se_isFull_13 : decode b_Se_isFull 13 = .ok (.iconst 0, 1) := by decide +kernel
theorem d_Se_isFull_14 : decode b_Se_isFull 14 = .ok (.ireturn, 1) := by decide +kernel
abbrev b_Se_addBound : ByteArray := prog_10_method_4_code
def y_Se_addBound : MethodName := ⟨"RegularSolver$Search", "addBound", "(IIIIII)I"⟩
abbrev w0_Se_addBound : List Cond := Cond.code y_Se_addBound b_Se_addBound 8 (some .int) :: gW
theorem cd_Se_addBound : Cond.code y_Se_addBound b_Se_addBound 8 (some .int) ∈ gW := gm 720 (by decide +kernel) (by decide +kernel)
theorem d_Se_addBound_0 : decode b_Se_addBound 0 = .ok (.aload_n 0, 1) := by decide +kernel
theorem d_Se_addBound_1 : decode b_Se_addBound 1 = .ok (.getfield 19, 3) := by decide +kernel
theorem d_Se_addBound_4 : decode b_Se_addBound 4 = .ok (.aload_n 0, 1) := by decide +kernel
theorem d_Se_addBound_5 : decode b_Se_addBound 5 = .ok (.getfield 29, 3) := by decide +kernel
theorem d_Se_addBound_8 : decode b_Se_addBound 8 = .ok (.aaload, 1) := by decide +kernel
theorem d_Se_addBound_9 : decode b_Se_addBound 9 = .ok (.astore 7, 2) := by decide +kernel
theorem d_Se_addBound_11 : decode b_Se_addBound 11 = .ok (.aload 7, 2) := by decide +kernel
theorem d_Se_addBound_13 : decode b_Se_addBound 13 = .ok (.iconst 0, 1) := by decide +kernel
theorem d_Se_addBound_14 : decode b_Se_addBound 14 = .ok (.iload_n 1, 1) := by decide +kernel
theorem d_Se_addBound_15 : decode b_Se_addBound 15 = .ok (.iastore, 1) := by decide +kernel
theorem d_Se_addBound_16 : decode b_Se_addBound 16 = .ok (.aload 7, 2) := by decide +kernel
theorem d_Se_addBound_18 : decode b_Se_addBound 18 = .ok (.iconst 1, 1) := by decide +kernel
theorem d_Se_addBound_19 : decode b_Se_addBound 19 = .ok (.iload_n 2, 1) := by decide +kernel
theorem d_Se_addBound_20 : decode b_Se_addBound 20 = .ok (.iastore, 1) := by decide +kernel
theorem d_Se_addBound_21 : decode b_Se_addBound 21 = .ok (.aload 7, 2) := by decide +kernel
theorem d_Se_addBound_23 : decode b_Se_addBound 23 = .ok (.iconst 2, 1) := by decide +kernel
theorem d_Se_addBound_24 : decode b_Se_addBound 24 = .ok (.iload_n 3, 1) := by decide +kernel
theorem d_Se_addBound_25 : decode b_Se_addBound 25 = .ok (.iastore, 1) := by decide +kernel
theorem d_Se_addBound_26 : decode b_Se_addBound 26 = .ok (.aload 7, 2) := by decide +kernel
theorem d_Se_addBound_28 : decode b_Se_addBound 28 = .ok (.iconst 3, 1) := by decide +kernel
theorem d_Se_addBound_29 : decode b_Se_addBound 29 = .ok (.iload 4, 2) := by decide +kernel
theorem d_Se_addBound_31 : decode b_Se_addBound 31 = .ok (.iastore, 1) := by decide +kernel
theorem d_Se_addBound_32 : decode b_Se_addBound 32 = .ok (.aload_n 0, 1) := by decide +kernel
theorem d_Se_addBound_33 : decode b_Se_addBound 33 = .ok (.getfield 22, 3) := by decide +kernel
theorem d_Se_addBound_36 : decode b_Se_addBound 36 = .ok (.aload_n 0, 1) := by decide +kernel
theorem d_Se_addBound_37 : decode b_Se_addBound 37 = .ok (.getfield 29, 3) := by decide +kernel
theorem d_Se_addBound_40 : decode b_Se_addBound 40 = .ok (.iload 5, 2) := by decide +kernel
theorem d_Se_addBound_42 : decode b_Se_addBound 42 = .ok (.iastore, 1) := by decide +kernel
theorem d_Se_addBound_43 : decode b_Se_addBound 43 = .ok (.aload_n 0, 1) := by decide +kernel
theorem d_Se_addBound_44 : decode b_Se_addBound 44 = .ok (.getfield 26, 3) := by decide +kernel
theorem d_Se_addBound_47 : decode b_Se_addBound 47 = .ok (.aload_n 0, 1) := by decide +kernel
theorem d_Se_addBound_48 : decode b_Se_addBound 48 = .ok (.getfield 29, 3) := by decide +kernel
theorem d_Se_addBound_51 : decode b_Se_addBound 51 = .ok (.iload 6, 2) := by decide +kernel
theorem d_Se_addBound_53 : decode b_Se_addBound 53 = .ok (.iastore, 1) := by decide +kernel
theorem d_Se_addBound_54 : decode b_Se_addBound 54 = .ok (.aload_n 0, 1) := by decide +kernel
theorem d_Se_addBound_55 : decode b_Se_addBound 55 = .ok (.dup, 1) := by decide +kernel
theorem d_Se_addBound_56 : decode b_Se_addBound 56 = .ok (.getfield 29, 3) := by decide +kernel
theorem d_Se_addBound_59 : decode b_Se_addBound 59 = .ok (.iconst 1, 1) := by decide +kernel
theorem d_Se_addBound_60 : decode b_Se_addBound 60 = .ok (.iadd, 1) := by decide +kernel
theorem d_Se_addBound_61 : decode b_Se_addBound 61 = .ok (.putfield 29, 3) := by decide +kernel
theorem d_Se_addBound_64 : decode b_Se_addBound 64 = .ok (.aload_n 0, 1) := by decide +kernel
theorem d_Se_addBound_65 : decode b_Se_addBound 65 = .ok (.getfield 29, 3) := by decide +kernel
theorem d_Se_addBound_68 : decode b_Se_addBound 68 = .ok (.ireturn, 1) := by decide +kernel
abbrev b_Se_forget : ByteArray := prog_10_method_5_code
def y_Se_forget : MethodName := ⟨"RegularSolver$Search", "forget", "()V"⟩
abbrev w0_Se_forget : List Cond := Cond.code y_Se_forget b_Se_forget 2 none :: gW
theorem cd_Se_forget : Cond.code y_Se_forget b_Se_forget 2 none ∈ gW := gm 176 (by decide +kernel) (by decide +kernel)
theorem d_Se_forget_0 : decode b_Se_forget 0 = .ok (.iconst 0, 1) := by decide +kernel
theorem d_Se_forget_1 : decode b_Se_forget 1 = .ok (.istore_n 1, 1) := by decide +kernel
theorem d_Se_forget_2 : decode b_Se_forget 2 = .ok (.iload_n 1, 1) := by decide +kernel
theorem d_Se_forget_3 : decode b_Se_forget 3 = .ok (.iconst 4, 1) := by decide +kernel
theorem d_Se_forget_4 : decode b_Se_forget 4 = .ok (.if_icmp .ge 16, 3) := by decide +kernel
theorem d_Se_forget_7 : decode b_Se_forget 7 = .ok (.aload_n 0, 1) := by decide +kernel
theorem d_Se_forget_8 : decode b_Se_forget 8 = .ok (.getfield 11, 3) := by decide +kernel
theorem d_Se_forget_11 : decode b_Se_forget 11 = .ok (.iload_n 1, 1) := by decide +kernel
theorem d_Se_forget_12 : decode b_Se_forget 12 = .ok (.aconst_null, 1) := by decide +kernel
theorem d_Se_forget_13 : decode b_Se_forget 13 = .ok (.aastore, 1) := by decide +kernel
theorem d_Se_forget_14 : decode b_Se_forget 14 = .ok (.iinc 1 1, 3) := by decide +kernel
theorem d_Se_forget_17 : decode b_Se_forget 17 = .ok (.goto (-15), 3) := by decide +kernel
theorem d_Se_forget_20 : decode b_Se_forget 20 = .ok (.aload_n 0, 1) := by decide +kernel
theorem d_Se_forget_21 : decode b_Se_forget 21 = .ok (.iconst 0, 1) := by decide +kernel
theorem d_Se_forget_22 : decode b_Se_forget 22 = .ok (.putfield 29, 3) := by decide +kernel
theorem d_Se_forget_25 : decode b_Se_forget 25 = .ok (.aload_n 0, 1) := by decide +kernel
theorem d_Se_forget_26 : decode b_Se_forget 26 = .ok (.iconst 0, 1) := by decide +kernel
theorem d_Se_forget_27 : decode b_Se_forget 27 = .ok (.putfield 46, 3) := by decide +kernel
theorem d_Se_forget_30 : decode b_Se_forget 30 = .ok (.return_, 1) := by decide +kernel
abbrev b_Se_isWeighed : ByteArray := prog_10_method_8_code
def y_Se_isWeighed : MethodName := ⟨"RegularSolver$Search", "isWeighed", "(I)Z"⟩
abbrev w0_Se_isWeighed : List Cond := Cond.code y_Se_isWeighed b_Se_isWeighed 3 (some .boolean) :: gW
theorem cd_Se_isWeighed : Cond.code y_Se_isWeighed b_Se_isWeighed 3 (some .boolean) ∈ gW := gm 743 (by decide +kernel) (by decide +kernel)
theorem d_Se_isWeighed_0 : decode b_Se_isWeighed 0 = .ok (.iconst 0, 1) := by decide +kernel
theorem d_Se_isWeighed_1 : decode b_Se_isWeighed 1 = .ok (.istore_n 2, 1) := by decide +kernel
theorem d_Se_isWeighed_2 : decode b_Se_isWeighed 2 = .ok (.iload_n 2, 1) := by decide +kernel
theorem d_Se_isWeighed_3 : decode b_Se_isWeighed 3 = .ok (.aload_n 0, 1) := by decide +kernel
theorem d_Se_isWeighed_4 : decode b_Se_isWeighed 4 = .ok (.getfield 29, 3) := by decide +kernel
theorem d_Se_isWeighed_7 : decode b_Se_isWeighed 7 = .ok (.if_icmp .ge 22, 3) := by decide +kernel
theorem d_Se_isWeighed_10 : decode b_Se_isWeighed 10 = .ok (.aload_n 0, 1) := by decide +kernel
theorem d_Se_isWeighed_11 : decode b_Se_isWeighed 11 = .ok (.getfield 19, 3) := by decide +kernel
theorem d_Se_isWeighed_14 : decode b_Se_isWeighed 14 = .ok (.iload_n 2, 1) := by decide +kernel
theorem d_Se_isWeighed_15 : decode b_Se_isWeighed 15 = .ok (.aaload, 1) := by decide +kernel
theorem d_Se_isWeighed_16 : decode b_Se_isWeighed 16 = .ok (.iload_n 1, 1) := by decide +kernel
theorem d_Se_isWeighed_17 : decode b_Se_isWeighed 17 = .ok (.iaload, 1) := by decide +kernel
theorem d_Se_isWeighed_18 : decode b_Se_isWeighed 18 = .ok (.ifCond .eq 5, 3) := by decide +kernel
theorem d_Se_isWeighed_21 : decode b_Se_isWeighed 21 = .ok (.iconst 1, 1) := by decide +kernel
theorem d_Se_isWeighed_22 : decode b_Se_isWeighed 22 = .ok (.ireturn, 1) := by decide +kernel
theorem d_Se_isWeighed_23 : decode b_Se_isWeighed 23 = .ok (.iinc 2 1, 3) := by decide +kernel
theorem d_Se_isWeighed_26 : decode b_Se_isWeighed 26 = .ok (.goto (-24), 3) := by decide +kernel
theorem d_Se_isWeighed_29 : decode b_Se_isWeighed 29 = .ok (.iconst 0, 1) := by decide +kernel
theorem d_Se_isWeighed_30 : decode b_Se_isWeighed 30 = .ok (.ireturn, 1) := by decide +kernel
abbrev b_Se_shortestAllowed : ByteArray := prog_10_method_11_code
def y_Se_shortestAllowed : MethodName := ⟨"RegularSolver$Search", "shortestAllowed", "(I)I"⟩
abbrev w0_Se_shortestAllowed : List Cond := Cond.code y_Se_shortestAllowed b_Se_shortestAllowed 3 (some .int) :: gW
theorem cd_Se_shortestAllowed : Cond.code y_Se_shortestAllowed b_Se_shortestAllowed 3 (some .int) ∈ gW := gm 755 (by decide +kernel) (by decide +kernel)
theorem d_Se_shortestAllowed_0 : decode b_Se_shortestAllowed 0 = .ok (.iconst 0, 1) := by decide +kernel
theorem d_Se_shortestAllowed_1 : decode b_Se_shortestAllowed 1 = .ok (.istore_n 2, 1) := by decide +kernel
theorem d_Se_shortestAllowed_2 : decode b_Se_shortestAllowed 2 = .ok (.iload_n 2, 1) := by decide +kernel
theorem d_Se_shortestAllowed_3 : decode b_Se_shortestAllowed 3 = .ok (.bipush 31, 2) := by decide +kernel
theorem d_Se_shortestAllowed_5 : decode b_Se_shortestAllowed 5 = .ok (.if_icmp .ge 24, 3) := by decide +kernel
theorem d_Se_shortestAllowed_8 : decode b_Se_shortestAllowed 8 = .ok (.aload_n 0, 1) := by decide +kernel
theorem d_Se_shortestAllowed_9 : decode b_Se_shortestAllowed 9 = .ok (.getfield 33, 3) := by decide +kernel
theorem d_Se_shortestAllowed_12 : decode b_Se_shortestAllowed 12 = .ok (.iload_n 1, 1) := by decide +kernel
theorem d_Se_shortestAllowed_13 : decode b_Se_shortestAllowed 13 = .ok (.laload, 1) := by decide +kernel
theorem d_Se_shortestAllowed_14 : decode b_Se_shortestAllowed 14 = .ok (.iload_n 2, 1) := by decide +kernel
theorem d_Se_shortestAllowed_15 : decode b_Se_shortestAllowed 15 = .ok (.lushr, 1) := by decide +kernel
theorem d_Se_shortestAllowed_16 : decode b_Se_shortestAllowed 16 = .ok (.lconst 1, 1) := by decide +kernel
theorem d_Se_shortestAllowed_17 : decode b_Se_shortestAllowed 17 = .ok (.land, 1) := by decide +kernel
theorem d_Se_shortestAllowed_18 : decode b_Se_shortestAllowed 18 = .ok (.lconst 0, 1) := by decide +kernel
theorem d_Se_shortestAllowed_19 : decode b_Se_shortestAllowed 19 = .ok (.lcmp, 1) := by decide +kernel
theorem d_Se_shortestAllowed_20 : decode b_Se_shortestAllowed 20 = .ok (.ifCond .ne 9, 3) := by decide +kernel
theorem d_Se_shortestAllowed_23 : decode b_Se_shortestAllowed 23 = .ok (.iinc 2 1, 3) := by decide +kernel
theorem d_Se_shortestAllowed_26 : decode b_Se_shortestAllowed 26 = .ok (.goto (-24), 3) := by decide +kernel
theorem d_Se_shortestAllowed_29 : decode b_Se_shortestAllowed 29 = .ok (.iload_n 2, 1) := by decide +kernel
theorem d_Se_shortestAllowed_30 : decode b_Se_shortestAllowed 30 = .ok (.ireturn, 1) := by decide +kernel
abbrev b_Se_longestAllowed : ByteArray := prog_10_method_12_code
def y_Se_longestAllowed : MethodName := ⟨"RegularSolver$Search", "longestAllowed", "(I)I"⟩
abbrev w0_Se_longestAllowed : List Cond := Cond.code y_Se_longestAllowed b_Se_longestAllowed 3 (some .int) :: gW
theorem cd_Se_longestAllowed : Cond.code y_Se_longestAllowed b_Se_longestAllowed 3 (some .int) ∈ gW := gm 759 (by decide +kernel) (by decide +kernel)
theorem d_Se_longestAllowed_0 : decode b_Se_longestAllowed 0 = .ok (.bipush 31, 2) := by decide +kernel
theorem d_Se_longestAllowed_2 : decode b_Se_longestAllowed 2 = .ok (.istore_n 2, 1) := by decide +kernel
theorem d_Se_longestAllowed_3 : decode b_Se_longestAllowed 3 = .ok (.iload_n 2, 1) := by decide +kernel
theorem d_Se_longestAllowed_4 : decode b_Se_longestAllowed 4 = .ok (.ifCond .le 24, 3) := by decide +kernel
theorem d_Se_longestAllowed_7 : decode b_Se_longestAllowed 7 = .ok (.aload_n 0, 1) := by decide +kernel
theorem d_Se_longestAllowed_8 : decode b_Se_longestAllowed 8 = .ok (.getfield 33, 3) := by decide +kernel
theorem d_Se_longestAllowed_11 : decode b_Se_longestAllowed 11 = .ok (.iload_n 1, 1) := by decide +kernel
theorem d_Se_longestAllowed_12 : decode b_Se_longestAllowed 12 = .ok (.laload, 1) := by decide +kernel
theorem d_Se_longestAllowed_13 : decode b_Se_longestAllowed 13 = .ok (.iload_n 2, 1) := by decide +kernel
theorem d_Se_longestAllowed_14 : decode b_Se_longestAllowed 14 = .ok (.lushr, 1) := by decide +kernel
theorem d_Se_longestAllowed_15 : decode b_Se_longestAllowed 15 = .ok (.lconst 1, 1) := by decide +kernel
theorem d_Se_longestAllowed_16 : decode b_Se_longestAllowed 16 = .ok (.land, 1) := by decide +kernel
theorem d_Se_longestAllowed_17 : decode b_Se_longestAllowed 17 = .ok (.lconst 0, 1) := by decide +kernel
theorem d_Se_longestAllowed_18 : decode b_Se_longestAllowed 18 = .ok (.lcmp, 1) := by decide +kernel
theorem d_Se_longestAllowed_19 : decode b_Se_longestAllowed 19 = .ok (.ifCond .ne 9, 3) := by decide +kernel
theorem d_Se_longestAllowed_22 : decode b_Se_longestAllowed 22 = .ok (.iinc 2 (-1), 3) := by decide +kernel
theorem d_Se_longestAllowed_25 : decode b_Se_longestAllowed 25 = .ok (.goto (-22), 3) := by decide +kernel
theorem d_Se_longestAllowed_28 : decode b_Se_longestAllowed 28 = .ok (.iload_n 2, 1) := by decide +kernel
theorem d_Se_longestAllowed_29 : decode b_Se_longestAllowed 29 = .ok (.ireturn, 1) := by decide +kernel
abbrev b_Se_quotientAbove : ByteArray := prog_10_method_16_code
def y_Se_quotientAbove : MethodName := ⟨"RegularSolver$Search", "quotientAbove", "(JJ)J"⟩
abbrev w0_Se_quotientAbove : List Cond := Cond.code y_Se_quotientAbove b_Se_quotientAbove 4 (some .long) :: gW
theorem cd_Se_quotientAbove : Cond.code y_Se_quotientAbove b_Se_quotientAbove 4 (some .long) ∈ gW := gm 781 (by decide +kernel) (by decide +kernel)
theorem d_Se_quotientAbove_0 : decode b_Se_quotientAbove 0 = .ok (.lload_n 0, 1) := by decide +kernel
theorem d_Se_quotientAbove_1 : decode b_Se_quotientAbove 1 = .ok (.lneg, 1) := by decide +kernel
theorem d_Se_quotientAbove_2 : decode b_Se_quotientAbove 2 = .ok (.lload_n 2, 1) := by decide +kernel
theorem d_Se_quotientAbove_3 : decode b_Se_quotientAbove 3 = .ok (.invokestatic 111, 3) := by decide +kernel
theorem d_Se_quotientAbove_6 : decode b_Se_quotientAbove 6 = .ok (.lneg, 1) := by decide +kernel
theorem d_Se_quotientAbove_7 : decode b_Se_quotientAbove 7 = .ok (.lreturn, 1) := by decide +kernel
abbrev b_Se_bitsBetween : ByteArray := prog_10_method_17_code
def y_Se_bitsBetween : MethodName := ⟨"RegularSolver$Search", "bitsBetween", "(II)J"⟩
abbrev w0_Se_bitsBetween : List Cond := Cond.code y_Se_bitsBetween b_Se_bitsBetween 2 (some .long) :: gW
theorem cd_Se_bitsBetween : Cond.code y_Se_bitsBetween b_Se_bitsBetween 2 (some .long) ∈ gW := gm 793 (by decide +kernel) (by decide +kernel)
theorem d_Se_bitsBetween_0 : decode b_Se_bitsBetween 0 = .ok (.lconst 1, 1) := by decide +kernel
theorem d_Se_bitsBetween_1 : decode b_Se_bitsBetween 1 = .ok (.iload_n 1, 1) := by decide +kernel
theorem d_Se_bitsBetween_2 : decode b_Se_bitsBetween 2 = .ok (.iconst 1, 1) := by decide +kernel
theorem d_Se_bitsBetween_3 : decode b_Se_bitsBetween 3 = .ok (.iadd, 1) := by decide +kernel
theorem d_Se_bitsBetween_4 : decode b_Se_bitsBetween 4 = .ok (.lshl, 1) := by decide +kernel
theorem d_Se_bitsBetween_5 : decode b_Se_bitsBetween 5 = .ok (.lconst 1, 1) := by decide +kernel
theorem d_Se_bitsBetween_6 : decode b_Se_bitsBetween 6 = .ok (.iload_n 0, 1) := by decide +kernel
theorem d_Se_bitsBetween_7 : decode b_Se_bitsBetween 7 = .ok (.lshl, 1) := by decide +kernel
theorem d_Se_bitsBetween_8 : decode b_Se_bitsBetween 8 = .ok (.lsub, 1) := by decide +kernel
theorem d_Se_bitsBetween_9 : decode b_Se_bitsBetween 9 = .ok (.lreturn, 1) := by decide +kernel
abbrev b_Se_sumBefore : ByteArray := prog_10_method_15_code
def y_Se_sumBefore : MethodName := ⟨"RegularSolver$Search", "sumBefore", "(II)I"⟩
abbrev w0_Se_sumBefore : List Cond := Cond.code y_Se_sumBefore b_Se_sumBefore 5 (some .int) :: gW
theorem cd_Se_sumBefore : Cond.code y_Se_sumBefore b_Se_sumBefore 5 (some .int) ∈ gW := gm 778 (by decide +kernel) (by decide +kernel)
theorem d_Se_sumBefore_0 : decode b_Se_sumBefore 0 = .ok (.iconst 0, 1) := by decide +kernel
theorem d_Se_sumBefore_1 : decode b_Se_sumBefore 1 = .ok (.istore_n 3, 1) := by decide +kernel
theorem d_Se_sumBefore_2 : decode b_Se_sumBefore 2 = .ok (.iconst 0, 1) := by decide +kernel
theorem d_Se_sumBefore_3 : decode b_Se_sumBefore 3 = .ok (.istore 4, 2) := by decide +kernel
theorem d_Se_sumBefore_5 : decode b_Se_sumBefore 5 = .ok (.iload 4, 2) := by decide +kernel
theorem d_Se_sumBefore_7 : decode b_Se_sumBefore 7 = .ok (.iload_n 2, 1) := by decide +kernel
theorem d_Se_sumBefore_8 : decode b_Se_sumBefore 8 = .ok (.if_icmp .ge 29, 3) := by decide +kernel
theorem d_Se_sumBefore_11 : decode b_Se_sumBefore 11 = .ok (.iload_n 3, 1) := by decide +kernel
theorem d_Se_sumBefore_12 : decode b_Se_sumBefore 12 = .ok (.aload_n 0, 1) := by decide +kernel
theorem d_Se_sumBefore_13 : decode b_Se_sumBefore 13 = .ok (.getfield 19, 3) := by decide +kernel
theorem d_Se_sumBefore_16 : decode b_Se_sumBefore 16 = .ok (.iload_n 1, 1) := by decide +kernel
theorem d_Se_sumBefore_17 : decode b_Se_sumBefore 17 = .ok (.aaload, 1) := by decide +kernel
theorem d_Se_sumBefore_18 : decode b_Se_sumBefore 18 = .ok (.iload 4, 2) := by decide +kernel
theorem d_Se_sumBefore_20 : decode b_Se_sumBefore 20 = .ok (.iaload, 1) := by decide +kernel
theorem d_Se_sumBefore_21 : decode b_Se_sumBefore 21 = .ok (.aload_n 0, 1) := by decide +kernel
theorem d_Se_sumBefore_22 : decode b_Se_sumBefore 22 = .ok (.getfield 43, 3) := by decide +kernel
theorem d_Se_sumBefore_25 : decode b_Se_sumBefore 25 = .ok (.iload 4, 2) := by decide +kernel
theorem d_Se_sumBefore_27 : decode b_Se_sumBefore 27 = .ok (.iaload, 1) := by decide +kernel
theorem d_Se_sumBefore_28 : decode b_Se_sumBefore 28 = .ok (.imul, 1) := by decide +kernel
theorem d_Se_sumBefore_29 : decode b_Se_sumBefore 29 = .ok (.iadd, 1) := by decide +kernel
theorem d_Se_sumBefore_30 : decode b_Se_sumBefore 30 = .ok (.istore_n 3, 1) := by decide +kernel
theorem d_Se_sumBefore_31 : decode b_Se_sumBefore 31 = .ok (.iinc 4 1, 3) := by decide +kernel
theorem d_Se_sumBefore_34 : decode b_Se_sumBefore 34 = .ok (.goto (-29), 3) := by decide +kernel
theorem d_Se_sumBefore_37 : decode b_Se_sumBefore 37 = .ok (.iload_n 3, 1) := by decide +kernel
theorem d_Se_sumBefore_38 : decode b_Se_sumBefore 38 = .ok (.ireturn, 1) := by decide +kernel
abbrev b_Se_sumRests : ByteArray := prog_10_method_10_code
def y_Se_sumRests : MethodName := ⟨"RegularSolver$Search", "sumRests", "(I)V"⟩
abbrev w0_Se_sumRests : List Cond := Cond.code y_Se_sumRests b_Se_sumRests 5 none :: gW
theorem cd_Se_sumRests : Cond.code y_Se_sumRests b_Se_sumRests 5 none ∈ gW := gm 751 (by decide +kernel) (by decide +kernel)
theorem d_Se_sumRests_0 : decode b_Se_sumRests 0 = .ok (.iconst 3, 1) := by decide +kernel
theorem d_Se_sumRests_1 : decode b_Se_sumRests 1 = .ok (.istore_n 2, 1) := by decide +kernel
theorem d_Se_sumRests_2 : decode b_Se_sumRests 2 = .ok (.iload_n 2, 1) := by decide +kernel
theorem d_Se_sumRests_3 : decode b_Se_sumRests 3 = .ok (.ifCond .lt 90, 3) := by decide +kernel
theorem d_Se_sumRests_6 : decode b_Se_sumRests 6 = .ok (.aload_n 0, 1) := by decide +kernel
theorem d_Se_sumRests_7 : decode b_Se_sumRests 7 = .ok (.getfield 19, 3) := by decide +kernel
theorem d_Se_sumRests_10 : decode b_Se_sumRests 10 = .ok (.iload_n 1, 1) := by decide +kernel
theorem d_Se_sumRests_11 : decode b_Se_sumRests 11 = .ok (.aaload, 1) := by decide +kernel
theorem d_Se_sumRests_12 : decode b_Se_sumRests 12 = .ok (.iload_n 2, 1) := by decide +kernel
theorem d_Se_sumRests_13 : decode b_Se_sumRests 13 = .ok (.iaload, 1) := by decide +kernel
theorem d_Se_sumRests_14 : decode b_Se_sumRests 14 = .ok (.aload_n 0, 1) := by decide +kernel
theorem d_Se_sumRests_15 : decode b_Se_sumRests 15 = .ok (.iload_n 2, 1) := by decide +kernel
theorem d_Se_sumRests_16 : decode b_Se_sumRests 16 = .ok (.invokevirtual 81, 3) := by decide +kernel
theorem d_Se_sumRests_19 : decode b_Se_sumRests 19 = .ok (.imul, 1) := by decide +kernel
theorem d_Se_sumRests_20 : decode b_Se_sumRests 20 = .ok (.istore_n 3, 1) := by decide +kernel
theorem d_Se_sumRests_21 : decode b_Se_sumRests 21 = .ok (.aload_n 0, 1) := by decide +kernel
theorem d_Se_sumRests_22 : decode b_Se_sumRests 22 = .ok (.getfield 19, 3) := by decide +kernel
theorem d_Se_sumRests_25 : decode b_Se_sumRests 25 = .ok (.iload_n 1, 1) := by decide +kernel
theorem d_Se_sumRests_26 : decode b_Se_sumRests 26 = .ok (.aaload, 1) := by decide +kernel
theorem d_Se_sumRests_27 : decode b_Se_sumRests 27 = .ok (.iload_n 2, 1) := by decide +kernel
theorem d_Se_sumRests_28 : decode b_Se_sumRests 28 = .ok (.iaload, 1) := by decide +kernel
theorem d_Se_sumRests_29 : decode b_Se_sumRests 29 = .ok (.aload_n 0, 1) := by decide +kernel
theorem d_Se_sumRests_30 : decode b_Se_sumRests 30 = .ok (.iload_n 2, 1) := by decide +kernel
theorem d_Se_sumRests_31 : decode b_Se_sumRests 31 = .ok (.invokevirtual 85, 3) := by decide +kernel
theorem d_Se_sumRests_34 : decode b_Se_sumRests 34 = .ok (.imul, 1) := by decide +kernel
theorem d_Se_sumRests_35 : decode b_Se_sumRests 35 = .ok (.istore 4, 2) := by decide +kernel
theorem d_Se_sumRests_37 : decode b_Se_sumRests 37 = .ok (.aload_n 0, 1) := by decide +kernel
theorem d_Se_sumRests_38 : decode b_Se_sumRests 38 = .ok (.getfield 37, 3) := by decide +kernel
theorem d_Se_sumRests_41 : decode b_Se_sumRests 41 = .ok (.iload_n 1, 1) := by decide +kernel
theorem d_Se_sumRests_42 : decode b_Se_sumRests 42 = .ok (.aaload, 1) := by decide +kernel
theorem d_Se_sumRests_43 : decode b_Se_sumRests 43 = .ok (.iload_n 2, 1) := by decide +kernel
theorem d_Se_sumRests_44 : decode b_Se_sumRests 44 = .ok (.aload_n 0, 1) := by decide +kernel
theorem d_Se_sumRests_45 : decode b_Se_sumRests 45 = .ok (.getfield 37, 3) := by decide +kernel
theorem d_Se_sumRests_48 : decode b_Se_sumRests 48 = .ok (.iload_n 1, 1) := by decide +kernel
theorem d_Se_sumRests_49 : decode b_Se_sumRests 49 = .ok (.aaload, 1) := by decide +kernel
theorem d_Se_sumRests_50 : decode b_Se_sumRests 50 = .ok (.iload_n 2, 1) := by decide +kernel
theorem d_Se_sumRests_51 : decode b_Se_sumRests 51 = .ok (.iconst 1, 1) := by decide +kernel
theorem d_Se_sumRests_52 : decode b_Se_sumRests 52 = .ok (.iadd, 1) := by decide +kernel
theorem d_Se_sumRests_53 : decode b_Se_sumRests 53 = .ok (.iaload, 1) := by decide +kernel
theorem d_Se_sumRests_54 : decode b_Se_sumRests 54 = .ok (.iload_n 3, 1) := by decide +kernel
theorem d_Se_sumRests_55 : decode b_Se_sumRests 55 = .ok (.iload 4, 2) := by decide +kernel
theorem d_Se_sumRests_57 : decode b_Se_sumRests 57 = .ok (.invokestatic 88, 3) := by decide +kernel
theorem d_Se_sumRests_60 : decode b_Se_sumRests 60 = .ok (.iadd, 1) := by decide +kernel
theorem d_Se_sumRests_61 : decode b_Se_sumRests 61 = .ok (.iastore, 1) := by decide +kernel
theorem d_Se_sumRests_62 : decode b_Se_sumRests 62 = .ok (.aload_n 0, 1) := by decide +kernel
theorem d_Se_sumRests_63 : decode b_Se_sumRests 63 = .ok (.getfield 40, 3) := by decide +kernel
theorem d_Se_sumRests_66 : decode b_Se_sumRests 66 = .ok (.iload_n 1, 1) := by decide +kernel
theorem d_Se_sumRests_67 : decode b_Se_sumRests 67 = .ok (.aaload, 1) := by decide +kernel
theorem d_Se_sumRests_68 : decode b_Se_sumRests 68 = .ok (.iload_n 2, 1) := by decide +kernel
theorem d_Se_sumRests_69 : decode b_Se_sumRests 69 = .ok (.aload_n 0, 1) := by decide +kernel
theorem d_Se_sumRests_70 : decode b_Se_sumRests 70 = .ok (.getfield 40, 3) := by decide +kernel
theorem d_Se_sumRests_73 : decode b_Se_sumRests 73 = .ok (.iload_n 1, 1) := by decide +kernel
theorem d_Se_sumRests_74 : decode b_Se_sumRests 74 = .ok (.aaload, 1) := by decide +kernel
theorem d_Se_sumRests_75 : decode b_Se_sumRests 75 = .ok (.iload_n 2, 1) := by decide +kernel
theorem d_Se_sumRests_76 : decode b_Se_sumRests 76 = .ok (.iconst 1, 1) := by decide +kernel
theorem d_Se_sumRests_77 : decode b_Se_sumRests 77 = .ok (.iadd, 1) := by decide +kernel
theorem d_Se_sumRests_78 : decode b_Se_sumRests 78 = .ok (.iaload, 1) := by decide +kernel
theorem d_Se_sumRests_79 : decode b_Se_sumRests 79 = .ok (.iload_n 3, 1) := by decide +kernel
theorem d_Se_sumRests_80 : decode b_Se_sumRests 80 = .ok (.iload 4, 2) := by decide +kernel
theorem d_Se_sumRests_82 : decode b_Se_sumRests 82 = .ok (.invokestatic 94, 3) := by decide +kernel
theorem d_Se_sumRests_85 : decode b_Se_sumRests 85 = .ok (.iadd, 1) := by decide +kernel
theorem d_Se_sumRests_86 : decode b_Se_sumRests 86 = .ok (.iastore, 1) := by decide +kernel
theorem d_Se_sumRests_87 : decode b_Se_sumRests 87 = .ok (.iinc 2 (-1), 3) := by decide +kernel
theorem d_Se_sumRests_90 : decode b_Se_sumRests 90 = .ok (.goto (-88), 3) := by decide +kernel
theorem d_Se_sumRests_93 : decode b_Se_sumRests 93 = .ok (.return_, 1) := by decide +kernel
abbrev b_Se_openLengths : ByteArray := prog_10_method_14_code
def y_Se_openLengths : MethodName := ⟨"RegularSolver$Search", "openLengths", "(I)J"⟩
abbrev w0_Se_openLengths : List Cond := Cond.code y_Se_openLengths b_Se_openLengths 14 (some .long) :: gW
theorem cd_Se_openLengths : Cond.code y_Se_openLengths b_Se_openLengths 14 (some .long) ∈ gW := gm 773 (by decide +kernel) (by decide +kernel)
theorem d_Se_openLengths_0 : decode b_Se_openLengths 0 = .ok (.lconst 0, 1) := by decide +kernel
theorem d_Se_openLengths_1 : decode b_Se_openLengths 1 = .ok (.lstore_n 2, 1) := by decide +kernel
theorem d_Se_openLengths_2 : decode b_Se_openLengths 2 = .ok (.ldc2_w 100, 3) := by decide +kernel
theorem d_Se_openLengths_5 : decode b_Se_openLengths 5 = .ok (.lstore 4, 2) := by decide +kernel
theorem d_Se_openLengths_7 : decode b_Se_openLengths 7 = .ok (.iconst 0, 1) := by decide +kernel
theorem d_Se_openLengths_8 : decode b_Se_openLengths 8 = .ok (.istore 6, 2) := by decide +kernel
theorem d_Se_openLengths_10 : decode b_Se_openLengths 10 = .ok (.iload 6, 2) := by decide +kernel
theorem d_Se_openLengths_12 : decode b_Se_openLengths 12 = .ok (.aload_n 0, 1) := by decide +kernel
theorem d_Se_openLengths_13 : decode b_Se_openLengths 13 = .ok (.getfield 29, 3) := by decide +kernel
theorem d_Se_openLengths_16 : decode b_Se_openLengths 16 = .ok (.if_icmp .ge 173, 3) := by decide +kernel
theorem d_Se_openLengths_19 : decode b_Se_openLengths 19 = .ok (.aload_n 0, 1) := by decide +kernel
theorem d_Se_openLengths_20 : decode b_Se_openLengths 20 = .ok (.iload 6, 2) := by decide +kernel
theorem d_Se_openLengths_22 : decode b_Se_openLengths 22 = .ok (.iload_n 1, 1) := by decide +kernel
theorem d_Se_openLengths_23 : decode b_Se_openLengths 23 = .ok (.invokevirtual 102, 3) := by decide +kernel
theorem d_Se_openLengths_26 : decode b_Se_openLengths 26 = .ok (.i2l, 1) := by decide +kernel
theorem d_Se_openLengths_27 : decode b_Se_openLengths 27 = .ok (.lstore 7, 2) := by decide +kernel
theorem d_Se_openLengths_29 : decode b_Se_openLengths 29 = .ok (.aload_n 0, 1) := by decide +kernel
theorem d_Se_openLengths_30 : decode b_Se_openLengths 30 = .ok (.getfield 22, 3) := by decide +kernel
theorem d_Se_openLengths_33 : decode b_Se_openLengths 33 = .ok (.iload 6, 2) := by decide +kernel
theorem d_Se_openLengths_35 : decode b_Se_openLengths 35 = .ok (.iaload, 1) := by decide +kernel
theorem d_Se_openLengths_36 : decode b_Se_openLengths 36 = .ok (.i2l, 1) := by decide +kernel
theorem d_Se_openLengths_37 : decode b_Se_openLengths 37 = .ok (.lload 7, 2) := by decide +kernel
theorem d_Se_openLengths_39 : decode b_Se_openLengths 39 = .ok (.lsub, 1) := by decide +kernel
theorem d_Se_openLengths_40 : decode b_Se_openLengths 40 = .ok (.aload_n 0, 1) := by decide +kernel
theorem d_Se_openLengths_41 : decode b_Se_openLengths 41 = .ok (.getfield 40, 3) := by decide +kernel
theorem d_Se_openLengths_44 : decode b_Se_openLengths 44 = .ok (.iload 6, 2) := by decide +kernel
theorem d_Se_openLengths_46 : decode b_Se_openLengths 46 = .ok (.aaload, 1) := by decide +kernel
theorem d_Se_openLengths_47 : decode b_Se_openLengths 47 = .ok (.iload_n 1, 1) := by decide +kernel
theorem d_Se_openLengths_48 : decode b_Se_openLengths 48 = .ok (.iconst 1, 1) := by decide +kernel
theorem d_Se_openLengths_49 : decode b_Se_openLengths 49 = .ok (.iadd, 1) := by decide +kernel
theorem d_Se_openLengths_50 : decode b_Se_openLengths 50 = .ok (.iaload, 1) := by decide +kernel
theorem d_Se_openLengths_51 : decode b_Se_openLengths 51 = .ok (.i2l, 1) := by decide +kernel
theorem d_Se_openLengths_52 : decode b_Se_openLengths 52 = .ok (.lsub, 1) := by decide +kernel
theorem d_Se_openLengths_53 : decode b_Se_openLengths 53 = .ok (.lstore 9, 2) := by decide +kernel
theorem d_Se_openLengths_55 : decode b_Se_openLengths 55 = .ok (.aload_n 0, 1) := by decide +kernel
theorem d_Se_openLengths_56 : decode b_Se_openLengths 56 = .ok (.getfield 26, 3) := by decide +kernel
theorem d_Se_openLengths_59 : decode b_Se_openLengths 59 = .ok (.iload 6, 2) := by decide +kernel
theorem d_Se_openLengths_61 : decode b_Se_openLengths 61 = .ok (.iaload, 1) := by decide +kernel
theorem d_Se_openLengths_62 : decode b_Se_openLengths 62 = .ok (.i2l, 1) := by decide +kernel
theorem d_Se_openLengths_63 : decode b_Se_openLengths 63 = .ok (.lload 7, 2) := by decide +kernel
theorem d_Se_openLengths_65 : decode b_Se_openLengths 65 = .ok (.lsub, 1) := by decide +kernel
theorem d_Se_openLengths_66 : decode b_Se_openLengths 66 = .ok (.aload_n 0, 1) := by decide +kernel
theorem d_Se_openLengths_67 : decode b_Se_openLengths 67 = .ok (.getfield 37, 3) := by decide +kernel
theorem d_Se_openLengths_70 : decode b_Se_openLengths 70 = .ok (.iload 6, 2) := by decide +kernel
theorem d_Se_openLengths_72 : decode b_Se_openLengths 72 = .ok (.aaload, 1) := by decide +kernel
theorem d_Se_openLengths_73 : decode b_Se_openLengths 73 = .ok (.iload_n 1, 1) := by decide +kernel
theorem d_Se_openLengths_74 : decode b_Se_openLengths 74 = .ok (.iconst 1, 1) := by decide +kernel
theorem d_Se_openLengths_75 : decode b_Se_openLengths 75 = .ok (.iadd, 1) := by decide +kernel
theorem d_Se_openLengths_76 : decode b_Se_openLengths 76 = .ok (.iaload, 1) := by decide +kernel
theorem d_Se_openLengths_77 : decode b_Se_openLengths 77 = .ok (.i2l, 1) := by decide +kernel
theorem d_Se_openLengths_78 : decode b_Se_openLengths 78 = .ok (.lsub, 1) := by decide +kernel
theorem d_Se_openLengths_79 : decode b_Se_openLengths 79 = .ok (.lstore 11, 2) := by decide +kernel
theorem d_Se_openLengths_81 : decode b_Se_openLengths 81 = .ok (.aload_n 0, 1) := by decide +kernel
theorem d_Se_openLengths_82 : decode b_Se_openLengths 82 = .ok (.getfield 19, 3) := by decide +kernel
theorem d_Se_openLengths_85 : decode b_Se_openLengths 85 = .ok (.iload 6, 2) := by decide +kernel
theorem d_Se_openLengths_87 : decode b_Se_openLengths 87 = .ok (.aaload, 1) := by decide +kernel
theorem d_Se_openLengths_88 : decode b_Se_openLengths 88 = .ok (.iload_n 1, 1) := by decide +kernel
theorem d_Se_openLengths_89 : decode b_Se_openLengths 89 = .ok (.iaload, 1) := by decide +kernel
theorem d_Se_openLengths_90 : decode b_Se_openLengths 90 = .ok (.istore 13, 2) := by decide +kernel
theorem d_Se_openLengths_92 : decode b_Se_openLengths 92 = .ok (.iload 13, 2) := by decide +kernel
theorem d_Se_openLengths_94 : decode b_Se_openLengths 94 = .ok (.ifCond .ne 19, 3) := by decide +kernel
theorem d_Se_openLengths_97 : decode b_Se_openLengths 97 = .ok (.lload 9, 2) := by decide +kernel
theorem d_Se_openLengths_99 : decode b_Se_openLengths 99 = .ok (.lconst 0, 1) := by decide +kernel
theorem d_Se_openLengths_100 : decode b_Se_openLengths 100 = .ok (.lcmp, 1) := by decide +kernel
theorem d_Se_openLengths_101 : decode b_Se_openLengths 101 = .ok (.ifCond .gt 10, 3) := by decide +kernel
theorem d_Se_openLengths_104 : decode b_Se_openLengths 104 = .ok (.lload 11, 2) := by decide +kernel
theorem d_Se_openLengths_106 : decode b_Se_openLengths 106 = .ok (.lconst 0, 1) := by decide +kernel
theorem d_Se_openLengths_107 : decode b_Se_openLengths 107 = .ok (.lcmp, 1) := by decide +kernel
theorem d_Se_openLengths_108 : decode b_Se_openLengths 108 = .ok (.ifCond .ge 5, 3) := by decide +kernel
theorem d_Se_openLengths_111 : decode b_Se_openLengths 111 = .ok (.lconst 0, 1) := by decide +kernel
theorem d_Se_openLengths_112 : decode b_Se_openLengths 112 = .ok (.lreturn, 1) := by decide +kernel
theorem d_Se_openLengths_113 : decode b_Se_openLengths 113 = .ok (.iload 13, 2) := by decide +kernel
theorem d_Se_openLengths_115 : decode b_Se_openLengths 115 = .ok (.ifCond .le 31, 3) := by decide +kernel
theorem d_Se_openLengths_118 : decode b_Se_openLengths 118 = .ok (.lload_n 2, 1) := by decide +kernel
theorem d_Se_openLengths_119 : decode b_Se_openLengths 119 = .ok (.lload 9, 2) := by decide +kernel
theorem d_Se_openLengths_121 : decode b_Se_openLengths 121 = .ok (.iload 13, 2) := by decide +kernel
theorem d_Se_openLengths_123 : decode b_Se_openLengths 123 = .ok (.i2l, 1) := by decide +kernel
theorem d_Se_openLengths_124 : decode b_Se_openLengths 124 = .ok (.invokestatic 105, 3) := by decide +kernel
theorem d_Se_openLengths_127 : decode b_Se_openLengths 127 = .ok (.invokestatic 109, 3) := by decide +kernel
theorem d_Se_openLengths_130 : decode b_Se_openLengths 130 = .ok (.lstore_n 2, 1) := by decide +kernel
theorem d_Se_openLengths_131 : decode b_Se_openLengths 131 = .ok (.lload 4, 2) := by decide +kernel
theorem d_Se_openLengths_133 : decode b_Se_openLengths 133 = .ok (.lload 11, 2) := by decide +kernel
theorem d_Se_openLengths_135 : decode b_Se_openLengths 135 = .ok (.iload 13, 2) := by decide +kernel
theorem d_Se_openLengths_137 : decode b_Se_openLengths 137 = .ok (.i2l, 1) := by decide +kernel
theorem d_Se_openLengths_138 : decode b_Se_openLengths 138 = .ok (.invokestatic 111, 3) := by decide +kernel
theorem d_Se_openLengths_141 : decode b_Se_openLengths 141 = .ok (.invokestatic 114, 3) := by decide +kernel
theorem d_Se_openLengths_144 : decode b_Se_openLengths 144 = .ok (.lstore 4, 2) := by decide +kernel
theorem d_Se_openLengths_146 : decode b_Se_openLengths 146 = .ok (.iload 13, 2) := by decide +kernel
theorem d_Se_openLengths_148 : decode b_Se_openLengths 148 = .ok (.ifCond .ge 35, 3) := by decide +kernel
theorem d_Se_openLengths_151 : decode b_Se_openLengths 151 = .ok (.lload_n 2, 1) := by decide +kernel
theorem d_Se_openLengths_152 : decode b_Se_openLengths 152 = .ok (.lload 11, 2) := by decide +kernel
theorem d_Se_openLengths_154 : decode b_Se_openLengths 154 = .ok (.lneg, 1) := by decide +kernel
theorem d_Se_openLengths_155 : decode b_Se_openLengths 155 = .ok (.iload 13, 2) := by decide +kernel
theorem d_Se_openLengths_157 : decode b_Se_openLengths 157 = .ok (.ineg, 1) := by decide +kernel
theorem d_Se_openLengths_158 : decode b_Se_openLengths 158 = .ok (.i2l, 1) := by decide +kernel
theorem d_Se_openLengths_159 : decode b_Se_openLengths 159 = .ok (.invokestatic 105, 3) := by decide +kernel
theorem d_Se_openLengths_162 : decode b_Se_openLengths 162 = .ok (.invokestatic 109, 3) := by decide +kernel
theorem d_Se_openLengths_165 : decode b_Se_openLengths 165 = .ok (.lstore_n 2, 1) := by decide +kernel
theorem d_Se_openLengths_166 : decode b_Se_openLengths 166 = .ok (.lload 4, 2) := by decide +kernel
theorem d_Se_openLengths_168 : decode b_Se_openLengths 168 = .ok (.lload 9, 2) := by decide +kernel
theorem d_Se_openLengths_170 : decode b_Se_openLengths 170 = .ok (.lneg, 1) := by decide +kernel
theorem d_Se_openLengths_171 : decode b_Se_openLengths 171 = .ok (.iload 13, 2) := by decide +kernel
theorem d_Se_openLengths_173 : decode b_Se_openLengths 173 = .ok (.ineg, 1) := by decide +kernel
theorem d_Se_openLengths_174 : decode b_Se_openLengths 174 = .ok (.i2l, 1) := by decide +kernel
theorem d_Se_openLengths_175 : decode b_Se_openLengths 175 = .ok (.invokestatic 111, 3) := by decide +kernel
theorem d_Se_openLengths_178 : decode b_Se_openLengths 178 = .ok (.invokestatic 114, 3) := by decide +kernel
theorem d_Se_openLengths_181 : decode b_Se_openLengths 181 = .ok (.lstore 4, 2) := by decide +kernel
theorem d_Se_openLengths_183 : decode b_Se_openLengths 183 = .ok (.iinc 6 1, 3) := by decide +kernel
theorem d_Se_openLengths_186 : decode b_Se_openLengths 186 = .ok (.goto (-176), 3) := by decide +kernel
theorem d_Se_openLengths_189 : decode b_Se_openLengths 189 = .ok (.lload_n 2, 1) := by decide +kernel
theorem d_Se_openLengths_190 : decode b_Se_openLengths 190 = .ok (.lload 4, 2) := by decide +kernel
theorem d_Se_openLengths_192 : decode b_Se_openLengths 192 = .ok (.lcmp, 1) := by decide +kernel
theorem d_Se_openLengths_193 : decode b_Se_openLengths 193 = .ok (.ifCond .le 7, 3) := by decide +kernel
theorem d_Se_openLengths_196 : decode b_Se_openLengths 196 = .ok (.lconst 0, 1) := by decide +kernel
theorem d_Se_openLengths_197 : decode b_Se_openLengths 197 = .ok (.goto 18, 3) := by decide +kernel
theorem d_Se_openLengths_200 : decode b_Se_openLengths 200 = .ok (.aload_n 0, 1) := by decide +kernel
theorem d_Se_openLengths_201 : decode b_Se_openLengths 201 = .ok (.getfield 33, 3) := by decide +kernel
theorem d_Se_openLengths_204 : decode b_Se_openLengths 204 = .ok (.iload_n 1, 1) := by decide +kernel
theorem d_Se_openLengths_205 : decode b_Se_openLengths 205 = .ok (.laload, 1) := by decide +kernel
theorem d_Se_openLengths_206 : decode b_Se_openLengths 206 = .ok (.lload_n 2, 1) := by decide +kernel
theorem d_Se_openLengths_207 : decode b_Se_openLengths 207 = .ok (.l2i, 1) := by decide +kernel
theorem d_Se_openLengths_208 : decode b_Se_openLengths 208 = .ok (.lload 4, 2) := by decide +kernel
theorem d_Se_openLengths_210 : decode b_Se_openLengths 210 = .ok (.l2i, 1) := by decide +kernel
theorem d_Se_openLengths_211 : decode b_Se_openLengths 211 = .ok (.invokestatic 116, 3) := by decide +kernel
theorem d_Se_openLengths_214 : decode b_Se_openLengths 214 = .ok (.land, 1) := by decide +kernel
theorem d_Se_openLengths_215 : decode b_Se_openLengths 215 = .ok (.lreturn, 1) := by decide +kernel
theorem pd_Se_isFull : y_Se_isFull.cls ≠ "java/lang/invoke/MethodHandle" ∧ y_Se_isFull.cls ≠ "java/lang/invoke/VarHandle" ∧ (parseMethodDescriptor y_Se_isFull.desc).map (fun d => d.parameters.length) = some 0 := by decide +kernel
theorem pd_Se_addBound : y_Se_addBound.cls ≠ "java/lang/invoke/MethodHandle" ∧ y_Se_addBound.cls ≠ "java/lang/invoke/VarHandle" ∧ (parseMethodDescriptor y_Se_addBound.desc).map (fun d => d.parameters.length) = some 6 := by decide +kernel
theorem pd_Se_forget : y_Se_forget.cls ≠ "java/lang/invoke/MethodHandle" ∧ y_Se_forget.cls ≠ "java/lang/invoke/VarHandle" ∧ (parseMethodDescriptor y_Se_forget.desc).map (fun d => d.parameters.length) = some 0 := by decide +kernel
theorem pd_Se_isWeighed : y_Se_isWeighed.cls ≠ "java/lang/invoke/MethodHandle" ∧ y_Se_isWeighed.cls ≠ "java/lang/invoke/VarHandle" ∧ (parseMethodDescriptor y_Se_isWeighed.desc).map (fun d => d.parameters.length) = some 1 := by decide +kernel
theorem pd_Se_shortestAllowed : y_Se_shortestAllowed.cls ≠ "java/lang/invoke/MethodHandle" ∧ y_Se_shortestAllowed.cls ≠ "java/lang/invoke/VarHandle" ∧ (parseMethodDescriptor y_Se_shortestAllowed.desc).map (fun d => d.parameters.length) = some 1 := by decide +kernel
theorem pd_Se_longestAllowed : y_Se_longestAllowed.cls ≠ "java/lang/invoke/MethodHandle" ∧ y_Se_longestAllowed.cls ≠ "java/lang/invoke/VarHandle" ∧ (parseMethodDescriptor y_Se_longestAllowed.desc).map (fun d => d.parameters.length) = some 1 := by decide +kernel
theorem pd_Se_quotientAbove : y_Se_quotientAbove.cls ≠ "java/lang/invoke/MethodHandle" ∧ y_Se_quotientAbove.cls ≠ "java/lang/invoke/VarHandle" ∧ (parseMethodDescriptor y_Se_quotientAbove.desc).map (fun d => d.parameters.length) = some 2 := by decide +kernel
theorem pd_Se_bitsBetween : y_Se_bitsBetween.cls ≠ "java/lang/invoke/MethodHandle" ∧ y_Se_bitsBetween.cls ≠ "java/lang/invoke/VarHandle" ∧ (parseMethodDescriptor y_Se_bitsBetween.desc).map (fun d => d.parameters.length) = some 2 := by decide +kernel
theorem pd_Se_sumBefore : y_Se_sumBefore.cls ≠ "java/lang/invoke/MethodHandle" ∧ y_Se_sumBefore.cls ≠ "java/lang/invoke/VarHandle" ∧ (parseMethodDescriptor y_Se_sumBefore.desc).map (fun d => d.parameters.length) = some 2 := by decide +kernel
theorem pd_Se_sumRests : y_Se_sumRests.cls ≠ "java/lang/invoke/MethodHandle" ∧ y_Se_sumRests.cls ≠ "java/lang/invoke/VarHandle" ∧ (parseMethodDescriptor y_Se_sumRests.desc).map (fun d => d.parameters.length) = some 1 := by decide +kernel
theorem pd_Se_openLengths : y_Se_openLengths.cls ≠ "java/lang/invoke/MethodHandle" ∧ y_Se_openLengths.cls ≠ "java/lang/invoke/VarHandle" ∧ (parseMethodDescriptor y_Se_openLengths.desc).map (fun d => d.parameters.length) = some 1 := by decide +kernel
theorem fl_Se_29 : (Cond.fieldLink "RegularSolver$Search" 29 "RegularSolver$Search" "boundCount" "I") ∈ gW := gm 114 (by decide +kernel) (by decide +kernel)
theorem fl_Se_19 : (Cond.fieldLink "RegularSolver$Search" 19 "RegularSolver$Search" "factors" "[[I") ∈ gW := gm 111 (by decide +kernel) (by decide +kernel)
theorem fl_Se_22 : (Cond.fieldLink "RegularSolver$Search" 22 "RegularSolver$Search" "least" "[I") ∈ gW := gm 112 (by decide +kernel) (by decide +kernel)
theorem fl_Se_26 : (Cond.fieldLink "RegularSolver$Search" 26 "RegularSolver$Search" "most" "[I") ∈ gW := gm 113 (by decide +kernel) (by decide +kernel)
theorem fl_Se_11 : (Cond.fieldLink "RegularSolver$Search" 11 "RegularSolver$Search" "assigned" "[LRegularSolver$Automaton;") ∈ gW := gm 110 (by decide +kernel) (by decide +kernel)
theorem fl_Se_46 : (Cond.fieldLink "RegularSolver$Search" 46 "RegularSolver$Search" "isKept" "Z") ∈ gW := gm 119 (by decide +kernel) (by decide +kernel)
theorem fl_Se_33 : (Cond.fieldLink "RegularSolver$Search" 33 "RegularSolver$Search" "allowed" "[J") ∈ gW := gm 115 (by decide +kernel) (by decide +kernel)
theorem ml_Se_111 : (Cond.methodLink "RegularSolver$Search" 111 ({ cls := "java/lang/Math", name := "floorDiv", desc := "(JJ)J" } : MethodName)) ∈ gW := gm 782 (by decide +kernel) (by decide +kernel)
theorem ini_Mt : (Cond.initialized "java/lang/Math") ∈ gW := gm 21 (by decide +kernel) (by decide +kernel)
theorem st_Mt_floorDiv_J : (Cond.static ({ cls := "java/lang/Math", name := "floorDiv", desc := "(JJ)J" } : MethodName)) ∈ gW := gm 783 (by decide +kernel) (by decide +kernel)
theorem fl_Se_43 : (Cond.fieldLink "RegularSolver$Search" 43 "RegularSolver$Search" "lengths" "[I") ∈ gW := gm 118 (by decide +kernel) (by decide +kernel)
theorem ml_Se_81 : (Cond.methodLink "RegularSolver$Search" 81 ({ cls := "RegularSolver$Search", name := "shortestAllowed", desc := "(I)I" } : MethodName)) ∈ gW := gm 752 (by decide +kernel) (by decide +kernel)
theorem ini_Se : (Cond.initialized "RegularSolver$Search") ∈ gW := gm 5 (by decide +kernel) (by decide +kernel)
theorem im_Se_shortestAllowed : (Cond.instanceMethod ({ cls := "RegularSolver$Search", name := "shortestAllowed", desc := "(I)I" } : MethodName)) ∈ gW := gm 754 (by decide +kernel) (by decide +kernel)
theorem se_Se_shortestAllowed : (Cond.selects "RegularSolver$Search" ({ cls := "RegularSolver$Search", name := "shortestAllowed", desc := "(I)I" } : MethodName) ({ cls := "RegularSolver$Search", name := "shortestAllowed", desc := "(I)I" } : MethodName)) ∈ gW := gs (by decide +kernel) (by decide +kernel)
theorem ml_Se_85 : (Cond.methodLink "RegularSolver$Search" 85 ({ cls := "RegularSolver$Search", name := "longestAllowed", desc := "(I)I" } : MethodName)) ∈ gW := gm 756 (by decide +kernel) (by decide +kernel)
theorem im_Se_longestAllowed : (Cond.instanceMethod ({ cls := "RegularSolver$Search", name := "longestAllowed", desc := "(I)I" } : MethodName)) ∈ gW := gm 758 (by decide +kernel) (by decide +kernel)
theorem se_Se_longestAllowed : (Cond.selects "RegularSolver$Search" ({ cls := "RegularSolver$Search", name := "longestAllowed", desc := "(I)I" } : MethodName) ({ cls := "RegularSolver$Search", name := "longestAllowed", desc := "(I)I" } : MethodName)) ∈ gW := gs (by decide +kernel) (by decide +kernel)
theorem fl_Se_37 : (Cond.fieldLink "RegularSolver$Search" 37 "RegularSolver$Search" "restLeast" "[[I") ∈ gW := gm 116 (by decide +kernel) (by decide +kernel)
theorem ml_Se_88 : (Cond.methodLink "RegularSolver$Search" 88 ({ cls := "java/lang/Math", name := "min", desc := "(II)I" } : MethodName)) ∈ gW := gm 760 (by decide +kernel) (by decide +kernel)
theorem st_Mt_min_I : (Cond.static ({ cls := "java/lang/Math", name := "min", desc := "(II)I" } : MethodName)) ∈ gW := gm 761 (by decide +kernel) (by decide +kernel)
theorem cdm_Mt_min_I : (Cond.code ({ cls := "java/lang/Math", name := "min", desc := "(II)I" } : MethodName) prog_19_method_69_code 2 (Option.some FieldType.int)) ∈ gW := gm 762 (by decide +kernel) (by decide +kernel)
theorem fl_Se_40 : (Cond.fieldLink "RegularSolver$Search" 40 "RegularSolver$Search" "restMost" "[[I") ∈ gW := gm 117 (by decide +kernel) (by decide +kernel)
theorem ml_Se_94 : (Cond.methodLink "RegularSolver$Search" 94 ({ cls := "java/lang/Math", name := "max", desc := "(II)I" } : MethodName)) ∈ gW := gm 763 (by decide +kernel) (by decide +kernel)
theorem st_Mt_max_I : (Cond.static ({ cls := "java/lang/Math", name := "max", desc := "(II)I" } : MethodName)) ∈ gW := gm 764 (by decide +kernel) (by decide +kernel)
theorem cdm_Mt_max_I : (Cond.code ({ cls := "java/lang/Math", name := "max", desc := "(II)I" } : MethodName) prog_19_method_65_code 2 (Option.some FieldType.int)) ∈ gW := gm 765 (by decide +kernel) (by decide +kernel)
theorem kl_Se_100 : (Cond.constantLong "RegularSolver$Search" 100 31) ∈ gW := gm 774 (by decide +kernel) (by decide +kernel)
theorem ml_Se_102 : (Cond.methodLink "RegularSolver$Search" 102 ({ cls := "RegularSolver$Search", name := "sumBefore", desc := "(II)I" } : MethodName)) ∈ gW := gm 775 (by decide +kernel) (by decide +kernel)
theorem im_Se_sumBefore : (Cond.instanceMethod ({ cls := "RegularSolver$Search", name := "sumBefore", desc := "(II)I" } : MethodName)) ∈ gW := gm 777 (by decide +kernel) (by decide +kernel)
theorem se_Se_sumBefore : (Cond.selects "RegularSolver$Search" ({ cls := "RegularSolver$Search", name := "sumBefore", desc := "(II)I" } : MethodName) ({ cls := "RegularSolver$Search", name := "sumBefore", desc := "(II)I" } : MethodName)) ∈ gW := gs (by decide +kernel) (by decide +kernel)
theorem ml_Se_105 : (Cond.methodLink "RegularSolver$Search" 105 ({ cls := "RegularSolver$Search", name := "quotientAbove", desc := "(JJ)J" } : MethodName)) ∈ gW := gm 779 (by decide +kernel) (by decide +kernel)
theorem st_Se_quotientAbove : (Cond.static ({ cls := "RegularSolver$Search", name := "quotientAbove", desc := "(JJ)J" } : MethodName)) ∈ gW := gm 780 (by decide +kernel) (by decide +kernel)
theorem ml_Se_109 : (Cond.methodLink "RegularSolver$Search" 109 ({ cls := "java/lang/Math", name := "max", desc := "(JJ)J" } : MethodName)) ∈ gW := gm 785 (by decide +kernel) (by decide +kernel)
theorem st_Mt_max_J : (Cond.static ({ cls := "java/lang/Math", name := "max", desc := "(JJ)J" } : MethodName)) ∈ gW := gm 786 (by decide +kernel) (by decide +kernel)
theorem cdm_Mt_max_J : (Cond.code ({ cls := "java/lang/Math", name := "max", desc := "(JJ)J" } : MethodName) prog_19_method_66_code 4 (Option.some FieldType.long)) ∈ gW := gm 787 (by decide +kernel) (by decide +kernel)
theorem ml_Se_114 : (Cond.methodLink "RegularSolver$Search" 114 ({ cls := "java/lang/Math", name := "min", desc := "(JJ)J" } : MethodName)) ∈ gW := gm 788 (by decide +kernel) (by decide +kernel)
theorem st_Mt_min_J : (Cond.static ({ cls := "java/lang/Math", name := "min", desc := "(JJ)J" } : MethodName)) ∈ gW := gm 789 (by decide +kernel) (by decide +kernel)
theorem cdm_Mt_min_J : (Cond.code ({ cls := "java/lang/Math", name := "min", desc := "(JJ)J" } : MethodName) prog_19_method_70_code 4 (Option.some FieldType.long)) ∈ gW := gm 790 (by decide +kernel) (by decide +kernel)
theorem ml_Se_116 : (Cond.methodLink "RegularSolver$Search" 116 ({ cls := "RegularSolver$Search", name := "bitsBetween", desc := "(II)J" } : MethodName)) ∈ gW := gm 791 (by decide +kernel) (by decide +kernel)
theorem st_Se_bitsBetween : (Cond.static ({ cls := "RegularSolver$Search", name := "bitsBetween", desc := "(II)J" } : MethodName)) ∈ gW := gm 792 (by decide +kernel) (by decide +kernel)
section
variable {p : Program} {l : Launch} {e : Env} {R : Room} {s : State} {m : MethodId} {args : Array Value} {below : List Frame} {meth : Method} {c : Code} {H : Heap} {locs : List Loc} {cells slots : Nat} {Q : State → Prop} {A : Nat → Prop} {H0 : Heap}
variable {n : Nat} {D : va_G} {K : Nat → ClassId} {sq : Nat} {sA : Nat} {sF : Nat} {sLe : Nat} {sMo : Nat} {sAl : Nat} {sRL : Nat} {sRM : Nat} {sLn : Nat} {sKL : Nat} {sKW : Nat} {fF : Nat → Nat} {fL : Nat → Nat} {fM : Nat → Nat} {sAssigned : Nat → Option Nat} {sLeast : Nat → Int32} {sMost : Nat → Int32} {sCount : Int32} {sAllowed : Nat → Int64} {sLengths : Nat → Int32} {sKept : Bool} {sKeptLengths : Nat → Int32} {sKeptWords : Nat → Int64} {gF : Nat → Nat → Int32} {gL : Nat → Nat → Int32} {gM : Nat → Nat → Int32}
def f_Se_isFull (n : Nat) (sCount : Int32) : Option (Bool) :=
  if sCount < 8 then
    some false
  else
    some true
set_option maxHeartbeats 4000000 in
set_option maxRecDepth 100000 in
theorem w_Se_isFull    (hx : p.tables.exec = Jvm.exec) (hb : c.code = b_Se_isFull) (hml : c.maxLocals = 1) (hts : ∀ w ∈ gW, w.before args s = true) (hown : s.vm.findClass "RegularSolver$Search" = some m.cls) (hK : va_K D vwCl (tG K) s) (hRf : 0 ≤ R.frames) (hRl : 0 ≤ R.locals) (hRc : cells ≤ R.cells) (hRs : slots ≤ R.slots) (hP : va_P D vwCl ((seW K sq sA sF sLe sMo sAl sRL sRM sLn sKL sKW fF fL fM sAssigned sLeast sMost sCount sAllowed sLengths sKept sKeptLengths sKeptWords) ++ (grW K fF 4 gF) ++ (grW K fL 5 gL) ++ (grW K fM 5 gM)) H) {out : Bool} (Kr : ∀ (r : Bool), out = r → ∀ (pc : Nat) (ls : Array Slot), decode b_Se_isFull pc = .ok (.ireturn, 1) → W p l e R s m args below meth c H locs cells slots Q (F0 m pc ls [.int (bI r)])) (hf : f_Se_isFull n sCount = some out) (ls : Array Slot) (hl : lv_has ls 1 [(0, .ref sq)]) : W p l e R s m args below meth c H locs cells slots Q (F0 m 0 ls []) := by
  unfold f_Se_isFull at hf
  refine lv_aload_n hx hb d_Se_isFull_0 rfl (lv_at hl 0 rfl) ?_
  refine va_get (D := D) (ci := 9) (v := .int sCount) (C := R_Se) (T := T_Se) (N := 12) hx hb hts in_Se hown hK hP 0 rfl rfl 4 (by decide) (hts _ fl_Se_29) (fun _ h9 => h9) rfl d_Se_isFull_1 ?_
  refine lv_bipush (v := 8) hx hb d_Se_isFull_4 (by decide) ?_
  refine lv_icmp_lt (tgt := 13) hx hb d_Se_isFull_6 (by decide) (fun c1 => ?_) (fun c1 => ?_)
  · rw [if_pos c1] at hf
    refine lv_iconst (v := 0) hx hb d_Se_isFull_13 (by decide) ?_
    exact Kr _ (Option.some.inj hf).symm _ _ d_Se_isFull_14
  · rw [if_neg c1] at hf
    refine lv_iconst (v := 1) hx hb d_Se_isFull_9 (by decide) ?_
    refine lv_goto (tgt := 14) hx hb d_Se_isFull_10 (by decide) ?_
    exact Kr _ (Option.some.inj hf).symm _ _ d_Se_isFull_14
set_option maxHeartbeats 4000000 in
set_option maxRecDepth 100000 in
theorem c_Se_isFull (l : Launch)    {r : Bool} (hf : f_Se_isFull n sCount = some r) : Met l y_Se_isFull w0_Se_isFull ({ frames := 0, cells := 0, slots := 0, locals := 0 }) (pPre D K [.ref sq] (((seW K sq sA sF sLe sMo sAl sRL sRM sLn sKL sKW fF fL fM sAssigned sLeast sMost sCount sAllowed sLengths sKept sKeptLengths sKeptWords) ++ (grW K fF 4 gF) ++ (grW K fL 5 gL) ++ (grW K fM 5 gM)))) (pPost (some (.int (bI r)))) 0 0 (fun _ => False) := by
  refine Met.ofW (cc := b_Se_isFull) (maxL := 1) (ret := (some .boolean)) (by decide) rfl ?_
  intro p e s m args below meth c s₁ B hml hv
  obtain ⟨rfl, hP, hK⟩ := hv
  have hl := lv_entry [.ref sq] (n := 1) (Nat.le_of_ble_eq_true rfl)
  rw [lg_entry_eq]
  generalize (lg_sl [.ref sq] ++ List.replicate (1 - (lg_sl [.ref sq]).length) Slot.unset).toArray = ls at hl ⊢
  refine w_Se_isFull B.exec B.bytes hml (fun w hw => atoms_spec (ws := w0_Se_isFull) B.pre w (List.mem_cons_of_mem _ hw)) (findClass_of_methodNamed B.named) hK (Nat.le_refl _) (Nat.le_refl _) (Nat.zero_le _) (Nat.zero_le _) hP (fun r er pc ls hd => ?_) hf ls hl
  subst er
  exact W.zret B.exec B.bytes B.returns (bI_nar _) (fun t ht hW => ⟨rfl, ht⟩) (fun q h => by cases h) hd (hlocks := B.notSynchronized)
end
section
variable {p : Program} {l : Launch} {e : Env} {R : Room} {s : State} {m : MethodId} {args : Array Value} {below : List Frame} {meth : Method} {c : Code} {H : Heap} {locs : List Loc} {cells slots : Nat} {Q : State → Prop} {A : Nat → Prop} {H0 : Heap}
variable {n : Nat} {D : va_G} {K : Nat → ClassId} {sq : Nat} {sA : Nat} {sF : Nat} {sLe : Nat} {sMo : Nat} {sAl : Nat} {sRL : Nat} {sRM : Nat} {sLn : Nat} {sKL : Nat} {sKW : Nat} {fF : Nat → Nat} {fL : Nat → Nat} {fM : Nat → Nat} {sAssigned : Nat → Option Nat} {sLeast : Nat → Int32} {sMost : Nat → Int32} {sCount : Int32} {sAllowed : Nat → Int64} {sLengths : Nat → Int32} {sKept : Bool} {sKeptLengths : Nat → Int32} {sKeptWords : Nat → Int64} {gF : Nat → Nat → Int32} {gL : Nat → Nat → Int32} {gM : Nat → Nat → Int32}
def f_Se_addBound (n : Nat) (p0 : Int32) (p1 : Int32) (p2 : Int32) (p3 : Int32) (p4 : Int32) (p5 : Int32) (sLeast : Nat → Int32) (sMost : Nat → Int32) (sCount : Int32) (gF : Nat → Nat → Int32) : Option (Int32 × (Nat → Int32) × (Nat → Int32) × Int32 × (Nat → Nat → Int32)) :=
  ogd (gin sCount 8) <|
  ogd (gin 0 4) <|
  ogd (gin 1 4) <|
  ogd (gin 2 4) <|
  ogd (gin 3 4) <|
  ogd (gin sCount 8) <|
  ogd (gin sCount 8) <|
  some (sCount + 1, upd sLeast sCount.toNatClampNeg p4, upd sMost sCount.toNatClampNeg p5, sCount + 1, gup (gup (gup (gup gF sCount.toNatClampNeg (upd (gF sCount.toNatClampNeg) (0 : Int32).toNatClampNeg p0)) sCount.toNatClampNeg (upd ((gup gF sCount.toNatClampNeg (upd (gF sCount.toNatClampNeg) (0 : Int32).toNatClampNeg p0)) sCount.toNatClampNeg) (1 : Int32).toNatClampNeg p1)) sCount.toNatClampNeg (upd ((gup (gup gF sCount.toNatClampNeg (upd (gF sCount.toNatClampNeg) (0 : Int32).toNatClampNeg p0)) sCount.toNatClampNeg (upd ((gup gF sCount.toNatClampNeg (upd (gF sCount.toNatClampNeg) (0 : Int32).toNatClampNeg p0)) sCount.toNatClampNeg) (1 : Int32).toNatClampNeg p1)) sCount.toNatClampNeg) (2 : Int32).toNatClampNeg p2)) sCount.toNatClampNeg (upd ((gup (gup (gup gF sCount.toNatClampNeg (upd (gF sCount.toNatClampNeg) (0 : Int32).toNatClampNeg p0)) sCount.toNatClampNeg (upd ((gup gF sCount.toNatClampNeg (upd (gF sCount.toNatClampNeg) (0 : Int32).toNatClampNeg p0)) sCount.toNatClampNeg) (1 : Int32).toNatClampNeg p1)) sCount.toNatClampNeg (upd ((gup (gup gF sCount.toNatClampNeg (upd (gF sCount.toNatClampNeg) (0 : Int32).toNatClampNeg p0)) sCount.toNatClampNeg (upd ((gup gF sCount.toNatClampNeg (upd (gF sCount.toNatClampNeg) (0 : Int32).toNatClampNeg p0)) sCount.toNatClampNeg) (1 : Int32).toNatClampNeg p1)) sCount.toNatClampNeg) (2 : Int32).toNatClampNeg p2)) sCount.toNatClampNeg) (3 : Int32).toNatClampNeg p3))
set_option maxHeartbeats 4000000 in
set_option maxRecDepth 100000 in
theorem w_Se_addBound  {p0 : Int32} {p1 : Int32} {p2 : Int32} {p3 : Int32} {p4 : Int32} {p5 : Int32}  (hx : p.tables.exec = Jvm.exec) (hb : c.code = b_Se_addBound) (hml : c.maxLocals = 8) (hts : ∀ w ∈ gW, w.before args s = true) (hown : s.vm.findClass "RegularSolver$Search" = some m.cls) (hK : va_K D vwCl (tG K) s) (hRf : 0 ≤ R.frames) (hRl : 0 ≤ R.locals) (hRc : cells ≤ R.cells) (hRs : slots ≤ R.slots) (hA : ∀ q, H0.size ≤ q → A q) {out : Int32 × (Nat → Int32) × (Nat → Int32) × Int32 × (Nat → Nat → Int32)} (Kr : ∀ (r : Int32 × (Nat → Int32) × (Nat → Int32) × Int32 × (Nat → Nat → Int32)), out = r → ∀ (pc : Nat) (ls : Array Slot) (H : Heap) (locs : List Loc), decode b_Se_addBound pc = .ok (.ireturn, 1) → va_P D vwCl ((seW K sq sA sF sLe sMo sAl sRL sRM sLn sKL sKW fF fL fM sAssigned r.2.1 r.2.2.1 r.2.2.2.1 sAllowed sLengths sKept sKeptLengths sKeptWords) ++ (grW K fF 4 r.2.2.2.2) ++ (grW K fL 5 gL) ++ (grW K fM 5 gM)) H → va_D A ((seW K sq sA sF sLe sMo sAl sRL sRM sLn sKL sKW fF fL fM sAssigned r.2.1 r.2.2.1 r.2.2.2.1 sAllowed sLengths sKept sKeptLengths sKeptWords) ++ (grW K fF 4 r.2.2.2.2) ++ (grW K fL 5 gL) ++ (grW K fM 5 gM)) → va_S A H0 H locs → W p l e R s m args below meth c H locs cells slots Q (F0 m pc ls [.int r.1])) (hf : f_Se_addBound n p0 p1 p2 p3 p4 p5 sLeast sMost sCount gF = some out) (ls : Array Slot) (hP : va_P D vwCl ((seW K sq sA sF sLe sMo sAl sRL sRM sLn sKL sKW fF fL fM sAssigned sLeast sMost sCount sAllowed sLengths sKept sKeptLengths sKeptWords) ++ (grW K fF 4 gF) ++ (grW K fL 5 gL) ++ (grW K fM 5 gM)) H) (hD : va_D A ((seW K sq sA sF sLe sMo sAl sRL sRM sLn sKL sKW fF fL fM sAssigned sLeast sMost sCount sAllowed sLengths sKept sKeptLengths sKeptWords) ++ (grW K fF 4 gF) ++ (grW K fL 5 gL) ++ (grW K fM 5 gM))) (hS : va_S A H0 H locs) (hl : lv_has ls 8 [(0, .ref sq), (1, .int p0), (2, .int p1), (3, .int p2), (4, .int p3), (5, .int p4), (6, .int p5)]) : W p l e R s m args below meth c H locs cells slots Q (F0 m 0 ls []) := by
  unfold f_Se_addBound at hf
  refine lv_aload_n hx hb d_Se_addBound_0 rfl (lv_at hl 0 rfl) ?_
  refine va_get (D := D) (ci := 9) (v := .ref sF) (C := R_Se) (T := T_Se) (N := 12) hx hb hts in_Se hown hK hP 0 rfl rfl 1 (by decide) (hts _ fl_Se_19) (fun _ h9 => h9) rfl d_Se_addBound_1 ?_
  refine lv_aload_n hx hb d_Se_addBound_4 rfl (lv_at hl 0 rfl) ?_
  refine va_get (D := D) (ci := 9) (v := .int sCount) (C := R_Se) (T := T_Se) (N := 12) hx hb hts in_Se hown hK hP 0 rfl rfl 4 (by decide) (hts _ fl_Se_29) (fun _ h9 => h9) rfl d_Se_addBound_5 ?_
  obtain ⟨g1, hf⟩ := ogi hf
  refine gr_ald hx hb hK hP 2 4 rfl rfl (gin_in g1) d_Se_addBound_8 ?_
  refine lv_astore (lv' := [(7, .ref (fF sCount.toNatClampNeg)), (0, .ref sq), (1, .int p0), (2, .int p1), (3, .int p2), (4, .int p3), (5, .int p4), (6, .int p5)]) hx hb d_Se_addBound_9 hl (by decide) rfl (fun ls hl => ?_)
  refine lv_aload hx hb d_Se_addBound_11 (lv_at hl 0 rfl) ?_
  refine lv_iconst (v := 0) hx hb d_Se_addBound_13 (by decide) ?_
  refine lv_iload_n hx hb d_Se_addBound_14 rfl (lv_at hl 2 rfl) ?_
  obtain ⟨g2, hf⟩ := ogi hf
  refine gr_ast (X := (seW K sq sA sF sLe sMo sAl sRL sRM sLn sKL sKW fF fL fM sAssigned sLeast sMost sCount sAllowed sLengths sKept sKeptLengths sKeptWords)) (Y := (grW K fL 5 gL) ++ (grW K fM 5 gM)) (K := K) (f := fF) (n := 4) (g := gF) (i := sCount.toNatClampNeg) hx hb hK (by simp only [List.append_assoc, List.append_nil]) hP hD hS 0 rfl (gin_lt g1) (gin_in g2) d_Se_addBound_15 (fun H locs hP hD hS => ?_)
  have hP : va_P D vwCl ((seW K sq sA sF sLe sMo sAl sRL sRM sLn sKL sKW fF fL fM sAssigned sLeast sMost sCount sAllowed sLengths sKept sKeptLengths sKeptWords) ++ (grW K fF 4 (gup gF sCount.toNatClampNeg (upd (gF sCount.toNatClampNeg) (0 : Int32).toNatClampNeg p0))) ++ (grW K fL 5 gL) ++ (grW K fM 5 gM)) H := by simpa only [List.append_assoc, List.append_nil] using hP
  have hD : va_D A ((seW K sq sA sF sLe sMo sAl sRL sRM sLn sKL sKW fF fL fM sAssigned sLeast sMost sCount sAllowed sLengths sKept sKeptLengths sKeptWords) ++ (grW K fF 4 (gup gF sCount.toNatClampNeg (upd (gF sCount.toNatClampNeg) (0 : Int32).toNatClampNeg p0))) ++ (grW K fL 5 gL) ++ (grW K fM 5 gM)) := by simpa only [List.append_assoc, List.append_nil] using hD
  refine lv_aload hx hb d_Se_addBound_16 (lv_at hl 0 rfl) ?_
  refine lv_iconst (v := 1) hx hb d_Se_addBound_18 (by decide) ?_
  refine lv_iload_n hx hb d_Se_addBound_19 rfl (lv_at hl 3 rfl) ?_
  obtain ⟨g3, hf⟩ := ogi hf
  refine gr_ast (X := (seW K sq sA sF sLe sMo sAl sRL sRM sLn sKL sKW fF fL fM sAssigned sLeast sMost sCount sAllowed sLengths sKept sKeptLengths sKeptWords)) (Y := (grW K fL 5 gL) ++ (grW K fM 5 gM)) (K := K) (f := fF) (n := 4) (g := gup gF sCount.toNatClampNeg (upd (gF sCount.toNatClampNeg) (0 : Int32).toNatClampNeg p0)) (i := sCount.toNatClampNeg) hx hb hK (by simp only [List.append_assoc, List.append_nil]) hP hD hS 0 rfl (gin_lt g1) (gin_in g3) d_Se_addBound_20 (fun H locs hP hD hS => ?_)
  have hP : va_P D vwCl ((seW K sq sA sF sLe sMo sAl sRL sRM sLn sKL sKW fF fL fM sAssigned sLeast sMost sCount sAllowed sLengths sKept sKeptLengths sKeptWords) ++ (grW K fF 4 (gup (gup gF sCount.toNatClampNeg (upd (gF sCount.toNatClampNeg) (0 : Int32).toNatClampNeg p0)) sCount.toNatClampNeg (upd ((gup gF sCount.toNatClampNeg (upd (gF sCount.toNatClampNeg) (0 : Int32).toNatClampNeg p0)) sCount.toNatClampNeg) (1 : Int32).toNatClampNeg p1))) ++ (grW K fL 5 gL) ++ (grW K fM 5 gM)) H := by simpa only [List.append_assoc, List.append_nil] using hP
  have hD : va_D A ((seW K sq sA sF sLe sMo sAl sRL sRM sLn sKL sKW fF fL fM sAssigned sLeast sMost sCount sAllowed sLengths sKept sKeptLengths sKeptWords) ++ (grW K fF 4 (gup (gup gF sCount.toNatClampNeg (upd (gF sCount.toNatClampNeg) (0 : Int32).toNatClampNeg p0)) sCount.toNatClampNeg (upd ((gup gF sCount.toNatClampNeg (upd (gF sCount.toNatClampNeg) (0 : Int32).toNatClampNeg p0)) sCount.toNatClampNeg) (1 : Int32).toNatClampNeg p1))) ++ (grW K fL 5 gL) ++ (grW K fM 5 gM)) := by simpa only [List.append_assoc, List.append_nil] using hD
  refine lv_aload hx hb d_Se_addBound_21 (lv_at hl 0 rfl) ?_
  refine lv_iconst (v := 2) hx hb d_Se_addBound_23 (by decide) ?_
  refine lv_iload_n hx hb d_Se_addBound_24 rfl (lv_at hl 4 rfl) ?_
  obtain ⟨g4, hf⟩ := ogi hf
  refine gr_ast (X := (seW K sq sA sF sLe sMo sAl sRL sRM sLn sKL sKW fF fL fM sAssigned sLeast sMost sCount sAllowed sLengths sKept sKeptLengths sKeptWords)) (Y := (grW K fL 5 gL) ++ (grW K fM 5 gM)) (K := K) (f := fF) (n := 4) (g := gup (gup gF sCount.toNatClampNeg (upd (gF sCount.toNatClampNeg) (0 : Int32).toNatClampNeg p0)) sCount.toNatClampNeg (upd ((gup gF sCount.toNatClampNeg (upd (gF sCount.toNatClampNeg) (0 : Int32).toNatClampNeg p0)) sCount.toNatClampNeg) (1 : Int32).toNatClampNeg p1)) (i := sCount.toNatClampNeg) hx hb hK (by simp only [List.append_assoc, List.append_nil]) hP hD hS 0 rfl (gin_lt g1) (gin_in g4) d_Se_addBound_25 (fun H locs hP hD hS => ?_)
  have hP : va_P D vwCl ((seW K sq sA sF sLe sMo sAl sRL sRM sLn sKL sKW fF fL fM sAssigned sLeast sMost sCount sAllowed sLengths sKept sKeptLengths sKeptWords) ++ (grW K fF 4 (gup (gup (gup gF sCount.toNatClampNeg (upd (gF sCount.toNatClampNeg) (0 : Int32).toNatClampNeg p0)) sCount.toNatClampNeg (upd ((gup gF sCount.toNatClampNeg (upd (gF sCount.toNatClampNeg) (0 : Int32).toNatClampNeg p0)) sCount.toNatClampNeg) (1 : Int32).toNatClampNeg p1)) sCount.toNatClampNeg (upd ((gup (gup gF sCount.toNatClampNeg (upd (gF sCount.toNatClampNeg) (0 : Int32).toNatClampNeg p0)) sCount.toNatClampNeg (upd ((gup gF sCount.toNatClampNeg (upd (gF sCount.toNatClampNeg) (0 : Int32).toNatClampNeg p0)) sCount.toNatClampNeg) (1 : Int32).toNatClampNeg p1)) sCount.toNatClampNeg) (2 : Int32).toNatClampNeg p2))) ++ (grW K fL 5 gL) ++ (grW K fM 5 gM)) H := by simpa only [List.append_assoc, List.append_nil] using hP
  have hD : va_D A ((seW K sq sA sF sLe sMo sAl sRL sRM sLn sKL sKW fF fL fM sAssigned sLeast sMost sCount sAllowed sLengths sKept sKeptLengths sKeptWords) ++ (grW K fF 4 (gup (gup (gup gF sCount.toNatClampNeg (upd (gF sCount.toNatClampNeg) (0 : Int32).toNatClampNeg p0)) sCount.toNatClampNeg (upd ((gup gF sCount.toNatClampNeg (upd (gF sCount.toNatClampNeg) (0 : Int32).toNatClampNeg p0)) sCount.toNatClampNeg) (1 : Int32).toNatClampNeg p1)) sCount.toNatClampNeg (upd ((gup (gup gF sCount.toNatClampNeg (upd (gF sCount.toNatClampNeg) (0 : Int32).toNatClampNeg p0)) sCount.toNatClampNeg (upd ((gup gF sCount.toNatClampNeg (upd (gF sCount.toNatClampNeg) (0 : Int32).toNatClampNeg p0)) sCount.toNatClampNeg) (1 : Int32).toNatClampNeg p1)) sCount.toNatClampNeg) (2 : Int32).toNatClampNeg p2))) ++ (grW K fL 5 gL) ++ (grW K fM 5 gM)) := by simpa only [List.append_assoc, List.append_nil] using hD
  refine lv_aload hx hb d_Se_addBound_26 (lv_at hl 0 rfl) ?_
  refine lv_iconst (v := 3) hx hb d_Se_addBound_28 (by decide) ?_
  refine lv_iload hx hb d_Se_addBound_29 (lv_at hl 5 rfl) ?_
  obtain ⟨g5, hf⟩ := ogi hf
  refine gr_ast (X := (seW K sq sA sF sLe sMo sAl sRL sRM sLn sKL sKW fF fL fM sAssigned sLeast sMost sCount sAllowed sLengths sKept sKeptLengths sKeptWords)) (Y := (grW K fL 5 gL) ++ (grW K fM 5 gM)) (K := K) (f := fF) (n := 4) (g := gup (gup (gup gF sCount.toNatClampNeg (upd (gF sCount.toNatClampNeg) (0 : Int32).toNatClampNeg p0)) sCount.toNatClampNeg (upd ((gup gF sCount.toNatClampNeg (upd (gF sCount.toNatClampNeg) (0 : Int32).toNatClampNeg p0)) sCount.toNatClampNeg) (1 : Int32).toNatClampNeg p1)) sCount.toNatClampNeg (upd ((gup (gup gF sCount.toNatClampNeg (upd (gF sCount.toNatClampNeg) (0 : Int32).toNatClampNeg p0)) sCount.toNatClampNeg (upd ((gup gF sCount.toNatClampNeg (upd (gF sCount.toNatClampNeg) (0 : Int32).toNatClampNeg p0)) sCount.toNatClampNeg) (1 : Int32).toNatClampNeg p1)) sCount.toNatClampNeg) (2 : Int32).toNatClampNeg p2)) (i := sCount.toNatClampNeg) hx hb hK (by simp only [List.append_assoc, List.append_nil]) hP hD hS 0 rfl (gin_lt g1) (gin_in g5) d_Se_addBound_31 (fun H locs hP hD hS => ?_)
  have hP : va_P D vwCl ((seW K sq sA sF sLe sMo sAl sRL sRM sLn sKL sKW fF fL fM sAssigned sLeast sMost sCount sAllowed sLengths sKept sKeptLengths sKeptWords) ++ (grW K fF 4 (gup (gup (gup (gup gF sCount.toNatClampNeg (upd (gF sCount.toNatClampNeg) (0 : Int32).toNatClampNeg p0)) sCount.toNatClampNeg (upd ((gup gF sCount.toNatClampNeg (upd (gF sCount.toNatClampNeg) (0 : Int32).toNatClampNeg p0)) sCount.toNatClampNeg) (1 : Int32).toNatClampNeg p1)) sCount.toNatClampNeg (upd ((gup (gup gF sCount.toNatClampNeg (upd (gF sCount.toNatClampNeg) (0 : Int32).toNatClampNeg p0)) sCount.toNatClampNeg (upd ((gup gF sCount.toNatClampNeg (upd (gF sCount.toNatClampNeg) (0 : Int32).toNatClampNeg p0)) sCount.toNatClampNeg) (1 : Int32).toNatClampNeg p1)) sCount.toNatClampNeg) (2 : Int32).toNatClampNeg p2)) sCount.toNatClampNeg (upd ((gup (gup (gup gF sCount.toNatClampNeg (upd (gF sCount.toNatClampNeg) (0 : Int32).toNatClampNeg p0)) sCount.toNatClampNeg (upd ((gup gF sCount.toNatClampNeg (upd (gF sCount.toNatClampNeg) (0 : Int32).toNatClampNeg p0)) sCount.toNatClampNeg) (1 : Int32).toNatClampNeg p1)) sCount.toNatClampNeg (upd ((gup (gup gF sCount.toNatClampNeg (upd (gF sCount.toNatClampNeg) (0 : Int32).toNatClampNeg p0)) sCount.toNatClampNeg (upd ((gup gF sCount.toNatClampNeg (upd (gF sCount.toNatClampNeg) (0 : Int32).toNatClampNeg p0)) sCount.toNatClampNeg) (1 : Int32).toNatClampNeg p1)) sCount.toNatClampNeg) (2 : Int32).toNatClampNeg p2)) sCount.toNatClampNeg) (3 : Int32).toNatClampNeg p3))) ++ (grW K fL 5 gL) ++ (grW K fM 5 gM)) H := by simpa only [List.append_assoc, List.append_nil] using hP
  have hD : va_D A ((seW K sq sA sF sLe sMo sAl sRL sRM sLn sKL sKW fF fL fM sAssigned sLeast sMost sCount sAllowed sLengths sKept sKeptLengths sKeptWords) ++ (grW K fF 4 (gup (gup (gup (gup gF sCount.toNatClampNeg (upd (gF sCount.toNatClampNeg) (0 : Int32).toNatClampNeg p0)) sCount.toNatClampNeg (upd ((gup gF sCount.toNatClampNeg (upd (gF sCount.toNatClampNeg) (0 : Int32).toNatClampNeg p0)) sCount.toNatClampNeg) (1 : Int32).toNatClampNeg p1)) sCount.toNatClampNeg (upd ((gup (gup gF sCount.toNatClampNeg (upd (gF sCount.toNatClampNeg) (0 : Int32).toNatClampNeg p0)) sCount.toNatClampNeg (upd ((gup gF sCount.toNatClampNeg (upd (gF sCount.toNatClampNeg) (0 : Int32).toNatClampNeg p0)) sCount.toNatClampNeg) (1 : Int32).toNatClampNeg p1)) sCount.toNatClampNeg) (2 : Int32).toNatClampNeg p2)) sCount.toNatClampNeg (upd ((gup (gup (gup gF sCount.toNatClampNeg (upd (gF sCount.toNatClampNeg) (0 : Int32).toNatClampNeg p0)) sCount.toNatClampNeg (upd ((gup gF sCount.toNatClampNeg (upd (gF sCount.toNatClampNeg) (0 : Int32).toNatClampNeg p0)) sCount.toNatClampNeg) (1 : Int32).toNatClampNeg p1)) sCount.toNatClampNeg (upd ((gup (gup gF sCount.toNatClampNeg (upd (gF sCount.toNatClampNeg) (0 : Int32).toNatClampNeg p0)) sCount.toNatClampNeg (upd ((gup gF sCount.toNatClampNeg (upd (gF sCount.toNatClampNeg) (0 : Int32).toNatClampNeg p0)) sCount.toNatClampNeg) (1 : Int32).toNatClampNeg p1)) sCount.toNatClampNeg) (2 : Int32).toNatClampNeg p2)) sCount.toNatClampNeg) (3 : Int32).toNatClampNeg p3))) ++ (grW K fL 5 gL) ++ (grW K fM 5 gM)) := by simpa only [List.append_assoc, List.append_nil] using hD
  refine lv_aload_n hx hb d_Se_addBound_32 rfl (lv_at hl 1 rfl) ?_
  refine va_get (D := D) (ci := 9) (v := .ref sLe) (C := R_Se) (T := T_Se) (N := 12) hx hb hts in_Se hown hK hP 0 rfl rfl 2 (by decide) (hts _ fl_Se_22) (fun _ h9 => h9) rfl d_Se_addBound_33 ?_
  refine lv_aload_n hx hb d_Se_addBound_36 rfl (lv_at hl 1 rfl) ?_
  refine va_get (D := D) (ci := 9) (v := .int sCount) (C := R_Se) (T := T_Se) (N := 12) hx hb hts in_Se hown hK hP 0 rfl rfl 4 (by decide) (hts _ fl_Se_29) (fun _ h9 => h9) rfl d_Se_addBound_37 ?_
  refine lv_iload hx hb d_Se_addBound_40 (lv_at hl 6 rfl) ?_
  obtain ⟨g6, hf⟩ := ogi hf
  refine va_iast hx hb hK hP hD hS 3 0 rfl rfl (gin_in g6) d_Se_addBound_42 (fun H locs hP hD hS => ?_)
  have hP : va_P D vwCl ((seW K sq sA sF sLe sMo sAl sRL sRM sLn sKL sKW fF fL fM sAssigned (upd sLeast sCount.toNatClampNeg p4) sMost sCount sAllowed sLengths sKept sKeptLengths sKeptWords) ++ (grW K fF 4 (gup (gup (gup (gup gF sCount.toNatClampNeg (upd (gF sCount.toNatClampNeg) (0 : Int32).toNatClampNeg p0)) sCount.toNatClampNeg (upd ((gup gF sCount.toNatClampNeg (upd (gF sCount.toNatClampNeg) (0 : Int32).toNatClampNeg p0)) sCount.toNatClampNeg) (1 : Int32).toNatClampNeg p1)) sCount.toNatClampNeg (upd ((gup (gup gF sCount.toNatClampNeg (upd (gF sCount.toNatClampNeg) (0 : Int32).toNatClampNeg p0)) sCount.toNatClampNeg (upd ((gup gF sCount.toNatClampNeg (upd (gF sCount.toNatClampNeg) (0 : Int32).toNatClampNeg p0)) sCount.toNatClampNeg) (1 : Int32).toNatClampNeg p1)) sCount.toNatClampNeg) (2 : Int32).toNatClampNeg p2)) sCount.toNatClampNeg (upd ((gup (gup (gup gF sCount.toNatClampNeg (upd (gF sCount.toNatClampNeg) (0 : Int32).toNatClampNeg p0)) sCount.toNatClampNeg (upd ((gup gF sCount.toNatClampNeg (upd (gF sCount.toNatClampNeg) (0 : Int32).toNatClampNeg p0)) sCount.toNatClampNeg) (1 : Int32).toNatClampNeg p1)) sCount.toNatClampNeg (upd ((gup (gup gF sCount.toNatClampNeg (upd (gF sCount.toNatClampNeg) (0 : Int32).toNatClampNeg p0)) sCount.toNatClampNeg (upd ((gup gF sCount.toNatClampNeg (upd (gF sCount.toNatClampNeg) (0 : Int32).toNatClampNeg p0)) sCount.toNatClampNeg) (1 : Int32).toNatClampNeg p1)) sCount.toNatClampNeg) (2 : Int32).toNatClampNeg p2)) sCount.toNatClampNeg) (3 : Int32).toNatClampNeg p3))) ++ (grW K fL 5 gL) ++ (grW K fM 5 gM)) H := hP
  have hD : va_D A ((seW K sq sA sF sLe sMo sAl sRL sRM sLn sKL sKW fF fL fM sAssigned (upd sLeast sCount.toNatClampNeg p4) sMost sCount sAllowed sLengths sKept sKeptLengths sKeptWords) ++ (grW K fF 4 (gup (gup (gup (gup gF sCount.toNatClampNeg (upd (gF sCount.toNatClampNeg) (0 : Int32).toNatClampNeg p0)) sCount.toNatClampNeg (upd ((gup gF sCount.toNatClampNeg (upd (gF sCount.toNatClampNeg) (0 : Int32).toNatClampNeg p0)) sCount.toNatClampNeg) (1 : Int32).toNatClampNeg p1)) sCount.toNatClampNeg (upd ((gup (gup gF sCount.toNatClampNeg (upd (gF sCount.toNatClampNeg) (0 : Int32).toNatClampNeg p0)) sCount.toNatClampNeg (upd ((gup gF sCount.toNatClampNeg (upd (gF sCount.toNatClampNeg) (0 : Int32).toNatClampNeg p0)) sCount.toNatClampNeg) (1 : Int32).toNatClampNeg p1)) sCount.toNatClampNeg) (2 : Int32).toNatClampNeg p2)) sCount.toNatClampNeg (upd ((gup (gup (gup gF sCount.toNatClampNeg (upd (gF sCount.toNatClampNeg) (0 : Int32).toNatClampNeg p0)) sCount.toNatClampNeg (upd ((gup gF sCount.toNatClampNeg (upd (gF sCount.toNatClampNeg) (0 : Int32).toNatClampNeg p0)) sCount.toNatClampNeg) (1 : Int32).toNatClampNeg p1)) sCount.toNatClampNeg (upd ((gup (gup gF sCount.toNatClampNeg (upd (gF sCount.toNatClampNeg) (0 : Int32).toNatClampNeg p0)) sCount.toNatClampNeg (upd ((gup gF sCount.toNatClampNeg (upd (gF sCount.toNatClampNeg) (0 : Int32).toNatClampNeg p0)) sCount.toNatClampNeg) (1 : Int32).toNatClampNeg p1)) sCount.toNatClampNeg) (2 : Int32).toNatClampNeg p2)) sCount.toNatClampNeg) (3 : Int32).toNatClampNeg p3))) ++ (grW K fL 5 gL) ++ (grW K fM 5 gM)) := hD
  refine lv_aload_n hx hb d_Se_addBound_43 rfl (lv_at hl 1 rfl) ?_
  refine va_get (D := D) (ci := 9) (v := .ref sMo) (C := R_Se) (T := T_Se) (N := 12) hx hb hts in_Se hown hK hP 0 rfl rfl 3 (by decide) (hts _ fl_Se_26) (fun _ h9 => h9) rfl d_Se_addBound_44 ?_
  refine lv_aload_n hx hb d_Se_addBound_47 rfl (lv_at hl 1 rfl) ?_
  refine va_get (D := D) (ci := 9) (v := .int sCount) (C := R_Se) (T := T_Se) (N := 12) hx hb hts in_Se hown hK hP 0 rfl rfl 4 (by decide) (hts _ fl_Se_29) (fun _ h9 => h9) rfl d_Se_addBound_48 ?_
  refine lv_iload hx hb d_Se_addBound_51 (lv_at hl 7 rfl) ?_
  obtain ⟨g7, hf⟩ := ogi hf
  refine va_iast hx hb hK hP hD hS 4 0 rfl rfl (gin_in g7) d_Se_addBound_53 (fun H locs hP hD hS => ?_)
  have hP : va_P D vwCl ((seW K sq sA sF sLe sMo sAl sRL sRM sLn sKL sKW fF fL fM sAssigned (upd sLeast sCount.toNatClampNeg p4) (upd sMost sCount.toNatClampNeg p5) sCount sAllowed sLengths sKept sKeptLengths sKeptWords) ++ (grW K fF 4 (gup (gup (gup (gup gF sCount.toNatClampNeg (upd (gF sCount.toNatClampNeg) (0 : Int32).toNatClampNeg p0)) sCount.toNatClampNeg (upd ((gup gF sCount.toNatClampNeg (upd (gF sCount.toNatClampNeg) (0 : Int32).toNatClampNeg p0)) sCount.toNatClampNeg) (1 : Int32).toNatClampNeg p1)) sCount.toNatClampNeg (upd ((gup (gup gF sCount.toNatClampNeg (upd (gF sCount.toNatClampNeg) (0 : Int32).toNatClampNeg p0)) sCount.toNatClampNeg (upd ((gup gF sCount.toNatClampNeg (upd (gF sCount.toNatClampNeg) (0 : Int32).toNatClampNeg p0)) sCount.toNatClampNeg) (1 : Int32).toNatClampNeg p1)) sCount.toNatClampNeg) (2 : Int32).toNatClampNeg p2)) sCount.toNatClampNeg (upd ((gup (gup (gup gF sCount.toNatClampNeg (upd (gF sCount.toNatClampNeg) (0 : Int32).toNatClampNeg p0)) sCount.toNatClampNeg (upd ((gup gF sCount.toNatClampNeg (upd (gF sCount.toNatClampNeg) (0 : Int32).toNatClampNeg p0)) sCount.toNatClampNeg) (1 : Int32).toNatClampNeg p1)) sCount.toNatClampNeg (upd ((gup (gup gF sCount.toNatClampNeg (upd (gF sCount.toNatClampNeg) (0 : Int32).toNatClampNeg p0)) sCount.toNatClampNeg (upd ((gup gF sCount.toNatClampNeg (upd (gF sCount.toNatClampNeg) (0 : Int32).toNatClampNeg p0)) sCount.toNatClampNeg) (1 : Int32).toNatClampNeg p1)) sCount.toNatClampNeg) (2 : Int32).toNatClampNeg p2)) sCount.toNatClampNeg) (3 : Int32).toNatClampNeg p3))) ++ (grW K fL 5 gL) ++ (grW K fM 5 gM)) H := hP
  have hD : va_D A ((seW K sq sA sF sLe sMo sAl sRL sRM sLn sKL sKW fF fL fM sAssigned (upd sLeast sCount.toNatClampNeg p4) (upd sMost sCount.toNatClampNeg p5) sCount sAllowed sLengths sKept sKeptLengths sKeptWords) ++ (grW K fF 4 (gup (gup (gup (gup gF sCount.toNatClampNeg (upd (gF sCount.toNatClampNeg) (0 : Int32).toNatClampNeg p0)) sCount.toNatClampNeg (upd ((gup gF sCount.toNatClampNeg (upd (gF sCount.toNatClampNeg) (0 : Int32).toNatClampNeg p0)) sCount.toNatClampNeg) (1 : Int32).toNatClampNeg p1)) sCount.toNatClampNeg (upd ((gup (gup gF sCount.toNatClampNeg (upd (gF sCount.toNatClampNeg) (0 : Int32).toNatClampNeg p0)) sCount.toNatClampNeg (upd ((gup gF sCount.toNatClampNeg (upd (gF sCount.toNatClampNeg) (0 : Int32).toNatClampNeg p0)) sCount.toNatClampNeg) (1 : Int32).toNatClampNeg p1)) sCount.toNatClampNeg) (2 : Int32).toNatClampNeg p2)) sCount.toNatClampNeg (upd ((gup (gup (gup gF sCount.toNatClampNeg (upd (gF sCount.toNatClampNeg) (0 : Int32).toNatClampNeg p0)) sCount.toNatClampNeg (upd ((gup gF sCount.toNatClampNeg (upd (gF sCount.toNatClampNeg) (0 : Int32).toNatClampNeg p0)) sCount.toNatClampNeg) (1 : Int32).toNatClampNeg p1)) sCount.toNatClampNeg (upd ((gup (gup gF sCount.toNatClampNeg (upd (gF sCount.toNatClampNeg) (0 : Int32).toNatClampNeg p0)) sCount.toNatClampNeg (upd ((gup gF sCount.toNatClampNeg (upd (gF sCount.toNatClampNeg) (0 : Int32).toNatClampNeg p0)) sCount.toNatClampNeg) (1 : Int32).toNatClampNeg p1)) sCount.toNatClampNeg) (2 : Int32).toNatClampNeg p2)) sCount.toNatClampNeg) (3 : Int32).toNatClampNeg p3))) ++ (grW K fL 5 gL) ++ (grW K fM 5 gM)) := hD
  refine lv_aload_n hx hb d_Se_addBound_54 rfl (lv_at hl 1 rfl) ?_
  refine lv_dup hx hb d_Se_addBound_55 rfl ?_
  refine va_get (D := D) (ci := 9) (v := .int sCount) (C := R_Se) (T := T_Se) (N := 12) hx hb hts in_Se hown hK hP 0 rfl rfl 4 (by decide) (hts _ fl_Se_29) (fun _ h9 => h9) rfl d_Se_addBound_56 ?_
  refine lv_iconst (v := 1) hx hb d_Se_addBound_59 (by decide) ?_
  refine lv_iadd hx hb d_Se_addBound_60 ?_
  refine va_put (D := D) (ci := 9) (v := .int (sCount + 1)) (ty := .int) (C := R_Se) (T := T_Se) (N := 12) hx hb hts in_Se t_Se t_Se_ok n_Se hown hK hP hD hS 0 rfl rfl 4 (by decide) (hts _ fl_Se_29) (fun _ h9 => h9) rfl (by decide +kernel) rfl rfl (Nat.le_of_ble_eq_true rfl) d_Se_addBound_61 (fun H locs hP hD hS => ?_)
  have hP : va_P D vwCl ((seW K sq sA sF sLe sMo sAl sRL sRM sLn sKL sKW fF fL fM sAssigned (upd sLeast sCount.toNatClampNeg p4) (upd sMost sCount.toNatClampNeg p5) (sCount + 1) sAllowed sLengths sKept sKeptLengths sKeptWords) ++ (grW K fF 4 (gup (gup (gup (gup gF sCount.toNatClampNeg (upd (gF sCount.toNatClampNeg) (0 : Int32).toNatClampNeg p0)) sCount.toNatClampNeg (upd ((gup gF sCount.toNatClampNeg (upd (gF sCount.toNatClampNeg) (0 : Int32).toNatClampNeg p0)) sCount.toNatClampNeg) (1 : Int32).toNatClampNeg p1)) sCount.toNatClampNeg (upd ((gup (gup gF sCount.toNatClampNeg (upd (gF sCount.toNatClampNeg) (0 : Int32).toNatClampNeg p0)) sCount.toNatClampNeg (upd ((gup gF sCount.toNatClampNeg (upd (gF sCount.toNatClampNeg) (0 : Int32).toNatClampNeg p0)) sCount.toNatClampNeg) (1 : Int32).toNatClampNeg p1)) sCount.toNatClampNeg) (2 : Int32).toNatClampNeg p2)) sCount.toNatClampNeg (upd ((gup (gup (gup gF sCount.toNatClampNeg (upd (gF sCount.toNatClampNeg) (0 : Int32).toNatClampNeg p0)) sCount.toNatClampNeg (upd ((gup gF sCount.toNatClampNeg (upd (gF sCount.toNatClampNeg) (0 : Int32).toNatClampNeg p0)) sCount.toNatClampNeg) (1 : Int32).toNatClampNeg p1)) sCount.toNatClampNeg (upd ((gup (gup gF sCount.toNatClampNeg (upd (gF sCount.toNatClampNeg) (0 : Int32).toNatClampNeg p0)) sCount.toNatClampNeg (upd ((gup gF sCount.toNatClampNeg (upd (gF sCount.toNatClampNeg) (0 : Int32).toNatClampNeg p0)) sCount.toNatClampNeg) (1 : Int32).toNatClampNeg p1)) sCount.toNatClampNeg) (2 : Int32).toNatClampNeg p2)) sCount.toNatClampNeg) (3 : Int32).toNatClampNeg p3))) ++ (grW K fL 5 gL) ++ (grW K fM 5 gM)) H := hP
  have hD : va_D A ((seW K sq sA sF sLe sMo sAl sRL sRM sLn sKL sKW fF fL fM sAssigned (upd sLeast sCount.toNatClampNeg p4) (upd sMost sCount.toNatClampNeg p5) (sCount + 1) sAllowed sLengths sKept sKeptLengths sKeptWords) ++ (grW K fF 4 (gup (gup (gup (gup gF sCount.toNatClampNeg (upd (gF sCount.toNatClampNeg) (0 : Int32).toNatClampNeg p0)) sCount.toNatClampNeg (upd ((gup gF sCount.toNatClampNeg (upd (gF sCount.toNatClampNeg) (0 : Int32).toNatClampNeg p0)) sCount.toNatClampNeg) (1 : Int32).toNatClampNeg p1)) sCount.toNatClampNeg (upd ((gup (gup gF sCount.toNatClampNeg (upd (gF sCount.toNatClampNeg) (0 : Int32).toNatClampNeg p0)) sCount.toNatClampNeg (upd ((gup gF sCount.toNatClampNeg (upd (gF sCount.toNatClampNeg) (0 : Int32).toNatClampNeg p0)) sCount.toNatClampNeg) (1 : Int32).toNatClampNeg p1)) sCount.toNatClampNeg) (2 : Int32).toNatClampNeg p2)) sCount.toNatClampNeg (upd ((gup (gup (gup gF sCount.toNatClampNeg (upd (gF sCount.toNatClampNeg) (0 : Int32).toNatClampNeg p0)) sCount.toNatClampNeg (upd ((gup gF sCount.toNatClampNeg (upd (gF sCount.toNatClampNeg) (0 : Int32).toNatClampNeg p0)) sCount.toNatClampNeg) (1 : Int32).toNatClampNeg p1)) sCount.toNatClampNeg (upd ((gup (gup gF sCount.toNatClampNeg (upd (gF sCount.toNatClampNeg) (0 : Int32).toNatClampNeg p0)) sCount.toNatClampNeg (upd ((gup gF sCount.toNatClampNeg (upd (gF sCount.toNatClampNeg) (0 : Int32).toNatClampNeg p0)) sCount.toNatClampNeg) (1 : Int32).toNatClampNeg p1)) sCount.toNatClampNeg) (2 : Int32).toNatClampNeg p2)) sCount.toNatClampNeg) (3 : Int32).toNatClampNeg p3))) ++ (grW K fL 5 gL) ++ (grW K fM 5 gM)) := hD
  refine lv_aload_n hx hb d_Se_addBound_64 rfl (lv_at hl 1 rfl) ?_
  refine va_get (D := D) (ci := 9) (v := .int (sCount + 1)) (C := R_Se) (T := T_Se) (N := 12) hx hb hts in_Se hown hK hP 0 rfl rfl 4 (by decide) (hts _ fl_Se_29) (fun _ h9 => h9) rfl d_Se_addBound_65 ?_
  exact Kr _ (Option.some.inj hf).symm _ _ _ _ d_Se_addBound_68 hP hD hS
set_option maxHeartbeats 4000000 in
set_option maxRecDepth 100000 in
theorem c_Se_addBound (l : Launch)  {p0 : Int32} {p1 : Int32} {p2 : Int32} {p3 : Int32} {p4 : Int32} {p5 : Int32}  {r : Int32 × (Nat → Int32) × (Nat → Int32) × Int32 × (Nat → Nat → Int32)} (sz : Nat) (hf : f_Se_addBound n p0 p1 p2 p3 p4 p5 sLeast sMost sCount gF = some r) : Met l y_Se_addBound w0_Se_addBound ({ frames := 0, cells := 0, slots := 0, locals := 0 }) (wPre D K [.ref sq, .int p0, .int p1, .int p2, .int p3, .int p4, .int p5] ((seW K sq sA sF sLe sMo sAl sRL sRM sLn sKL sKW fF fL fM sAssigned sLeast sMost sCount sAllowed sLengths sKept sKeptLengths sKeptWords) ++ (grW K fF 4 gF) ++ (grW K fL 5 gL) ++ (grW K fM 5 gM)) sz) (wPost D K (some (.int r.1)) ((seW K sq sA sF sLe sMo sAl sRL sRM sLn sKL sKW fF fL fM sAssigned r.2.1 r.2.2.1 r.2.2.2.1 sAllowed sLengths sKept sKeptLengths sKeptWords) ++ (grW K fF 4 r.2.2.2.2) ++ (grW K fL 5 gL) ++ (grW K fM 5 gM)) (va_A ((seW K sq sA sF sLe sMo sAl sRL sRM sLn sKL sKW fF fL fM sAssigned sLeast sMost sCount sAllowed sLengths sKept sKeptLengths sKeptWords) ++ (grW K fF 4 gF) ++ (grW K fL 5 gL) ++ (grW K fM 5 gM)) sz)) 0 0 (va_A ((seW K sq sA sF sLe sMo sAl sRL sRM sLn sKL sKW fF fL fM sAssigned sLeast sMost sCount sAllowed sLengths sKept sKeptLengths sKeptWords) ++ (grW K fF 4 gF) ++ (grW K fL 5 gL) ++ (grW K fM 5 gM)) sz) := by
  refine Met.ofW (cc := b_Se_addBound) (maxL := 8) (ret := (some .int)) (by decide) rfl ?_
  intro p e s m args below meth c s₁ B hml hv
  obtain ⟨rfl, hsz, hP, hK, hD0⟩ := hv
  subst hsz
  have hl := lv_entry [.ref sq, .int p0, .int p1, .int p2, .int p3, .int p4, .int p5] (n := 8) (Nat.le_of_ble_eq_true rfl)
  rw [lg_entry_eq]
  generalize (lg_sl [.ref sq, .int p0, .int p1, .int p2, .int p3, .int p4, .int p5] ++ List.replicate (8 - (lg_sl [.ref sq, .int p0, .int p1, .int p2, .int p3, .int p4, .int p5]).length) Slot.unset).toArray = ls at hl ⊢
  refine w_Se_addBound (A := va_A ((seW K sq sA sF sLe sMo sAl sRL sRM sLn sKL sKW fF fL fM sAssigned sLeast sMost sCount sAllowed sLengths sKept sKeptLengths sKeptWords) ++ (grW K fF 4 gF) ++ (grW K fL 5 gL) ++ (grW K fM 5 gM)) s.heap.size) (H0 := s.heap) B.exec B.bytes hml (fun w hw => atoms_spec (ws := w0_Se_addBound) B.pre w (List.mem_cons_of_mem _ hw)) (findClass_of_methodNamed B.named) hK (Nat.le_refl _) (Nat.le_refl _) (Nat.zero_le _) (Nat.zero_le _) (fun q h => Or.inr h) (fun r er pc ls H locs hd hP hD hS => ?_) hf ls hP (hD0.self (sz := s.heap.size)) va_S.rf hl
  subst er
  exact W.iret B.exec B.bytes B.returns (fun t ht hW => ⟨⟨rfl, by rw [ht]; exact hP, va_K.moved hW.alike hK, hD⟩, hS.F ht⟩) hS.2.2 hd (hlocks := B.notSynchronized)
end
section
variable {p : Program} {l : Launch} {e : Env} {R : Room} {s : State} {m : MethodId} {args : Array Value} {below : List Frame} {meth : Method} {c : Code} {H : Heap} {locs : List Loc} {cells slots : Nat} {Q : State → Prop} {A : Nat → Prop} {H0 : Heap}
variable {n : Nat} {D : va_G} {K : Nat → ClassId} {sq : Nat} {sA : Nat} {sF : Nat} {sLe : Nat} {sMo : Nat} {sAl : Nat} {sRL : Nat} {sRM : Nat} {sLn : Nat} {sKL : Nat} {sKW : Nat} {fF : Nat → Nat} {fL : Nat → Nat} {fM : Nat → Nat} {sAssigned : Nat → Option Nat} {sLeast : Nat → Int32} {sMost : Nat → Int32} {sCount : Int32} {sAllowed : Nat → Int64} {sLengths : Nat → Int32} {sKept : Bool} {sKeptLengths : Nat → Int32} {sKeptWords : Nat → Int64} {gF : Nat → Nat → Int32} {gL : Nat → Nat → Int32} {gM : Nat → Nat → Int32}
def f_Se_forget_2 (n : Nat)  : Nat → Int32 → (Nat → Option Nat) → Option (Int32 × (Nat → Option Nat))
  | 0, _, _ => none
  | k + 1, v1, sAssigned =>
    if 4 ≤ v1 then
      some (v1, sAssigned)
    else
      ogd (gin v1 4) <|
      f_Se_forget_2 n  k (v1 + 1) (va_up sAssigned v1.toNatClampNeg none)
set_option maxHeartbeats 4000000 in
set_option maxRecDepth 100000 in
theorem w_Se_forget_2   (hx : p.tables.exec = Jvm.exec) (hb : c.code = b_Se_forget) (hml : c.maxLocals = 2) (hts : ∀ w ∈ gW, w.before args s = true) (hown : s.vm.findClass "RegularSolver$Search" = some m.cls) (hK : va_K D vwCl (tG K) s) (hRf : 0 ≤ R.frames) (hRl : 0 ≤ R.locals) (hRc : cells ≤ R.cells) (hRs : slots ≤ R.slots) (hA : ∀ q, H0.size ≤ q → A q)  {out : Int32 × (Nat → Option Nat)} (Kx : ∀ (u : Int32 × (Nat → Option Nat)), out = u → ∀ (ls : Array Slot) (H : Heap) (locs : List Loc), va_P D vwCl ((seW K sq sA sF sLe sMo sAl sRL sRM sLn sKL sKW fF fL fM u.2 sLeast sMost sCount sAllowed sLengths sKept sKeptLengths sKeptWords) ++ (grW K fF 4 gF) ++ (grW K fL 5 gL) ++ (grW K fM 5 gM)) H → va_D A ((seW K sq sA sF sLe sMo sAl sRL sRM sLn sKL sKW fF fL fM u.2 sLeast sMost sCount sAllowed sLengths sKept sKeptLengths sKeptWords) ++ (grW K fF 4 gF) ++ (grW K fL 5 gL) ++ (grW K fM 5 gM)) → va_S A H0 H locs → lv_has ls 2 [(0, .ref sq)] → W p l e R s m args below meth c H locs cells slots Q (F0 m 20 ls [])) :
    ∀ (k : Nat) (v1 : Int32) (sAssigned : Nat → Option Nat), f_Se_forget_2 n  k v1 sAssigned = some out → ∀ (ls : Array Slot) (H : Heap) (locs : List Loc), va_P D vwCl ((seW K sq sA sF sLe sMo sAl sRL sRM sLn sKL sKW fF fL fM sAssigned sLeast sMost sCount sAllowed sLengths sKept sKeptLengths sKeptWords) ++ (grW K fF 4 gF) ++ (grW K fL 5 gL) ++ (grW K fM 5 gM)) H → va_D A ((seW K sq sA sF sLe sMo sAl sRL sRM sLn sKL sKW fF fL fM sAssigned sLeast sMost sCount sAllowed sLengths sKept sKeptLengths sKeptWords) ++ (grW K fF 4 gF) ++ (grW K fL 5 gL) ++ (grW K fM 5 gM)) → va_S A H0 H locs → lv_has ls 2 [(1, .int v1), (0, .ref sq)] → W p l e R s m args below meth c H locs cells slots Q (F0 m 2 ls []) := by
  intro k
  induction k with
  | zero => intro _ _ hf; exact nomatch (show none = some out from hf)
  | succ k ih =>
    intro v1 sAssigned hf ls H locs hP hD hS hl
    rw [f_Se_forget_2] at hf
    refine lv_iload_n hx hb d_Se_forget_2 rfl (lv_at hl 0 rfl) ?_
    refine lv_iconst (v := 4) hx hb d_Se_forget_3 (by decide) ?_
    refine lv_icmp_ge (tgt := 20) hx hb d_Se_forget_4 (by decide) (fun c3 => ?_) (fun c3 => ?_)
    · rw [if_pos c3] at hf
      exact Kx _ (Option.some.inj hf).symm _ _ _ hP hD hS (show lv_has ls 2 [(0, .ref sq)] from lv_sub hl [1] rfl)
    · rw [if_neg c3] at hf
      refine lv_aload_n hx hb d_Se_forget_7 rfl (lv_at hl 1 rfl) ?_
      refine va_get (D := D) (ci := 9) (v := .ref sA) (C := R_Se) (T := T_Se) (N := 12) hx hb hts in_Se hown hK hP 0 rfl rfl 0 (by decide) (hts _ fl_Se_11) (fun _ h9 => h9) rfl d_Se_forget_8 ?_
      refine lv_iload_n hx hb d_Se_forget_11 rfl (lv_at hl 0 rfl) ?_
      refine lv_null hx hb d_Se_forget_12 ?_
      obtain ⟨g4, hf⟩ := ogi hf
      refine va_astqN hx hb hK hP hD hS 1 3 rfl rfl (gin_in g4) d_Se_forget_13 (fun H locs hP hD hS => ?_)
      have hP : va_P D vwCl ((seW K sq sA sF sLe sMo sAl sRL sRM sLn sKL sKW fF fL fM (va_up sAssigned v1.toNatClampNeg none) sLeast sMost sCount sAllowed sLengths sKept sKeptLengths sKeptWords) ++ (grW K fF 4 gF) ++ (grW K fL 5 gL) ++ (grW K fM 5 gM)) H := hP
      have hD : va_D A ((seW K sq sA sF sLe sMo sAl sRL sRM sLn sKL sKW fF fL fM (va_up sAssigned v1.toNatClampNeg none) sLeast sMost sCount sAllowed sLengths sKept sKeptLengths sKeptWords) ++ (grW K fF 4 gF) ++ (grW K fL 5 gL) ++ (grW K fM 5 gM)) := hD
      refine lv_iinc (v := v1 + 1) (lv' := [(1, .int (v1 + 1)), (0, .ref sq)]) hx hb d_Se_forget_14 hl (k := 0) rfl (by first | rfl | (congr 1)) (by decide) rfl (fun ls hl => ?_)
      refine lv_goto (tgt := 2) hx hb d_Se_forget_17 (by decide) ?_
      exact ih _ _ hf _ _ _ hP hD hS (show lv_has ls 2 [(1, .int (v1 + 1)), (0, .ref sq)] from lv_sub hl [0, 1] rfl)
def f_Se_forget (n : Nat) (sAssigned : Nat → Option Nat) : Option ((Nat → Option Nat) × Int32 × Bool) :=
  (f_Se_forget_2 n  n 0 sAssigned).bind fun u5 =>
  some (u5.2, 0, false)
set_option maxHeartbeats 4000000 in
set_option maxRecDepth 100000 in
theorem w_Se_forget    (hx : p.tables.exec = Jvm.exec) (hb : c.code = b_Se_forget) (hml : c.maxLocals = 2) (hts : ∀ w ∈ gW, w.before args s = true) (hown : s.vm.findClass "RegularSolver$Search" = some m.cls) (hK : va_K D vwCl (tG K) s) (hRf : 0 ≤ R.frames) (hRl : 0 ≤ R.locals) (hRc : cells ≤ R.cells) (hRs : slots ≤ R.slots) (hA : ∀ q, H0.size ≤ q → A q) {out : (Nat → Option Nat) × Int32 × Bool} (Kr : ∀ (r : (Nat → Option Nat) × Int32 × Bool), out = r → ∀ (pc : Nat) (ls : Array Slot) (H : Heap) (locs : List Loc), decode b_Se_forget pc = .ok (.return_, 1) → va_P D vwCl ((seW K sq sA sF sLe sMo sAl sRL sRM sLn sKL sKW fF fL fM r.1 sLeast sMost r.2.1 sAllowed sLengths r.2.2 sKeptLengths sKeptWords) ++ (grW K fF 4 gF) ++ (grW K fL 5 gL) ++ (grW K fM 5 gM)) H → va_D A ((seW K sq sA sF sLe sMo sAl sRL sRM sLn sKL sKW fF fL fM r.1 sLeast sMost r.2.1 sAllowed sLengths r.2.2 sKeptLengths sKeptWords) ++ (grW K fF 4 gF) ++ (grW K fL 5 gL) ++ (grW K fM 5 gM)) → va_S A H0 H locs → W p l e R s m args below meth c H locs cells slots Q (F0 m pc ls [])) (hf : f_Se_forget n sAssigned = some out) (ls : Array Slot) (hP : va_P D vwCl ((seW K sq sA sF sLe sMo sAl sRL sRM sLn sKL sKW fF fL fM sAssigned sLeast sMost sCount sAllowed sLengths sKept sKeptLengths sKeptWords) ++ (grW K fF 4 gF) ++ (grW K fL 5 gL) ++ (grW K fM 5 gM)) H) (hD : va_D A ((seW K sq sA sF sLe sMo sAl sRL sRM sLn sKL sKW fF fL fM sAssigned sLeast sMost sCount sAllowed sLengths sKept sKeptLengths sKeptWords) ++ (grW K fF 4 gF) ++ (grW K fL 5 gL) ++ (grW K fM 5 gM))) (hS : va_S A H0 H locs) (hl : lv_has ls 2 [(0, .ref sq)]) : W p l e R s m args below meth c H locs cells slots Q (F0 m 0 ls []) := by
  unfold f_Se_forget at hf
  refine lv_iconst (v := 0) hx hb d_Se_forget_0 (by decide) ?_
  refine lv_istore_n (lv' := [(1, .int 0), (0, .ref sq)]) hx hb d_Se_forget_1 rfl hl (by decide) rfl (fun ls hl => ?_)
  obtain ⟨u5, eu5, hf⟩ := obd hf
  refine w_Se_forget_2 hx hb hml hts hown hK hRf hRl hRc hRs hA  (fun u5q eu ls H locs hP hD hS hl => ?_) _ _ _ eu5 _ _ _ hP hD hS (show lv_has ls 2 [(1, .int 0), (0, .ref sq)] from lv_sub hl [0, 1] rfl)
  subst eu
  refine lv_aload_n hx hb d_Se_forget_20 rfl (lv_at hl 0 rfl) ?_
  refine lv_iconst (v := 0) hx hb d_Se_forget_21 (by decide) ?_
  refine va_put (D := D) (ci := 9) (v := .int 0) (ty := .int) (C := R_Se) (T := T_Se) (N := 12) hx hb hts in_Se t_Se t_Se_ok n_Se hown hK hP hD hS 0 rfl rfl 4 (by decide) (hts _ fl_Se_29) (fun _ h9 => h9) rfl (by decide +kernel) rfl rfl (Nat.le_of_ble_eq_true rfl) d_Se_forget_22 (fun H locs hP hD hS => ?_)
  have hP : va_P D vwCl ((seW K sq sA sF sLe sMo sAl sRL sRM sLn sKL sKW fF fL fM u5.2 sLeast sMost 0 sAllowed sLengths sKept sKeptLengths sKeptWords) ++ (grW K fF 4 gF) ++ (grW K fL 5 gL) ++ (grW K fM 5 gM)) H := hP
  have hD : va_D A ((seW K sq sA sF sLe sMo sAl sRL sRM sLn sKL sKW fF fL fM u5.2 sLeast sMost 0 sAllowed sLengths sKept sKeptLengths sKeptWords) ++ (grW K fF 4 gF) ++ (grW K fL 5 gL) ++ (grW K fM 5 gM)) := hD
  refine lv_aload_n hx hb d_Se_forget_25 rfl (lv_at hl 0 rfl) ?_
  refine lv_iconst (v := 0) hx hb d_Se_forget_26 (by decide) ?_
  refine va_put (D := D) (ci := 9) (v := .int (bI false)) (ty := .boolean) (C := R_Se) (T := T_Se) (N := 12) hx hb hts in_Se t_Se t_Se_ok n_Se hown hK hP hD hS 0 rfl rfl 9 (by decide) (hts _ fl_Se_46) (fun _ h9 => h9) rfl (by decide +kernel) (bI_nar _) (bI_fit _) (Nat.le_of_ble_eq_true rfl) d_Se_forget_27 (fun H locs hP hD hS => ?_)
  have hP : va_P D vwCl ((seW K sq sA sF sLe sMo sAl sRL sRM sLn sKL sKW fF fL fM u5.2 sLeast sMost 0 sAllowed sLengths false sKeptLengths sKeptWords) ++ (grW K fF 4 gF) ++ (grW K fL 5 gL) ++ (grW K fM 5 gM)) H := hP
  have hD : va_D A ((seW K sq sA sF sLe sMo sAl sRL sRM sLn sKL sKW fF fL fM u5.2 sLeast sMost 0 sAllowed sLengths false sKeptLengths sKeptWords) ++ (grW K fF 4 gF) ++ (grW K fL 5 gL) ++ (grW K fM 5 gM)) := hD
  exact Kr _ (Option.some.inj hf).symm _ _ _ _ d_Se_forget_30 hP hD hS
set_option maxHeartbeats 4000000 in
set_option maxRecDepth 100000 in
theorem c_Se_forget (l : Launch)    {r : (Nat → Option Nat) × Int32 × Bool} (sz : Nat) (hf : f_Se_forget n sAssigned = some r) : Met l y_Se_forget w0_Se_forget ({ frames := 0, cells := 0, slots := 0, locals := 0 }) (wPre D K [.ref sq] ((seW K sq sA sF sLe sMo sAl sRL sRM sLn sKL sKW fF fL fM sAssigned sLeast sMost sCount sAllowed sLengths sKept sKeptLengths sKeptWords) ++ (grW K fF 4 gF) ++ (grW K fL 5 gL) ++ (grW K fM 5 gM)) sz) (wPost D K none ((seW K sq sA sF sLe sMo sAl sRL sRM sLn sKL sKW fF fL fM r.1 sLeast sMost r.2.1 sAllowed sLengths r.2.2 sKeptLengths sKeptWords) ++ (grW K fF 4 gF) ++ (grW K fL 5 gL) ++ (grW K fM 5 gM)) (va_A ((seW K sq sA sF sLe sMo sAl sRL sRM sLn sKL sKW fF fL fM sAssigned sLeast sMost sCount sAllowed sLengths sKept sKeptLengths sKeptWords) ++ (grW K fF 4 gF) ++ (grW K fL 5 gL) ++ (grW K fM 5 gM)) sz)) 0 0 (va_A ((seW K sq sA sF sLe sMo sAl sRL sRM sLn sKL sKW fF fL fM sAssigned sLeast sMost sCount sAllowed sLengths sKept sKeptLengths sKeptWords) ++ (grW K fF 4 gF) ++ (grW K fL 5 gL) ++ (grW K fM 5 gM)) sz) := by
  refine Met.ofW (cc := b_Se_forget) (maxL := 2) (ret := none) (by decide) rfl ?_
  intro p e s m args below meth c s₁ B hml hv
  obtain ⟨rfl, hsz, hP, hK, hD0⟩ := hv
  subst hsz
  have hl := lv_entry [.ref sq] (n := 2) (Nat.le_of_ble_eq_true rfl)
  rw [lg_entry_eq]
  generalize (lg_sl [.ref sq] ++ List.replicate (2 - (lg_sl [.ref sq]).length) Slot.unset).toArray = ls at hl ⊢
  refine w_Se_forget (A := va_A ((seW K sq sA sF sLe sMo sAl sRL sRM sLn sKL sKW fF fL fM sAssigned sLeast sMost sCount sAllowed sLengths sKept sKeptLengths sKeptWords) ++ (grW K fF 4 gF) ++ (grW K fL 5 gL) ++ (grW K fM 5 gM)) s.heap.size) (H0 := s.heap) B.exec B.bytes hml (fun w hw => atoms_spec (ws := w0_Se_forget) B.pre w (List.mem_cons_of_mem _ hw)) (findClass_of_methodNamed B.named) hK (Nat.le_refl _) (Nat.le_refl _) (Nat.zero_le _) (Nat.zero_le _) (fun q h => Or.inr h) (fun r er pc ls H locs hd hP hD hS => ?_) hf ls hP (hD0.self (sz := s.heap.size)) va_S.rf hl
  subst er
  exact W.vret B.exec B.bytes B.returns (fun t ht hW => ⟨⟨rfl, by rw [ht]; exact hP, va_K.moved hW.alike hK, hD⟩, hS.F ht⟩) hS.2.2 hd (hlocks := B.notSynchronized)
end
section
variable {p : Program} {l : Launch} {e : Env} {R : Room} {s : State} {m : MethodId} {args : Array Value} {below : List Frame} {meth : Method} {c : Code} {H : Heap} {locs : List Loc} {cells slots : Nat} {Q : State → Prop} {A : Nat → Prop} {H0 : Heap}
variable {n : Nat} {D : va_G} {K : Nat → ClassId} {sq : Nat} {sA : Nat} {sF : Nat} {sLe : Nat} {sMo : Nat} {sAl : Nat} {sRL : Nat} {sRM : Nat} {sLn : Nat} {sKL : Nat} {sKW : Nat} {fF : Nat → Nat} {fL : Nat → Nat} {fM : Nat → Nat} {sAssigned : Nat → Option Nat} {sLeast : Nat → Int32} {sMost : Nat → Int32} {sCount : Int32} {sAllowed : Nat → Int64} {sLengths : Nat → Int32} {sKept : Bool} {sKeptLengths : Nat → Int32} {sKeptWords : Nat → Int64} {gF : Nat → Nat → Int32} {gL : Nat → Nat → Int32} {gM : Nat → Nat → Int32}
def f_Se_isWeighed_2 (n : Nat) (v1 : Int32) (sCount : Int32) (gF : Nat → Nat → Int32) : Nat → Int32 → Option ((Bool) ⊕ (Int32))
  | 0, _ => none
  | k + 1, v2 =>
    if sCount ≤ v2 then
      some (.inr v2)
    else
      ogd (gin v2 8) <|
      ogd (gin v1 4) <|
      if (gF v2.toNatClampNeg v1.toNatClampNeg) = 0 then
        f_Se_isWeighed_2 n v1 sCount gF k (v2 + 1)
      else
        some (.inl true)
set_option maxHeartbeats 4000000 in
set_option maxRecDepth 100000 in
theorem w_Se_isWeighed_2  {v1 : Int32} (hx : p.tables.exec = Jvm.exec) (hb : c.code = b_Se_isWeighed) (hml : c.maxLocals = 3) (hts : ∀ w ∈ gW, w.before args s = true) (hown : s.vm.findClass "RegularSolver$Search" = some m.cls) (hK : va_K D vwCl (tG K) s) (hRf : 0 ≤ R.frames) (hRl : 0 ≤ R.locals) (hRc : cells ≤ R.cells) (hRs : slots ≤ R.slots) (hP : va_P D vwCl ((seW K sq sA sF sLe sMo sAl sRL sRM sLn sKL sKW fF fL fM sAssigned sLeast sMost sCount sAllowed sLengths sKept sKeptLengths sKeptWords) ++ (grW K fF 4 gF) ++ (grW K fL 5 gL) ++ (grW K fM 5 gM)) H)  {out : (Bool) ⊕ (Int32)} (Kr : ∀ (r : Bool), out = .inl r → ∀ (pc : Nat) (ls : Array Slot), decode b_Se_isWeighed pc = .ok (.ireturn, 1) → W p l e R s m args below meth c H locs cells slots Q (F0 m pc ls [.int (bI r)])) (Kx : ∀ (u : Int32), out = .inr u → ∀ (ls : Array Slot), lv_has ls 3 [] → W p l e R s m args below meth c H locs cells slots Q (F0 m 29 ls [])) :
    ∀ (k : Nat) (v2 : Int32), f_Se_isWeighed_2 n v1 sCount gF k v2 = some out → ∀ (ls : Array Slot), lv_has ls 3 [(2, .int v2), (0, .ref sq), (1, .int v1)] → W p l e R s m args below meth c H locs cells slots Q (F0 m 2 ls []) := by
  intro k
  induction k with
  | zero => intro _ hf; exact nomatch (show none = some out from hf)
  | succ k ih =>
    intro v2 hf ls hl
    rw [f_Se_isWeighed_2] at hf
    refine lv_iload_n hx hb d_Se_isWeighed_2 rfl (lv_at hl 0 rfl) ?_
    refine lv_aload_n hx hb d_Se_isWeighed_3 rfl (lv_at hl 1 rfl) ?_
    refine va_get (D := D) (ci := 9) (v := .int sCount) (C := R_Se) (T := T_Se) (N := 12) hx hb hts in_Se hown hK hP 0 rfl rfl 4 (by decide) (hts _ fl_Se_29) (fun _ h9 => h9) rfl d_Se_isWeighed_4 ?_
    refine lv_icmp_ge (tgt := 29) hx hb d_Se_isWeighed_7 (by decide) (fun c5 => ?_) (fun c5 => ?_)
    · rw [if_pos c5] at hf
      exact Kx _ (Option.some.inj hf).symm _ (show lv_has ls 3 [] from lv_sub hl [] rfl)
    · rw [if_neg c5] at hf
      refine lv_aload_n hx hb d_Se_isWeighed_10 rfl (lv_at hl 1 rfl) ?_
      refine va_get (D := D) (ci := 9) (v := .ref sF) (C := R_Se) (T := T_Se) (N := 12) hx hb hts in_Se hown hK hP 0 rfl rfl 1 (by decide) (hts _ fl_Se_19) (fun _ h9 => h9) rfl d_Se_isWeighed_11 ?_
      refine lv_iload_n hx hb d_Se_isWeighed_14 rfl (lv_at hl 0 rfl) ?_
      obtain ⟨g6, hf⟩ := ogi hf
      refine gr_ald hx hb hK hP 2 4 rfl rfl (gin_in g6) d_Se_isWeighed_15 ?_
      refine lv_iload_n hx hb d_Se_isWeighed_16 rfl (lv_at hl 2 rfl) ?_
      obtain ⟨g7, hf⟩ := ogi hf
      refine va_iald hx hb hK (vaR (vaL (vaL hP))) v2.toNatClampNeg 0 (gr_at (gin_lt g6)) rfl (gin_in g7) d_Se_isWeighed_17 ?_
      refine lv_if_eq (tgt := 23) hx hb d_Se_isWeighed_18 (by decide) (fun c8 => ?_) (fun c8 => ?_)
      · rw [if_pos c8] at hf
        refine lv_iinc (v := v2 + 1) (lv' := [(2, .int (v2 + 1)), (0, .ref sq), (1, .int v1)]) hx hb d_Se_isWeighed_23 hl (k := 0) rfl (by first | rfl | (congr 1)) (by decide) rfl (fun ls hl => ?_)
        refine lv_goto (tgt := 2) hx hb d_Se_isWeighed_26 (by decide) ?_
        exact ih _ hf _ (show lv_has ls 3 [(2, .int (v2 + 1)), (0, .ref sq), (1, .int v1)] from lv_sub hl [0, 1, 2] rfl)
      · rw [if_neg c8] at hf
        refine lv_iconst (v := 1) hx hb d_Se_isWeighed_21 (by decide) ?_
        exact Kr _ (Option.some.inj hf).symm _ _ d_Se_isWeighed_22
def f_Se_isWeighed (n : Nat) (p0 : Int32) (sCount : Int32) (gF : Nat → Nat → Int32) : Option (Bool) :=
  (f_Se_isWeighed_2 n p0 sCount gF n 0).bind fun u9 => u9.elim (fun r => some r) fun x9 =>
  some false
set_option maxHeartbeats 4000000 in
set_option maxRecDepth 100000 in
theorem w_Se_isWeighed  {p0 : Int32}  (hx : p.tables.exec = Jvm.exec) (hb : c.code = b_Se_isWeighed) (hml : c.maxLocals = 3) (hts : ∀ w ∈ gW, w.before args s = true) (hown : s.vm.findClass "RegularSolver$Search" = some m.cls) (hK : va_K D vwCl (tG K) s) (hRf : 0 ≤ R.frames) (hRl : 0 ≤ R.locals) (hRc : cells ≤ R.cells) (hRs : slots ≤ R.slots) (hP : va_P D vwCl ((seW K sq sA sF sLe sMo sAl sRL sRM sLn sKL sKW fF fL fM sAssigned sLeast sMost sCount sAllowed sLengths sKept sKeptLengths sKeptWords) ++ (grW K fF 4 gF) ++ (grW K fL 5 gL) ++ (grW K fM 5 gM)) H) {out : Bool} (Kr : ∀ (r : Bool), out = r → ∀ (pc : Nat) (ls : Array Slot), decode b_Se_isWeighed pc = .ok (.ireturn, 1) → W p l e R s m args below meth c H locs cells slots Q (F0 m pc ls [.int (bI r)])) (hf : f_Se_isWeighed n p0 sCount gF = some out) (ls : Array Slot) (hl : lv_has ls 3 [(0, .ref sq), (1, .int p0)]) : W p l e R s m args below meth c H locs cells slots Q (F0 m 0 ls []) := by
  unfold f_Se_isWeighed at hf
  refine lv_iconst (v := 0) hx hb d_Se_isWeighed_0 (by decide) ?_
  refine lv_istore_n (lv' := [(2, .int 0), (0, .ref sq), (1, .int p0)]) hx hb d_Se_isWeighed_1 rfl hl (by decide) rfl (fun ls hl => ?_)
  obtain ⟨u9, eu9, hf⟩ := obd hf
  refine w_Se_isWeighed_2 hx hb hml hts hown hK hRf hRl hRc hRs hP (fun r er pc ls hd => Kr r (by subst er; exact (Option.some.inj hf).symm) pc ls hd) (fun x9 eu ls hl => ?_) _ _ eu9 _ (show lv_has ls 3 [(2, .int 0), (0, .ref sq), (1, .int p0)] from lv_sub hl [0, 1, 2] rfl)
  subst eu
  replace hf := oel hf
  refine lv_iconst (v := 0) hx hb d_Se_isWeighed_29 (by decide) ?_
  exact Kr _ (Option.some.inj hf).symm _ _ d_Se_isWeighed_30
set_option maxHeartbeats 4000000 in
set_option maxRecDepth 100000 in
theorem c_Se_isWeighed (l : Launch)  {p0 : Int32}  {r : Bool} (hf : f_Se_isWeighed n p0 sCount gF = some r) : Met l y_Se_isWeighed w0_Se_isWeighed ({ frames := 0, cells := 0, slots := 0, locals := 0 }) (pPre D K [.ref sq, .int p0] (((seW K sq sA sF sLe sMo sAl sRL sRM sLn sKL sKW fF fL fM sAssigned sLeast sMost sCount sAllowed sLengths sKept sKeptLengths sKeptWords) ++ (grW K fF 4 gF) ++ (grW K fL 5 gL) ++ (grW K fM 5 gM)))) (pPost (some (.int (bI r)))) 0 0 (fun _ => False) := by
  refine Met.ofW (cc := b_Se_isWeighed) (maxL := 3) (ret := (some .boolean)) (by decide) rfl ?_
  intro p e s m args below meth c s₁ B hml hv
  obtain ⟨rfl, hP, hK⟩ := hv
  have hl := lv_entry [.ref sq, .int p0] (n := 3) (Nat.le_of_ble_eq_true rfl)
  rw [lg_entry_eq]
  generalize (lg_sl [.ref sq, .int p0] ++ List.replicate (3 - (lg_sl [.ref sq, .int p0]).length) Slot.unset).toArray = ls at hl ⊢
  refine w_Se_isWeighed B.exec B.bytes hml (fun w hw => atoms_spec (ws := w0_Se_isWeighed) B.pre w (List.mem_cons_of_mem _ hw)) (findClass_of_methodNamed B.named) hK (Nat.le_refl _) (Nat.le_refl _) (Nat.zero_le _) (Nat.zero_le _) hP (fun r er pc ls hd => ?_) hf ls hl
  subst er
  exact W.zret B.exec B.bytes B.returns (bI_nar _) (fun t ht hW => ⟨rfl, ht⟩) (fun q h => by cases h) hd (hlocks := B.notSynchronized)
end
section
variable {p : Program} {l : Launch} {e : Env} {R : Room} {s : State} {m : MethodId} {args : Array Value} {below : List Frame} {meth : Method} {c : Code} {H : Heap} {locs : List Loc} {cells slots : Nat} {Q : State → Prop} {A : Nat → Prop} {H0 : Heap}
variable {n : Nat} {D : va_G} {K : Nat → ClassId} {sq : Nat} {sA : Nat} {sF : Nat} {sLe : Nat} {sMo : Nat} {sAl : Nat} {sRL : Nat} {sRM : Nat} {sLn : Nat} {sKL : Nat} {sKW : Nat} {fF : Nat → Nat} {fL : Nat → Nat} {fM : Nat → Nat} {sAssigned : Nat → Option Nat} {sLeast : Nat → Int32} {sMost : Nat → Int32} {sCount : Int32} {sAllowed : Nat → Int64} {sLengths : Nat → Int32} {sKept : Bool} {sKeptLengths : Nat → Int32} {sKeptWords : Nat → Int64} {gF : Nat → Nat → Int32} {gL : Nat → Nat → Int32} {gM : Nat → Nat → Int32}
def f_Se_shortestAllowed_2 (n : Nat) (v1 : Int32) (sAllowed : Nat → Int64) : Nat → Int32 → Option (Int32)
  | 0, _ => none
  | k + 1, v2 =>
    if 31 ≤ v2 then
      some v2
    else
      ogd (gin v1 4) <|
      if ((lushr (sAllowed v1.toNatClampNeg) v2) &&& 1) = 0 then
        f_Se_shortestAllowed_2 n v1 sAllowed k (v2 + 1)
      else
        some v2
set_option maxHeartbeats 4000000 in
set_option maxRecDepth 100000 in
theorem w_Se_shortestAllowed_2  {v1 : Int32} (hx : p.tables.exec = Jvm.exec) (hb : c.code = b_Se_shortestAllowed) (hml : c.maxLocals = 3) (hts : ∀ w ∈ gW, w.before args s = true) (hown : s.vm.findClass "RegularSolver$Search" = some m.cls) (hK : va_K D vwCl (tG K) s) (hRf : 0 ≤ R.frames) (hRl : 0 ≤ R.locals) (hRc : cells ≤ R.cells) (hRs : slots ≤ R.slots) (hP : va_P D vwCl ((seW K sq sA sF sLe sMo sAl sRL sRM sLn sKL sKW fF fL fM sAssigned sLeast sMost sCount sAllowed sLengths sKept sKeptLengths sKeptWords) ++ (grW K fF 4 gF) ++ (grW K fL 5 gL) ++ (grW K fM 5 gM)) H)  {out : Int32} (Kx : ∀ (u : Int32), out = u → ∀ (ls : Array Slot), lv_has ls 3 [(2, .int u)] → W p l e R s m args below meth c H locs cells slots Q (F0 m 29 ls [])) :
    ∀ (k : Nat) (v2 : Int32), f_Se_shortestAllowed_2 n v1 sAllowed k v2 = some out → ∀ (ls : Array Slot), lv_has ls 3 [(2, .int v2), (0, .ref sq), (1, .int v1)] → W p l e R s m args below meth c H locs cells slots Q (F0 m 2 ls []) := by
  intro k
  induction k with
  | zero => intro _ hf; exact nomatch (show none = some out from hf)
  | succ k ih =>
    intro v2 hf ls hl
    rw [f_Se_shortestAllowed_2] at hf
    refine lv_iload_n hx hb d_Se_shortestAllowed_2 rfl (lv_at hl 0 rfl) ?_
    refine lv_bipush (v := 31) hx hb d_Se_shortestAllowed_3 (by decide) ?_
    refine lv_icmp_ge (tgt := 29) hx hb d_Se_shortestAllowed_5 (by decide) (fun c4 => ?_) (fun c4 => ?_)
    · rw [if_pos c4] at hf
      exact Kx _ (Option.some.inj hf).symm _ (show lv_has ls 3 [(2, .int v2)] from lv_sub hl [0] rfl)
    · rw [if_neg c4] at hf
      refine lv_aload_n hx hb d_Se_shortestAllowed_8 rfl (lv_at hl 1 rfl) ?_
      refine va_get (D := D) (ci := 9) (v := .ref sAl) (C := R_Se) (T := T_Se) (N := 12) hx hb hts in_Se hown hK hP 0 rfl rfl 5 (by decide) (hts _ fl_Se_33) (fun _ h9 => h9) rfl d_Se_shortestAllowed_9 ?_
      refine lv_iload_n hx hb d_Se_shortestAllowed_12 rfl (lv_at hl 2 rfl) ?_
      obtain ⟨g5, hf⟩ := ogi hf
      refine va_lald hx hb hK hP 5 1 rfl rfl (gin_in g5) d_Se_shortestAllowed_13 ?_
      refine lv_iload_n hx hb d_Se_shortestAllowed_14 rfl (lv_at hl 0 rfl) ?_
      refine lv_lushr (v := lushr (sAllowed v1.toNatClampNeg) v2) hx hb d_Se_shortestAllowed_15 rfl ?_
      refine lv_lconst (v := 1) hx hb d_Se_shortestAllowed_16 (by decide) ?_
      refine lv_land hx hb d_Se_shortestAllowed_17 ?_
      refine lv_lconst (v := 0) hx hb d_Se_shortestAllowed_18 (by decide) ?_
      refine W.lcmp hx hb d_Se_shortestAllowed_19 ?_
      refine lc_ne (tgt := 29) hx hb d_Se_shortestAllowed_20 (by decide) (fun c6 => ?_) (fun c6 => ?_)
      · rw [if_neg c6] at hf
        exact Kx _ (Option.some.inj hf).symm _ (show lv_has ls 3 [(2, .int v2)] from lv_sub hl [0] rfl)
      · rw [if_pos c6] at hf
        refine lv_iinc (v := v2 + 1) (lv' := [(2, .int (v2 + 1)), (0, .ref sq), (1, .int v1)]) hx hb d_Se_shortestAllowed_23 hl (k := 0) rfl (by first | rfl | (congr 1)) (by decide) rfl (fun ls hl => ?_)
        refine lv_goto (tgt := 2) hx hb d_Se_shortestAllowed_26 (by decide) ?_
        exact ih _ hf _ (show lv_has ls 3 [(2, .int (v2 + 1)), (0, .ref sq), (1, .int v1)] from lv_sub hl [0, 1, 2] rfl)
def f_Se_shortestAllowed (n : Nat) (p0 : Int32) (sAllowed : Nat → Int64) : Option (Int32) :=
  (f_Se_shortestAllowed_2 n p0 sAllowed n 0).bind fun u7 =>
  some u7
set_option maxHeartbeats 4000000 in
set_option maxRecDepth 100000 in
theorem w_Se_shortestAllowed  {p0 : Int32}  (hx : p.tables.exec = Jvm.exec) (hb : c.code = b_Se_shortestAllowed) (hml : c.maxLocals = 3) (hts : ∀ w ∈ gW, w.before args s = true) (hown : s.vm.findClass "RegularSolver$Search" = some m.cls) (hK : va_K D vwCl (tG K) s) (hRf : 0 ≤ R.frames) (hRl : 0 ≤ R.locals) (hRc : cells ≤ R.cells) (hRs : slots ≤ R.slots) (hP : va_P D vwCl ((seW K sq sA sF sLe sMo sAl sRL sRM sLn sKL sKW fF fL fM sAssigned sLeast sMost sCount sAllowed sLengths sKept sKeptLengths sKeptWords) ++ (grW K fF 4 gF) ++ (grW K fL 5 gL) ++ (grW K fM 5 gM)) H) {out : Int32} (Kr : ∀ (r : Int32), out = r → ∀ (pc : Nat) (ls : Array Slot), decode b_Se_shortestAllowed pc = .ok (.ireturn, 1) → W p l e R s m args below meth c H locs cells slots Q (F0 m pc ls [.int r])) (hf : f_Se_shortestAllowed n p0 sAllowed = some out) (ls : Array Slot) (hl : lv_has ls 3 [(0, .ref sq), (1, .int p0)]) : W p l e R s m args below meth c H locs cells slots Q (F0 m 0 ls []) := by
  unfold f_Se_shortestAllowed at hf
  refine lv_iconst (v := 0) hx hb d_Se_shortestAllowed_0 (by decide) ?_
  refine lv_istore_n (lv' := [(2, .int 0), (0, .ref sq), (1, .int p0)]) hx hb d_Se_shortestAllowed_1 rfl hl (by decide) rfl (fun ls hl => ?_)
  obtain ⟨u7, eu7, hf⟩ := obd hf
  refine w_Se_shortestAllowed_2 hx hb hml hts hown hK hRf hRl hRc hRs hP  (fun u7q eu ls hl => ?_) _ _ eu7 _ (show lv_has ls 3 [(2, .int 0), (0, .ref sq), (1, .int p0)] from lv_sub hl [0, 1, 2] rfl)
  subst eu
  refine lv_iload_n hx hb d_Se_shortestAllowed_29 rfl (lv_at hl 0 rfl) ?_
  exact Kr _ (Option.some.inj hf).symm _ _ d_Se_shortestAllowed_30
set_option maxHeartbeats 4000000 in
set_option maxRecDepth 100000 in
theorem c_Se_shortestAllowed (l : Launch)  {p0 : Int32}  {r : Int32} (hf : f_Se_shortestAllowed n p0 sAllowed = some r) : Met l y_Se_shortestAllowed w0_Se_shortestAllowed ({ frames := 0, cells := 0, slots := 0, locals := 0 }) (pPre D K [.ref sq, .int p0] (((seW K sq sA sF sLe sMo sAl sRL sRM sLn sKL sKW fF fL fM sAssigned sLeast sMost sCount sAllowed sLengths sKept sKeptLengths sKeptWords) ++ (grW K fF 4 gF) ++ (grW K fL 5 gL) ++ (grW K fM 5 gM)))) (pPost (some (.int r))) 0 0 (fun _ => False) := by
  refine Met.ofW (cc := b_Se_shortestAllowed) (maxL := 3) (ret := (some .int)) (by decide) rfl ?_
  intro p e s m args below meth c s₁ B hml hv
  obtain ⟨rfl, hP, hK⟩ := hv
  have hl := lv_entry [.ref sq, .int p0] (n := 3) (Nat.le_of_ble_eq_true rfl)
  rw [lg_entry_eq]
  generalize (lg_sl [.ref sq, .int p0] ++ List.replicate (3 - (lg_sl [.ref sq, .int p0]).length) Slot.unset).toArray = ls at hl ⊢
  refine w_Se_shortestAllowed B.exec B.bytes hml (fun w hw => atoms_spec (ws := w0_Se_shortestAllowed) B.pre w (List.mem_cons_of_mem _ hw)) (findClass_of_methodNamed B.named) hK (Nat.le_refl _) (Nat.le_refl _) (Nat.zero_le _) (Nat.zero_le _) hP (fun r er pc ls hd => ?_) hf ls hl
  subst er
  exact W.iret B.exec B.bytes B.returns (fun t ht hW => ⟨rfl, ht⟩) (fun q h => by cases h) hd (hlocks := B.notSynchronized)
end
section
variable {p : Program} {l : Launch} {e : Env} {R : Room} {s : State} {m : MethodId} {args : Array Value} {below : List Frame} {meth : Method} {c : Code} {H : Heap} {locs : List Loc} {cells slots : Nat} {Q : State → Prop} {A : Nat → Prop} {H0 : Heap}
variable {n : Nat} {D : va_G} {K : Nat → ClassId} {sq : Nat} {sA : Nat} {sF : Nat} {sLe : Nat} {sMo : Nat} {sAl : Nat} {sRL : Nat} {sRM : Nat} {sLn : Nat} {sKL : Nat} {sKW : Nat} {fF : Nat → Nat} {fL : Nat → Nat} {fM : Nat → Nat} {sAssigned : Nat → Option Nat} {sLeast : Nat → Int32} {sMost : Nat → Int32} {sCount : Int32} {sAllowed : Nat → Int64} {sLengths : Nat → Int32} {sKept : Bool} {sKeptLengths : Nat → Int32} {sKeptWords : Nat → Int64} {gF : Nat → Nat → Int32} {gL : Nat → Nat → Int32} {gM : Nat → Nat → Int32}
def f_Se_longestAllowed_3 (n : Nat) (v1 : Int32) (sAllowed : Nat → Int64) : Nat → Int32 → Option (Int32)
  | 0, _ => none
  | k + 1, v2 =>
    if v2 ≤ 0 then
      some v2
    else
      ogd (gin v1 4) <|
      if ((lushr (sAllowed v1.toNatClampNeg) v2) &&& 1) = 0 then
        f_Se_longestAllowed_3 n v1 sAllowed k (v2 + (-1))
      else
        some v2
set_option maxHeartbeats 4000000 in
set_option maxRecDepth 100000 in
theorem w_Se_longestAllowed_3  {v1 : Int32} (hx : p.tables.exec = Jvm.exec) (hb : c.code = b_Se_longestAllowed) (hml : c.maxLocals = 3) (hts : ∀ w ∈ gW, w.before args s = true) (hown : s.vm.findClass "RegularSolver$Search" = some m.cls) (hK : va_K D vwCl (tG K) s) (hRf : 0 ≤ R.frames) (hRl : 0 ≤ R.locals) (hRc : cells ≤ R.cells) (hRs : slots ≤ R.slots) (hP : va_P D vwCl ((seW K sq sA sF sLe sMo sAl sRL sRM sLn sKL sKW fF fL fM sAssigned sLeast sMost sCount sAllowed sLengths sKept sKeptLengths sKeptWords) ++ (grW K fF 4 gF) ++ (grW K fL 5 gL) ++ (grW K fM 5 gM)) H)  {out : Int32} (Kx : ∀ (u : Int32), out = u → ∀ (ls : Array Slot), lv_has ls 3 [(2, .int u)] → W p l e R s m args below meth c H locs cells slots Q (F0 m 28 ls [])) :
    ∀ (k : Nat) (v2 : Int32), f_Se_longestAllowed_3 n v1 sAllowed k v2 = some out → ∀ (ls : Array Slot), lv_has ls 3 [(2, .int v2), (0, .ref sq), (1, .int v1)] → W p l e R s m args below meth c H locs cells slots Q (F0 m 3 ls []) := by
  intro k
  induction k with
  | zero => intro _ hf; exact nomatch (show none = some out from hf)
  | succ k ih =>
    intro v2 hf ls hl
    rw [f_Se_longestAllowed_3] at hf
    refine lv_iload_n hx hb d_Se_longestAllowed_3 rfl (lv_at hl 0 rfl) ?_
    refine lv_if_le (tgt := 28) hx hb d_Se_longestAllowed_4 (by decide) (fun c4 => ?_) (fun c4 => ?_)
    · rw [if_pos c4] at hf
      exact Kx _ (Option.some.inj hf).symm _ (show lv_has ls 3 [(2, .int v2)] from lv_sub hl [0] rfl)
    · rw [if_neg c4] at hf
      refine lv_aload_n hx hb d_Se_longestAllowed_7 rfl (lv_at hl 1 rfl) ?_
      refine va_get (D := D) (ci := 9) (v := .ref sAl) (C := R_Se) (T := T_Se) (N := 12) hx hb hts in_Se hown hK hP 0 rfl rfl 5 (by decide) (hts _ fl_Se_33) (fun _ h9 => h9) rfl d_Se_longestAllowed_8 ?_
      refine lv_iload_n hx hb d_Se_longestAllowed_11 rfl (lv_at hl 2 rfl) ?_
      obtain ⟨g5, hf⟩ := ogi hf
      refine va_lald hx hb hK hP 5 1 rfl rfl (gin_in g5) d_Se_longestAllowed_12 ?_
      refine lv_iload_n hx hb d_Se_longestAllowed_13 rfl (lv_at hl 0 rfl) ?_
      refine lv_lushr (v := lushr (sAllowed v1.toNatClampNeg) v2) hx hb d_Se_longestAllowed_14 rfl ?_
      refine lv_lconst (v := 1) hx hb d_Se_longestAllowed_15 (by decide) ?_
      refine lv_land hx hb d_Se_longestAllowed_16 ?_
      refine lv_lconst (v := 0) hx hb d_Se_longestAllowed_17 (by decide) ?_
      refine W.lcmp hx hb d_Se_longestAllowed_18 ?_
      refine lc_ne (tgt := 28) hx hb d_Se_longestAllowed_19 (by decide) (fun c6 => ?_) (fun c6 => ?_)
      · rw [if_neg c6] at hf
        exact Kx _ (Option.some.inj hf).symm _ (show lv_has ls 3 [(2, .int v2)] from lv_sub hl [0] rfl)
      · rw [if_pos c6] at hf
        refine lv_iinc (v := v2 + (-1)) (lv' := [(2, .int (v2 + (-1))), (0, .ref sq), (1, .int v1)]) hx hb d_Se_longestAllowed_22 hl (k := 0) rfl (by first | rfl | (congr 1)) (by decide) rfl (fun ls hl => ?_)
        refine lv_goto (tgt := 3) hx hb d_Se_longestAllowed_25 (by decide) ?_
        exact ih _ hf _ (show lv_has ls 3 [(2, .int (v2 + (-1))), (0, .ref sq), (1, .int v1)] from lv_sub hl [0, 1, 2] rfl)
def f_Se_longestAllowed (n : Nat) (p0 : Int32) (sAllowed : Nat → Int64) : Option (Int32) :=
  (f_Se_longestAllowed_3 n p0 sAllowed n 31).bind fun u7 =>
  some u7
set_option maxHeartbeats 4000000 in
set_option maxRecDepth 100000 in
theorem w_Se_longestAllowed  {p0 : Int32}  (hx : p.tables.exec = Jvm.exec) (hb : c.code = b_Se_longestAllowed) (hml : c.maxLocals = 3) (hts : ∀ w ∈ gW, w.before args s = true) (hown : s.vm.findClass "RegularSolver$Search" = some m.cls) (hK : va_K D vwCl (tG K) s) (hRf : 0 ≤ R.frames) (hRl : 0 ≤ R.locals) (hRc : cells ≤ R.cells) (hRs : slots ≤ R.slots) (hP : va_P D vwCl ((seW K sq sA sF sLe sMo sAl sRL sRM sLn sKL sKW fF fL fM sAssigned sLeast sMost sCount sAllowed sLengths sKept sKeptLengths sKeptWords) ++ (grW K fF 4 gF) ++ (grW K fL 5 gL) ++ (grW K fM 5 gM)) H) {out : Int32} (Kr : ∀ (r : Int32), out = r → ∀ (pc : Nat) (ls : Array Slot), decode b_Se_longestAllowed pc = .ok (.ireturn, 1) → W p l e R s m args below meth c H locs cells slots Q (F0 m pc ls [.int r])) (hf : f_Se_longestAllowed n p0 sAllowed = some out) (ls : Array Slot) (hl : lv_has ls 3 [(0, .ref sq), (1, .int p0)]) : W p l e R s m args below meth c H locs cells slots Q (F0 m 0 ls []) := by
  unfold f_Se_longestAllowed at hf
  refine lv_bipush (v := 31) hx hb d_Se_longestAllowed_0 (by decide) ?_
  refine lv_istore_n (lv' := [(2, .int 31), (0, .ref sq), (1, .int p0)]) hx hb d_Se_longestAllowed_2 rfl hl (by decide) rfl (fun ls hl => ?_)
  obtain ⟨u7, eu7, hf⟩ := obd hf
  refine w_Se_longestAllowed_3 hx hb hml hts hown hK hRf hRl hRc hRs hP  (fun u7q eu ls hl => ?_) _ _ eu7 _ (show lv_has ls 3 [(2, .int 31), (0, .ref sq), (1, .int p0)] from lv_sub hl [0, 1, 2] rfl)
  subst eu
  refine lv_iload_n hx hb d_Se_longestAllowed_28 rfl (lv_at hl 0 rfl) ?_
  exact Kr _ (Option.some.inj hf).symm _ _ d_Se_longestAllowed_29
set_option maxHeartbeats 4000000 in
set_option maxRecDepth 100000 in
theorem c_Se_longestAllowed (l : Launch)  {p0 : Int32}  {r : Int32} (hf : f_Se_longestAllowed n p0 sAllowed = some r) : Met l y_Se_longestAllowed w0_Se_longestAllowed ({ frames := 0, cells := 0, slots := 0, locals := 0 }) (pPre D K [.ref sq, .int p0] (((seW K sq sA sF sLe sMo sAl sRL sRM sLn sKL sKW fF fL fM sAssigned sLeast sMost sCount sAllowed sLengths sKept sKeptLengths sKeptWords) ++ (grW K fF 4 gF) ++ (grW K fL 5 gL) ++ (grW K fM 5 gM)))) (pPost (some (.int r))) 0 0 (fun _ => False) := by
  refine Met.ofW (cc := b_Se_longestAllowed) (maxL := 3) (ret := (some .int)) (by decide) rfl ?_
  intro p e s m args below meth c s₁ B hml hv
  obtain ⟨rfl, hP, hK⟩ := hv
  have hl := lv_entry [.ref sq, .int p0] (n := 3) (Nat.le_of_ble_eq_true rfl)
  rw [lg_entry_eq]
  generalize (lg_sl [.ref sq, .int p0] ++ List.replicate (3 - (lg_sl [.ref sq, .int p0]).length) Slot.unset).toArray = ls at hl ⊢
  refine w_Se_longestAllowed B.exec B.bytes hml (fun w hw => atoms_spec (ws := w0_Se_longestAllowed) B.pre w (List.mem_cons_of_mem _ hw)) (findClass_of_methodNamed B.named) hK (Nat.le_refl _) (Nat.le_refl _) (Nat.zero_le _) (Nat.zero_le _) hP (fun r er pc ls hd => ?_) hf ls hl
  subst er
  exact W.iret B.exec B.bytes B.returns (fun t ht hW => ⟨rfl, ht⟩) (fun q h => by cases h) hd (hlocks := B.notSynchronized)
end
section
variable {p : Program} {l : Launch} {e : Env} {R : Room} {s : State} {m : MethodId} {args : Array Value} {below : List Frame} {meth : Method} {c : Code} {H : Heap} {locs : List Loc} {cells slots : Nat} {Q : State → Prop} {A : Nat → Prop} {H0 : Heap}
variable {n : Nat} {D : va_G} {K : Nat → ClassId}  
def f_Se_quotientAbove (n : Nat) (p0 : Int64) (p1 : Int64) : Option (Int64) :=
  (f_Mt_floorDiv_J n (-p0) p1).bind fun u1 =>
  some (-u1)
set_option maxHeartbeats 4000000 in
set_option maxRecDepth 100000 in
theorem w_Se_quotientAbove  {p0 : Int64} {p1 : Int64}  (hx : p.tables.exec = Jvm.exec) (hb : c.code = b_Se_quotientAbove) (hml : c.maxLocals = 4) (hts : ∀ w ∈ gW, w.before args s = true) (hown : s.vm.findClass "RegularSolver$Search" = some m.cls) (hK : va_K D vwCl (tG K) s) (hRf : 1 ≤ R.frames) (hRl : 25 ≤ R.locals) (hRc : cells ≤ R.cells) (hRs : slots ≤ R.slots)  {out : Int64} (Kr : ∀ (r : Int64), out = r → ∀ (pc : Nat) (ls : Array Slot), decode b_Se_quotientAbove pc = .ok (.lreturn, 1) → W p l e R s m args below meth c H locs cells slots Q (F0 m pc ls [.long r])) (hf : f_Se_quotientAbove n p0 p1 = some out) (ls : Array Slot) (hl : lv_has ls 4 [(0, .long p0), (2, .long p1)]) : W p l e R s m args below meth c H locs cells slots Q (F0 m 0 ls []) := by
  unfold f_Se_quotientAbove at hf
  refine lv_lload_n hx hb d_Se_quotientAbove_0 rfl (lv_at hl 0 rfl) ?_
  refine lv_lneg hx hb d_Se_quotientAbove_1 ?_
  refine lv_lload_n hx hb d_Se_quotientAbove_2 rfl (lv_at hl 1 rfl) ?_
  obtain ⟨u1, eu1, hf⟩ := obd hf
  refine p_call (W.runS (As := [.long (-p0), .long p1]) (rest := []) ⟨hx, hb, hml, hown, hts⟩ (c_Mt_floorDiv_J l eu1) (gS 2 hts cd_Mt_floorDiv_J ml_Se_111 st_Mt_floorDiv_J ini_Mt rfl rfl pd_Mt_floorDiv_J ⟨Nat.le_trans (Nat.le_of_ble_eq_true rfl) hRf, Nat.le_trans (Nat.le_of_ble_eq_true rfl) hRl⟩) ⟨pPre_blind, pPre_of va_P0 hK⟩ rfl rfl hl.1 rfl (lv_room (Nat.le_of_ble_eq_true rfl)) d_Se_quotientAbove_3 ⟨hRc, hRs⟩) ?_
  refine lv_lneg hx hb d_Se_quotientAbove_6 ?_
  exact Kr _ (Option.some.inj hf).symm _ _ d_Se_quotientAbove_7
set_option maxHeartbeats 4000000 in
set_option maxRecDepth 100000 in
theorem c_Se_quotientAbove (l : Launch)  {p0 : Int64} {p1 : Int64}  {r : Int64} (hf : f_Se_quotientAbove n p0 p1 = some r) : Met l y_Se_quotientAbove w0_Se_quotientAbove ({ frames := 1, cells := 0, slots := 0, locals := 25 }) (pPre D K [.long p0, .long p1] ([])) (pPost (some (.long r))) 0 0 (fun _ => False) := by
  refine Met.ofW (cc := b_Se_quotientAbove) (maxL := 4) (ret := (some .long)) (by decide) rfl ?_
  intro p e s m args below meth c s₁ B hml hv
  obtain ⟨rfl, hP, hK⟩ := hv
  have hl := lv_entry [.long p0, .long p1] (n := 4) (Nat.le_of_ble_eq_true rfl)
  rw [lg_entry_eq]
  generalize (lg_sl [.long p0, .long p1] ++ List.replicate (4 - (lg_sl [.long p0, .long p1]).length) Slot.unset).toArray = ls at hl ⊢
  refine w_Se_quotientAbove B.exec B.bytes hml (fun w hw => atoms_spec (ws := w0_Se_quotientAbove) B.pre w (List.mem_cons_of_mem _ hw)) (findClass_of_methodNamed B.named) hK (Nat.le_refl _) (Nat.le_refl _) (Nat.zero_le _) (Nat.zero_le _)  (fun r er pc ls hd => ?_) hf ls hl
  subst er
  exact W.lret B.exec B.bytes B.returns (fun t ht hW => ⟨rfl, ht⟩) (fun q h => by cases h) hd (hlocks := B.notSynchronized)
end
section
variable {p : Program} {l : Launch} {e : Env} {R : Room} {s : State} {m : MethodId} {args : Array Value} {below : List Frame} {meth : Method} {c : Code} {H : Heap} {locs : List Loc} {cells slots : Nat} {Q : State → Prop} {A : Nat → Prop} {H0 : Heap}
variable {n : Nat} {D : va_G} {K : Nat → ClassId}  
def f_Se_bitsBetween (n : Nat) (p0 : Int32) (p1 : Int32) : Option (Int64) :=
  some ((lshl 1 (p1 + 1)) - (lshl 1 p0))
set_option maxHeartbeats 4000000 in
set_option maxRecDepth 100000 in
theorem w_Se_bitsBetween  {p0 : Int32} {p1 : Int32}  (hx : p.tables.exec = Jvm.exec) (hb : c.code = b_Se_bitsBetween) (hml : c.maxLocals = 2) (hts : ∀ w ∈ gW, w.before args s = true) (hown : s.vm.findClass "RegularSolver$Search" = some m.cls) (hK : va_K D vwCl (tG K) s) (hRf : 0 ≤ R.frames) (hRl : 0 ≤ R.locals) (hRc : cells ≤ R.cells) (hRs : slots ≤ R.slots)  {out : Int64} (Kr : ∀ (r : Int64), out = r → ∀ (pc : Nat) (ls : Array Slot), decode b_Se_bitsBetween pc = .ok (.lreturn, 1) → W p l e R s m args below meth c H locs cells slots Q (F0 m pc ls [.long r])) (hf : f_Se_bitsBetween n p0 p1 = some out) (ls : Array Slot) (hl : lv_has ls 2 [(0, .int p0), (1, .int p1)]) : W p l e R s m args below meth c H locs cells slots Q (F0 m 0 ls []) := by
  unfold f_Se_bitsBetween at hf
  refine lv_lconst (v := 1) hx hb d_Se_bitsBetween_0 (by decide) ?_
  refine lv_iload_n hx hb d_Se_bitsBetween_1 rfl (lv_at hl 1 rfl) ?_
  refine lv_iconst (v := 1) hx hb d_Se_bitsBetween_2 (by decide) ?_
  refine lv_iadd hx hb d_Se_bitsBetween_3 ?_
  refine lv_lshl (v := lshl 1 (p1 + 1)) hx hb d_Se_bitsBetween_4 rfl ?_
  refine lv_lconst (v := 1) hx hb d_Se_bitsBetween_5 (by decide) ?_
  refine lv_iload_n hx hb d_Se_bitsBetween_6 rfl (lv_at hl 0 rfl) ?_
  refine lv_lshl (v := lshl 1 p0) hx hb d_Se_bitsBetween_7 rfl ?_
  refine lv_lsub hx hb d_Se_bitsBetween_8 ?_
  exact Kr _ (Option.some.inj hf).symm _ _ d_Se_bitsBetween_9
set_option maxHeartbeats 4000000 in
set_option maxRecDepth 100000 in
theorem c_Se_bitsBetween (l : Launch)  {p0 : Int32} {p1 : Int32}  {r : Int64} (hf : f_Se_bitsBetween n p0 p1 = some r) : Met l y_Se_bitsBetween w0_Se_bitsBetween ({ frames := 0, cells := 0, slots := 0, locals := 0 }) (pPre D K [.int p0, .int p1] ([])) (pPost (some (.long r))) 0 0 (fun _ => False) := by
  refine Met.ofW (cc := b_Se_bitsBetween) (maxL := 2) (ret := (some .long)) (by decide) rfl ?_
  intro p e s m args below meth c s₁ B hml hv
  obtain ⟨rfl, hP, hK⟩ := hv
  have hl := lv_entry [.int p0, .int p1] (n := 2) (Nat.le_of_ble_eq_true rfl)
  rw [lg_entry_eq]
  generalize (lg_sl [.int p0, .int p1] ++ List.replicate (2 - (lg_sl [.int p0, .int p1]).length) Slot.unset).toArray = ls at hl ⊢
  refine w_Se_bitsBetween B.exec B.bytes hml (fun w hw => atoms_spec (ws := w0_Se_bitsBetween) B.pre w (List.mem_cons_of_mem _ hw)) (findClass_of_methodNamed B.named) hK (Nat.le_refl _) (Nat.le_refl _) (Nat.zero_le _) (Nat.zero_le _)  (fun r er pc ls hd => ?_) hf ls hl
  subst er
  exact W.lret B.exec B.bytes B.returns (fun t ht hW => ⟨rfl, ht⟩) (fun q h => by cases h) hd (hlocks := B.notSynchronized)
end
section
variable {p : Program} {l : Launch} {e : Env} {R : Room} {s : State} {m : MethodId} {args : Array Value} {below : List Frame} {meth : Method} {c : Code} {H : Heap} {locs : List Loc} {cells slots : Nat} {Q : State → Prop} {A : Nat → Prop} {H0 : Heap}
variable {n : Nat} {D : va_G} {K : Nat → ClassId} {sq : Nat} {sA : Nat} {sF : Nat} {sLe : Nat} {sMo : Nat} {sAl : Nat} {sRL : Nat} {sRM : Nat} {sLn : Nat} {sKL : Nat} {sKW : Nat} {fF : Nat → Nat} {fL : Nat → Nat} {fM : Nat → Nat} {sAssigned : Nat → Option Nat} {sLeast : Nat → Int32} {sMost : Nat → Int32} {sCount : Int32} {sAllowed : Nat → Int64} {sLengths : Nat → Int32} {sKept : Bool} {sKeptLengths : Nat → Int32} {sKeptWords : Nat → Int64} {gF : Nat → Nat → Int32} {gL : Nat → Nat → Int32} {gM : Nat → Nat → Int32}
def f_Se_sumBefore_5 (n : Nat) (v1 : Int32) (v2 : Int32) (sLengths : Nat → Int32) (gF : Nat → Nat → Int32) : Nat → Int32 → Int32 → Option (Int32 × Int32)
  | 0, _, _ => none
  | k + 1, v4, v3 =>
    if v2 ≤ v4 then
      some (v4, v3)
    else
      ogd (gin v1 8) <|
      ogd (gin v4 4) <|
      ogd (gin v4 4) <|
      f_Se_sumBefore_5 n v1 v2 sLengths gF k (v4 + 1) (v3 + ((gF v1.toNatClampNeg v4.toNatClampNeg) * (sLengths v4.toNatClampNeg)))
set_option maxHeartbeats 4000000 in
set_option maxRecDepth 100000 in
theorem w_Se_sumBefore_5  {v1 : Int32} {v2 : Int32} (hx : p.tables.exec = Jvm.exec) (hb : c.code = b_Se_sumBefore) (hml : c.maxLocals = 5) (hts : ∀ w ∈ gW, w.before args s = true) (hown : s.vm.findClass "RegularSolver$Search" = some m.cls) (hK : va_K D vwCl (tG K) s) (hRf : 0 ≤ R.frames) (hRl : 0 ≤ R.locals) (hRc : cells ≤ R.cells) (hRs : slots ≤ R.slots) (hP : va_P D vwCl ((seW K sq sA sF sLe sMo sAl sRL sRM sLn sKL sKW fF fL fM sAssigned sLeast sMost sCount sAllowed sLengths sKept sKeptLengths sKeptWords) ++ (grW K fF 4 gF) ++ (grW K fL 5 gL) ++ (grW K fM 5 gM)) H)  {out : Int32 × Int32} (Kx : ∀ (u : Int32 × Int32), out = u → ∀ (ls : Array Slot), lv_has ls 5 [(3, .int u.2)] → W p l e R s m args below meth c H locs cells slots Q (F0 m 37 ls [])) :
    ∀ (k : Nat) (v4 : Int32) (v3 : Int32), f_Se_sumBefore_5 n v1 v2 sLengths gF k v4 v3 = some out → ∀ (ls : Array Slot), lv_has ls 5 [(4, .int v4), (3, .int v3), (0, .ref sq), (1, .int v1), (2, .int v2)] → W p l e R s m args below meth c H locs cells slots Q (F0 m 5 ls []) := by
  intro k
  induction k with
  | zero => intro _ _ hf; exact nomatch (show none = some out from hf)
  | succ k ih =>
    intro v4 v3 hf ls hl
    rw [f_Se_sumBefore_5] at hf
    refine lv_iload hx hb d_Se_sumBefore_5 (lv_at hl 0 rfl) ?_
    refine lv_iload_n hx hb d_Se_sumBefore_7 rfl (lv_at hl 4 rfl) ?_
    refine lv_icmp_ge (tgt := 37) hx hb d_Se_sumBefore_8 (by decide) (fun c5 => ?_) (fun c5 => ?_)
    · rw [if_pos c5] at hf
      exact Kx _ (Option.some.inj hf).symm _ (show lv_has ls 5 [(3, .int v3)] from lv_sub hl [1] rfl)
    · rw [if_neg c5] at hf
      refine lv_iload_n hx hb d_Se_sumBefore_11 rfl (lv_at hl 1 rfl) ?_
      refine lv_aload_n hx hb d_Se_sumBefore_12 rfl (lv_at hl 2 rfl) ?_
      refine va_get (D := D) (ci := 9) (v := .ref sF) (C := R_Se) (T := T_Se) (N := 12) hx hb hts in_Se hown hK hP 0 rfl rfl 1 (by decide) (hts _ fl_Se_19) (fun _ h9 => h9) rfl d_Se_sumBefore_13 ?_
      refine lv_iload_n hx hb d_Se_sumBefore_16 rfl (lv_at hl 3 rfl) ?_
      obtain ⟨g6, hf⟩ := ogi hf
      refine gr_ald hx hb hK hP 2 4 rfl rfl (gin_in g6) d_Se_sumBefore_17 ?_
      refine lv_iload hx hb d_Se_sumBefore_18 (lv_at hl 0 rfl) ?_
      obtain ⟨g7, hf⟩ := ogi hf
      refine va_iald hx hb hK (vaR (vaL (vaL hP))) v1.toNatClampNeg 0 (gr_at (gin_lt g6)) rfl (gin_in g7) d_Se_sumBefore_20 ?_
      refine lv_aload_n hx hb d_Se_sumBefore_21 rfl (lv_at hl 2 rfl) ?_
      refine va_get (D := D) (ci := 9) (v := .ref sLn) (C := R_Se) (T := T_Se) (N := 12) hx hb hts in_Se hown hK hP 0 rfl rfl 8 (by decide) (hts _ fl_Se_43) (fun _ h9 => h9) rfl d_Se_sumBefore_22 ?_
      refine lv_iload hx hb d_Se_sumBefore_25 (lv_at hl 0 rfl) ?_
      obtain ⟨g8, hf⟩ := ogi hf
      refine va_iald hx hb hK hP 8 0 rfl rfl (gin_in g8) d_Se_sumBefore_27 ?_
      refine lv_imul hx hb d_Se_sumBefore_28 ?_
      refine lv_iadd hx hb d_Se_sumBefore_29 ?_
      refine lv_istore_n (lv' := [(3, .int (v3 + ((gF v1.toNatClampNeg v4.toNatClampNeg) * (sLengths v4.toNatClampNeg)))), (4, .int v4), (0, .ref sq), (1, .int v1), (2, .int v2)]) hx hb d_Se_sumBefore_30 rfl hl (by decide) rfl (fun ls hl => ?_)
      refine lv_iinc (v := v4 + 1) (lv' := [(4, .int (v4 + 1)), (3, .int (v3 + ((gF v1.toNatClampNeg v4.toNatClampNeg) * (sLengths v4.toNatClampNeg)))), (0, .ref sq), (1, .int v1), (2, .int v2)]) hx hb d_Se_sumBefore_31 hl (k := 1) rfl (by first | rfl | (congr 1)) (by decide) rfl (fun ls hl => ?_)
      refine lv_goto (tgt := 5) hx hb d_Se_sumBefore_34 (by decide) ?_
      exact ih _ _ hf _ (show lv_has ls 5 [(4, .int (v4 + 1)), (3, .int (v3 + ((gF v1.toNatClampNeg v4.toNatClampNeg) * (sLengths v4.toNatClampNeg)))), (0, .ref sq), (1, .int v1), (2, .int v2)] from lv_sub hl [0, 1, 2, 3, 4] rfl)
def f_Se_sumBefore (n : Nat) (p0 : Int32) (p1 : Int32) (sLengths : Nat → Int32) (gF : Nat → Nat → Int32) : Option (Int32) :=
  (f_Se_sumBefore_5 n p0 p1 sLengths gF n 0 0).bind fun u9 =>
  some u9.2
set_option maxHeartbeats 4000000 in
set_option maxRecDepth 100000 in
theorem w_Se_sumBefore  {p0 : Int32} {p1 : Int32}  (hx : p.tables.exec = Jvm.exec) (hb : c.code = b_Se_sumBefore) (hml : c.maxLocals = 5) (hts : ∀ w ∈ gW, w.before args s = true) (hown : s.vm.findClass "RegularSolver$Search" = some m.cls) (hK : va_K D vwCl (tG K) s) (hRf : 0 ≤ R.frames) (hRl : 0 ≤ R.locals) (hRc : cells ≤ R.cells) (hRs : slots ≤ R.slots) (hP : va_P D vwCl ((seW K sq sA sF sLe sMo sAl sRL sRM sLn sKL sKW fF fL fM sAssigned sLeast sMost sCount sAllowed sLengths sKept sKeptLengths sKeptWords) ++ (grW K fF 4 gF) ++ (grW K fL 5 gL) ++ (grW K fM 5 gM)) H) {out : Int32} (Kr : ∀ (r : Int32), out = r → ∀ (pc : Nat) (ls : Array Slot), decode b_Se_sumBefore pc = .ok (.ireturn, 1) → W p l e R s m args below meth c H locs cells slots Q (F0 m pc ls [.int r])) (hf : f_Se_sumBefore n p0 p1 sLengths gF = some out) (ls : Array Slot) (hl : lv_has ls 5 [(0, .ref sq), (1, .int p0), (2, .int p1)]) : W p l e R s m args below meth c H locs cells slots Q (F0 m 0 ls []) := by
  unfold f_Se_sumBefore at hf
  refine lv_iconst (v := 0) hx hb d_Se_sumBefore_0 (by decide) ?_
  refine lv_istore_n (lv' := [(3, .int 0), (0, .ref sq), (1, .int p0), (2, .int p1)]) hx hb d_Se_sumBefore_1 rfl hl (by decide) rfl (fun ls hl => ?_)
  refine lv_iconst (v := 0) hx hb d_Se_sumBefore_2 (by decide) ?_
  refine lv_istore (lv' := [(4, .int 0), (3, .int 0), (0, .ref sq), (1, .int p0), (2, .int p1)]) hx hb d_Se_sumBefore_3 hl (by decide) rfl (fun ls hl => ?_)
  obtain ⟨u9, eu9, hf⟩ := obd hf
  refine w_Se_sumBefore_5 hx hb hml hts hown hK hRf hRl hRc hRs hP  (fun u9q eu ls hl => ?_) _ _ _ eu9 _ (show lv_has ls 5 [(4, .int 0), (3, .int 0), (0, .ref sq), (1, .int p0), (2, .int p1)] from lv_sub hl [0, 1, 2, 3, 4] rfl)
  subst eu
  refine lv_iload_n hx hb d_Se_sumBefore_37 rfl (lv_at hl 0 rfl) ?_
  exact Kr _ (Option.some.inj hf).symm _ _ d_Se_sumBefore_38
set_option maxHeartbeats 4000000 in
set_option maxRecDepth 100000 in
theorem c_Se_sumBefore (l : Launch)  {p0 : Int32} {p1 : Int32}  {r : Int32} (hf : f_Se_sumBefore n p0 p1 sLengths gF = some r) : Met l y_Se_sumBefore w0_Se_sumBefore ({ frames := 0, cells := 0, slots := 0, locals := 0 }) (pPre D K [.ref sq, .int p0, .int p1] (((seW K sq sA sF sLe sMo sAl sRL sRM sLn sKL sKW fF fL fM sAssigned sLeast sMost sCount sAllowed sLengths sKept sKeptLengths sKeptWords) ++ (grW K fF 4 gF) ++ (grW K fL 5 gL) ++ (grW K fM 5 gM)))) (pPost (some (.int r))) 0 0 (fun _ => False) := by
  refine Met.ofW (cc := b_Se_sumBefore) (maxL := 5) (ret := (some .int)) (by decide) rfl ?_
  intro p e s m args below meth c s₁ B hml hv
  obtain ⟨rfl, hP, hK⟩ := hv
  have hl := lv_entry [.ref sq, .int p0, .int p1] (n := 5) (Nat.le_of_ble_eq_true rfl)
  rw [lg_entry_eq]
  generalize (lg_sl [.ref sq, .int p0, .int p1] ++ List.replicate (5 - (lg_sl [.ref sq, .int p0, .int p1]).length) Slot.unset).toArray = ls at hl ⊢
  refine w_Se_sumBefore B.exec B.bytes hml (fun w hw => atoms_spec (ws := w0_Se_sumBefore) B.pre w (List.mem_cons_of_mem _ hw)) (findClass_of_methodNamed B.named) hK (Nat.le_refl _) (Nat.le_refl _) (Nat.zero_le _) (Nat.zero_le _) hP (fun r er pc ls hd => ?_) hf ls hl
  subst er
  exact W.iret B.exec B.bytes B.returns (fun t ht hW => ⟨rfl, ht⟩) (fun q h => by cases h) hd (hlocks := B.notSynchronized)
end
section
variable {p : Program} {l : Launch} {e : Env} {R : Room} {s : State} {m : MethodId} {args : Array Value} {below : List Frame} {meth : Method} {c : Code} {H : Heap} {locs : List Loc} {cells slots : Nat} {Q : State → Prop} {A : Nat → Prop} {H0 : Heap}
variable {n : Nat} {D : va_G} {K : Nat → ClassId} {sq : Nat} {sA : Nat} {sF : Nat} {sLe : Nat} {sMo : Nat} {sAl : Nat} {sRL : Nat} {sRM : Nat} {sLn : Nat} {sKL : Nat} {sKW : Nat} {fF : Nat → Nat} {fL : Nat → Nat} {fM : Nat → Nat} {sAssigned : Nat → Option Nat} {sLeast : Nat → Int32} {sMost : Nat → Int32} {sCount : Int32} {sAllowed : Nat → Int64} {sLengths : Nat → Int32} {sKept : Bool} {sKeptLengths : Nat → Int32} {sKeptWords : Nat → Int64} {gF : Nat → Nat → Int32} {gL : Nat → Nat → Int32} {gM : Nat → Nat → Int32}
def f_Se_sumRests_2 (n : Nat) (v1 : Int32) (sAllowed : Nat → Int64) (gF : Nat → Nat → Int32) : Nat → Int32 → (Nat → Nat → Int32) → (Nat → Nat → Int32) → Option (Int32 × (Nat → Nat → Int32) × (Nat → Nat → Int32))
  | 0, _, _, _ => none
  | k + 1, v2, gL, gM =>
    if v2 < 0 then
      some (v2, gL, gM)
    else
      ogd (gin v1 8) <|
      ogd (gin v2 4) <|
      (f_Se_shortestAllowed n v2 sAllowed).bind fun u22 =>
      (some ((gF v1.toNatClampNeg v2.toNatClampNeg) * u22)).bind fun u23 =>
      ogd (gin v1 8) <|
      ogd (gin v2 4) <|
      (f_Se_longestAllowed n v2 sAllowed).bind fun u26 =>
      (some ((gF v1.toNatClampNeg v2.toNatClampNeg) * u26)).bind fun u27 =>
      ogd (gin v1 8) <|
      ogd (gin v1 8) <|
      ogd (gin (v2 + 1) 5) <|
      ogd (gin v2 5) <|
      ogd (gin v1 8) <|
      ogd (gin v1 8) <|
      ogd (gin (v2 + 1) 5) <|
      ogd (gin v2 5) <|
      f_Se_sumRests_2 n v1 sAllowed gF k (v2 + (-1)) (gup gL v1.toNatClampNeg (upd (gL v1.toNatClampNeg) v2.toNatClampNeg ((gL v1.toNatClampNeg (v2 + 1).toNatClampNeg) + (if u27 < u23 then u27 else u23)))) (gup gM v1.toNatClampNeg (upd (gM v1.toNatClampNeg) v2.toNatClampNeg ((gM v1.toNatClampNeg (v2 + 1).toNatClampNeg) + (if u23 < u27 then u27 else u23))))
set_option maxHeartbeats 4000000 in
set_option maxRecDepth 100000 in
theorem w_Se_sumRests_2  {v1 : Int32} (hx : p.tables.exec = Jvm.exec) (hb : c.code = b_Se_sumRests) (hml : c.maxLocals = 5) (hts : ∀ w ∈ gW, w.before args s = true) (hown : s.vm.findClass "RegularSolver$Search" = some m.cls) (hK : va_K D vwCl (tG K) s) (hRf : 1 ≤ R.frames) (hRl : 22 ≤ R.locals) (hRc : cells ≤ R.cells) (hRs : slots ≤ R.slots) (hA : ∀ q, H0.size ≤ q → A q)  {out : Int32 × (Nat → Nat → Int32) × (Nat → Nat → Int32)} (Kx : ∀ (u : Int32 × (Nat → Nat → Int32) × (Nat → Nat → Int32)), out = u → ∀ (ls : Array Slot) (H : Heap) (locs : List Loc), va_P D vwCl ((seW K sq sA sF sLe sMo sAl sRL sRM sLn sKL sKW fF fL fM sAssigned sLeast sMost sCount sAllowed sLengths sKept sKeptLengths sKeptWords) ++ (grW K fF 4 gF) ++ (grW K fL 5 u.2.1) ++ (grW K fM 5 u.2.2)) H → va_D A ((seW K sq sA sF sLe sMo sAl sRL sRM sLn sKL sKW fF fL fM sAssigned sLeast sMost sCount sAllowed sLengths sKept sKeptLengths sKeptWords) ++ (grW K fF 4 gF) ++ (grW K fL 5 u.2.1) ++ (grW K fM 5 u.2.2)) → va_S A H0 H locs → lv_has ls 5 [] → W p l e R s m args below meth c H locs cells slots Q (F0 m 93 ls [])) :
    ∀ (k : Nat) (v2 : Int32) (gL : Nat → Nat → Int32) (gM : Nat → Nat → Int32), f_Se_sumRests_2 n v1 sAllowed gF k v2 gL gM = some out → ∀ (ls : Array Slot) (H : Heap) (locs : List Loc), va_P D vwCl ((seW K sq sA sF sLe sMo sAl sRL sRM sLn sKL sKW fF fL fM sAssigned sLeast sMost sCount sAllowed sLengths sKept sKeptLengths sKeptWords) ++ (grW K fF 4 gF) ++ (grW K fL 5 gL) ++ (grW K fM 5 gM)) H → va_D A ((seW K sq sA sF sLe sMo sAl sRL sRM sLn sKL sKW fF fL fM sAssigned sLeast sMost sCount sAllowed sLengths sKept sKeptLengths sKeptWords) ++ (grW K fF 4 gF) ++ (grW K fL 5 gL) ++ (grW K fM 5 gM)) → va_S A H0 H locs → lv_has ls 5 [(2, .int v2), (0, .ref sq), (1, .int v1)] → W p l e R s m args below meth c H locs cells slots Q (F0 m 2 ls []) := by
  intro k
  induction k with
  | zero => intro _ _ _ hf; exact nomatch (show none = some out from hf)
  | succ k ih =>
    intro v2 gL gM hf ls H locs hP hD hS hl
    rw [f_Se_sumRests_2] at hf
    refine lv_iload_n hx hb d_Se_sumRests_2 rfl (lv_at hl 0 rfl) ?_
    refine lv_if_lt (tgt := 93) hx hb d_Se_sumRests_3 (by decide) (fun c19 => ?_) (fun c19 => ?_)
    · rw [if_pos c19] at hf
      exact Kx _ (Option.some.inj hf).symm _ _ _ hP hD hS (show lv_has ls 5 [] from lv_sub hl [] rfl)
    · rw [if_neg c19] at hf
      refine lv_aload_n hx hb d_Se_sumRests_6 rfl (lv_at hl 1 rfl) ?_
      refine va_get (D := D) (ci := 9) (v := .ref sF) (C := R_Se) (T := T_Se) (N := 12) hx hb hts in_Se hown hK hP 0 rfl rfl 1 (by decide) (hts _ fl_Se_19) (fun _ h9 => h9) rfl d_Se_sumRests_7 ?_
      refine lv_iload_n hx hb d_Se_sumRests_10 rfl (lv_at hl 2 rfl) ?_
      obtain ⟨g20, hf⟩ := ogi hf
      refine gr_ald hx hb hK hP 2 4 rfl rfl (gin_in g20) d_Se_sumRests_11 ?_
      refine lv_iload_n hx hb d_Se_sumRests_12 rfl (lv_at hl 0 rfl) ?_
      obtain ⟨g21, hf⟩ := ogi hf
      refine va_iald hx hb hK (vaR (vaL (vaL hP))) v1.toNatClampNeg 0 (gr_at (gin_lt g20)) rfl (gin_in g21) d_Se_sumRests_13 ?_
      refine lv_aload_n hx hb d_Se_sumRests_14 rfl (lv_at hl 1 rfl) ?_
      refine lv_iload_n hx hb d_Se_sumRests_15 rfl (lv_at hl 0 rfl) ?_
      obtain ⟨u22, eu22, hf⟩ := obd hf
      refine p_call (W.runV (As := [.int v2]) (rest := [.int (gF v1.toNatClampNeg v2.toNatClampNeg)]) ⟨hx, hb, hml, hown, hts⟩ (c_Se_shortestAllowed l eu22) (gV 1 hts cd_Se_shortestAllowed ml_Se_81 im_Se_shortestAllowed se_Se_shortestAllowed ini_Se rfl rfl pd_Se_shortestAllowed ⟨Nat.le_trans (Nat.le_of_ble_eq_true rfl) hRf, Nat.le_trans (Nat.le_of_ble_eq_true rfl) hRl⟩) ⟨pPre_blind, va_recv hK (vaL (vaL (vaL hP))) (ci := 9) (q0 := 0) rfl rfl, pPre_of hP hK⟩ rfl rfl hl.1 rfl (lv_room (Nat.le_of_ble_eq_true rfl)) d_Se_sumRests_16 ⟨hRc, hRs⟩) ?_
      refine lv_imul hx hb d_Se_sumRests_19 ?_
      obtain ⟨u23, eu23, hf⟩ := obd hf
      rw [Option.some.inj eu23]
      refine lv_istore_n (lv' := [(3, .int u23), (2, .int v2), (0, .ref sq), (1, .int v1)]) hx hb d_Se_sumRests_20 rfl hl (by decide) rfl (fun ls hl => ?_)
      refine lv_aload_n hx hb d_Se_sumRests_21 rfl (lv_at hl 2 rfl) ?_
      refine va_get (D := D) (ci := 9) (v := .ref sF) (C := R_Se) (T := T_Se) (N := 12) hx hb hts in_Se hown hK hP 0 rfl rfl 1 (by decide) (hts _ fl_Se_19) (fun _ h9 => h9) rfl d_Se_sumRests_22 ?_
      refine lv_iload_n hx hb d_Se_sumRests_25 rfl (lv_at hl 3 rfl) ?_
      obtain ⟨g24, hf⟩ := ogi hf
      refine gr_ald hx hb hK hP 2 4 rfl rfl (gin_in g24) d_Se_sumRests_26 ?_
      refine lv_iload_n hx hb d_Se_sumRests_27 rfl (lv_at hl 1 rfl) ?_
      obtain ⟨g25, hf⟩ := ogi hf
      refine va_iald hx hb hK (vaR (vaL (vaL hP))) v1.toNatClampNeg 0 (gr_at (gin_lt g24)) rfl (gin_in g25) d_Se_sumRests_28 ?_
      refine lv_aload_n hx hb d_Se_sumRests_29 rfl (lv_at hl 2 rfl) ?_
      refine lv_iload_n hx hb d_Se_sumRests_30 rfl (lv_at hl 1 rfl) ?_
      obtain ⟨u26, eu26, hf⟩ := obd hf
      refine p_call (W.runV (As := [.int v2]) (rest := [.int (gF v1.toNatClampNeg v2.toNatClampNeg)]) ⟨hx, hb, hml, hown, hts⟩ (c_Se_longestAllowed l eu26) (gV 1 hts cd_Se_longestAllowed ml_Se_85 im_Se_longestAllowed se_Se_longestAllowed ini_Se rfl rfl pd_Se_longestAllowed ⟨Nat.le_trans (Nat.le_of_ble_eq_true rfl) hRf, Nat.le_trans (Nat.le_of_ble_eq_true rfl) hRl⟩) ⟨pPre_blind, va_recv hK (vaL (vaL (vaL hP))) (ci := 9) (q0 := 0) rfl rfl, pPre_of hP hK⟩ rfl rfl hl.1 rfl (lv_room (Nat.le_of_ble_eq_true rfl)) d_Se_sumRests_31 ⟨hRc, hRs⟩) ?_
      refine lv_imul hx hb d_Se_sumRests_34 ?_
      obtain ⟨u27, eu27, hf⟩ := obd hf
      rw [Option.some.inj eu27]
      refine lv_istore (lv' := [(4, .int u27), (3, .int u23), (2, .int v2), (0, .ref sq), (1, .int v1)]) hx hb d_Se_sumRests_35 hl (by decide) rfl (fun ls hl => ?_)
      refine lv_aload_n hx hb d_Se_sumRests_37 rfl (lv_at hl 3 rfl) ?_
      refine va_get (D := D) (ci := 9) (v := .ref sRL) (C := R_Se) (T := T_Se) (N := 12) hx hb hts in_Se hown hK hP 0 rfl rfl 6 (by decide) (hts _ fl_Se_37) (fun _ h9 => h9) rfl d_Se_sumRests_38 ?_
      refine lv_iload_n hx hb d_Se_sumRests_41 rfl (lv_at hl 4 rfl) ?_
      obtain ⟨g28, hf⟩ := ogi hf
      refine gr_ald hx hb hK hP 6 4 rfl rfl (gin_in g28) d_Se_sumRests_42 ?_
      refine lv_iload_n hx hb d_Se_sumRests_43 rfl (lv_at hl 2 rfl) ?_
      refine lv_aload_n hx hb d_Se_sumRests_44 rfl (lv_at hl 3 rfl) ?_
      refine va_get (D := D) (ci := 9) (v := .ref sRL) (C := R_Se) (T := T_Se) (N := 12) hx hb hts in_Se hown hK hP 0 rfl rfl 6 (by decide) (hts _ fl_Se_37) (fun _ h9 => h9) rfl d_Se_sumRests_45 ?_
      refine lv_iload_n hx hb d_Se_sumRests_48 rfl (lv_at hl 4 rfl) ?_
      obtain ⟨g29, hf⟩ := ogi hf
      refine gr_ald hx hb hK hP 6 4 rfl rfl (gin_in g29) d_Se_sumRests_49 ?_
      refine lv_iload_n hx hb d_Se_sumRests_50 rfl (lv_at hl 2 rfl) ?_
      refine lv_iconst (v := 1) hx hb d_Se_sumRests_51 (by decide) ?_
      refine lv_iadd hx hb d_Se_sumRests_52 ?_
      obtain ⟨g30, hf⟩ := ogi hf
      refine va_iald hx hb hK (vaR (vaL hP)) v1.toNatClampNeg 0 (gr_at (gin_lt g29)) rfl (gin_in g30) d_Se_sumRests_53 ?_
      refine lv_iload_n hx hb d_Se_sumRests_54 rfl (lv_at hl 1 rfl) ?_
      refine lv_iload hx hb d_Se_sumRests_55 (lv_at hl 0 rfl) ?_
      refine va_mmin hx hb (by rw [hml]; exact hl.1.symm) hown (hts _ ml_Se_88) (hts _ st_Mt_min_I) (hts _ ini_Mt) (hts _ cdm_Mt_min_I) (Nat.le_trans (Nat.le_of_ble_eq_true rfl) hRf) (Nat.le_trans (Nat.le_of_ble_eq_true rfl) hRl) hRc hRs d_Se_sumRests_57 ?_
      refine lv_iadd hx hb d_Se_sumRests_60 ?_
      obtain ⟨g31, hf⟩ := ogi hf
      refine gr_ast (X := (seW K sq sA sF sLe sMo sAl sRL sRM sLn sKL sKW fF fL fM sAssigned sLeast sMost sCount sAllowed sLengths sKept sKeptLengths sKeptWords) ++ (grW K fF 4 gF)) (Y := (grW K fM 5 gM)) (K := K) (f := fL) (n := 5) (g := gL) (i := v1.toNatClampNeg) hx hb hK (by simp only [List.append_assoc, List.append_nil]) hP hD hS 0 rfl (gin_lt g28) (gin_in g31) d_Se_sumRests_61 (fun H locs hP hD hS => ?_)
      have hP : va_P D vwCl ((seW K sq sA sF sLe sMo sAl sRL sRM sLn sKL sKW fF fL fM sAssigned sLeast sMost sCount sAllowed sLengths sKept sKeptLengths sKeptWords) ++ (grW K fF 4 gF) ++ (grW K fL 5 (gup gL v1.toNatClampNeg (upd (gL v1.toNatClampNeg) v2.toNatClampNeg ((gL v1.toNatClampNeg (v2 + 1).toNatClampNeg) + (if u27 < u23 then u27 else u23))))) ++ (grW K fM 5 gM)) H := by simpa only [List.append_assoc, List.append_nil] using hP
      have hD : va_D A ((seW K sq sA sF sLe sMo sAl sRL sRM sLn sKL sKW fF fL fM sAssigned sLeast sMost sCount sAllowed sLengths sKept sKeptLengths sKeptWords) ++ (grW K fF 4 gF) ++ (grW K fL 5 (gup gL v1.toNatClampNeg (upd (gL v1.toNatClampNeg) v2.toNatClampNeg ((gL v1.toNatClampNeg (v2 + 1).toNatClampNeg) + (if u27 < u23 then u27 else u23))))) ++ (grW K fM 5 gM)) := by simpa only [List.append_assoc, List.append_nil] using hD
      refine lv_aload_n hx hb d_Se_sumRests_62 rfl (lv_at hl 3 rfl) ?_
      refine va_get (D := D) (ci := 9) (v := .ref sRM) (C := R_Se) (T := T_Se) (N := 12) hx hb hts in_Se hown hK hP 0 rfl rfl 7 (by decide) (hts _ fl_Se_40) (fun _ h9 => h9) rfl d_Se_sumRests_63 ?_
      refine lv_iload_n hx hb d_Se_sumRests_66 rfl (lv_at hl 4 rfl) ?_
      obtain ⟨g32, hf⟩ := ogi hf
      refine gr_ald hx hb hK hP 7 4 rfl rfl (gin_in g32) d_Se_sumRests_67 ?_
      refine lv_iload_n hx hb d_Se_sumRests_68 rfl (lv_at hl 2 rfl) ?_
      refine lv_aload_n hx hb d_Se_sumRests_69 rfl (lv_at hl 3 rfl) ?_
      refine va_get (D := D) (ci := 9) (v := .ref sRM) (C := R_Se) (T := T_Se) (N := 12) hx hb hts in_Se hown hK hP 0 rfl rfl 7 (by decide) (hts _ fl_Se_40) (fun _ h9 => h9) rfl d_Se_sumRests_70 ?_
      refine lv_iload_n hx hb d_Se_sumRests_73 rfl (lv_at hl 4 rfl) ?_
      obtain ⟨g33, hf⟩ := ogi hf
      refine gr_ald hx hb hK hP 7 4 rfl rfl (gin_in g33) d_Se_sumRests_74 ?_
      refine lv_iload_n hx hb d_Se_sumRests_75 rfl (lv_at hl 2 rfl) ?_
      refine lv_iconst (v := 1) hx hb d_Se_sumRests_76 (by decide) ?_
      refine lv_iadd hx hb d_Se_sumRests_77 ?_
      obtain ⟨g34, hf⟩ := ogi hf
      refine va_iald hx hb hK (vaR hP) v1.toNatClampNeg 0 (gr_at (gin_lt g33)) rfl (gin_in g34) d_Se_sumRests_78 ?_
      refine lv_iload_n hx hb d_Se_sumRests_79 rfl (lv_at hl 1 rfl) ?_
      refine lv_iload hx hb d_Se_sumRests_80 (lv_at hl 0 rfl) ?_
      refine va_mmax hx hb (by rw [hml]; exact hl.1.symm) hown (hts _ ml_Se_94) (hts _ st_Mt_max_I) (hts _ ini_Mt) (hts _ cdm_Mt_max_I) (Nat.le_trans (Nat.le_of_ble_eq_true rfl) hRf) (Nat.le_trans (Nat.le_of_ble_eq_true rfl) hRl) hRc hRs d_Se_sumRests_82 ?_
      refine lv_iadd hx hb d_Se_sumRests_85 ?_
      obtain ⟨g35, hf⟩ := ogi hf
      refine gr_ast (X := (seW K sq sA sF sLe sMo sAl sRL sRM sLn sKL sKW fF fL fM sAssigned sLeast sMost sCount sAllowed sLengths sKept sKeptLengths sKeptWords) ++ (grW K fF 4 gF) ++ (grW K fL 5 (gup gL v1.toNatClampNeg (upd (gL v1.toNatClampNeg) v2.toNatClampNeg ((gL v1.toNatClampNeg (v2 + 1).toNatClampNeg) + (if u27 < u23 then u27 else u23)))))) (Y := ([] : va_W)) (K := K) (f := fM) (n := 5) (g := gM) (i := v1.toNatClampNeg) hx hb hK (by simp only [List.append_assoc, List.append_nil]) hP hD hS 0 rfl (gin_lt g32) (gin_in g35) d_Se_sumRests_86 (fun H locs hP hD hS => ?_)
      have hP : va_P D vwCl ((seW K sq sA sF sLe sMo sAl sRL sRM sLn sKL sKW fF fL fM sAssigned sLeast sMost sCount sAllowed sLengths sKept sKeptLengths sKeptWords) ++ (grW K fF 4 gF) ++ (grW K fL 5 (gup gL v1.toNatClampNeg (upd (gL v1.toNatClampNeg) v2.toNatClampNeg ((gL v1.toNatClampNeg (v2 + 1).toNatClampNeg) + (if u27 < u23 then u27 else u23))))) ++ (grW K fM 5 (gup gM v1.toNatClampNeg (upd (gM v1.toNatClampNeg) v2.toNatClampNeg ((gM v1.toNatClampNeg (v2 + 1).toNatClampNeg) + (if u23 < u27 then u27 else u23)))))) H := by simpa only [List.append_assoc, List.append_nil] using hP
      have hD : va_D A ((seW K sq sA sF sLe sMo sAl sRL sRM sLn sKL sKW fF fL fM sAssigned sLeast sMost sCount sAllowed sLengths sKept sKeptLengths sKeptWords) ++ (grW K fF 4 gF) ++ (grW K fL 5 (gup gL v1.toNatClampNeg (upd (gL v1.toNatClampNeg) v2.toNatClampNeg ((gL v1.toNatClampNeg (v2 + 1).toNatClampNeg) + (if u27 < u23 then u27 else u23))))) ++ (grW K fM 5 (gup gM v1.toNatClampNeg (upd (gM v1.toNatClampNeg) v2.toNatClampNeg ((gM v1.toNatClampNeg (v2 + 1).toNatClampNeg) + (if u23 < u27 then u27 else u23)))))) := by simpa only [List.append_assoc, List.append_nil] using hD
      refine lv_iinc (v := v2 + (-1)) (lv' := [(2, .int (v2 + (-1))), (4, .int u27), (3, .int u23), (0, .ref sq), (1, .int v1)]) hx hb d_Se_sumRests_87 hl (k := 2) rfl (by first | rfl | (congr 1)) (by decide) rfl (fun ls hl => ?_)
      refine lv_goto (tgt := 2) hx hb d_Se_sumRests_90 (by decide) ?_
      exact ih _ _ _ hf _ _ _ hP hD hS (show lv_has ls 5 [(2, .int (v2 + (-1))), (0, .ref sq), (1, .int v1)] from lv_sub hl [0, 3, 4] rfl)
def f_Se_sumRests (n : Nat) (p0 : Int32) (sAllowed : Nat → Int64) (gF : Nat → Nat → Int32) (gL : Nat → Nat → Int32) (gM : Nat → Nat → Int32) : Option ((Nat → Nat → Int32) × (Nat → Nat → Int32)) :=
  (some (3)).bind fun u1 =>
  (f_Se_sumRests_2 n p0 sAllowed gF n u1 gL gM).bind fun u36 =>
  some (u36.2.1, u36.2.2)
set_option maxHeartbeats 4000000 in
set_option maxRecDepth 100000 in
theorem w_Se_sumRests  {p0 : Int32}  (hx : p.tables.exec = Jvm.exec) (hb : c.code = b_Se_sumRests) (hml : c.maxLocals = 5) (hts : ∀ w ∈ gW, w.before args s = true) (hown : s.vm.findClass "RegularSolver$Search" = some m.cls) (hK : va_K D vwCl (tG K) s) (hRf : 1 ≤ R.frames) (hRl : 22 ≤ R.locals) (hRc : cells ≤ R.cells) (hRs : slots ≤ R.slots) (hA : ∀ q, H0.size ≤ q → A q) {out : (Nat → Nat → Int32) × (Nat → Nat → Int32)} (Kr : ∀ (r : (Nat → Nat → Int32) × (Nat → Nat → Int32)), out = r → ∀ (pc : Nat) (ls : Array Slot) (H : Heap) (locs : List Loc), decode b_Se_sumRests pc = .ok (.return_, 1) → va_P D vwCl ((seW K sq sA sF sLe sMo sAl sRL sRM sLn sKL sKW fF fL fM sAssigned sLeast sMost sCount sAllowed sLengths sKept sKeptLengths sKeptWords) ++ (grW K fF 4 gF) ++ (grW K fL 5 r.1) ++ (grW K fM 5 r.2)) H → va_D A ((seW K sq sA sF sLe sMo sAl sRL sRM sLn sKL sKW fF fL fM sAssigned sLeast sMost sCount sAllowed sLengths sKept sKeptLengths sKeptWords) ++ (grW K fF 4 gF) ++ (grW K fL 5 r.1) ++ (grW K fM 5 r.2)) → va_S A H0 H locs → W p l e R s m args below meth c H locs cells slots Q (F0 m pc ls [])) (hf : f_Se_sumRests n p0 sAllowed gF gL gM = some out) (ls : Array Slot) (hP : va_P D vwCl ((seW K sq sA sF sLe sMo sAl sRL sRM sLn sKL sKW fF fL fM sAssigned sLeast sMost sCount sAllowed sLengths sKept sKeptLengths sKeptWords) ++ (grW K fF 4 gF) ++ (grW K fL 5 gL) ++ (grW K fM 5 gM)) H) (hD : va_D A ((seW K sq sA sF sLe sMo sAl sRL sRM sLn sKL sKW fF fL fM sAssigned sLeast sMost sCount sAllowed sLengths sKept sKeptLengths sKeptWords) ++ (grW K fF 4 gF) ++ (grW K fL 5 gL) ++ (grW K fM 5 gM))) (hS : va_S A H0 H locs) (hl : lv_has ls 5 [(0, .ref sq), (1, .int p0)]) : W p l e R s m args below meth c H locs cells slots Q (F0 m 0 ls []) := by
  unfold f_Se_sumRests at hf
  refine lv_iconst (v := 3) hx hb d_Se_sumRests_0 (by decide) ?_
  obtain ⟨u1, eu1, hf⟩ := obd hf
  rw [Option.some.inj eu1]
  refine lv_istore_n (lv' := [(2, .int u1), (0, .ref sq), (1, .int p0)]) hx hb d_Se_sumRests_1 rfl hl (by decide) rfl (fun ls hl => ?_)
  obtain ⟨u36, eu36, hf⟩ := obd hf
  refine w_Se_sumRests_2 hx hb hml hts hown hK hRf hRl hRc hRs hA  (fun u36q eu ls H locs hP hD hS hl => ?_) _ _ _ _ eu36 _ _ _ hP hD hS (show lv_has ls 5 [(2, .int u1), (0, .ref sq), (1, .int p0)] from lv_sub hl [0, 1, 2] rfl)
  subst eu
  exact Kr _ (Option.some.inj hf).symm _ _ _ _ d_Se_sumRests_93 hP hD hS
set_option maxHeartbeats 4000000 in
set_option maxRecDepth 100000 in
theorem c_Se_sumRests (l : Launch)  {p0 : Int32}  {r : (Nat → Nat → Int32) × (Nat → Nat → Int32)} (sz : Nat) (hf : f_Se_sumRests n p0 sAllowed gF gL gM = some r) : Met l y_Se_sumRests w0_Se_sumRests ({ frames := 1, cells := 0, slots := 0, locals := 22 }) (wPre D K [.ref sq, .int p0] ((seW K sq sA sF sLe sMo sAl sRL sRM sLn sKL sKW fF fL fM sAssigned sLeast sMost sCount sAllowed sLengths sKept sKeptLengths sKeptWords) ++ (grW K fF 4 gF) ++ (grW K fL 5 gL) ++ (grW K fM 5 gM)) sz) (wPost D K none ((seW K sq sA sF sLe sMo sAl sRL sRM sLn sKL sKW fF fL fM sAssigned sLeast sMost sCount sAllowed sLengths sKept sKeptLengths sKeptWords) ++ (grW K fF 4 gF) ++ (grW K fL 5 r.1) ++ (grW K fM 5 r.2)) (va_A ((seW K sq sA sF sLe sMo sAl sRL sRM sLn sKL sKW fF fL fM sAssigned sLeast sMost sCount sAllowed sLengths sKept sKeptLengths sKeptWords) ++ (grW K fF 4 gF) ++ (grW K fL 5 gL) ++ (grW K fM 5 gM)) sz)) 0 0 (va_A ((seW K sq sA sF sLe sMo sAl sRL sRM sLn sKL sKW fF fL fM sAssigned sLeast sMost sCount sAllowed sLengths sKept sKeptLengths sKeptWords) ++ (grW K fF 4 gF) ++ (grW K fL 5 gL) ++ (grW K fM 5 gM)) sz) := by
  refine Met.ofW (cc := b_Se_sumRests) (maxL := 5) (ret := none) (by decide) rfl ?_
  intro p e s m args below meth c s₁ B hml hv
  obtain ⟨rfl, hsz, hP, hK, hD0⟩ := hv
  subst hsz
  have hl := lv_entry [.ref sq, .int p0] (n := 5) (Nat.le_of_ble_eq_true rfl)
  rw [lg_entry_eq]
  generalize (lg_sl [.ref sq, .int p0] ++ List.replicate (5 - (lg_sl [.ref sq, .int p0]).length) Slot.unset).toArray = ls at hl ⊢
  refine w_Se_sumRests (A := va_A ((seW K sq sA sF sLe sMo sAl sRL sRM sLn sKL sKW fF fL fM sAssigned sLeast sMost sCount sAllowed sLengths sKept sKeptLengths sKeptWords) ++ (grW K fF 4 gF) ++ (grW K fL 5 gL) ++ (grW K fM 5 gM)) s.heap.size) (H0 := s.heap) B.exec B.bytes hml (fun w hw => atoms_spec (ws := w0_Se_sumRests) B.pre w (List.mem_cons_of_mem _ hw)) (findClass_of_methodNamed B.named) hK (Nat.le_refl _) (Nat.le_refl _) (Nat.zero_le _) (Nat.zero_le _) (fun q h => Or.inr h) (fun r er pc ls H locs hd hP hD hS => ?_) hf ls hP (hD0.self (sz := s.heap.size)) va_S.rf hl
  subst er
  exact W.vret B.exec B.bytes B.returns (fun t ht hW => ⟨⟨rfl, by rw [ht]; exact hP, va_K.moved hW.alike hK, hD⟩, hS.F ht⟩) hS.2.2 hd (hlocks := B.notSynchronized)
end
section
variable {p : Program} {l : Launch} {e : Env} {R : Room} {s : State} {m : MethodId} {args : Array Value} {below : List Frame} {meth : Method} {c : Code} {H : Heap} {locs : List Loc} {cells slots : Nat} {Q : State → Prop} {A : Nat → Prop} {H0 : Heap}
variable {n : Nat} {D : va_G} {K : Nat → ClassId} {sq : Nat} {sA : Nat} {sF : Nat} {sLe : Nat} {sMo : Nat} {sAl : Nat} {sRL : Nat} {sRM : Nat} {sLn : Nat} {sKL : Nat} {sKW : Nat} {fF : Nat → Nat} {fL : Nat → Nat} {fM : Nat → Nat} {sAssigned : Nat → Option Nat} {sLeast : Nat → Int32} {sMost : Nat → Int32} {sCount : Int32} {sAllowed : Nat → Int64} {sLengths : Nat → Int32} {sKept : Bool} {sKeptLengths : Nat → Int32} {sKeptWords : Nat → Int64} {gF : Nat → Nat → Int32} {gL : Nat → Nat → Int32} {gM : Nat → Nat → Int32}
def f_Se_openLengths_10 (n : Nat) (v1 : Int32) (sLeast : Nat → Int32) (sMost : Nat → Int32) (sCount : Int32) (sLengths : Nat → Int32) (gF : Nat → Nat → Int32) (gL : Nat → Nat → Int32) (gM : Nat → Nat → Int32) : Nat → Int32 → Int64 → Int64 → Option ((Int64) ⊕ (Int32 × Int64 × Int64))
  | 0, _, _, _ => none
  | k + 1, v6, v4, v2 =>
    if sCount ≤ v6 then
      some (.inr (v6, v4, v2))
    else
      (f_Se_sumBefore n v6 v1 sLengths gF).bind fun u52 =>
      (some (u52.toInt64)).bind fun u53 =>
      ogd (gin v6 8) <|
      ogd (gin v6 8) <|
      ogd (gin (v1 + 1) 5) <|
      (some ((((sLeast v6.toNatClampNeg).toInt64) - u53) - ((gM v6.toNatClampNeg (v1 + 1).toNatClampNeg).toInt64))).bind fun u57 =>
      ogd (gin v6 8) <|
      ogd (gin v6 8) <|
      ogd (gin (v1 + 1) 5) <|
      (some ((((sMost v6.toNatClampNeg).toInt64) - u53) - ((gL v6.toNatClampNeg (v1 + 1).toNatClampNeg).toInt64))).bind fun u61 =>
      ogd (gin v6 8) <|
      ogd (gin v1 4) <|
      (some (gF v6.toNatClampNeg v1.toNatClampNeg)).bind fun u64 =>
      if u64 = 0 then
        if 0 < u57 then
          some (.inl 0)
        else
          if 0 ≤ u61 then
            if u64 ≤ 0 then
              if 0 ≤ u64 then
                f_Se_openLengths_10 n v1 sLeast sMost sCount sLengths gF gL gM k (v6 + 1) v4 v2
              else
                (f_Se_quotientAbove n (-u61) ((-u64).toInt64)).bind fun u85 =>
                (some (if u85 < v2 then v2 else u85)).bind fun u86 =>
                (f_Mt_floorDiv_J n (-u57) ((-u64).toInt64)).bind fun u87 =>
                (some (if u87 < v4 then u87 else v4)).bind fun u88 =>
                f_Se_openLengths_10 n v1 sLeast sMost sCount sLengths gF gL gM k (v6 + 1) u88 u86
            else
              (f_Se_quotientAbove n u57 u64.toInt64).bind fun u89 =>
              (some (if u89 < v2 then v2 else u89)).bind fun u90 =>
              (f_Mt_floorDiv_J n u61 u64.toInt64).bind fun u91 =>
              (some (if u91 < v4 then u91 else v4)).bind fun u92 =>
              if 0 ≤ u64 then
                f_Se_openLengths_10 n v1 sLeast sMost sCount sLengths gF gL gM k (v6 + 1) u92 u90
              else
                (f_Se_quotientAbove n (-u61) ((-u64).toInt64)).bind fun u94 =>
                (some (if u94 < u90 then u90 else u94)).bind fun u95 =>
                (f_Mt_floorDiv_J n (-u57) ((-u64).toInt64)).bind fun u96 =>
                (some (if u96 < u92 then u96 else u92)).bind fun u97 =>
                f_Se_openLengths_10 n v1 sLeast sMost sCount sLengths gF gL gM k (v6 + 1) u97 u95
          else
            some (.inl 0)
      else
        if u64 ≤ 0 then
          if 0 ≤ u64 then
            f_Se_openLengths_10 n v1 sLeast sMost sCount sLengths gF gL gM k (v6 + 1) v4 v2
          else
            (f_Se_quotientAbove n (-u61) ((-u64).toInt64)).bind fun u68 =>
            (some (if u68 < v2 then v2 else u68)).bind fun u69 =>
            (f_Mt_floorDiv_J n (-u57) ((-u64).toInt64)).bind fun u70 =>
            (some (if u70 < v4 then u70 else v4)).bind fun u71 =>
            f_Se_openLengths_10 n v1 sLeast sMost sCount sLengths gF gL gM k (v6 + 1) u71 u69
        else
          (f_Se_quotientAbove n u57 u64.toInt64).bind fun u72 =>
          (some (if u72 < v2 then v2 else u72)).bind fun u73 =>
          (f_Mt_floorDiv_J n u61 u64.toInt64).bind fun u74 =>
          (some (if u74 < v4 then u74 else v4)).bind fun u75 =>
          if 0 ≤ u64 then
            f_Se_openLengths_10 n v1 sLeast sMost sCount sLengths gF gL gM k (v6 + 1) u75 u73
          else
            (f_Se_quotientAbove n (-u61) ((-u64).toInt64)).bind fun u77 =>
            (some (if u77 < u73 then u73 else u77)).bind fun u78 =>
            (f_Mt_floorDiv_J n (-u57) ((-u64).toInt64)).bind fun u79 =>
            (some (if u79 < u75 then u79 else u75)).bind fun u80 =>
            f_Se_openLengths_10 n v1 sLeast sMost sCount sLengths gF gL gM k (v6 + 1) u80 u78
set_option maxHeartbeats 4000000 in
set_option maxRecDepth 100000 in
theorem w_Se_openLengths_10  {v1 : Int32} (hx : p.tables.exec = Jvm.exec) (hb : c.code = b_Se_openLengths) (hml : c.maxLocals = 14) (hts : ∀ w ∈ gW, w.before args s = true) (hown : s.vm.findClass "RegularSolver$Search" = some m.cls) (hK : va_K D vwCl (tG K) s) (hRf : 2 ≤ R.frames) (hRl : 48 ≤ R.locals) (hRc : cells ≤ R.cells) (hRs : slots ≤ R.slots) (hP : va_P D vwCl ((seW K sq sA sF sLe sMo sAl sRL sRM sLn sKL sKW fF fL fM sAssigned sLeast sMost sCount sAllowed sLengths sKept sKeptLengths sKeptWords) ++ (grW K fF 4 gF) ++ (grW K fL 5 gL) ++ (grW K fM 5 gM)) H)  {out : (Int64) ⊕ (Int32 × Int64 × Int64)} (Kr : ∀ (r : Int64), out = .inl r → ∀ (pc : Nat) (ls : Array Slot), decode b_Se_openLengths pc = .ok (.lreturn, 1) → W p l e R s m args below meth c H locs cells slots Q (F0 m pc ls [.long r])) (Kx : ∀ (u : Int32 × Int64 × Int64), out = .inr u → ∀ (ls : Array Slot), lv_has ls 14 [(4, .long u.2.1), (2, .long u.2.2), (0, .ref sq), (1, .int v1)] → W p l e R s m args below meth c H locs cells slots Q (F0 m 189 ls [])) :
    ∀ (k : Nat) (v6 : Int32) (v4 : Int64) (v2 : Int64), f_Se_openLengths_10 n v1 sLeast sMost sCount sLengths gF gL gM k v6 v4 v2 = some out → ∀ (ls : Array Slot), lv_has ls 14 [(6, .int v6), (4, .long v4), (2, .long v2), (0, .ref sq), (1, .int v1)] → W p l e R s m args below meth c H locs cells slots Q (F0 m 10 ls []) := by
  intro k
  induction k with
  | zero => intro _ _ _ hf; exact nomatch (show none = some out from hf)
  | succ k ih =>
    intro v6 v4 v2 hf ls hl
    rw [f_Se_openLengths_10] at hf
    refine lv_iload hx hb d_Se_openLengths_10 (lv_at hl 0 rfl) ?_
    refine lv_aload_n hx hb d_Se_openLengths_12 rfl (lv_at hl 3 rfl) ?_
    refine va_get (D := D) (ci := 9) (v := .int sCount) (C := R_Se) (T := T_Se) (N := 12) hx hb hts in_Se hown hK hP 0 rfl rfl 4 (by decide) (hts _ fl_Se_29) (fun _ h9 => h9) rfl d_Se_openLengths_13 ?_
    refine lv_icmp_ge (tgt := 189) hx hb d_Se_openLengths_16 (by decide) (fun c51 => ?_) (fun c51 => ?_)
    · rw [if_pos c51] at hf
      exact Kx _ (Option.some.inj hf).symm _ (show lv_has ls 14 [(4, .long v4), (2, .long v2), (0, .ref sq), (1, .int v1)] from lv_sub hl [1, 2, 3, 4] rfl)
    · rw [if_neg c51] at hf
      refine lv_aload_n hx hb d_Se_openLengths_19 rfl (lv_at hl 3 rfl) ?_
      refine lv_iload hx hb d_Se_openLengths_20 (lv_at hl 0 rfl) ?_
      refine lv_iload_n hx hb d_Se_openLengths_22 rfl (lv_at hl 4 rfl) ?_
      obtain ⟨u52, eu52, hf⟩ := obd hf
      refine p_call (W.runV (As := [.int v6, .int v1]) (rest := []) ⟨hx, hb, hml, hown, hts⟩ (c_Se_sumBefore l eu52) (gV 2 hts cd_Se_sumBefore ml_Se_102 im_Se_sumBefore se_Se_sumBefore ini_Se rfl rfl pd_Se_sumBefore ⟨Nat.le_trans (Nat.le_of_ble_eq_true rfl) hRf, Nat.le_trans (Nat.le_of_ble_eq_true rfl) hRl⟩) ⟨pPre_blind, va_recv hK (vaL (vaL (vaL hP))) (ci := 9) (q0 := 0) rfl rfl, pPre_of hP hK⟩ rfl rfl hl.1 rfl (lv_room (Nat.le_of_ble_eq_true rfl)) d_Se_openLengths_23 ⟨hRc, hRs⟩) ?_
      refine lv_i2l (v := u52.toInt64) hx hb d_Se_openLengths_26 rfl ?_
      obtain ⟨u53, eu53, hf⟩ := obd hf
      rw [Option.some.inj eu53]
      refine lv_lstore (lv' := [(7, .long u53), (6, .int v6), (4, .long v4), (2, .long v2), (0, .ref sq), (1, .int v1)]) hx hb d_Se_openLengths_27 hl (by decide) rfl (fun ls hl => ?_)
      refine lv_aload_n hx hb d_Se_openLengths_29 rfl (lv_at hl 4 rfl) ?_
      refine va_get (D := D) (ci := 9) (v := .ref sLe) (C := R_Se) (T := T_Se) (N := 12) hx hb hts in_Se hown hK hP 0 rfl rfl 2 (by decide) (hts _ fl_Se_22) (fun _ h9 => h9) rfl d_Se_openLengths_30 ?_
      refine lv_iload hx hb d_Se_openLengths_33 (lv_at hl 1 rfl) ?_
      obtain ⟨g54, hf⟩ := ogi hf
      refine va_iald hx hb hK hP 3 0 rfl rfl (gin_in g54) d_Se_openLengths_35 ?_
      refine lv_i2l (v := (sLeast v6.toNatClampNeg).toInt64) hx hb d_Se_openLengths_36 rfl ?_
      refine lv_lload hx hb d_Se_openLengths_37 (lv_at hl 0 rfl) ?_
      refine lv_lsub hx hb d_Se_openLengths_39 ?_
      refine lv_aload_n hx hb d_Se_openLengths_40 rfl (lv_at hl 4 rfl) ?_
      refine va_get (D := D) (ci := 9) (v := .ref sRM) (C := R_Se) (T := T_Se) (N := 12) hx hb hts in_Se hown hK hP 0 rfl rfl 7 (by decide) (hts _ fl_Se_40) (fun _ h9 => h9) rfl d_Se_openLengths_41 ?_
      refine lv_iload hx hb d_Se_openLengths_44 (lv_at hl 1 rfl) ?_
      obtain ⟨g55, hf⟩ := ogi hf
      refine gr_ald hx hb hK hP 7 4 rfl rfl (gin_in g55) d_Se_openLengths_46 ?_
      refine lv_iload_n hx hb d_Se_openLengths_47 rfl (lv_at hl 5 rfl) ?_
      refine lv_iconst (v := 1) hx hb d_Se_openLengths_48 (by decide) ?_
      refine lv_iadd hx hb d_Se_openLengths_49 ?_
      obtain ⟨g56, hf⟩ := ogi hf
      refine va_iald hx hb hK (vaR hP) v6.toNatClampNeg 0 (gr_at (gin_lt g55)) rfl (gin_in g56) d_Se_openLengths_50 ?_
      refine lv_i2l (v := (gM v6.toNatClampNeg (v1 + 1).toNatClampNeg).toInt64) hx hb d_Se_openLengths_51 rfl ?_
      refine lv_lsub hx hb d_Se_openLengths_52 ?_
      obtain ⟨u57, eu57, hf⟩ := obd hf
      rw [Option.some.inj eu57]
      refine lv_lstore (lv' := [(9, .long u57), (7, .long u53), (6, .int v6), (4, .long v4), (2, .long v2), (0, .ref sq), (1, .int v1)]) hx hb d_Se_openLengths_53 hl (by decide) rfl (fun ls hl => ?_)
      refine lv_aload_n hx hb d_Se_openLengths_55 rfl (lv_at hl 5 rfl) ?_
      refine va_get (D := D) (ci := 9) (v := .ref sMo) (C := R_Se) (T := T_Se) (N := 12) hx hb hts in_Se hown hK hP 0 rfl rfl 3 (by decide) (hts _ fl_Se_26) (fun _ h9 => h9) rfl d_Se_openLengths_56 ?_
      refine lv_iload hx hb d_Se_openLengths_59 (lv_at hl 2 rfl) ?_
      obtain ⟨g58, hf⟩ := ogi hf
      refine va_iald hx hb hK hP 4 0 rfl rfl (gin_in g58) d_Se_openLengths_61 ?_
      refine lv_i2l (v := (sMost v6.toNatClampNeg).toInt64) hx hb d_Se_openLengths_62 rfl ?_
      refine lv_lload hx hb d_Se_openLengths_63 (lv_at hl 1 rfl) ?_
      refine lv_lsub hx hb d_Se_openLengths_65 ?_
      refine lv_aload_n hx hb d_Se_openLengths_66 rfl (lv_at hl 5 rfl) ?_
      refine va_get (D := D) (ci := 9) (v := .ref sRL) (C := R_Se) (T := T_Se) (N := 12) hx hb hts in_Se hown hK hP 0 rfl rfl 6 (by decide) (hts _ fl_Se_37) (fun _ h9 => h9) rfl d_Se_openLengths_67 ?_
      refine lv_iload hx hb d_Se_openLengths_70 (lv_at hl 2 rfl) ?_
      obtain ⟨g59, hf⟩ := ogi hf
      refine gr_ald hx hb hK hP 6 4 rfl rfl (gin_in g59) d_Se_openLengths_72 ?_
      refine lv_iload_n hx hb d_Se_openLengths_73 rfl (lv_at hl 6 rfl) ?_
      refine lv_iconst (v := 1) hx hb d_Se_openLengths_74 (by decide) ?_
      refine lv_iadd hx hb d_Se_openLengths_75 ?_
      obtain ⟨g60, hf⟩ := ogi hf
      refine va_iald hx hb hK (vaR (vaL hP)) v6.toNatClampNeg 0 (gr_at (gin_lt g59)) rfl (gin_in g60) d_Se_openLengths_76 ?_
      refine lv_i2l (v := (gL v6.toNatClampNeg (v1 + 1).toNatClampNeg).toInt64) hx hb d_Se_openLengths_77 rfl ?_
      refine lv_lsub hx hb d_Se_openLengths_78 ?_
      obtain ⟨u61, eu61, hf⟩ := obd hf
      rw [Option.some.inj eu61]
      refine lv_lstore (lv' := [(11, .long u61), (9, .long u57), (7, .long u53), (6, .int v6), (4, .long v4), (2, .long v2), (0, .ref sq), (1, .int v1)]) hx hb d_Se_openLengths_79 hl (by decide) rfl (fun ls hl => ?_)
      refine lv_aload_n hx hb d_Se_openLengths_81 rfl (lv_at hl 6 rfl) ?_
      refine va_get (D := D) (ci := 9) (v := .ref sF) (C := R_Se) (T := T_Se) (N := 12) hx hb hts in_Se hown hK hP 0 rfl rfl 1 (by decide) (hts _ fl_Se_19) (fun _ h9 => h9) rfl d_Se_openLengths_82 ?_
      refine lv_iload hx hb d_Se_openLengths_85 (lv_at hl 3 rfl) ?_
      obtain ⟨g62, hf⟩ := ogi hf
      refine gr_ald hx hb hK hP 2 4 rfl rfl (gin_in g62) d_Se_openLengths_87 ?_
      refine lv_iload_n hx hb d_Se_openLengths_88 rfl (lv_at hl 7 rfl) ?_
      obtain ⟨g63, hf⟩ := ogi hf
      refine va_iald hx hb hK (vaR (vaL (vaL hP))) v6.toNatClampNeg 0 (gr_at (gin_lt g62)) rfl (gin_in g63) d_Se_openLengths_89 ?_
      obtain ⟨u64, eu64, hf⟩ := obd hf
      rw [Option.some.inj eu64]
      refine lv_istore (lv' := [(13, .int u64), (11, .long u61), (9, .long u57), (7, .long u53), (6, .int v6), (4, .long v4), (2, .long v2), (0, .ref sq), (1, .int v1)]) hx hb d_Se_openLengths_90 hl (by decide) rfl (fun ls hl => ?_)
      refine lv_iload hx hb d_Se_openLengths_92 (lv_at hl 0 rfl) ?_
      refine lv_if_ne (tgt := 113) hx hb d_Se_openLengths_94 (by decide) (fun c65 => ?_) (fun c65 => ?_)
      · rw [if_neg c65] at hf
        refine lv_iload hx hb d_Se_openLengths_113 (lv_at hl 0 rfl) ?_
        refine lv_if_le (tgt := 146) hx hb d_Se_openLengths_115 (by decide) (fun c66 => ?_) (fun c66 => ?_)
        · rw [if_pos c66] at hf
          refine lv_iload hx hb d_Se_openLengths_146 (lv_at hl 0 rfl) ?_
          refine lv_if_ge (tgt := 183) hx hb d_Se_openLengths_148 (by decide) (fun c67 => ?_) (fun c67 => ?_)
          · rw [if_pos c67] at hf
            refine lv_iinc (v := v6 + 1) (lv' := [(6, .int (v6 + 1)), (13, .int u64), (11, .long u61), (9, .long u57), (7, .long u53), (4, .long v4), (2, .long v2), (0, .ref sq), (1, .int v1)]) hx hb d_Se_openLengths_183 hl (k := 4) rfl (by first | rfl | (congr 1)) (by decide) rfl (fun ls hl => ?_)
            refine lv_goto (tgt := 10) hx hb d_Se_openLengths_186 (by decide) ?_
            exact ih _ _ _ hf _ (show lv_has ls 14 [(6, .int (v6 + 1)), (4, .long v4), (2, .long v2), (0, .ref sq), (1, .int v1)] from lv_sub hl [0, 5, 6, 7, 8] rfl)
          · rw [if_neg c67] at hf
            refine lv_lload_n hx hb d_Se_openLengths_151 rfl (lv_at hl 6 rfl) ?_
            refine lv_lload hx hb d_Se_openLengths_152 (lv_at hl 1 rfl) ?_
            refine lv_lneg hx hb d_Se_openLengths_154 ?_
            refine lv_iload hx hb d_Se_openLengths_155 (lv_at hl 0 rfl) ?_
            refine lv_ineg hx hb d_Se_openLengths_157 ?_
            refine lv_i2l (v := (-u64).toInt64) hx hb d_Se_openLengths_158 rfl ?_
            obtain ⟨u68, eu68, hf⟩ := obd hf
            refine p_call (W.runS (As := [.long (-u61), .long ((-u64).toInt64)]) (rest := [.long v2]) ⟨hx, hb, hml, hown, hts⟩ (c_Se_quotientAbove l eu68) (gS 2 hts cd_Se_quotientAbove ml_Se_105 st_Se_quotientAbove ini_Se rfl rfl pd_Se_quotientAbove ⟨Nat.le_trans (Nat.le_of_ble_eq_true rfl) hRf, Nat.le_trans (Nat.le_of_ble_eq_true rfl) hRl⟩) ⟨pPre_blind, pPre_of va_P0 hK⟩ rfl rfl hl.1 rfl (lv_room (Nat.le_of_ble_eq_true rfl)) d_Se_openLengths_159 ⟨hRc, hRs⟩) ?_
            refine va_mmax_long hx hb (by rw [hml]; exact hl.1.symm) hown (hts _ ml_Se_109) (hts _ st_Mt_max_J) (hts _ ini_Mt) (hts _ cdm_Mt_max_J) (Nat.le_trans (Nat.le_of_ble_eq_true rfl) hRf) (Nat.le_trans (Nat.le_of_ble_eq_true rfl) hRl) hRc hRs d_Se_openLengths_162 ?_
            obtain ⟨u69, eu69, hf⟩ := obd hf
            rw [Option.some.inj eu69]
            refine lv_lstore_n (lv' := [(2, .long u69), (13, .int u64), (11, .long u61), (9, .long u57), (7, .long u53), (6, .int v6), (4, .long v4), (0, .ref sq), (1, .int v1)]) hx hb d_Se_openLengths_165 rfl hl (by decide) rfl (fun ls hl => ?_)
            refine lv_lload hx hb d_Se_openLengths_166 (lv_at hl 6 rfl) ?_
            refine lv_lload hx hb d_Se_openLengths_168 (lv_at hl 3 rfl) ?_
            refine lv_lneg hx hb d_Se_openLengths_170 ?_
            refine lv_iload hx hb d_Se_openLengths_171 (lv_at hl 1 rfl) ?_
            refine lv_ineg hx hb d_Se_openLengths_173 ?_
            refine lv_i2l (v := (-u64).toInt64) hx hb d_Se_openLengths_174 rfl ?_
            obtain ⟨u70, eu70, hf⟩ := obd hf
            refine p_call (W.runS (As := [.long (-u57), .long ((-u64).toInt64)]) (rest := [.long v4]) ⟨hx, hb, hml, hown, hts⟩ (c_Mt_floorDiv_J l eu70) (gS 2 hts cd_Mt_floorDiv_J ml_Se_111 st_Mt_floorDiv_J ini_Mt rfl rfl pd_Mt_floorDiv_J ⟨Nat.le_trans (Nat.le_of_ble_eq_true rfl) hRf, Nat.le_trans (Nat.le_of_ble_eq_true rfl) hRl⟩) ⟨pPre_blind, pPre_of va_P0 hK⟩ rfl rfl hl.1 rfl (lv_room (Nat.le_of_ble_eq_true rfl)) d_Se_openLengths_175 ⟨hRc, hRs⟩) ?_
            refine va_mmin_long hx hb (by rw [hml]; exact hl.1.symm) hown (hts _ ml_Se_114) (hts _ st_Mt_min_J) (hts _ ini_Mt) (hts _ cdm_Mt_min_J) (Nat.le_trans (Nat.le_of_ble_eq_true rfl) hRf) (Nat.le_trans (Nat.le_of_ble_eq_true rfl) hRl) hRc hRs d_Se_openLengths_178 ?_
            obtain ⟨u71, eu71, hf⟩ := obd hf
            rw [Option.some.inj eu71]
            refine lv_lstore (lv' := [(4, .long u71), (2, .long u69), (13, .int u64), (11, .long u61), (9, .long u57), (7, .long u53), (6, .int v6), (0, .ref sq), (1, .int v1)]) hx hb d_Se_openLengths_181 hl (by decide) rfl (fun ls hl => ?_)
            refine lv_iinc (v := v6 + 1) (lv' := [(6, .int (v6 + 1)), (4, .long u71), (2, .long u69), (13, .int u64), (11, .long u61), (9, .long u57), (7, .long u53), (0, .ref sq), (1, .int v1)]) hx hb d_Se_openLengths_183 hl (k := 6) rfl (by first | rfl | (congr 1)) (by decide) rfl (fun ls hl => ?_)
            refine lv_goto (tgt := 10) hx hb d_Se_openLengths_186 (by decide) ?_
            exact ih _ _ _ hf _ (show lv_has ls 14 [(6, .int (v6 + 1)), (4, .long u71), (2, .long u69), (0, .ref sq), (1, .int v1)] from lv_sub hl [0, 1, 2, 7, 8] rfl)
        · rw [if_neg c66] at hf
          refine lv_lload_n hx hb d_Se_openLengths_118 rfl (lv_at hl 6 rfl) ?_
          refine lv_lload hx hb d_Se_openLengths_119 (lv_at hl 2 rfl) ?_
          refine lv_iload hx hb d_Se_openLengths_121 (lv_at hl 0 rfl) ?_
          refine lv_i2l (v := u64.toInt64) hx hb d_Se_openLengths_123 rfl ?_
          obtain ⟨u72, eu72, hf⟩ := obd hf
          refine p_call (W.runS (As := [.long u57, .long u64.toInt64]) (rest := [.long v2]) ⟨hx, hb, hml, hown, hts⟩ (c_Se_quotientAbove l eu72) (gS 2 hts cd_Se_quotientAbove ml_Se_105 st_Se_quotientAbove ini_Se rfl rfl pd_Se_quotientAbove ⟨Nat.le_trans (Nat.le_of_ble_eq_true rfl) hRf, Nat.le_trans (Nat.le_of_ble_eq_true rfl) hRl⟩) ⟨pPre_blind, pPre_of va_P0 hK⟩ rfl rfl hl.1 rfl (lv_room (Nat.le_of_ble_eq_true rfl)) d_Se_openLengths_124 ⟨hRc, hRs⟩) ?_
          refine va_mmax_long hx hb (by rw [hml]; exact hl.1.symm) hown (hts _ ml_Se_109) (hts _ st_Mt_max_J) (hts _ ini_Mt) (hts _ cdm_Mt_max_J) (Nat.le_trans (Nat.le_of_ble_eq_true rfl) hRf) (Nat.le_trans (Nat.le_of_ble_eq_true rfl) hRl) hRc hRs d_Se_openLengths_127 ?_
          obtain ⟨u73, eu73, hf⟩ := obd hf
          rw [Option.some.inj eu73]
          refine lv_lstore_n (lv' := [(2, .long u73), (13, .int u64), (11, .long u61), (9, .long u57), (7, .long u53), (6, .int v6), (4, .long v4), (0, .ref sq), (1, .int v1)]) hx hb d_Se_openLengths_130 rfl hl (by decide) rfl (fun ls hl => ?_)
          refine lv_lload hx hb d_Se_openLengths_131 (lv_at hl 6 rfl) ?_
          refine lv_lload hx hb d_Se_openLengths_133 (lv_at hl 2 rfl) ?_
          refine lv_iload hx hb d_Se_openLengths_135 (lv_at hl 1 rfl) ?_
          refine lv_i2l (v := u64.toInt64) hx hb d_Se_openLengths_137 rfl ?_
          obtain ⟨u74, eu74, hf⟩ := obd hf
          refine p_call (W.runS (As := [.long u61, .long u64.toInt64]) (rest := [.long v4]) ⟨hx, hb, hml, hown, hts⟩ (c_Mt_floorDiv_J l eu74) (gS 2 hts cd_Mt_floorDiv_J ml_Se_111 st_Mt_floorDiv_J ini_Mt rfl rfl pd_Mt_floorDiv_J ⟨Nat.le_trans (Nat.le_of_ble_eq_true rfl) hRf, Nat.le_trans (Nat.le_of_ble_eq_true rfl) hRl⟩) ⟨pPre_blind, pPre_of va_P0 hK⟩ rfl rfl hl.1 rfl (lv_room (Nat.le_of_ble_eq_true rfl)) d_Se_openLengths_138 ⟨hRc, hRs⟩) ?_
          refine va_mmin_long hx hb (by rw [hml]; exact hl.1.symm) hown (hts _ ml_Se_114) (hts _ st_Mt_min_J) (hts _ ini_Mt) (hts _ cdm_Mt_min_J) (Nat.le_trans (Nat.le_of_ble_eq_true rfl) hRf) (Nat.le_trans (Nat.le_of_ble_eq_true rfl) hRl) hRc hRs d_Se_openLengths_141 ?_
          obtain ⟨u75, eu75, hf⟩ := obd hf
          rw [Option.some.inj eu75]
          refine lv_lstore (lv' := [(4, .long u75), (2, .long u73), (13, .int u64), (11, .long u61), (9, .long u57), (7, .long u53), (6, .int v6), (0, .ref sq), (1, .int v1)]) hx hb d_Se_openLengths_144 hl (by decide) rfl (fun ls hl => ?_)
          refine lv_iload hx hb d_Se_openLengths_146 (lv_at hl 2 rfl) ?_
          refine lv_if_ge (tgt := 183) hx hb d_Se_openLengths_148 (by decide) (fun c76 => ?_) (fun c76 => ?_)
          · rw [if_pos c76] at hf
            refine lv_iinc (v := v6 + 1) (lv' := [(6, .int (v6 + 1)), (4, .long u75), (2, .long u73), (13, .int u64), (11, .long u61), (9, .long u57), (7, .long u53), (0, .ref sq), (1, .int v1)]) hx hb d_Se_openLengths_183 hl (k := 6) rfl (by first | rfl | (congr 1)) (by decide) rfl (fun ls hl => ?_)
            refine lv_goto (tgt := 10) hx hb d_Se_openLengths_186 (by decide) ?_
            exact ih _ _ _ hf _ (show lv_has ls 14 [(6, .int (v6 + 1)), (4, .long u75), (2, .long u73), (0, .ref sq), (1, .int v1)] from lv_sub hl [0, 1, 2, 7, 8] rfl)
          · rw [if_neg c76] at hf
            refine lv_lload_n hx hb d_Se_openLengths_151 rfl (lv_at hl 1 rfl) ?_
            refine lv_lload hx hb d_Se_openLengths_152 (lv_at hl 3 rfl) ?_
            refine lv_lneg hx hb d_Se_openLengths_154 ?_
            refine lv_iload hx hb d_Se_openLengths_155 (lv_at hl 2 rfl) ?_
            refine lv_ineg hx hb d_Se_openLengths_157 ?_
            refine lv_i2l (v := (-u64).toInt64) hx hb d_Se_openLengths_158 rfl ?_
            obtain ⟨u77, eu77, hf⟩ := obd hf
            refine p_call (W.runS (As := [.long (-u61), .long ((-u64).toInt64)]) (rest := [.long u73]) ⟨hx, hb, hml, hown, hts⟩ (c_Se_quotientAbove l eu77) (gS 2 hts cd_Se_quotientAbove ml_Se_105 st_Se_quotientAbove ini_Se rfl rfl pd_Se_quotientAbove ⟨Nat.le_trans (Nat.le_of_ble_eq_true rfl) hRf, Nat.le_trans (Nat.le_of_ble_eq_true rfl) hRl⟩) ⟨pPre_blind, pPre_of va_P0 hK⟩ rfl rfl hl.1 rfl (lv_room (Nat.le_of_ble_eq_true rfl)) d_Se_openLengths_159 ⟨hRc, hRs⟩) ?_
            refine va_mmax_long hx hb (by rw [hml]; exact hl.1.symm) hown (hts _ ml_Se_109) (hts _ st_Mt_max_J) (hts _ ini_Mt) (hts _ cdm_Mt_max_J) (Nat.le_trans (Nat.le_of_ble_eq_true rfl) hRf) (Nat.le_trans (Nat.le_of_ble_eq_true rfl) hRl) hRc hRs d_Se_openLengths_162 ?_
            obtain ⟨u78, eu78, hf⟩ := obd hf
            rw [Option.some.inj eu78]
            refine lv_lstore_n (lv' := [(2, .long u78), (4, .long u75), (13, .int u64), (11, .long u61), (9, .long u57), (7, .long u53), (6, .int v6), (0, .ref sq), (1, .int v1)]) hx hb d_Se_openLengths_165 rfl hl (by decide) rfl (fun ls hl => ?_)
            refine lv_lload hx hb d_Se_openLengths_166 (lv_at hl 1 rfl) ?_
            refine lv_lload hx hb d_Se_openLengths_168 (lv_at hl 4 rfl) ?_
            refine lv_lneg hx hb d_Se_openLengths_170 ?_
            refine lv_iload hx hb d_Se_openLengths_171 (lv_at hl 2 rfl) ?_
            refine lv_ineg hx hb d_Se_openLengths_173 ?_
            refine lv_i2l (v := (-u64).toInt64) hx hb d_Se_openLengths_174 rfl ?_
            obtain ⟨u79, eu79, hf⟩ := obd hf
            refine p_call (W.runS (As := [.long (-u57), .long ((-u64).toInt64)]) (rest := [.long u75]) ⟨hx, hb, hml, hown, hts⟩ (c_Mt_floorDiv_J l eu79) (gS 2 hts cd_Mt_floorDiv_J ml_Se_111 st_Mt_floorDiv_J ini_Mt rfl rfl pd_Mt_floorDiv_J ⟨Nat.le_trans (Nat.le_of_ble_eq_true rfl) hRf, Nat.le_trans (Nat.le_of_ble_eq_true rfl) hRl⟩) ⟨pPre_blind, pPre_of va_P0 hK⟩ rfl rfl hl.1 rfl (lv_room (Nat.le_of_ble_eq_true rfl)) d_Se_openLengths_175 ⟨hRc, hRs⟩) ?_
            refine va_mmin_long hx hb (by rw [hml]; exact hl.1.symm) hown (hts _ ml_Se_114) (hts _ st_Mt_min_J) (hts _ ini_Mt) (hts _ cdm_Mt_min_J) (Nat.le_trans (Nat.le_of_ble_eq_true rfl) hRf) (Nat.le_trans (Nat.le_of_ble_eq_true rfl) hRl) hRc hRs d_Se_openLengths_178 ?_
            obtain ⟨u80, eu80, hf⟩ := obd hf
            rw [Option.some.inj eu80]
            refine lv_lstore (lv' := [(4, .long u80), (2, .long u78), (13, .int u64), (11, .long u61), (9, .long u57), (7, .long u53), (6, .int v6), (0, .ref sq), (1, .int v1)]) hx hb d_Se_openLengths_181 hl (by decide) rfl (fun ls hl => ?_)
            refine lv_iinc (v := v6 + 1) (lv' := [(6, .int (v6 + 1)), (4, .long u80), (2, .long u78), (13, .int u64), (11, .long u61), (9, .long u57), (7, .long u53), (0, .ref sq), (1, .int v1)]) hx hb d_Se_openLengths_183 hl (k := 6) rfl (by first | rfl | (congr 1)) (by decide) rfl (fun ls hl => ?_)
            refine lv_goto (tgt := 10) hx hb d_Se_openLengths_186 (by decide) ?_
            exact ih _ _ _ hf _ (show lv_has ls 14 [(6, .int (v6 + 1)), (4, .long u80), (2, .long u78), (0, .ref sq), (1, .int v1)] from lv_sub hl [0, 1, 2, 7, 8] rfl)
      · rw [if_pos c65] at hf
        refine lv_lload hx hb d_Se_openLengths_97 (lv_at hl 2 rfl) ?_
        refine lv_lconst (v := 0) hx hb d_Se_openLengths_99 (by decide) ?_
        refine W.lcmp hx hb d_Se_openLengths_100 ?_
        refine lc_gt (tgt := 111) hx hb d_Se_openLengths_101 (by decide) (fun c81 => ?_) (fun c81 => ?_)
        · rw [if_pos c81] at hf
          refine lv_lconst (v := 0) hx hb d_Se_openLengths_111 (by decide) ?_
          exact Kr _ (Option.some.inj hf).symm _ _ d_Se_openLengths_112
        · rw [if_neg c81] at hf
          refine lv_lload hx hb d_Se_openLengths_104 (lv_at hl 1 rfl) ?_
          refine lv_lconst (v := 0) hx hb d_Se_openLengths_106 (by decide) ?_
          refine W.lcmp hx hb d_Se_openLengths_107 ?_
          refine lc_ge (tgt := 113) hx hb d_Se_openLengths_108 (by decide) (fun c82 => ?_) (fun c82 => ?_)
          · rw [if_pos c82] at hf
            refine lv_iload hx hb d_Se_openLengths_113 (lv_at hl 0 rfl) ?_
            refine lv_if_le (tgt := 146) hx hb d_Se_openLengths_115 (by decide) (fun c83 => ?_) (fun c83 => ?_)
            · rw [if_pos c83] at hf
              refine lv_iload hx hb d_Se_openLengths_146 (lv_at hl 0 rfl) ?_
              refine lv_if_ge (tgt := 183) hx hb d_Se_openLengths_148 (by decide) (fun c84 => ?_) (fun c84 => ?_)
              · rw [if_pos c84] at hf
                refine lv_iinc (v := v6 + 1) (lv' := [(6, .int (v6 + 1)), (13, .int u64), (11, .long u61), (9, .long u57), (7, .long u53), (4, .long v4), (2, .long v2), (0, .ref sq), (1, .int v1)]) hx hb d_Se_openLengths_183 hl (k := 4) rfl (by first | rfl | (congr 1)) (by decide) rfl (fun ls hl => ?_)
                refine lv_goto (tgt := 10) hx hb d_Se_openLengths_186 (by decide) ?_
                exact ih _ _ _ hf _ (show lv_has ls 14 [(6, .int (v6 + 1)), (4, .long v4), (2, .long v2), (0, .ref sq), (1, .int v1)] from lv_sub hl [0, 5, 6, 7, 8] rfl)
              · rw [if_neg c84] at hf
                refine lv_lload_n hx hb d_Se_openLengths_151 rfl (lv_at hl 6 rfl) ?_
                refine lv_lload hx hb d_Se_openLengths_152 (lv_at hl 1 rfl) ?_
                refine lv_lneg hx hb d_Se_openLengths_154 ?_
                refine lv_iload hx hb d_Se_openLengths_155 (lv_at hl 0 rfl) ?_
                refine lv_ineg hx hb d_Se_openLengths_157 ?_
                refine lv_i2l (v := (-u64).toInt64) hx hb d_Se_openLengths_158 rfl ?_
                obtain ⟨u85, eu85, hf⟩ := obd hf
                refine p_call (W.runS (As := [.long (-u61), .long ((-u64).toInt64)]) (rest := [.long v2]) ⟨hx, hb, hml, hown, hts⟩ (c_Se_quotientAbove l eu85) (gS 2 hts cd_Se_quotientAbove ml_Se_105 st_Se_quotientAbove ini_Se rfl rfl pd_Se_quotientAbove ⟨Nat.le_trans (Nat.le_of_ble_eq_true rfl) hRf, Nat.le_trans (Nat.le_of_ble_eq_true rfl) hRl⟩) ⟨pPre_blind, pPre_of va_P0 hK⟩ rfl rfl hl.1 rfl (lv_room (Nat.le_of_ble_eq_true rfl)) d_Se_openLengths_159 ⟨hRc, hRs⟩) ?_
                refine va_mmax_long hx hb (by rw [hml]; exact hl.1.symm) hown (hts _ ml_Se_109) (hts _ st_Mt_max_J) (hts _ ini_Mt) (hts _ cdm_Mt_max_J) (Nat.le_trans (Nat.le_of_ble_eq_true rfl) hRf) (Nat.le_trans (Nat.le_of_ble_eq_true rfl) hRl) hRc hRs d_Se_openLengths_162 ?_
                obtain ⟨u86, eu86, hf⟩ := obd hf
                rw [Option.some.inj eu86]
                refine lv_lstore_n (lv' := [(2, .long u86), (13, .int u64), (11, .long u61), (9, .long u57), (7, .long u53), (6, .int v6), (4, .long v4), (0, .ref sq), (1, .int v1)]) hx hb d_Se_openLengths_165 rfl hl (by decide) rfl (fun ls hl => ?_)
                refine lv_lload hx hb d_Se_openLengths_166 (lv_at hl 6 rfl) ?_
                refine lv_lload hx hb d_Se_openLengths_168 (lv_at hl 3 rfl) ?_
                refine lv_lneg hx hb d_Se_openLengths_170 ?_
                refine lv_iload hx hb d_Se_openLengths_171 (lv_at hl 1 rfl) ?_
                refine lv_ineg hx hb d_Se_openLengths_173 ?_
                refine lv_i2l (v := (-u64).toInt64) hx hb d_Se_openLengths_174 rfl ?_
                obtain ⟨u87, eu87, hf⟩ := obd hf
                refine p_call (W.runS (As := [.long (-u57), .long ((-u64).toInt64)]) (rest := [.long v4]) ⟨hx, hb, hml, hown, hts⟩ (c_Mt_floorDiv_J l eu87) (gS 2 hts cd_Mt_floorDiv_J ml_Se_111 st_Mt_floorDiv_J ini_Mt rfl rfl pd_Mt_floorDiv_J ⟨Nat.le_trans (Nat.le_of_ble_eq_true rfl) hRf, Nat.le_trans (Nat.le_of_ble_eq_true rfl) hRl⟩) ⟨pPre_blind, pPre_of va_P0 hK⟩ rfl rfl hl.1 rfl (lv_room (Nat.le_of_ble_eq_true rfl)) d_Se_openLengths_175 ⟨hRc, hRs⟩) ?_
                refine va_mmin_long hx hb (by rw [hml]; exact hl.1.symm) hown (hts _ ml_Se_114) (hts _ st_Mt_min_J) (hts _ ini_Mt) (hts _ cdm_Mt_min_J) (Nat.le_trans (Nat.le_of_ble_eq_true rfl) hRf) (Nat.le_trans (Nat.le_of_ble_eq_true rfl) hRl) hRc hRs d_Se_openLengths_178 ?_
                obtain ⟨u88, eu88, hf⟩ := obd hf
                rw [Option.some.inj eu88]
                refine lv_lstore (lv' := [(4, .long u88), (2, .long u86), (13, .int u64), (11, .long u61), (9, .long u57), (7, .long u53), (6, .int v6), (0, .ref sq), (1, .int v1)]) hx hb d_Se_openLengths_181 hl (by decide) rfl (fun ls hl => ?_)
                refine lv_iinc (v := v6 + 1) (lv' := [(6, .int (v6 + 1)), (4, .long u88), (2, .long u86), (13, .int u64), (11, .long u61), (9, .long u57), (7, .long u53), (0, .ref sq), (1, .int v1)]) hx hb d_Se_openLengths_183 hl (k := 6) rfl (by first | rfl | (congr 1)) (by decide) rfl (fun ls hl => ?_)
                refine lv_goto (tgt := 10) hx hb d_Se_openLengths_186 (by decide) ?_
                exact ih _ _ _ hf _ (show lv_has ls 14 [(6, .int (v6 + 1)), (4, .long u88), (2, .long u86), (0, .ref sq), (1, .int v1)] from lv_sub hl [0, 1, 2, 7, 8] rfl)
            · rw [if_neg c83] at hf
              refine lv_lload_n hx hb d_Se_openLengths_118 rfl (lv_at hl 6 rfl) ?_
              refine lv_lload hx hb d_Se_openLengths_119 (lv_at hl 2 rfl) ?_
              refine lv_iload hx hb d_Se_openLengths_121 (lv_at hl 0 rfl) ?_
              refine lv_i2l (v := u64.toInt64) hx hb d_Se_openLengths_123 rfl ?_
              obtain ⟨u89, eu89, hf⟩ := obd hf
              refine p_call (W.runS (As := [.long u57, .long u64.toInt64]) (rest := [.long v2]) ⟨hx, hb, hml, hown, hts⟩ (c_Se_quotientAbove l eu89) (gS 2 hts cd_Se_quotientAbove ml_Se_105 st_Se_quotientAbove ini_Se rfl rfl pd_Se_quotientAbove ⟨Nat.le_trans (Nat.le_of_ble_eq_true rfl) hRf, Nat.le_trans (Nat.le_of_ble_eq_true rfl) hRl⟩) ⟨pPre_blind, pPre_of va_P0 hK⟩ rfl rfl hl.1 rfl (lv_room (Nat.le_of_ble_eq_true rfl)) d_Se_openLengths_124 ⟨hRc, hRs⟩) ?_
              refine va_mmax_long hx hb (by rw [hml]; exact hl.1.symm) hown (hts _ ml_Se_109) (hts _ st_Mt_max_J) (hts _ ini_Mt) (hts _ cdm_Mt_max_J) (Nat.le_trans (Nat.le_of_ble_eq_true rfl) hRf) (Nat.le_trans (Nat.le_of_ble_eq_true rfl) hRl) hRc hRs d_Se_openLengths_127 ?_
              obtain ⟨u90, eu90, hf⟩ := obd hf
              rw [Option.some.inj eu90]
              refine lv_lstore_n (lv' := [(2, .long u90), (13, .int u64), (11, .long u61), (9, .long u57), (7, .long u53), (6, .int v6), (4, .long v4), (0, .ref sq), (1, .int v1)]) hx hb d_Se_openLengths_130 rfl hl (by decide) rfl (fun ls hl => ?_)
              refine lv_lload hx hb d_Se_openLengths_131 (lv_at hl 6 rfl) ?_
              refine lv_lload hx hb d_Se_openLengths_133 (lv_at hl 2 rfl) ?_
              refine lv_iload hx hb d_Se_openLengths_135 (lv_at hl 1 rfl) ?_
              refine lv_i2l (v := u64.toInt64) hx hb d_Se_openLengths_137 rfl ?_
              obtain ⟨u91, eu91, hf⟩ := obd hf
              refine p_call (W.runS (As := [.long u61, .long u64.toInt64]) (rest := [.long v4]) ⟨hx, hb, hml, hown, hts⟩ (c_Mt_floorDiv_J l eu91) (gS 2 hts cd_Mt_floorDiv_J ml_Se_111 st_Mt_floorDiv_J ini_Mt rfl rfl pd_Mt_floorDiv_J ⟨Nat.le_trans (Nat.le_of_ble_eq_true rfl) hRf, Nat.le_trans (Nat.le_of_ble_eq_true rfl) hRl⟩) ⟨pPre_blind, pPre_of va_P0 hK⟩ rfl rfl hl.1 rfl (lv_room (Nat.le_of_ble_eq_true rfl)) d_Se_openLengths_138 ⟨hRc, hRs⟩) ?_
              refine va_mmin_long hx hb (by rw [hml]; exact hl.1.symm) hown (hts _ ml_Se_114) (hts _ st_Mt_min_J) (hts _ ini_Mt) (hts _ cdm_Mt_min_J) (Nat.le_trans (Nat.le_of_ble_eq_true rfl) hRf) (Nat.le_trans (Nat.le_of_ble_eq_true rfl) hRl) hRc hRs d_Se_openLengths_141 ?_
              obtain ⟨u92, eu92, hf⟩ := obd hf
              rw [Option.some.inj eu92]
              refine lv_lstore (lv' := [(4, .long u92), (2, .long u90), (13, .int u64), (11, .long u61), (9, .long u57), (7, .long u53), (6, .int v6), (0, .ref sq), (1, .int v1)]) hx hb d_Se_openLengths_144 hl (by decide) rfl (fun ls hl => ?_)
              refine lv_iload hx hb d_Se_openLengths_146 (lv_at hl 2 rfl) ?_
              refine lv_if_ge (tgt := 183) hx hb d_Se_openLengths_148 (by decide) (fun c93 => ?_) (fun c93 => ?_)
              · rw [if_pos c93] at hf
                refine lv_iinc (v := v6 + 1) (lv' := [(6, .int (v6 + 1)), (4, .long u92), (2, .long u90), (13, .int u64), (11, .long u61), (9, .long u57), (7, .long u53), (0, .ref sq), (1, .int v1)]) hx hb d_Se_openLengths_183 hl (k := 6) rfl (by first | rfl | (congr 1)) (by decide) rfl (fun ls hl => ?_)
                refine lv_goto (tgt := 10) hx hb d_Se_openLengths_186 (by decide) ?_
                exact ih _ _ _ hf _ (show lv_has ls 14 [(6, .int (v6 + 1)), (4, .long u92), (2, .long u90), (0, .ref sq), (1, .int v1)] from lv_sub hl [0, 1, 2, 7, 8] rfl)
              · rw [if_neg c93] at hf
                refine lv_lload_n hx hb d_Se_openLengths_151 rfl (lv_at hl 1 rfl) ?_
                refine lv_lload hx hb d_Se_openLengths_152 (lv_at hl 3 rfl) ?_
                refine lv_lneg hx hb d_Se_openLengths_154 ?_
                refine lv_iload hx hb d_Se_openLengths_155 (lv_at hl 2 rfl) ?_
                refine lv_ineg hx hb d_Se_openLengths_157 ?_
                refine lv_i2l (v := (-u64).toInt64) hx hb d_Se_openLengths_158 rfl ?_
                obtain ⟨u94, eu94, hf⟩ := obd hf
                refine p_call (W.runS (As := [.long (-u61), .long ((-u64).toInt64)]) (rest := [.long u90]) ⟨hx, hb, hml, hown, hts⟩ (c_Se_quotientAbove l eu94) (gS 2 hts cd_Se_quotientAbove ml_Se_105 st_Se_quotientAbove ini_Se rfl rfl pd_Se_quotientAbove ⟨Nat.le_trans (Nat.le_of_ble_eq_true rfl) hRf, Nat.le_trans (Nat.le_of_ble_eq_true rfl) hRl⟩) ⟨pPre_blind, pPre_of va_P0 hK⟩ rfl rfl hl.1 rfl (lv_room (Nat.le_of_ble_eq_true rfl)) d_Se_openLengths_159 ⟨hRc, hRs⟩) ?_
                refine va_mmax_long hx hb (by rw [hml]; exact hl.1.symm) hown (hts _ ml_Se_109) (hts _ st_Mt_max_J) (hts _ ini_Mt) (hts _ cdm_Mt_max_J) (Nat.le_trans (Nat.le_of_ble_eq_true rfl) hRf) (Nat.le_trans (Nat.le_of_ble_eq_true rfl) hRl) hRc hRs d_Se_openLengths_162 ?_
                obtain ⟨u95, eu95, hf⟩ := obd hf
                rw [Option.some.inj eu95]
                refine lv_lstore_n (lv' := [(2, .long u95), (4, .long u92), (13, .int u64), (11, .long u61), (9, .long u57), (7, .long u53), (6, .int v6), (0, .ref sq), (1, .int v1)]) hx hb d_Se_openLengths_165 rfl hl (by decide) rfl (fun ls hl => ?_)
                refine lv_lload hx hb d_Se_openLengths_166 (lv_at hl 1 rfl) ?_
                refine lv_lload hx hb d_Se_openLengths_168 (lv_at hl 4 rfl) ?_
                refine lv_lneg hx hb d_Se_openLengths_170 ?_
                refine lv_iload hx hb d_Se_openLengths_171 (lv_at hl 2 rfl) ?_
                refine lv_ineg hx hb d_Se_openLengths_173 ?_
                refine lv_i2l (v := (-u64).toInt64) hx hb d_Se_openLengths_174 rfl ?_
                obtain ⟨u96, eu96, hf⟩ := obd hf
                refine p_call (W.runS (As := [.long (-u57), .long ((-u64).toInt64)]) (rest := [.long u92]) ⟨hx, hb, hml, hown, hts⟩ (c_Mt_floorDiv_J l eu96) (gS 2 hts cd_Mt_floorDiv_J ml_Se_111 st_Mt_floorDiv_J ini_Mt rfl rfl pd_Mt_floorDiv_J ⟨Nat.le_trans (Nat.le_of_ble_eq_true rfl) hRf, Nat.le_trans (Nat.le_of_ble_eq_true rfl) hRl⟩) ⟨pPre_blind, pPre_of va_P0 hK⟩ rfl rfl hl.1 rfl (lv_room (Nat.le_of_ble_eq_true rfl)) d_Se_openLengths_175 ⟨hRc, hRs⟩) ?_
                refine va_mmin_long hx hb (by rw [hml]; exact hl.1.symm) hown (hts _ ml_Se_114) (hts _ st_Mt_min_J) (hts _ ini_Mt) (hts _ cdm_Mt_min_J) (Nat.le_trans (Nat.le_of_ble_eq_true rfl) hRf) (Nat.le_trans (Nat.le_of_ble_eq_true rfl) hRl) hRc hRs d_Se_openLengths_178 ?_
                obtain ⟨u97, eu97, hf⟩ := obd hf
                rw [Option.some.inj eu97]
                refine lv_lstore (lv' := [(4, .long u97), (2, .long u95), (13, .int u64), (11, .long u61), (9, .long u57), (7, .long u53), (6, .int v6), (0, .ref sq), (1, .int v1)]) hx hb d_Se_openLengths_181 hl (by decide) rfl (fun ls hl => ?_)
                refine lv_iinc (v := v6 + 1) (lv' := [(6, .int (v6 + 1)), (4, .long u97), (2, .long u95), (13, .int u64), (11, .long u61), (9, .long u57), (7, .long u53), (0, .ref sq), (1, .int v1)]) hx hb d_Se_openLengths_183 hl (k := 6) rfl (by first | rfl | (congr 1)) (by decide) rfl (fun ls hl => ?_)
                refine lv_goto (tgt := 10) hx hb d_Se_openLengths_186 (by decide) ?_
                exact ih _ _ _ hf _ (show lv_has ls 14 [(6, .int (v6 + 1)), (4, .long u97), (2, .long u95), (0, .ref sq), (1, .int v1)] from lv_sub hl [0, 1, 2, 7, 8] rfl)
          · rw [if_neg c82] at hf
            refine lv_lconst (v := 0) hx hb d_Se_openLengths_111 (by decide) ?_
            exact Kr _ (Option.some.inj hf).symm _ _ d_Se_openLengths_112
def f_Se_openLengths (n : Nat) (p0 : Int32) (sLeast : Nat → Int32) (sMost : Nat → Int32) (sCount : Int32) (sAllowed : Nat → Int64) (sLengths : Nat → Int32) (gF : Nat → Nat → Int32) (gL : Nat → Nat → Int32) (gM : Nat → Nat → Int32) : Option (Int64) :=
  (some (0)).bind fun u1 =>
  (some (31)).bind fun u2 =>
  (some (0)).bind fun u3 =>
  (f_Se_openLengths_10 n p0 sLeast sMost sCount sLengths gF gL gM n u3 u2 u1).bind fun u98 => u98.elim (fun r => some r) fun x98 =>
  if x98.2.2 ≤ x98.2.1 then
    ogd (gin p0 4) <|
    (f_Se_bitsBetween n x98.2.2.toInt32 x98.2.1.toInt32).bind fun u101 =>
    some ((sAllowed p0.toNatClampNeg) &&& u101)
  else
    some 0
set_option maxHeartbeats 4000000 in
set_option maxRecDepth 100000 in
theorem w_Se_openLengths  {p0 : Int32}  (hx : p.tables.exec = Jvm.exec) (hb : c.code = b_Se_openLengths) (hml : c.maxLocals = 14) (hts : ∀ w ∈ gW, w.before args s = true) (hown : s.vm.findClass "RegularSolver$Search" = some m.cls) (hK : va_K D vwCl (tG K) s) (hRf : 2 ≤ R.frames) (hRl : 48 ≤ R.locals) (hRc : cells ≤ R.cells) (hRs : slots ≤ R.slots) (hP : va_P D vwCl ((seW K sq sA sF sLe sMo sAl sRL sRM sLn sKL sKW fF fL fM sAssigned sLeast sMost sCount sAllowed sLengths sKept sKeptLengths sKeptWords) ++ (grW K fF 4 gF) ++ (grW K fL 5 gL) ++ (grW K fM 5 gM)) H) {out : Int64} (Kr : ∀ (r : Int64), out = r → ∀ (pc : Nat) (ls : Array Slot), decode b_Se_openLengths pc = .ok (.lreturn, 1) → W p l e R s m args below meth c H locs cells slots Q (F0 m pc ls [.long r])) (hf : f_Se_openLengths n p0 sLeast sMost sCount sAllowed sLengths gF gL gM = some out) (ls : Array Slot) (hl : lv_has ls 14 [(0, .ref sq), (1, .int p0)]) : W p l e R s m args below meth c H locs cells slots Q (F0 m 0 ls []) := by
  unfold f_Se_openLengths at hf
  refine lv_lconst (v := 0) hx hb d_Se_openLengths_0 (by decide) ?_
  obtain ⟨u1, eu1, hf⟩ := obd hf
  rw [Option.some.inj eu1]
  refine lv_lstore_n (lv' := [(2, .long u1), (0, .ref sq), (1, .int p0)]) hx hb d_Se_openLengths_1 rfl hl (by decide) rfl (fun ls hl => ?_)
  refine lv_ldc2 (v := 31) hx hb hown (hts _ kl_Se_100) d_Se_openLengths_2 ?_
  obtain ⟨u2, eu2, hf⟩ := obd hf
  rw [Option.some.inj eu2]
  refine lv_lstore (lv' := [(4, .long u2), (2, .long u1), (0, .ref sq), (1, .int p0)]) hx hb d_Se_openLengths_5 hl (by decide) rfl (fun ls hl => ?_)
  refine lv_iconst (v := 0) hx hb d_Se_openLengths_7 (by decide) ?_
  obtain ⟨u3, eu3, hf⟩ := obd hf
  rw [Option.some.inj eu3]
  refine lv_istore (lv' := [(6, .int u3), (4, .long u2), (2, .long u1), (0, .ref sq), (1, .int p0)]) hx hb d_Se_openLengths_8 hl (by decide) rfl (fun ls hl => ?_)
  obtain ⟨u98, eu98, hf⟩ := obd hf
  refine w_Se_openLengths_10 hx hb hml hts hown hK hRf hRl hRc hRs hP (fun r er pc ls hd => Kr r (by subst er; exact (Option.some.inj hf).symm) pc ls hd) (fun x98 eu ls hl => ?_) _ _ _ _ eu98 _ (show lv_has ls 14 [(6, .int u3), (4, .long u2), (2, .long u1), (0, .ref sq), (1, .int p0)] from lv_sub hl [0, 1, 2, 3, 4] rfl)
  subst eu
  replace hf := oel hf
  refine lv_lload_n hx hb d_Se_openLengths_189 rfl (lv_at hl 1 rfl) ?_
  refine lv_lload hx hb d_Se_openLengths_190 (lv_at hl 0 rfl) ?_
  refine W.lcmp hx hb d_Se_openLengths_192 ?_
  refine lc_le (tgt := 200) hx hb d_Se_openLengths_193 (by decide) (fun c99 => ?_) (fun c99 => ?_)
  · rw [if_pos c99] at hf
    refine lv_aload_n hx hb d_Se_openLengths_200 rfl (lv_at hl 2 rfl) ?_
    refine va_get (D := D) (ci := 9) (v := .ref sAl) (C := R_Se) (T := T_Se) (N := 12) hx hb hts in_Se hown hK hP 0 rfl rfl 5 (by decide) (hts _ fl_Se_33) (fun _ h9 => h9) rfl d_Se_openLengths_201 ?_
    refine lv_iload_n hx hb d_Se_openLengths_204 rfl (lv_at hl 3 rfl) ?_
    obtain ⟨g100, hf⟩ := ogi hf
    refine va_lald hx hb hK hP 5 1 rfl rfl (gin_in g100) d_Se_openLengths_205 ?_
    refine lv_lload_n hx hb d_Se_openLengths_206 rfl (lv_at hl 1 rfl) ?_
    refine lv_l2i (v := x98.2.2.toInt32) hx hb d_Se_openLengths_207 rfl ?_
    refine lv_lload hx hb d_Se_openLengths_208 (lv_at hl 0 rfl) ?_
    refine lv_l2i (v := x98.2.1.toInt32) hx hb d_Se_openLengths_210 rfl ?_
    obtain ⟨u101, eu101, hf⟩ := obd hf
    refine p_call (W.runS (As := [.int x98.2.2.toInt32, .int x98.2.1.toInt32]) (rest := [.long (sAllowed p0.toNatClampNeg)]) ⟨hx, hb, hml, hown, hts⟩ (c_Se_bitsBetween l eu101) (gS 2 hts cd_Se_bitsBetween ml_Se_116 st_Se_bitsBetween ini_Se rfl rfl pd_Se_bitsBetween ⟨Nat.le_trans (Nat.le_of_ble_eq_true rfl) hRf, Nat.le_trans (Nat.le_of_ble_eq_true rfl) hRl⟩) ⟨pPre_blind, pPre_of va_P0 hK⟩ rfl rfl hl.1 rfl (lv_room (Nat.le_of_ble_eq_true rfl)) d_Se_openLengths_211 ⟨hRc, hRs⟩) ?_
    refine lv_land hx hb d_Se_openLengths_214 ?_
    exact Kr _ (Option.some.inj hf).symm _ _ d_Se_openLengths_215
  · rw [if_neg c99] at hf
    refine lv_lconst (v := 0) hx hb d_Se_openLengths_196 (by decide) ?_
    refine lv_goto (tgt := 215) hx hb d_Se_openLengths_197 (by decide) ?_
    exact Kr _ (Option.some.inj hf).symm _ _ d_Se_openLengths_215
set_option maxHeartbeats 4000000 in
set_option maxRecDepth 100000 in
theorem c_Se_openLengths (l : Launch)  {p0 : Int32}  {r : Int64} (hf : f_Se_openLengths n p0 sLeast sMost sCount sAllowed sLengths gF gL gM = some r) : Met l y_Se_openLengths w0_Se_openLengths ({ frames := 2, cells := 0, slots := 0, locals := 48 }) (pPre D K [.ref sq, .int p0] (((seW K sq sA sF sLe sMo sAl sRL sRM sLn sKL sKW fF fL fM sAssigned sLeast sMost sCount sAllowed sLengths sKept sKeptLengths sKeptWords) ++ (grW K fF 4 gF) ++ (grW K fL 5 gL) ++ (grW K fM 5 gM)))) (pPost (some (.long r))) 0 0 (fun _ => False) := by
  refine Met.ofW (cc := b_Se_openLengths) (maxL := 14) (ret := (some .long)) (by decide) rfl ?_
  intro p e s m args below meth c s₁ B hml hv
  obtain ⟨rfl, hP, hK⟩ := hv
  have hl := lv_entry [.ref sq, .int p0] (n := 14) (Nat.le_of_ble_eq_true rfl)
  rw [lg_entry_eq]
  generalize (lg_sl [.ref sq, .int p0] ++ List.replicate (14 - (lg_sl [.ref sq, .int p0]).length) Slot.unset).toArray = ls at hl ⊢
  refine w_Se_openLengths B.exec B.bytes hml (fun w hw => atoms_spec (ws := w0_Se_openLengths) B.pre w (List.mem_cons_of_mem _ hw)) (findClass_of_methodNamed B.named) hK (Nat.le_refl _) (Nat.le_refl _) (Nat.zero_le _) (Nat.zero_le _) hP (fun r er pc ls hd => ?_) hf ls hl
  subst er
  exact W.lret B.exec B.bytes B.returns (fun t ht hW => ⟨rfl, ht⟩) (fun q h => by cases h) hd (hlocks := B.notSynchronized)
end
