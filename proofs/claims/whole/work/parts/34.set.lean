abbrev b_RS_variable : ByteArray := prog_1_method_15_code
def y_RS_variable : MethodName := ⟨"RegularSolver", "variable", "(II)V"⟩
abbrev w0_RS_variable : List Cond := Cond.code y_RS_variable b_RS_variable 3 none :: gW
theorem cd_RS_variable : Cond.code y_RS_variable b_RS_variable 3 none ∈ gW := gm 697 (by decide +kernel) (by decide +kernel)
theorem d_RS_variable_0 : decode b_RS_variable 0 = .ok (.iload_n 1, 1) := by decide +kernel
theorem d_RS_variable_1 : decode b_RS_variable 1 = .ok (.iconst 0, 1) := by decide +kernel
theorem d_RS_variable_2 : decode b_RS_variable 2 = .ok (.iconst 3, 1) := by decide +kernel
theorem d_RS_variable_3 : decode b_RS_variable 3 = .ok (.invokestatic 119, 3) := by decide +kernel
theorem d_RS_variable_6 : decode b_RS_variable 6 = .ok (.iload_n 2, 1) := by decide +kernel
theorem d_RS_variable_7 : decode b_RS_variable 7 = .ok (.iconst (-1), 1) := by decide +kernel
theorem d_RS_variable_8 : decode b_RS_variable 8 = .ok (.if_icmp .ne 15, 3) := by decide +kernel
theorem d_RS_variable_11 : decode b_RS_variable 11 = .ok (.aload_n 0, 1) := by decide +kernel
theorem d_RS_variable_12 : decode b_RS_variable 12 = .ok (.getfield 43, 3) := by decide +kernel
theorem d_RS_variable_15 : decode b_RS_variable 15 = .ok (.iload_n 1, 1) := by decide +kernel
theorem d_RS_variable_16 : decode b_RS_variable 16 = .ok (.aconst_null, 1) := by decide +kernel
theorem d_RS_variable_17 : decode b_RS_variable 17 = .ok (.invokevirtual 153, 3) := by decide +kernel
theorem d_RS_variable_20 : decode b_RS_variable 20 = .ok (.goto 22, 3) := by decide +kernel
theorem d_RS_variable_23 : decode b_RS_variable 23 = .ok (.aload_n 0, 1) := by decide +kernel
theorem d_RS_variable_24 : decode b_RS_variable 24 = .ok (.iload_n 2, 1) := by decide +kernel
theorem d_RS_variable_25 : decode b_RS_variable 25 = .ok (.invokevirtual 70, 3) := by decide +kernel
theorem d_RS_variable_28 : decode b_RS_variable 28 = .ok (.aload_n 0, 1) := by decide +kernel
theorem d_RS_variable_29 : decode b_RS_variable 29 = .ok (.getfield 43, 3) := by decide +kernel
theorem d_RS_variable_32 : decode b_RS_variable 32 = .ok (.iload_n 1, 1) := by decide +kernel
theorem d_RS_variable_33 : decode b_RS_variable 33 = .ok (.aload_n 0, 1) := by decide +kernel
theorem d_RS_variable_34 : decode b_RS_variable 34 = .ok (.getfield 11, 3) := by decide +kernel
theorem d_RS_variable_37 : decode b_RS_variable 37 = .ok (.iload_n 2, 1) := by decide +kernel
theorem d_RS_variable_38 : decode b_RS_variable 38 = .ok (.aaload, 1) := by decide +kernel
theorem d_RS_variable_39 : decode b_RS_variable 39 = .ok (.invokevirtual 153, 3) := by decide +kernel
theorem d_RS_variable_42 : decode b_RS_variable 42 = .ok (.return_, 1) := by decide +kernel
abbrev b_RS_bound : ByteArray := prog_1_method_16_code
def y_RS_bound : MethodName := ⟨"RegularSolver", "bound", "(IIIIII)I"⟩
abbrev w0_RS_bound : List Cond := Cond.code y_RS_bound b_RS_bound 7 (some .int) :: gW
theorem cd_RS_bound : Cond.code y_RS_bound b_RS_bound 7 (some .int) ∈ gW := gm 708 (by decide +kernel) (by decide +kernel)
theorem d_RS_bound_0 : decode b_RS_bound 0 = .ok (.iload_n 1, 1) := by decide +kernel
theorem d_RS_bound_1 : decode b_RS_bound 1 = .ok (.invokestatic 157, 3) := by decide +kernel
theorem d_RS_bound_4 : decode b_RS_bound 4 = .ok (.iload_n 2, 1) := by decide +kernel
theorem d_RS_bound_5 : decode b_RS_bound 5 = .ok (.invokestatic 157, 3) := by decide +kernel
theorem d_RS_bound_8 : decode b_RS_bound 8 = .ok (.iload_n 3, 1) := by decide +kernel
theorem d_RS_bound_9 : decode b_RS_bound 9 = .ok (.invokestatic 157, 3) := by decide +kernel
theorem d_RS_bound_12 : decode b_RS_bound 12 = .ok (.iload 4, 2) := by decide +kernel
theorem d_RS_bound_14 : decode b_RS_bound 14 = .ok (.invokestatic 157, 3) := by decide +kernel
theorem d_RS_bound_17 : decode b_RS_bound 17 = .ok (.aload_n 0, 1) := by decide +kernel
theorem d_RS_bound_18 : decode b_RS_bound 18 = .ok (.getfield 43, 3) := by decide +kernel
theorem d_RS_bound_21 : decode b_RS_bound 21 = .ok (.invokevirtual 160, 3) := by decide +kernel
theorem d_RS_bound_24 : decode b_RS_bound 24 = .ok (.ifCond .eq 13, 3) := by decide +kernel
theorem d_RS_bound_27 : decode b_RS_bound 27 = .ok (.new 164, 3) := by decide +kernel
theorem d_RS_bound_30 : decode b_RS_bound 30 = .ok (.dup, 1) := by decide +kernel
theorem d_RS_bound_31 : decode b_RS_bound 31 = .ok (.ldc 166, 2) := by decide +kernel
theorem d_RS_bound_33 : decode b_RS_bound 33 = .ok (.invokespecial 168, 3) := by decide +kernel
theorem d_RS_bound_36 : decode b_RS_bound 36 = .ok (.athrow, 1) := by decide +kernel
theorem d_RS_bound_37 : decode b_RS_bound 37 = .ok (.aload_n 0, 1) := by decide +kernel
theorem d_RS_bound_38 : decode b_RS_bound 38 = .ok (.getfield 43, 3) := by decide +kernel
theorem d_RS_bound_41 : decode b_RS_bound 41 = .ok (.iload_n 1, 1) := by decide +kernel
theorem d_RS_bound_42 : decode b_RS_bound 42 = .ok (.iload_n 2, 1) := by decide +kernel
theorem d_RS_bound_43 : decode b_RS_bound 43 = .ok (.iload_n 3, 1) := by decide +kernel
theorem d_RS_bound_44 : decode b_RS_bound 44 = .ok (.iload 4, 2) := by decide +kernel
theorem d_RS_bound_46 : decode b_RS_bound 46 = .ok (.iload 5, 2) := by decide +kernel
theorem d_RS_bound_48 : decode b_RS_bound 48 = .ok (.iload 6, 2) := by decide +kernel
theorem d_RS_bound_50 : decode b_RS_bound 50 = .ok (.invokevirtual 169, 3) := by decide +kernel
theorem d_RS_bound_53 : decode b_RS_bound 53 = .ok (.ireturn, 1) := by decide +kernel
abbrev b_RS_clear : ByteArray := prog_1_method_17_code
def y_RS_clear : MethodName := ⟨"RegularSolver", "clear", "()V"⟩
abbrev w0_RS_clear : List Cond := Cond.code y_RS_clear b_RS_clear 1 none :: gW
theorem cd_RS_clear : Cond.code y_RS_clear b_RS_clear 1 none ∈ gW := gm 172 (by decide +kernel) (by decide +kernel)
theorem d_RS_clear_0 : decode b_RS_clear 0 = .ok (.aload_n 0, 1) := by decide +kernel
theorem d_RS_clear_1 : decode b_RS_clear 1 = .ok (.getfield 43, 3) := by decide +kernel
theorem d_RS_clear_4 : decode b_RS_clear 4 = .ok (.invokevirtual 173, 3) := by decide +kernel
theorem d_RS_clear_7 : decode b_RS_clear 7 = .ok (.return_, 1) := by decide +kernel
abbrev b_RS_solve : ByteArray := prog_1_method_18_code
def y_RS_solve : MethodName := ⟨"RegularSolver", "solve", "(I)Z"⟩
abbrev w0_RS_solve : List Cond := Cond.code y_RS_solve b_RS_solve 2 (some .boolean) :: gW
theorem cd_RS_solve : Cond.code y_RS_solve b_RS_solve 2 (some .boolean) ∈ gW := gm 727 (by decide +kernel) (by decide +kernel)
theorem d_RS_solve_0 : decode b_RS_solve 0 = .ok (.iload_n 1, 1) := by decide +kernel
theorem d_RS_solve_1 : decode b_RS_solve 1 = .ok (.iconst 0, 1) := by decide +kernel
theorem d_RS_solve_2 : decode b_RS_solve 2 = .ok (.bipush 31, 2) := by decide +kernel
theorem d_RS_solve_4 : decode b_RS_solve 4 = .ok (.invokestatic 119, 3) := by decide +kernel
theorem d_RS_solve_7 : decode b_RS_solve 7 = .ok (.aload_n 0, 1) := by decide +kernel
theorem d_RS_solve_8 : decode b_RS_solve 8 = .ok (.getfield 43, 3) := by decide +kernel
theorem d_RS_solve_11 : decode b_RS_solve 11 = .ok (.iload_n 1, 1) := by decide +kernel
theorem d_RS_solve_12 : decode b_RS_solve 12 = .ok (.invokevirtual 176, 3) := by decide +kernel
theorem d_RS_solve_15 : decode b_RS_solve 15 = .ok (.ireturn, 1) := by decide +kernel
abbrev b_RS_length : ByteArray := prog_1_method_19_code
def y_RS_length : MethodName := ⟨"RegularSolver", "length", "(I)I"⟩
abbrev w0_RS_length : List Cond := Cond.code y_RS_length b_RS_length 2 (some .int) :: gW
theorem cd_RS_length : Cond.code y_RS_length b_RS_length 2 (some .int) ∈ gW := gm 806 (by decide +kernel) (by decide +kernel)
theorem d_RS_length_0 : decode b_RS_length 0 = .ok (.iload_n 1, 1) := by decide +kernel
theorem d_RS_length_1 : decode b_RS_length 1 = .ok (.iconst 0, 1) := by decide +kernel
theorem d_RS_length_2 : decode b_RS_length 2 = .ok (.iconst 3, 1) := by decide +kernel
theorem d_RS_length_3 : decode b_RS_length 3 = .ok (.invokestatic 119, 3) := by decide +kernel
theorem d_RS_length_6 : decode b_RS_length 6 = .ok (.aload_n 0, 1) := by decide +kernel
theorem d_RS_length_7 : decode b_RS_length 7 = .ok (.invokevirtual 179, 3) := by decide +kernel
theorem d_RS_length_10 : decode b_RS_length 10 = .ok (.aload_n 0, 1) := by decide +kernel
theorem d_RS_length_11 : decode b_RS_length 11 = .ok (.getfield 43, 3) := by decide +kernel
theorem d_RS_length_14 : decode b_RS_length 14 = .ok (.getfield 182, 3) := by decide +kernel
theorem d_RS_length_17 : decode b_RS_length 17 = .ok (.iload_n 1, 1) := by decide +kernel
theorem d_RS_length_18 : decode b_RS_length 18 = .ok (.iaload, 1) := by decide +kernel
theorem d_RS_length_19 : decode b_RS_length 19 = .ok (.ireturn, 1) := by decide +kernel
abbrev b_RS_word : ByteArray := prog_1_method_20_code
def y_RS_word : MethodName := ⟨"RegularSolver", "word", "(I)J"⟩
abbrev w0_RS_word : List Cond := Cond.code y_RS_word b_RS_word 2 (some .long) :: gW
theorem cd_RS_word : Cond.code y_RS_word b_RS_word 2 (some .long) ∈ gW := gm 833 (by decide +kernel) (by decide +kernel)
theorem d_RS_word_0 : decode b_RS_word 0 = .ok (.iload_n 1, 1) := by decide +kernel
theorem d_RS_word_1 : decode b_RS_word 1 = .ok (.iconst 0, 1) := by decide +kernel
theorem d_RS_word_2 : decode b_RS_word 2 = .ok (.iconst 3, 1) := by decide +kernel
theorem d_RS_word_3 : decode b_RS_word 3 = .ok (.invokestatic 119, 3) := by decide +kernel
theorem d_RS_word_6 : decode b_RS_word 6 = .ok (.aload_n 0, 1) := by decide +kernel
theorem d_RS_word_7 : decode b_RS_word 7 = .ok (.invokevirtual 179, 3) := by decide +kernel
theorem d_RS_word_10 : decode b_RS_word 10 = .ok (.aload_n 0, 1) := by decide +kernel
theorem d_RS_word_11 : decode b_RS_word 11 = .ok (.getfield 43, 3) := by decide +kernel
theorem d_RS_word_14 : decode b_RS_word 14 = .ok (.getfield 185, 3) := by decide +kernel
theorem d_RS_word_17 : decode b_RS_word 17 = .ok (.iload_n 1, 1) := by decide +kernel
theorem d_RS_word_18 : decode b_RS_word 18 = .ok (.laload, 1) := by decide +kernel
theorem d_RS_word_19 : decode b_RS_word 19 = .ok (.lreturn, 1) := by decide +kernel
abbrev b_RS_keep : ByteArray := prog_1_method_27_code
def y_RS_keep : MethodName := ⟨"RegularSolver", "keep", "(LRegularSolver$Automaton;)I"⟩
abbrev w0_RS_keep : List Cond := Cond.code y_RS_keep b_RS_keep 2 (some .int) :: gW
theorem cd_RS_keep : Cond.code y_RS_keep b_RS_keep 2 (some .int) ∈ gW := gm 465 (by decide +kernel) (by decide +kernel)
theorem d_RS_keep_0 : decode b_RS_keep 0 = .ok (.aload_n 1, 1) := by decide +kernel
theorem d_RS_keep_1 : decode b_RS_keep 1 = .ok (.ifnonnull 13, 3) := by decide +kernel
theorem d_RS_keep_4 : decode b_RS_keep 4 = .ok (.new 136, 3) := by decide +kernel
theorem d_RS_keep_7 : decode b_RS_keep 7 = .ok (.dup, 1) := by decide +kernel
theorem d_RS_keep_8 : decode b_RS_keep 8 = .ok (.ldc 206, 2) := by decide +kernel
theorem d_RS_keep_10 : decode b_RS_keep 10 = .ok (.invokespecial 140, 3) := by decide +kernel
theorem d_RS_keep_13 : decode b_RS_keep 13 = .ok (.athrow, 1) := by decide +kernel
theorem d_RS_keep_14 : decode b_RS_keep 14 = .ok (.aload_n 0, 1) := by decide +kernel
theorem d_RS_keep_15 : decode b_RS_keep 15 = .ok (.getfield 11, 3) := by decide +kernel
theorem d_RS_keep_18 : decode b_RS_keep 18 = .ok (.aload_n 0, 1) := by decide +kernel
theorem d_RS_keep_19 : decode b_RS_keep 19 = .ok (.getfield 15, 3) := by decide +kernel
theorem d_RS_keep_22 : decode b_RS_keep 22 = .ok (.aload_n 1, 1) := by decide +kernel
theorem d_RS_keep_23 : decode b_RS_keep 23 = .ok (.aastore, 1) := by decide +kernel
theorem d_RS_keep_24 : decode b_RS_keep 24 = .ok (.aload_n 0, 1) := by decide +kernel
theorem d_RS_keep_25 : decode b_RS_keep 25 = .ok (.dup, 1) := by decide +kernel
theorem d_RS_keep_26 : decode b_RS_keep 26 = .ok (.getfield 15, 3) := by decide +kernel
theorem d_RS_keep_29 : decode b_RS_keep 29 = .ok (.iconst 1, 1) := by decide +kernel
theorem d_RS_keep_30 : decode b_RS_keep 30 = .ok (.iadd, 1) := by decide +kernel
theorem d_RS_keep_31 : decode b_RS_keep 31 = .ok (.putfield 15, 3) := by decide +kernel
theorem d_RS_keep_34 : decode b_RS_keep 34 = .ok (.aload_n 0, 1) := by decide +kernel
theorem d_RS_keep_35 : decode b_RS_keep 35 = .ok (.getfield 15, 3) := by decide +kernel
theorem d_RS_keep_38 : decode b_RS_keep 38 = .ok (.iconst 1, 1) := by decide +kernel
theorem d_RS_keep_39 : decode b_RS_keep 39 = .ok (.isub, 1) := by decide +kernel
theorem d_RS_keep_40 : decode b_RS_keep 40 = .ok (.ireturn, 1) := by decide +kernel
theorem pd_RS_variable : y_RS_variable.cls ≠ "java/lang/invoke/MethodHandle" ∧ y_RS_variable.cls ≠ "java/lang/invoke/VarHandle" ∧ (parseMethodDescriptor y_RS_variable.desc).map (fun d => d.parameters.length) = some 2 := by decide +kernel
theorem pd_RS_bound : y_RS_bound.cls ≠ "java/lang/invoke/MethodHandle" ∧ y_RS_bound.cls ≠ "java/lang/invoke/VarHandle" ∧ (parseMethodDescriptor y_RS_bound.desc).map (fun d => d.parameters.length) = some 6 := by decide +kernel
theorem pd_RS_clear : y_RS_clear.cls ≠ "java/lang/invoke/MethodHandle" ∧ y_RS_clear.cls ≠ "java/lang/invoke/VarHandle" ∧ (parseMethodDescriptor y_RS_clear.desc).map (fun d => d.parameters.length) = some 0 := by decide +kernel
theorem pd_RS_solve : y_RS_solve.cls ≠ "java/lang/invoke/MethodHandle" ∧ y_RS_solve.cls ≠ "java/lang/invoke/VarHandle" ∧ (parseMethodDescriptor y_RS_solve.desc).map (fun d => d.parameters.length) = some 1 := by decide +kernel
theorem pd_RS_length : y_RS_length.cls ≠ "java/lang/invoke/MethodHandle" ∧ y_RS_length.cls ≠ "java/lang/invoke/VarHandle" ∧ (parseMethodDescriptor y_RS_length.desc).map (fun d => d.parameters.length) = some 1 := by decide +kernel
theorem pd_RS_word : y_RS_word.cls ≠ "java/lang/invoke/MethodHandle" ∧ y_RS_word.cls ≠ "java/lang/invoke/VarHandle" ∧ (parseMethodDescriptor y_RS_word.desc).map (fun d => d.parameters.length) = some 1 := by decide +kernel
theorem pd_RS_keep : y_RS_keep.cls ≠ "java/lang/invoke/MethodHandle" ∧ y_RS_keep.cls ≠ "java/lang/invoke/VarHandle" ∧ (parseMethodDescriptor y_RS_keep.desc).map (fun d => d.parameters.length) = some 1 := by decide +kernel
theorem ml_RS_153 : (Cond.methodLink "RegularSolver" 153 ({ cls := "RegularSolver$Search", name := "assign", desc := "(ILRegularSolver$Automaton;)V" } : MethodName)) ∈ gW := gm 698 (by decide +kernel) (by decide +kernel)
theorem im_Se_assign : (Cond.instanceMethod ({ cls := "RegularSolver$Search", name := "assign", desc := "(ILRegularSolver$Automaton;)V" } : MethodName)) ∈ gW := gm 699 (by decide +kernel) (by decide +kernel)
theorem se_Se_assign : (Cond.selects "RegularSolver$Search" ({ cls := "RegularSolver$Search", name := "assign", desc := "(ILRegularSolver$Automaton;)V" } : MethodName) ({ cls := "RegularSolver$Search", name := "assign", desc := "(ILRegularSolver$Automaton;)V" } : MethodName)) ∈ gW := gm 700 (by decide +kernel) (by decide +kernel)
theorem ml_RS_157 : (Cond.methodLink "RegularSolver" 157 ({ cls := "RegularSolver", name := "requireFactor", desc := "(I)V" } : MethodName)) ∈ gW := gm 709 (by decide +kernel) (by decide +kernel)
theorem st_RS_requireFactor : (Cond.static ({ cls := "RegularSolver", name := "requireFactor", desc := "(I)V" } : MethodName)) ∈ gW := gm 710 (by decide +kernel) (by decide +kernel)
theorem ml_RS_160 : (Cond.methodLink "RegularSolver" 160 ({ cls := "RegularSolver$Search", name := "isFull", desc := "()Z" } : MethodName)) ∈ gW := gm 712 (by decide +kernel) (by decide +kernel)
theorem im_Se_isFull : (Cond.instanceMethod ({ cls := "RegularSolver$Search", name := "isFull", desc := "()Z" } : MethodName)) ∈ gW := gm 713 (by decide +kernel) (by decide +kernel)
theorem se_Se_isFull : (Cond.selects "RegularSolver$Search" ({ cls := "RegularSolver$Search", name := "isFull", desc := "()Z" } : MethodName) ({ cls := "RegularSolver$Search", name := "isFull", desc := "()Z" } : MethodName)) ∈ gW := gm 714 (by decide +kernel) (by decide +kernel)
theorem ml_RS_169 : (Cond.methodLink "RegularSolver" 169 ({ cls := "RegularSolver$Search", name := "addBound", desc := "(IIIIII)I" } : MethodName)) ∈ gW := gm 717 (by decide +kernel) (by decide +kernel)
theorem im_Se_addBound : (Cond.instanceMethod ({ cls := "RegularSolver$Search", name := "addBound", desc := "(IIIIII)I" } : MethodName)) ∈ gW := gm 718 (by decide +kernel) (by decide +kernel)
theorem se_Se_addBound : (Cond.selects "RegularSolver$Search" ({ cls := "RegularSolver$Search", name := "addBound", desc := "(IIIIII)I" } : MethodName) ({ cls := "RegularSolver$Search", name := "addBound", desc := "(IIIIII)I" } : MethodName)) ∈ gW := gm 719 (by decide +kernel) (by decide +kernel)
theorem ml_RS_173 : (Cond.methodLink "RegularSolver" 173 ({ cls := "RegularSolver$Search", name := "forget", desc := "()V" } : MethodName)) ∈ gW := gm 173 (by decide +kernel) (by decide +kernel)
theorem im_Se_forget : (Cond.instanceMethod ({ cls := "RegularSolver$Search", name := "forget", desc := "()V" } : MethodName)) ∈ gW := gm 174 (by decide +kernel) (by decide +kernel)
theorem se_Se_forget : (Cond.selects "RegularSolver$Search" ({ cls := "RegularSolver$Search", name := "forget", desc := "()V" } : MethodName) ({ cls := "RegularSolver$Search", name := "forget", desc := "()V" } : MethodName)) ∈ gW := gm 175 (by decide +kernel) (by decide +kernel)
theorem ml_RS_176 : (Cond.methodLink "RegularSolver" 176 ({ cls := "RegularSolver$Search", name := "find", desc := "(I)Z" } : MethodName)) ∈ gW := gm 728 (by decide +kernel) (by decide +kernel)
theorem im_Se_find : (Cond.instanceMethod ({ cls := "RegularSolver$Search", name := "find", desc := "(I)Z" } : MethodName)) ∈ gW := gm 729 (by decide +kernel) (by decide +kernel)
theorem se_Se_find : (Cond.selects "RegularSolver$Search" ({ cls := "RegularSolver$Search", name := "find", desc := "(I)Z" } : MethodName) ({ cls := "RegularSolver$Search", name := "find", desc := "(I)Z" } : MethodName)) ∈ gW := gm 730 (by decide +kernel) (by decide +kernel)
theorem ml_RS_179 : (Cond.methodLink "RegularSolver" 179 ({ cls := "RegularSolver", name := "requireSolution", desc := "()V" } : MethodName)) ∈ gW := gm 807 (by decide +kernel) (by decide +kernel)
theorem im_RS_requireSolution : (Cond.instanceMethod ({ cls := "RegularSolver", name := "requireSolution", desc := "()V" } : MethodName)) ∈ gW := gm 809 (by decide +kernel) (by decide +kernel)
theorem se_RS_requireSolution : (Cond.selects "RegularSolver" ({ cls := "RegularSolver", name := "requireSolution", desc := "()V" } : MethodName) ({ cls := "RegularSolver", name := "requireSolution", desc := "()V" } : MethodName)) ∈ gW := gs (by decide +kernel) (by decide +kernel)
theorem fl_RS_182 : (Cond.fieldLink "RegularSolver" 182 "RegularSolver$Search" "keptLengths" "[I") ∈ gW := gm 122 (by decide +kernel) (by decide +kernel)
theorem fl_RS_185 : (Cond.fieldLink "RegularSolver" 185 "RegularSolver$Search" "keptWords" "[J") ∈ gW := gm 124 (by decide +kernel) (by decide +kernel)
def f_RS_variable (n : Nat) (p0 : Int32) (p1 : Int32) (xLang : Nat → Option Nat) (xCount : Int32) (sAssigned : Nat → Option Nat) : Option ((String × ((Nat → Option Nat))) ⊕ ((Nat → Option Nat))) :=
  (f_RS_requireBetween n p0 0 3).bind fun u1 => u1.elim (fun x => some (.inl (x.1, sAssigned))) fun y1 =>
  if p1 = (-1) then
    (f_Se_assign_N n p0 sAssigned).bind fun u10 =>
    some (.inr u10)
  else
    (f_RS_requireLanguage n p1 xCount).bind fun u4 => u4.elim (fun x => some (.inl (x.1, sAssigned))) fun y4 =>
    ogd (gin p1 60) <|
    oq (xLang p1.toNatClampNeg) none fun q7 =>
    (f_Se_assign_R n p0 q7 sAssigned).bind fun u8 =>
    some (.inr u8)
set_option maxHeartbeats 400000 in
set_option maxRecDepth 100000 in
theorem c_RS_variable (l : Launch) (hl0 : l.stackTraces = false) {D : va_G} {K : Nat → ClassId} {T : auTab} {n : Nat} {xq : Nat} {xl : Nat} {mq : Nat} {cq : Nat} {iq : Nat} {sq : Nat} {sA : Nat} {sF : Nat} {sLe : Nat} {sMo : Nat} {sAl : Nat} {sRL : Nat} {sRM : Nat} {sLn : Nat} {sKL : Nat} {sKW : Nat} {fF : Nat → Nat} {fL : Nat → Nat} {fM : Nat → Nat} {xLang : Nat → Option Nat} {xCount : Int32} {sAssigned : Nat → Option Nat} {sLeast : Nat → Int32} {sMost : Nat → Int32} {sCount : Int32} {sAllowed : Nat → Int64} {sLengths : Nat → Int32} {sKept : Bool} {sKeptLengths : Nat → Int32} {sKeptWords : Nat → Int64} {gF : Nat → Nat → Int32} {gL : Nat → Nat → Int32} {gM : Nat → Nat → Int32} {p0 : Int32} {p1 : Int32}  {r : (String × ((Nat → Option Nat))) ⊕ ((Nat → Option Nat))} (sz : Nat) (hf : f_RS_variable n p0 p1 xLang xCount sAssigned = some r) : vx_Met l y_RS_variable w0_RS_variable ({ frames := 7, cells := 2, slots := 12, locals := 104 }) (xPre D K T [.ref xq, .int p0, .int p1] ((rsW K xq xl mq cq iq sq xLang xCount) ++ (sgW K sq sA sF sLe sMo sAl sRL sRM sLn sKL sKW fF fL fM sAssigned sLeast sMost sCount sAllowed sLengths sKept sKeptLengths sKeptWords gF gL gM)) 60 xLang sz) (xPost D K r (fun v (g : Unit) => none) (fun v g => ((rsW K xq xl mq cq iq sq xLang xCount) ++ (sgW K sq sA sF sLe sMo sAl sRL sRM sLn sKL sKW fF fL fM v sLeast sMost sCount sAllowed sLengths sKept sKeptLengths sKeptWords gF gL gM))) (va_A ((rsW K xq xl mq cq iq sq xLang xCount) ++ (sgW K sq sA sF sLe sMo sAl sRL sRM sLn sKL sKW fF fL fM sAssigned sLeast sMost sCount sAllowed sLengths sKept sKeptLengths sKeptWords gF gL gM)) sz)) (xExc D K r (fun u (g : Unit) => ((rsW K xq xl mq cq iq sq xLang xCount) ++ (sgW K sq sA sF sLe sMo sAl sRL sRM sLn sKL sKW fF fL fM u sLeast sMost sCount sAllowed sLengths sKept sKeptLengths sKeptWords gF gL gM))) (va_A ((rsW K xq xl mq cq iq sq xLang xCount) ++ (sgW K sq sA sF sLe sMo sAl sRL sRM sLn sKL sKW fF fL fM sAssigned sLeast sMost sCount sAllowed sLengths sKept sKeptLengths sKeptWords gF gL gM)) sz)) 2 12 (va_A ((rsW K xq xl mq cq iq sq xLang xCount) ++ (sgW K sq sA sF sLe sMo sAl sRL sRM sLn sKL sKW fF fL fM sAssigned sLeast sMost sCount sAllowed sLengths sKept sKeptLengths sKeptWords gF gL gM)) sz) := by
  unfold f_RS_variable at hf
  refine vx_ofW (cc := b_RS_variable) (maxL := 3) (ret := none) (by decide) rfl ?_
  intro p e s m args below meth c s₁ B hml htab hv
  obtain ⟨⟨rfl, hsz, hP, hK, hD0⟩, hX, hZ, hT0⟩ := hv
  subst hsz
  have hx := B.exec
  have hb := B.bytes
  have hts : ∀ w ∈ gW, w.before _ s = true := fun w hw => atoms_spec (ws := w0_RS_variable) B.pre w (List.mem_cons_of_mem _ hw)
  have hown : s.vm.findClass "RegularSolver" = some m.cls := findClass_of_methodNamed B.named
  have hD := hD0.self (sz := s.heap.size)
  generalize hAe : va_A ((rsW K xq xl mq cq iq sq xLang xCount) ++ (sgW K sq sA sF sLe sMo sAl sRL sRM sLn sKL sKW fF fL fM sAssigned sLeast sMost sCount sAllowed sLengths sKept sKeptLengths sKeptWords gF gL gM)) s.heap.size = A at hD hZ hT0 ⊢
  have hA : ∀ q : Nat, s.heap.size ≤ q → A q := fun q h => by rw [← hAe]; exact Or.inr h
  have hS : va_S A s.heap s.heap [] := va_S.rf
  have hT : ∀ (q i : Nat), i < 60 → xLang i = some q → ∀ (H : Heap) (locs : List Loc), va_S A s.heap H locs → va_P D vwCl (auT K T q) H := fun q i hi hq _ _ hS => ro_of (hT0 q i hi hq).1 (hT0 q i hi hq).2 hS
  have hTw : ∀ (q i : Nat), i < 60 → xLang i = some q → gAw A (auT K T q) := fun q i hi hq => (hT0 q i hi hq).2
  have hl := lv_entry [.ref xq, .int p0, .int p1] (n := 3) (Nat.le_of_ble_eq_true rfl)
  rw [lg_entry_eq]
  generalize (lg_sl [.ref xq, .int p0, .int p1] ++ List.replicate (3 - (lg_sl [.ref xq, .int p0, .int p1]).length) Slot.unset).toArray = ls at hl ⊢
  refine x_gen (P := fun H => W p l e _ s m _ below meth c H [] 0 0 _ _) ?_
  intro H hHe
  rw [← hHe] at hP
  have hS : va_S A s.heap H [] := by rw [hHe]; exact hS
  refine lv_iload_n hx hb d_RS_variable_0 rfl (lv_at hl 1 rfl) ?_
  refine lv_iconst (v := 0) hx hb d_RS_variable_1 (by decide) ?_
  refine lv_iconst (v := 3) hx hb d_RS_variable_2 (by decide) ?_
  obtain ⟨u1, eu1, hf⟩ := obd hf
  refine x_call (vx_runS (As := [.int p0, .int 0, .int 3]) (rest := []) ⟨hx, hb, hml, hown, hts⟩ (c_RS_requireBetween l hl0 H.size eu1) (gS 3 hts cd_RS_requireBetween ml_RS_119 st_RS_requireBetween ini_RS rfl rfl pd_RS_requireBetween ⟨Nat.le_of_ble_eq_true rfl, Nat.le_of_ble_eq_true rfl⟩) ⟨xPre_blind, xPre_of (T := fun _ => (0, 0, 0, 0, fun _ => 0, 0, fun _ => 0)) (asg := fun _ => none) va_P0 hK va_nil hS hA hX hZ xT0⟩ rfl rfl hl.1 rfl (lv_room (Nat.le_of_ble_eq_true rfl)) d_RS_variable_3 ⟨(by decide : 0 + 1 ≤ 2), (by decide : 0 + 6 ≤ 12)⟩) va_nil hS hA (fun E x ex g2 ce q9 H1 locs hP1 hD1 hk1 hS1 hq1 hq2 hq3 => ?_) (fun y1 ev g2 H1 locs hP1 hD1 hk1 hS1 => ?_)
  · subst ex
    have hr := (Option.some.inj hf).symm
    obtain ⟨hP, hD⟩ : _ ∧ _ := ⟨x_keep0 hP hk1, hD⟩
    have hS := hS1
    generalize H1 = H at hP hS hq1 ⊢
    exact x_out htab B.notSynchronized hq1 hq2 hq3 () hr hP hK hD hS (by decide : 0 + 1 ≤ 2) (by decide : 0 + 6 ≤ 12)
  subst ev
  replace hf := oel hf
  obtain ⟨hP, hD⟩ : _ ∧ _ := ⟨x_keep0 hP hk1, hD⟩
  have hS := hS1
  generalize H1 = H at hP hS ⊢
  have hP : va_P D vwCl ((rsW K xq xl mq cq iq sq xLang xCount) ++ (sgW K sq sA sF sLe sMo sAl sRL sRM sLn sKL sKW fF fL fM sAssigned sLeast sMost sCount sAllowed sLengths sKept sKeptLengths sKeptWords gF gL gM)) H := hP
  have hD : va_D A ((rsW K xq xl mq cq iq sq xLang xCount) ++ (sgW K sq sA sF sLe sMo sAl sRL sRM sLn sKL sKW fF fL fM sAssigned sLeast sMost sCount sAllowed sLengths sKept sKeptLengths sKeptWords gF gL gM)) := hD
  refine lv_iload_n hx hb d_RS_variable_6 rfl (lv_at hl 2 rfl) ?_
  refine lv_iconst (v := -1) hx hb d_RS_variable_7 (by decide) ?_
  refine lv_icmp_ne (tgt := 23) hx hb d_RS_variable_8 (by decide) (fun c3 => ?_) (fun c3 => ?_)
  · rw [if_neg c3] at hf
    refine lv_aload_n hx hb d_RS_variable_23 rfl (lv_at hl 0 rfl) ?_
    refine lv_iload_n hx hb d_RS_variable_24 rfl (lv_at hl 2 rfl) ?_
    obtain ⟨u4, eu4, hf⟩ := obd hf
    refine x_call (vx_runV (As := [.int p1]) (rest := []) ⟨hx, hb, hml, hown, hts⟩ (c_RS_requireLanguage l hl0 H.size eu4) (gV 1 hts cd_RS_requireLanguage ml_RS_70 im_RS_requireLanguage se_RS_requireLanguage ini_RS rfl rfl pd_RS_requireLanguage ⟨Nat.le_of_ble_eq_true rfl, Nat.le_of_ble_eq_true rfl⟩) ⟨xPre_blind, va_recv hK (vaL hP) (ci := 10) (q0 := 0) rfl rfl, xPre_of (T := fun _ => (0, 0, 0, 0, fun _ => 0, 0, fun _ => 0)) (asg := fun _ => none) (vaL hP) hK (vdL hD) hS hA hX hZ xT0⟩ rfl rfl hl.1 rfl (lv_room (Nat.le_of_ble_eq_true rfl)) d_RS_variable_25 ⟨(by decide : 1 + 1 ≤ 2), (by decide : 6 + 6 ≤ 12)⟩) (vdL hD) hS hA (fun E x ex g5 ce q9 H1 locs hP1 hD1 hk1 hS1 hq1 hq2 hq3 => ?_) (fun y4 ev g5 H1 locs hP1 hD1 hk1 hS1 => ?_)
    · subst ex
      have hr := (Option.some.inj hf).symm
      obtain ⟨hP, hD⟩ := va_keepR hP hD (va_sub (vdL hD) hS hA) hk1 hP1 hD1
      have hS := hS1
      generalize H1 = H at hP hS hq1 ⊢
      exact x_out htab B.notSynchronized hq1 hq2 hq3 () hr hP hK hD hS (by decide : 1 + 1 ≤ 2) (by decide : 6 + 6 ≤ 12)
    subst ev
    replace hf := oel hf
    obtain ⟨hP, hD⟩ := va_keepR hP hD (va_sub (vdL hD) hS hA) hk1 hP1 hD1
    have hS := hS1
    generalize H1 = H at hP hS ⊢
    have hP : va_P D vwCl ((rsW K xq xl mq cq iq sq xLang xCount) ++ (sgW K sq sA sF sLe sMo sAl sRL sRM sLn sKL sKW fF fL fM sAssigned sLeast sMost sCount sAllowed sLengths sKept sKeptLengths sKeptWords gF gL gM)) H := hP
    have hD : va_D A ((rsW K xq xl mq cq iq sq xLang xCount) ++ (sgW K sq sA sF sLe sMo sAl sRL sRM sLn sKL sKW fF fL fM sAssigned sLeast sMost sCount sAllowed sLengths sKept sKeptLengths sKeptWords gF gL gM)) := hD
    refine lv_aload_n hx hb d_RS_variable_28 rfl (lv_at hl 0 rfl) ?_
    refine va_get (D := D) (ci := 10) (v := .ref sq) (C := R_RS) (T := T_RS) (N := 6) hx hb hts in_RS hown hK hP 0 rfl rfl 5 (by decide) (hts _ fl_RS_43) (fun _ h9 => h9) rfl d_RS_variable_29 ?_
    refine lv_iload_n hx hb d_RS_variable_32 rfl (lv_at hl 1 rfl) ?_
    refine lv_aload_n hx hb d_RS_variable_33 rfl (lv_at hl 0 rfl) ?_
    refine va_get (D := D) (ci := 10) (v := .ref xl) (C := R_RS) (T := T_RS) (N := 6) hx hb hts in_RS hown hK hP 0 rfl rfl 0 (by decide) (hts _ fl_RS_11) (fun _ h9 => h9) rfl d_RS_variable_34 ?_
    refine lv_iload_n hx hb d_RS_variable_37 rfl (lv_at hl 2 rfl) ?_
    obtain ⟨g6, hf⟩ := ogi hf
    refine va_aldq hx hb hK hP 1 3 rfl rfl (gin_in g6) d_RS_variable_38 ?_
    obtain ⟨q7, hq7, hf⟩ := oqi hf
    rw [hq7]
    have hTq7 := hT q7 _ (gin_lt g6) hq7
    have hTwq7 := hTw q7 _ (gin_lt g6) hq7
    refine W.eq (g2 := F0 m 39 ls [.ref q7, .int p0, .ref sq]) rfl ?_
    obtain ⟨u8, eu8, hf⟩ := obd hf
    refine w_callA (va_runV (As := [.int p0, .ref q7]) (rest := []) ⟨hx, hb, hml, hown, hts⟩ (Met_G (c_Se_assign_R l H.size eu8)) (gV 2 hts cd_Se_assign ml_RS_153 im_Se_assign se_Se_assign ini_Se rfl rfl pd_Se_assign ⟨Nat.le_of_ble_eq_true rfl, Nat.le_of_ble_eq_true rfl⟩) ⟨wPreR_blind, va_recv hK (vaR hP) (ci := 9) (q0 := 0) rfl rfl, wPreR_of (vaR hP) hK (vdR hD) hS hA (hTq7 _ _ hS) hTwq7⟩ rfl rfl hl.1 rfl (lv_room (Nat.le_of_ble_eq_true rfl)) d_RS_variable_39 ⟨(by decide : 2 + 0 ≤ 2), (by decide : 12 + 0 ≤ 12)⟩) (vdR hD) hS hA (fun g9 H1 locs hP1 hD1 hk1 hS1 => ?_)
    obtain ⟨hP, hD⟩ := va_keepL hP hD (va_sub (vdR hD) hS hA) hk1 hP1 hD1
    have hS := hS1
    generalize H1 = H at hP hS ⊢
    have hP : va_P D vwCl ((rsW K xq xl mq cq iq sq xLang xCount) ++ (sgW K sq sA sF sLe sMo sAl sRL sRM sLn sKL sKW fF fL fM u8 sLeast sMost sCount sAllowed sLengths sKept sKeptLengths sKeptWords gF gL gM)) H := hP
    have hD : va_D A ((rsW K xq xl mq cq iq sq xLang xCount) ++ (sgW K sq sA sF sLe sMo sAl sRL sRM sLn sKL sKW fF fL fM u8 sLeast sMost sCount sAllowed sLengths sKept sKeptLengths sKeptWords gF gL gM)) := hD
    have hr := (Option.some.inj hf).symm
    refine W.widen (k := 2) (n := 12) (by decide) (by decide) ?_
    exact vx_ret (W.vret hx hb B.returns (fun t ht hW => ⟨_, hr, ⟨(), rfl, by rw [ht]; exact hP, va_K.moved hW.alike hK, hD⟩, hS.F ht⟩) hS.2.2 d_RS_variable_42 (hlocks := B.notSynchronized))
  · rw [if_pos c3] at hf
    refine lv_aload_n hx hb d_RS_variable_11 rfl (lv_at hl 0 rfl) ?_
    refine va_get (D := D) (ci := 10) (v := .ref sq) (C := R_RS) (T := T_RS) (N := 6) hx hb hts in_RS hown hK hP 0 rfl rfl 5 (by decide) (hts _ fl_RS_43) (fun _ h9 => h9) rfl d_RS_variable_12 ?_
    refine lv_iload_n hx hb d_RS_variable_15 rfl (lv_at hl 1 rfl) ?_
    refine lv_null hx hb d_RS_variable_16 ?_
    obtain ⟨u10, eu10, hf⟩ := obd hf
    refine w_callA (va_runV (As := [.int p0, .null]) (rest := []) ⟨hx, hb, hml, hown, hts⟩ (Met_G (c_Se_assign_N l H.size eu10)) (gV 2 hts cd_Se_assign ml_RS_153 im_Se_assign se_Se_assign ini_Se rfl rfl pd_Se_assign ⟨Nat.le_of_ble_eq_true rfl, Nat.le_of_ble_eq_true rfl⟩) ⟨wPre_blind, va_recv hK (vaR hP) (ci := 9) (q0 := 0) rfl rfl, wPre_of (vaR hP) hK (vdR hD)⟩ rfl rfl hl.1 rfl (lv_room (Nat.le_of_ble_eq_true rfl)) d_RS_variable_17 ⟨(by decide : 1 + 0 ≤ 2), (by decide : 6 + 0 ≤ 12)⟩) (vdR hD) hS hA (fun g11 H1 locs hP1 hD1 hk1 hS1 => ?_)
    obtain ⟨hP, hD⟩ := va_keepL hP hD (va_sub (vdR hD) hS hA) hk1 hP1 hD1
    have hS := hS1
    generalize H1 = H at hP hS ⊢
    have hP : va_P D vwCl ((rsW K xq xl mq cq iq sq xLang xCount) ++ (sgW K sq sA sF sLe sMo sAl sRL sRM sLn sKL sKW fF fL fM u10 sLeast sMost sCount sAllowed sLengths sKept sKeptLengths sKeptWords gF gL gM)) H := hP
    have hD : va_D A ((rsW K xq xl mq cq iq sq xLang xCount) ++ (sgW K sq sA sF sLe sMo sAl sRL sRM sLn sKL sKW fF fL fM u10 sLeast sMost sCount sAllowed sLengths sKept sKeptLengths sKeptWords gF gL gM)) := hD
    refine lv_goto (tgt := 42) hx hb d_RS_variable_20 (by decide) ?_
    have hr := (Option.some.inj hf).symm
    refine W.widen (k := 2) (n := 12) (by decide) (by decide) ?_
    exact vx_ret (W.vret hx hb B.returns (fun t ht hW => ⟨_, hr, ⟨(), rfl, by rw [ht]; exact hP, va_K.moved hW.alike hK, hD⟩, hS.F ht⟩) hS.2.2 d_RS_variable_42 (hlocks := B.notSynchronized))
def f_RS_bound (n : Nat) (p0 : Int32) (p1 : Int32) (p2 : Int32) (p3 : Int32) (p4 : Int32) (p5 : Int32) (sLeast : Nat → Int32) (sMost : Nat → Int32) (sCount : Int32) (gF : Nat → Nat → Int32) : Option ((String × ((Nat → Int32) × (Nat → Int32) × Int32 × (Nat → Nat → Int32))) ⊕ (Int32 × (Nat → Int32) × (Nat → Int32) × Int32 × (Nat → Nat → Int32))) :=
  (f_RS_requireFactor n p0).bind fun u1 => u1.elim (fun x => some (.inl (x.1, (sLeast, sMost, sCount, gF)))) fun y1 =>
  (f_RS_requireFactor n p1).bind fun u3 => u3.elim (fun x => some (.inl (x.1, (sLeast, sMost, sCount, gF)))) fun y3 =>
  (f_RS_requireFactor n p2).bind fun u5 => u5.elim (fun x => some (.inl (x.1, (sLeast, sMost, sCount, gF)))) fun y5 =>
  (f_RS_requireFactor n p3).bind fun u7 => u7.elim (fun x => some (.inl (x.1, (sLeast, sMost, sCount, gF)))) fun y7 =>
  (f_Se_isFull n sCount).bind fun u9 =>
  if u9 = true then
    some (.inl ("java/lang/IndexOutOfBoundsException", (sLeast, sMost, sCount, gF)))
  else
    (f_Se_addBound n p0 p1 p2 p3 p4 p5 sLeast sMost sCount gF).bind fun u11 =>
    some (.inr (u11.1, u11.2.1, u11.2.2.1, u11.2.2.2.1, u11.2.2.2.2))
set_option maxHeartbeats 400000 in
set_option maxRecDepth 100000 in
theorem c_RS_bound (l : Launch) (hl0 : l.stackTraces = false) {D : va_G} {K : Nat → ClassId} {T : auTab} {n : Nat} {xq : Nat} {xl : Nat} {mq : Nat} {cq : Nat} {iq : Nat} {sq : Nat} {sA : Nat} {sF : Nat} {sLe : Nat} {sMo : Nat} {sAl : Nat} {sRL : Nat} {sRM : Nat} {sLn : Nat} {sKL : Nat} {sKW : Nat} {fF : Nat → Nat} {fL : Nat → Nat} {fM : Nat → Nat} {xLang : Nat → Option Nat} {xCount : Int32} {sAssigned : Nat → Option Nat} {sLeast : Nat → Int32} {sMost : Nat → Int32} {sCount : Int32} {sAllowed : Nat → Int64} {sLengths : Nat → Int32} {sKept : Bool} {sKeptLengths : Nat → Int32} {sKeptWords : Nat → Int64} {gF : Nat → Nat → Int32} {gL : Nat → Nat → Int32} {gM : Nat → Nat → Int32} {p0 : Int32} {p1 : Int32} {p2 : Int32} {p3 : Int32} {p4 : Int32} {p5 : Int32}  {r : (String × ((Nat → Int32) × (Nat → Int32) × Int32 × (Nat → Nat → Int32))) ⊕ (Int32 × (Nat → Int32) × (Nat → Int32) × Int32 × (Nat → Nat → Int32))} (sz : Nat) (hf : f_RS_bound n p0 p1 p2 p3 p4 p5 sLeast sMost sCount gF = some r) : vx_Met l y_RS_bound w0_RS_bound ({ frames := 8, cells := 5, slots := 30, locals := 124 }) (xPre D K T [.ref xq, .int p0, .int p1, .int p2, .int p3, .int p4, .int p5] ((rsW K xq xl mq cq iq sq xLang xCount) ++ (sgW K sq sA sF sLe sMo sAl sRL sRM sLn sKL sKW fF fL fM sAssigned sLeast sMost sCount sAllowed sLengths sKept sKeptLengths sKeptWords gF gL gM)) 0 (fun _ => none) sz) (xPost D K r (fun v (g : Unit) => some (.int v.1)) (fun v g => ((rsW K xq xl mq cq iq sq xLang xCount) ++ (sgW K sq sA sF sLe sMo sAl sRL sRM sLn sKL sKW fF fL fM sAssigned v.2.1 v.2.2.1 v.2.2.2.1 sAllowed sLengths sKept sKeptLengths sKeptWords v.2.2.2.2 gL gM))) (va_A ((rsW K xq xl mq cq iq sq xLang xCount) ++ (sgW K sq sA sF sLe sMo sAl sRL sRM sLn sKL sKW fF fL fM sAssigned sLeast sMost sCount sAllowed sLengths sKept sKeptLengths sKeptWords gF gL gM)) sz)) (xExc D K r (fun u (g : Unit) => ((rsW K xq xl mq cq iq sq xLang xCount) ++ (sgW K sq sA sF sLe sMo sAl sRL sRM sLn sKL sKW fF fL fM sAssigned u.1 u.2.1 u.2.2.1 sAllowed sLengths sKept sKeptLengths sKeptWords u.2.2.2 gL gM))) (va_A ((rsW K xq xl mq cq iq sq xLang xCount) ++ (sgW K sq sA sF sLe sMo sAl sRL sRM sLn sKL sKW fF fL fM sAssigned sLeast sMost sCount sAllowed sLengths sKept sKeptLengths sKeptWords gF gL gM)) sz)) 5 30 (va_A ((rsW K xq xl mq cq iq sq xLang xCount) ++ (sgW K sq sA sF sLe sMo sAl sRL sRM sLn sKL sKW fF fL fM sAssigned sLeast sMost sCount sAllowed sLengths sKept sKeptLengths sKeptWords gF gL gM)) sz) := by
  unfold f_RS_bound at hf
  refine vx_ofW (cc := b_RS_bound) (maxL := 7) (ret := (some .int)) (by decide) rfl ?_
  intro p e s m args below meth c s₁ B hml htab hv
  obtain ⟨⟨rfl, hsz, hP, hK, hD0⟩, hX, hZ, hT0⟩ := hv
  subst hsz
  have hx := B.exec
  have hb := B.bytes
  have hts : ∀ w ∈ gW, w.before _ s = true := fun w hw => atoms_spec (ws := w0_RS_bound) B.pre w (List.mem_cons_of_mem _ hw)
  have hown : s.vm.findClass "RegularSolver" = some m.cls := findClass_of_methodNamed B.named
  have hD := hD0.self (sz := s.heap.size)
  generalize hAe : va_A ((rsW K xq xl mq cq iq sq xLang xCount) ++ (sgW K sq sA sF sLe sMo sAl sRL sRM sLn sKL sKW fF fL fM sAssigned sLeast sMost sCount sAllowed sLengths sKept sKeptLengths sKeptWords gF gL gM)) s.heap.size = A at hD hZ hT0 ⊢
  have hA : ∀ q : Nat, s.heap.size ≤ q → A q := fun q h => by rw [← hAe]; exact Or.inr h
  have hS : va_S A s.heap s.heap [] := va_S.rf
  have hT : ∀ (q i : Nat), i < 0 → (fun _ => none) i = some q → ∀ (H : Heap) (locs : List Loc), va_S A s.heap H locs → va_P D vwCl (auT K T q) H := fun q i hi hq _ _ hS => ro_of (hT0 q i hi hq).1 (hT0 q i hi hq).2 hS
  have hTw : ∀ (q i : Nat), i < 0 → (fun _ => none) i = some q → gAw A (auT K T q) := fun q i hi hq => (hT0 q i hi hq).2
  have hl := lv_entry [.ref xq, .int p0, .int p1, .int p2, .int p3, .int p4, .int p5] (n := 7) (Nat.le_of_ble_eq_true rfl)
  rw [lg_entry_eq]
  generalize (lg_sl [.ref xq, .int p0, .int p1, .int p2, .int p3, .int p4, .int p5] ++ List.replicate (7 - (lg_sl [.ref xq, .int p0, .int p1, .int p2, .int p3, .int p4, .int p5]).length) Slot.unset).toArray = ls at hl ⊢
  refine x_gen (P := fun H => W p l e _ s m _ below meth c H [] 0 0 _ _) ?_
  intro H hHe
  rw [← hHe] at hP
  have hS : va_S A s.heap H [] := by rw [hHe]; exact hS
  refine lv_iload_n hx hb d_RS_bound_0 rfl (lv_at hl 1 rfl) ?_
  obtain ⟨u1, eu1, hf⟩ := obd hf
  refine x_call (vx_runS (As := [.int p0]) (rest := []) ⟨hx, hb, hml, hown, hts⟩ (c_RS_requireFactor l hl0 H.size eu1) (gS 1 hts cd_RS_requireFactor ml_RS_157 st_RS_requireFactor ini_RS rfl rfl pd_RS_requireFactor ⟨Nat.le_of_ble_eq_true rfl, Nat.le_of_ble_eq_true rfl⟩) ⟨xPre_blind, xPre_of (T := fun _ => (0, 0, 0, 0, fun _ => 0, 0, fun _ => 0)) (asg := fun _ => none) va_P0 hK va_nil hS hA hX hZ xT0⟩ rfl rfl hl.1 rfl (lv_room (Nat.le_of_ble_eq_true rfl)) d_RS_bound_1 ⟨(by decide : 0 + 1 ≤ 5), (by decide : 0 + 6 ≤ 30)⟩) va_nil hS hA (fun E x ex g2 ce q9 H1 locs hP1 hD1 hk1 hS1 hq1 hq2 hq3 => ?_) (fun y1 ev g2 H1 locs hP1 hD1 hk1 hS1 => ?_)
  · subst ex
    have hr := (Option.some.inj hf).symm
    obtain ⟨hP, hD⟩ : _ ∧ _ := ⟨x_keep0 hP hk1, hD⟩
    have hS := hS1
    generalize H1 = H at hP hS hq1 ⊢
    exact x_out htab B.notSynchronized hq1 hq2 hq3 () hr hP hK hD hS (by decide : 0 + 1 ≤ 5) (by decide : 0 + 6 ≤ 30)
  subst ev
  replace hf := oel hf
  obtain ⟨hP, hD⟩ : _ ∧ _ := ⟨x_keep0 hP hk1, hD⟩
  have hS := hS1
  generalize H1 = H at hP hS ⊢
  have hP : va_P D vwCl ((rsW K xq xl mq cq iq sq xLang xCount) ++ (sgW K sq sA sF sLe sMo sAl sRL sRM sLn sKL sKW fF fL fM sAssigned sLeast sMost sCount sAllowed sLengths sKept sKeptLengths sKeptWords gF gL gM)) H := hP
  have hD : va_D A ((rsW K xq xl mq cq iq sq xLang xCount) ++ (sgW K sq sA sF sLe sMo sAl sRL sRM sLn sKL sKW fF fL fM sAssigned sLeast sMost sCount sAllowed sLengths sKept sKeptLengths sKeptWords gF gL gM)) := hD
  refine lv_iload_n hx hb d_RS_bound_4 rfl (lv_at hl 2 rfl) ?_
  obtain ⟨u3, eu3, hf⟩ := obd hf
  refine x_call (vx_runS (As := [.int p1]) (rest := []) ⟨hx, hb, hml, hown, hts⟩ (c_RS_requireFactor l hl0 H.size eu3) (gS 1 hts cd_RS_requireFactor ml_RS_157 st_RS_requireFactor ini_RS rfl rfl pd_RS_requireFactor ⟨Nat.le_of_ble_eq_true rfl, Nat.le_of_ble_eq_true rfl⟩) ⟨xPre_blind, xPre_of (T := fun _ => (0, 0, 0, 0, fun _ => 0, 0, fun _ => 0)) (asg := fun _ => none) va_P0 hK va_nil hS hA hX hZ xT0⟩ rfl rfl hl.1 rfl (lv_room (Nat.le_of_ble_eq_true rfl)) d_RS_bound_5 ⟨(by decide : 1 + 1 ≤ 5), (by decide : 6 + 6 ≤ 30)⟩) va_nil hS hA (fun E x ex g4 ce q9 H1 locs hP1 hD1 hk1 hS1 hq1 hq2 hq3 => ?_) (fun y3 ev g4 H1 locs hP1 hD1 hk1 hS1 => ?_)
  · subst ex
    have hr := (Option.some.inj hf).symm
    obtain ⟨hP, hD⟩ : _ ∧ _ := ⟨x_keep0 hP hk1, hD⟩
    have hS := hS1
    generalize H1 = H at hP hS hq1 ⊢
    exact x_out htab B.notSynchronized hq1 hq2 hq3 () hr hP hK hD hS (by decide : 1 + 1 ≤ 5) (by decide : 6 + 6 ≤ 30)
  subst ev
  replace hf := oel hf
  obtain ⟨hP, hD⟩ : _ ∧ _ := ⟨x_keep0 hP hk1, hD⟩
  have hS := hS1
  generalize H1 = H at hP hS ⊢
  have hP : va_P D vwCl ((rsW K xq xl mq cq iq sq xLang xCount) ++ (sgW K sq sA sF sLe sMo sAl sRL sRM sLn sKL sKW fF fL fM sAssigned sLeast sMost sCount sAllowed sLengths sKept sKeptLengths sKeptWords gF gL gM)) H := hP
  have hD : va_D A ((rsW K xq xl mq cq iq sq xLang xCount) ++ (sgW K sq sA sF sLe sMo sAl sRL sRM sLn sKL sKW fF fL fM sAssigned sLeast sMost sCount sAllowed sLengths sKept sKeptLengths sKeptWords gF gL gM)) := hD
  refine lv_iload_n hx hb d_RS_bound_8 rfl (lv_at hl 3 rfl) ?_
  obtain ⟨u5, eu5, hf⟩ := obd hf
  refine x_call (vx_runS (As := [.int p2]) (rest := []) ⟨hx, hb, hml, hown, hts⟩ (c_RS_requireFactor l hl0 H.size eu5) (gS 1 hts cd_RS_requireFactor ml_RS_157 st_RS_requireFactor ini_RS rfl rfl pd_RS_requireFactor ⟨Nat.le_of_ble_eq_true rfl, Nat.le_of_ble_eq_true rfl⟩) ⟨xPre_blind, xPre_of (T := fun _ => (0, 0, 0, 0, fun _ => 0, 0, fun _ => 0)) (asg := fun _ => none) va_P0 hK va_nil hS hA hX hZ xT0⟩ rfl rfl hl.1 rfl (lv_room (Nat.le_of_ble_eq_true rfl)) d_RS_bound_9 ⟨(by decide : 2 + 1 ≤ 5), (by decide : 12 + 6 ≤ 30)⟩) va_nil hS hA (fun E x ex g6 ce q9 H1 locs hP1 hD1 hk1 hS1 hq1 hq2 hq3 => ?_) (fun y5 ev g6 H1 locs hP1 hD1 hk1 hS1 => ?_)
  · subst ex
    have hr := (Option.some.inj hf).symm
    obtain ⟨hP, hD⟩ : _ ∧ _ := ⟨x_keep0 hP hk1, hD⟩
    have hS := hS1
    generalize H1 = H at hP hS hq1 ⊢
    exact x_out htab B.notSynchronized hq1 hq2 hq3 () hr hP hK hD hS (by decide : 2 + 1 ≤ 5) (by decide : 12 + 6 ≤ 30)
  subst ev
  replace hf := oel hf
  obtain ⟨hP, hD⟩ : _ ∧ _ := ⟨x_keep0 hP hk1, hD⟩
  have hS := hS1
  generalize H1 = H at hP hS ⊢
  have hP : va_P D vwCl ((rsW K xq xl mq cq iq sq xLang xCount) ++ (sgW K sq sA sF sLe sMo sAl sRL sRM sLn sKL sKW fF fL fM sAssigned sLeast sMost sCount sAllowed sLengths sKept sKeptLengths sKeptWords gF gL gM)) H := hP
  have hD : va_D A ((rsW K xq xl mq cq iq sq xLang xCount) ++ (sgW K sq sA sF sLe sMo sAl sRL sRM sLn sKL sKW fF fL fM sAssigned sLeast sMost sCount sAllowed sLengths sKept sKeptLengths sKeptWords gF gL gM)) := hD
  refine lv_iload hx hb d_RS_bound_12 (lv_at hl 4 rfl) ?_
  obtain ⟨u7, eu7, hf⟩ := obd hf
  refine x_call (vx_runS (As := [.int p3]) (rest := []) ⟨hx, hb, hml, hown, hts⟩ (c_RS_requireFactor l hl0 H.size eu7) (gS 1 hts cd_RS_requireFactor ml_RS_157 st_RS_requireFactor ini_RS rfl rfl pd_RS_requireFactor ⟨Nat.le_of_ble_eq_true rfl, Nat.le_of_ble_eq_true rfl⟩) ⟨xPre_blind, xPre_of (T := fun _ => (0, 0, 0, 0, fun _ => 0, 0, fun _ => 0)) (asg := fun _ => none) va_P0 hK va_nil hS hA hX hZ xT0⟩ rfl rfl hl.1 rfl (lv_room (Nat.le_of_ble_eq_true rfl)) d_RS_bound_14 ⟨(by decide : 3 + 1 ≤ 5), (by decide : 18 + 6 ≤ 30)⟩) va_nil hS hA (fun E x ex g8 ce q9 H1 locs hP1 hD1 hk1 hS1 hq1 hq2 hq3 => ?_) (fun y7 ev g8 H1 locs hP1 hD1 hk1 hS1 => ?_)
  · subst ex
    have hr := (Option.some.inj hf).symm
    obtain ⟨hP, hD⟩ : _ ∧ _ := ⟨x_keep0 hP hk1, hD⟩
    have hS := hS1
    generalize H1 = H at hP hS hq1 ⊢
    exact x_out htab B.notSynchronized hq1 hq2 hq3 () hr hP hK hD hS (by decide : 3 + 1 ≤ 5) (by decide : 18 + 6 ≤ 30)
  subst ev
  replace hf := oel hf
  obtain ⟨hP, hD⟩ : _ ∧ _ := ⟨x_keep0 hP hk1, hD⟩
  have hS := hS1
  generalize H1 = H at hP hS ⊢
  have hP : va_P D vwCl ((rsW K xq xl mq cq iq sq xLang xCount) ++ (sgW K sq sA sF sLe sMo sAl sRL sRM sLn sKL sKW fF fL fM sAssigned sLeast sMost sCount sAllowed sLengths sKept sKeptLengths sKeptWords gF gL gM)) H := hP
  have hD : va_D A ((rsW K xq xl mq cq iq sq xLang xCount) ++ (sgW K sq sA sF sLe sMo sAl sRL sRM sLn sKL sKW fF fL fM sAssigned sLeast sMost sCount sAllowed sLengths sKept sKeptLengths sKeptWords gF gL gM)) := hD
  refine lv_aload_n hx hb d_RS_bound_17 rfl (lv_at hl 0 rfl) ?_
  refine va_get (D := D) (ci := 10) (v := .ref sq) (C := R_RS) (T := T_RS) (N := 6) hx hb hts in_RS hown hK hP 0 rfl rfl 5 (by decide) (hts _ fl_RS_43) (fun _ h9 => h9) rfl d_RS_bound_18 ?_
  obtain ⟨u9, eu9, hf⟩ := obd hf
  refine p_call (W.runV (As := []) (rest := []) ⟨hx, hb, hml, hown, hts⟩ (c_Se_isFull l eu9) (gV 0 hts cd_Se_isFull ml_RS_160 im_Se_isFull se_Se_isFull ini_Se rfl rfl pd_Se_isFull ⟨Nat.le_of_ble_eq_true rfl, Nat.le_of_ble_eq_true rfl⟩) ⟨pPre_blind, va_recv hK (vaR hP) (ci := 9) (q0 := 0) rfl rfl, pPre_of (vaR hP) hK⟩ rfl rfl hl.1 rfl (lv_room (Nat.le_of_ble_eq_true rfl)) d_RS_bound_21 ⟨(by decide : 4 + 0 ≤ 5), (by decide : 24 + 0 ≤ 30)⟩) ?_
  refine bz_eq (tgt := 37) hx hb d_RS_bound_24 (by decide) (fun c10 => ?_) (fun c10 => ?_)
  · rw [if_neg c10] at hf
    refine lv_aload_n hx hb d_RS_bound_37 rfl (lv_at hl 0 rfl) ?_
    refine va_get (D := D) (ci := 10) (v := .ref sq) (C := R_RS) (T := T_RS) (N := 6) hx hb hts in_RS hown hK hP 0 rfl rfl 5 (by decide) (hts _ fl_RS_43) (fun _ h9 => h9) rfl d_RS_bound_38 ?_
    refine lv_iload_n hx hb d_RS_bound_41 rfl (lv_at hl 1 rfl) ?_
    refine lv_iload_n hx hb d_RS_bound_42 rfl (lv_at hl 2 rfl) ?_
    refine lv_iload_n hx hb d_RS_bound_43 rfl (lv_at hl 3 rfl) ?_
    refine lv_iload hx hb d_RS_bound_44 (lv_at hl 4 rfl) ?_
    refine lv_iload hx hb d_RS_bound_46 (lv_at hl 5 rfl) ?_
    refine lv_iload hx hb d_RS_bound_48 (lv_at hl 6 rfl) ?_
    obtain ⟨u11, eu11, hf⟩ := obd hf
    refine w_callA (va_runV (As := [.int p0, .int p1, .int p2, .int p3, .int p4, .int p5]) (rest := []) ⟨hx, hb, hml, hown, hts⟩ (Met_G (c_Se_addBound l H.size eu11)) (gV 6 hts cd_Se_addBound ml_RS_169 im_Se_addBound se_Se_addBound ini_Se rfl rfl pd_Se_addBound ⟨Nat.le_of_ble_eq_true rfl, Nat.le_of_ble_eq_true rfl⟩) ⟨wPre_blind, va_recv hK (vaR hP) (ci := 9) (q0 := 0) rfl rfl, wPre_of (vaR hP) hK (vdR hD)⟩ rfl rfl hl.1 rfl (lv_room (Nat.le_of_ble_eq_true rfl)) d_RS_bound_50 ⟨(by decide : 4 + 0 ≤ 5), (by decide : 24 + 0 ≤ 30)⟩) (vdR hD) hS hA (fun g12 H1 locs hP1 hD1 hk1 hS1 => ?_)
    obtain ⟨hP, hD⟩ := va_keepL hP hD (va_sub (vdR hD) hS hA) hk1 hP1 hD1
    have hS := hS1
    generalize H1 = H at hP hS ⊢
    have hP : va_P D vwCl ((rsW K xq xl mq cq iq sq xLang xCount) ++ (sgW K sq sA sF sLe sMo sAl sRL sRM sLn sKL sKW fF fL fM sAssigned u11.2.1 u11.2.2.1 u11.2.2.2.1 sAllowed sLengths sKept sKeptLengths sKeptWords u11.2.2.2.2 gL gM)) H := hP
    have hD : va_D A ((rsW K xq xl mq cq iq sq xLang xCount) ++ (sgW K sq sA sF sLe sMo sAl sRL sRM sLn sKL sKW fF fL fM sAssigned u11.2.1 u11.2.2.1 u11.2.2.2.1 sAllowed sLengths sKept sKeptLengths sKeptWords u11.2.2.2.2 gL gM)) := hD
    have hr := (Option.some.inj hf).symm
    refine W.widen (k := 5) (n := 30) (by decide) (by decide) ?_
    exact vx_ret (W.iret hx hb B.returns (fun t ht hW => ⟨_, hr, ⟨(), rfl, by rw [ht]; exact hP, va_K.moved hW.alike hK, hD⟩, hS.F ht⟩) hS.2.2 d_RS_bound_53 (hlocks := B.notSynchronized))
  · rw [if_pos c10] at hf
    have hr := (Option.some.inj hf).symm
    exact g_throw (text := "there are 8 bounds") hx hb hl0 hown hts hZ (by decide) cl_RS_164 ini_IndexOutOfBoundsException (by decide) za_IndexOutOfBoundsException zb_IndexOutOfBoundsException zc_IndexOutOfBoundsException htab B.notSynchronized (by rw [hml]; exact hl.1) () hr hP hK hD hS d_RS_bound_27 d_RS_bound_30 d_RS_bound_31 d_RS_bound_33 d_RS_bound_36 (Nat.le_of_ble_eq_true rfl) (Nat.le_of_ble_eq_true rfl) (by decide : 4 + 1 ≤ 5) (by decide : 24 + 6 ≤ 30) (by decide : 4 + 1 ≤ 5) (by decide : 24 + 6 ≤ 30)
def f_RS_clear (n : Nat) (sAssigned : Nat → Option Nat) : Option ((String × ((Nat → Option Nat) × Int32 × Bool)) ⊕ ((Nat → Option Nat) × Int32 × Bool)) :=
  (f_Se_forget n sAssigned).bind fun u1 =>
  some (.inr (u1.1, u1.2.1, u1.2.2))
set_option maxHeartbeats 400000 in
set_option maxRecDepth 100000 in
theorem c_RS_clear (l : Launch) (hl0 : l.stackTraces = false) {D : va_G} {K : Nat → ClassId} {T : auTab} {n : Nat} {xq : Nat} {xl : Nat} {mq : Nat} {cq : Nat} {iq : Nat} {sq : Nat} {sA : Nat} {sF : Nat} {sLe : Nat} {sMo : Nat} {sAl : Nat} {sRL : Nat} {sRM : Nat} {sLn : Nat} {sKL : Nat} {sKW : Nat} {fF : Nat → Nat} {fL : Nat → Nat} {fM : Nat → Nat} {xLang : Nat → Option Nat} {xCount : Int32} {sAssigned : Nat → Option Nat} {sLeast : Nat → Int32} {sMost : Nat → Int32} {sCount : Int32} {sAllowed : Nat → Int64} {sLengths : Nat → Int32} {sKept : Bool} {sKeptLengths : Nat → Int32} {sKeptWords : Nat → Int64} {gF : Nat → Nat → Int32} {gL : Nat → Nat → Int32} {gM : Nat → Nat → Int32}   {r : (String × ((Nat → Option Nat) × Int32 × Bool)) ⊕ ((Nat → Option Nat) × Int32 × Bool)} (sz : Nat) (hf : f_RS_clear n sAssigned = some r) : vx_Met l y_RS_clear w0_RS_clear ({ frames := 1, cells := 0, slots := 0, locals := 21 }) (xPre D K T [.ref xq] ((rsW K xq xl mq cq iq sq xLang xCount) ++ (sgW K sq sA sF sLe sMo sAl sRL sRM sLn sKL sKW fF fL fM sAssigned sLeast sMost sCount sAllowed sLengths sKept sKeptLengths sKeptWords gF gL gM)) 0 (fun _ => none) sz) (xPost D K r (fun v (g : Unit) => none) (fun v g => ((rsW K xq xl mq cq iq sq xLang xCount) ++ (sgW K sq sA sF sLe sMo sAl sRL sRM sLn sKL sKW fF fL fM v.1 sLeast sMost v.2.1 sAllowed sLengths v.2.2 sKeptLengths sKeptWords gF gL gM))) (va_A ((rsW K xq xl mq cq iq sq xLang xCount) ++ (sgW K sq sA sF sLe sMo sAl sRL sRM sLn sKL sKW fF fL fM sAssigned sLeast sMost sCount sAllowed sLengths sKept sKeptLengths sKeptWords gF gL gM)) sz)) (xExc D K r (fun u (g : Unit) => ((rsW K xq xl mq cq iq sq xLang xCount) ++ (sgW K sq sA sF sLe sMo sAl sRL sRM sLn sKL sKW fF fL fM u.1 sLeast sMost u.2.1 sAllowed sLengths u.2.2 sKeptLengths sKeptWords gF gL gM))) (va_A ((rsW K xq xl mq cq iq sq xLang xCount) ++ (sgW K sq sA sF sLe sMo sAl sRL sRM sLn sKL sKW fF fL fM sAssigned sLeast sMost sCount sAllowed sLengths sKept sKeptLengths sKeptWords gF gL gM)) sz)) 0 0 (va_A ((rsW K xq xl mq cq iq sq xLang xCount) ++ (sgW K sq sA sF sLe sMo sAl sRL sRM sLn sKL sKW fF fL fM sAssigned sLeast sMost sCount sAllowed sLengths sKept sKeptLengths sKeptWords gF gL gM)) sz) := by
  unfold f_RS_clear at hf
  refine vx_ofW (cc := b_RS_clear) (maxL := 1) (ret := none) (by decide) rfl ?_
  intro p e s m args below meth c s₁ B hml htab hv
  obtain ⟨⟨rfl, hsz, hP, hK, hD0⟩, hX, hZ, hT0⟩ := hv
  subst hsz
  have hx := B.exec
  have hb := B.bytes
  have hts : ∀ w ∈ gW, w.before _ s = true := fun w hw => atoms_spec (ws := w0_RS_clear) B.pre w (List.mem_cons_of_mem _ hw)
  have hown : s.vm.findClass "RegularSolver" = some m.cls := findClass_of_methodNamed B.named
  have hD := hD0.self (sz := s.heap.size)
  generalize hAe : va_A ((rsW K xq xl mq cq iq sq xLang xCount) ++ (sgW K sq sA sF sLe sMo sAl sRL sRM sLn sKL sKW fF fL fM sAssigned sLeast sMost sCount sAllowed sLengths sKept sKeptLengths sKeptWords gF gL gM)) s.heap.size = A at hD hZ hT0 ⊢
  have hA : ∀ q : Nat, s.heap.size ≤ q → A q := fun q h => by rw [← hAe]; exact Or.inr h
  have hS : va_S A s.heap s.heap [] := va_S.rf
  have hT : ∀ (q i : Nat), i < 0 → (fun _ => none) i = some q → ∀ (H : Heap) (locs : List Loc), va_S A s.heap H locs → va_P D vwCl (auT K T q) H := fun q i hi hq _ _ hS => ro_of (hT0 q i hi hq).1 (hT0 q i hi hq).2 hS
  have hTw : ∀ (q i : Nat), i < 0 → (fun _ => none) i = some q → gAw A (auT K T q) := fun q i hi hq => (hT0 q i hi hq).2
  have hl := lv_entry [.ref xq] (n := 1) (Nat.le_of_ble_eq_true rfl)
  rw [lg_entry_eq]
  generalize (lg_sl [.ref xq] ++ List.replicate (1 - (lg_sl [.ref xq]).length) Slot.unset).toArray = ls at hl ⊢
  refine x_gen (P := fun H => W p l e _ s m _ below meth c H [] 0 0 _ _) ?_
  intro H hHe
  rw [← hHe] at hP
  have hS : va_S A s.heap H [] := by rw [hHe]; exact hS
  refine lv_aload_n hx hb d_RS_clear_0 rfl (lv_at hl 0 rfl) ?_
  refine va_get (D := D) (ci := 10) (v := .ref sq) (C := R_RS) (T := T_RS) (N := 6) hx hb hts in_RS hown hK hP 0 rfl rfl 5 (by decide) (hts _ fl_RS_43) (fun _ h9 => h9) rfl d_RS_clear_1 ?_
  obtain ⟨u1, eu1, hf⟩ := obd hf
  refine w_callA (va_runV (As := []) (rest := []) ⟨hx, hb, hml, hown, hts⟩ (Met_G (c_Se_forget l H.size eu1)) (gV 0 hts cd_Se_forget ml_RS_173 im_Se_forget se_Se_forget ini_Se rfl rfl pd_Se_forget ⟨Nat.le_of_ble_eq_true rfl, Nat.le_of_ble_eq_true rfl⟩) ⟨wPre_blind, va_recv hK (vaR hP) (ci := 9) (q0 := 0) rfl rfl, wPre_of (vaR hP) hK (vdR hD)⟩ rfl rfl hl.1 rfl (lv_room (Nat.le_of_ble_eq_true rfl)) d_RS_clear_4 ⟨(by decide : 0 + 0 ≤ 0), (by decide : 0 + 0 ≤ 0)⟩) (vdR hD) hS hA (fun g2 H1 locs hP1 hD1 hk1 hS1 => ?_)
  obtain ⟨hP, hD⟩ := va_keepL hP hD (va_sub (vdR hD) hS hA) hk1 hP1 hD1
  have hS := hS1
  generalize H1 = H at hP hS ⊢
  have hP : va_P D vwCl ((rsW K xq xl mq cq iq sq xLang xCount) ++ (sgW K sq sA sF sLe sMo sAl sRL sRM sLn sKL sKW fF fL fM u1.1 sLeast sMost u1.2.1 sAllowed sLengths u1.2.2 sKeptLengths sKeptWords gF gL gM)) H := hP
  have hD : va_D A ((rsW K xq xl mq cq iq sq xLang xCount) ++ (sgW K sq sA sF sLe sMo sAl sRL sRM sLn sKL sKW fF fL fM u1.1 sLeast sMost u1.2.1 sAllowed sLengths u1.2.2 sKeptLengths sKeptWords gF gL gM)) := hD
  have hr := (Option.some.inj hf).symm
  refine W.widen (k := 0) (n := 0) (by decide) (by decide) ?_
  exact vx_ret (W.vret hx hb B.returns (fun t ht hW => ⟨_, hr, ⟨(), rfl, by rw [ht]; exact hP, va_K.moved hW.alike hK, hD⟩, hS.F ht⟩) hS.2.2 d_RS_clear_7 (hlocks := B.notSynchronized))
def f_RS_solve (n : Nat) (p0 : Int32) (sAssigned : Nat → Option Nat) (sLeast : Nat → Int32) (sMost : Nat → Int32) (sCount : Int32) (sAllowed : Nat → Int64) (sLengths : Nat → Int32) (sKept : Bool) (sKeptLengths : Nat → Int32) (sKeptWords : Nat → Int64) (gF : Nat → Nat → Int32) (gL : Nat → Nat → Int32) (gM : Nat → Nat → Int32) (T : auTab) : Option ((String × ((Nat → Int64) × (Nat → Int32) × Bool × (Nat → Int32) × (Nat → Int64) × (Nat → Nat → Int32) × (Nat → Nat → Int32))) ⊕ (Bool × (Nat → Int64) × (Nat → Int32) × Bool × (Nat → Int32) × (Nat → Int64) × (Nat → Nat → Int32) × (Nat → Nat → Int32))) :=
  (f_RS_requireBetween n p0 0 31).bind fun u1 => u1.elim (fun x => some (.inl (x.1, (sAllowed, sLengths, sKept, sKeptLengths, sKeptWords, gL, gM)))) fun y1 =>
  (f_Se_find n p0 sAssigned sLeast sMost sCount sAllowed sLengths sKeptLengths sKeptWords gF gL gM T).bind fun u3 =>
  some (.inr (u3.1, u3.2.1, u3.2.2.1, u3.2.2.2.1, u3.2.2.2.2.1, u3.2.2.2.2.2.1, u3.2.2.2.2.2.2.1, u3.2.2.2.2.2.2.2))
set_option maxHeartbeats 400000 in
set_option maxRecDepth 100000 in
theorem c_RS_solve (l : Launch) (hl0 : l.stackTraces = false) {D : va_G} {K : Nat → ClassId} {T : auTab} {n : Nat} {xq : Nat} {xl : Nat} {mq : Nat} {cq : Nat} {iq : Nat} {sq : Nat} {sA : Nat} {sF : Nat} {sLe : Nat} {sMo : Nat} {sAl : Nat} {sRL : Nat} {sRM : Nat} {sLn : Nat} {sKL : Nat} {sKW : Nat} {fF : Nat → Nat} {fL : Nat → Nat} {fM : Nat → Nat} {xLang : Nat → Option Nat} {xCount : Int32} {sAssigned : Nat → Option Nat} {sLeast : Nat → Int32} {sMost : Nat → Int32} {sCount : Int32} {sAllowed : Nat → Int64} {sLengths : Nat → Int32} {sKept : Bool} {sKeptLengths : Nat → Int32} {sKeptWords : Nat → Int64} {gF : Nat → Nat → Int32} {gL : Nat → Nat → Int32} {gM : Nat → Nat → Int32} {p0 : Int32}  {r : (String × ((Nat → Int64) × (Nat → Int32) × Bool × (Nat → Int32) × (Nat → Int64) × (Nat → Nat → Int32) × (Nat → Nat → Int32))) ⊕ (Bool × (Nat → Int64) × (Nat → Int32) × Bool × (Nat → Int32) × (Nat → Int64) × (Nat → Nat → Int32) × (Nat → Nat → Int32))} (sz : Nat) (hf : f_RS_solve n p0 sAssigned sLeast sMost sCount sAllowed sLengths sKept sKeptLengths sKeptWords gF gL gM T = some r) : vx_Met l y_RS_solve w0_RS_solve ({ frames := 11, cells := 1, slots := 6, locals := 267 }) (xPre D K T [.ref xq, .int p0] ((rsW K xq xl mq cq iq sq xLang xCount) ++ (sgW K sq sA sF sLe sMo sAl sRL sRM sLn sKL sKW fF fL fM sAssigned sLeast sMost sCount sAllowed sLengths sKept sKeptLengths sKeptWords gF gL gM)) 4 sAssigned sz) (xPost D K r (fun v (g : Unit) => some (.int (bI v.1))) (fun v g => ((rsW K xq xl mq cq iq sq xLang xCount) ++ (sgW K sq sA sF sLe sMo sAl sRL sRM sLn sKL sKW fF fL fM sAssigned sLeast sMost sCount v.2.1 v.2.2.1 v.2.2.2.1 v.2.2.2.2.1 v.2.2.2.2.2.1 gF v.2.2.2.2.2.2.1 v.2.2.2.2.2.2.2))) (va_A ((rsW K xq xl mq cq iq sq xLang xCount) ++ (sgW K sq sA sF sLe sMo sAl sRL sRM sLn sKL sKW fF fL fM sAssigned sLeast sMost sCount sAllowed sLengths sKept sKeptLengths sKeptWords gF gL gM)) sz)) (xExc D K r (fun u (g : Unit) => ((rsW K xq xl mq cq iq sq xLang xCount) ++ (sgW K sq sA sF sLe sMo sAl sRL sRM sLn sKL sKW fF fL fM sAssigned sLeast sMost sCount u.1 u.2.1 u.2.2.1 u.2.2.2.1 u.2.2.2.2.1 gF u.2.2.2.2.2.1 u.2.2.2.2.2.2))) (va_A ((rsW K xq xl mq cq iq sq xLang xCount) ++ (sgW K sq sA sF sLe sMo sAl sRL sRM sLn sKL sKW fF fL fM sAssigned sLeast sMost sCount sAllowed sLengths sKept sKeptLengths sKeptWords gF gL gM)) sz)) 1 6 (va_A ((rsW K xq xl mq cq iq sq xLang xCount) ++ (sgW K sq sA sF sLe sMo sAl sRL sRM sLn sKL sKW fF fL fM sAssigned sLeast sMost sCount sAllowed sLengths sKept sKeptLengths sKeptWords gF gL gM)) sz) := by
  unfold f_RS_solve at hf
  refine vx_ofW (cc := b_RS_solve) (maxL := 2) (ret := (some .boolean)) (by decide) rfl ?_
  intro p e s m args below meth c s₁ B hml htab hv
  obtain ⟨⟨rfl, hsz, hP, hK, hD0⟩, hX, hZ, hT0⟩ := hv
  subst hsz
  have hx := B.exec
  have hb := B.bytes
  have hts : ∀ w ∈ gW, w.before _ s = true := fun w hw => atoms_spec (ws := w0_RS_solve) B.pre w (List.mem_cons_of_mem _ hw)
  have hown : s.vm.findClass "RegularSolver" = some m.cls := findClass_of_methodNamed B.named
  have hD := hD0.self (sz := s.heap.size)
  generalize hAe : va_A ((rsW K xq xl mq cq iq sq xLang xCount) ++ (sgW K sq sA sF sLe sMo sAl sRL sRM sLn sKL sKW fF fL fM sAssigned sLeast sMost sCount sAllowed sLengths sKept sKeptLengths sKeptWords gF gL gM)) s.heap.size = A at hD hZ hT0 ⊢
  have hA : ∀ q : Nat, s.heap.size ≤ q → A q := fun q h => by rw [← hAe]; exact Or.inr h
  have hS : va_S A s.heap s.heap [] := va_S.rf
  have hT : ∀ (q i : Nat), i < 4 → sAssigned i = some q → ∀ (H : Heap) (locs : List Loc), va_S A s.heap H locs → va_P D vwCl (auT K T q) H := fun q i hi hq _ _ hS => ro_of (hT0 q i hi hq).1 (hT0 q i hi hq).2 hS
  have hTw : ∀ (q i : Nat), i < 4 → sAssigned i = some q → gAw A (auT K T q) := fun q i hi hq => (hT0 q i hi hq).2
  have hl := lv_entry [.ref xq, .int p0] (n := 2) (Nat.le_of_ble_eq_true rfl)
  rw [lg_entry_eq]
  generalize (lg_sl [.ref xq, .int p0] ++ List.replicate (2 - (lg_sl [.ref xq, .int p0]).length) Slot.unset).toArray = ls at hl ⊢
  refine x_gen (P := fun H => W p l e _ s m _ below meth c H [] 0 0 _ _) ?_
  intro H hHe
  rw [← hHe] at hP
  have hS : va_S A s.heap H [] := by rw [hHe]; exact hS
  refine lv_iload_n hx hb d_RS_solve_0 rfl (lv_at hl 1 rfl) ?_
  refine lv_iconst (v := 0) hx hb d_RS_solve_1 (by decide) ?_
  refine lv_bipush (v := 31) hx hb d_RS_solve_2 (by decide) ?_
  obtain ⟨u1, eu1, hf⟩ := obd hf
  refine x_call (vx_runS (As := [.int p0, .int 0, .int 31]) (rest := []) ⟨hx, hb, hml, hown, hts⟩ (c_RS_requireBetween l hl0 H.size eu1) (gS 3 hts cd_RS_requireBetween ml_RS_119 st_RS_requireBetween ini_RS rfl rfl pd_RS_requireBetween ⟨Nat.le_of_ble_eq_true rfl, Nat.le_of_ble_eq_true rfl⟩) ⟨xPre_blind, xPre_of (T := fun _ => (0, 0, 0, 0, fun _ => 0, 0, fun _ => 0)) (asg := fun _ => none) va_P0 hK va_nil hS hA hX hZ xT0⟩ rfl rfl hl.1 rfl (lv_room (Nat.le_of_ble_eq_true rfl)) d_RS_solve_4 ⟨(by decide : 0 + 1 ≤ 1), (by decide : 0 + 6 ≤ 6)⟩) va_nil hS hA (fun E x ex g2 ce q9 H1 locs hP1 hD1 hk1 hS1 hq1 hq2 hq3 => ?_) (fun y1 ev g2 H1 locs hP1 hD1 hk1 hS1 => ?_)
  · subst ex
    have hr := (Option.some.inj hf).symm
    obtain ⟨hP, hD⟩ : _ ∧ _ := ⟨x_keep0 hP hk1, hD⟩
    have hS := hS1
    generalize H1 = H at hP hS hq1 ⊢
    exact x_out htab B.notSynchronized hq1 hq2 hq3 () hr hP hK hD hS (by decide : 0 + 1 ≤ 1) (by decide : 0 + 6 ≤ 6)
  subst ev
  replace hf := oel hf
  obtain ⟨hP, hD⟩ : _ ∧ _ := ⟨x_keep0 hP hk1, hD⟩
  have hS := hS1
  generalize H1 = H at hP hS ⊢
  have hP : va_P D vwCl ((rsW K xq xl mq cq iq sq xLang xCount) ++ (sgW K sq sA sF sLe sMo sAl sRL sRM sLn sKL sKW fF fL fM sAssigned sLeast sMost sCount sAllowed sLengths sKept sKeptLengths sKeptWords gF gL gM)) H := hP
  have hD : va_D A ((rsW K xq xl mq cq iq sq xLang xCount) ++ (sgW K sq sA sF sLe sMo sAl sRL sRM sLn sKL sKW fF fL fM sAssigned sLeast sMost sCount sAllowed sLengths sKept sKeptLengths sKeptWords gF gL gM)) := hD
  refine lv_aload_n hx hb d_RS_solve_7 rfl (lv_at hl 0 rfl) ?_
  refine va_get (D := D) (ci := 10) (v := .ref sq) (C := R_RS) (T := T_RS) (N := 6) hx hb hts in_RS hown hK hP 0 rfl rfl 5 (by decide) (hts _ fl_RS_43) (fun _ h9 => h9) rfl d_RS_solve_8 ?_
  refine lv_iload_n hx hb d_RS_solve_11 rfl (lv_at hl 1 rfl) ?_
  obtain ⟨u3, eu3, hf⟩ := obd hf
  refine w_callA (va_runV (As := [.int p0]) (rest := []) ⟨hx, hb, hml, hown, hts⟩ (Met_G (c_Se_find l H.size eu3)) (gV 1 hts cd_Se_find ml_RS_176 im_Se_find se_Se_find ini_Se rfl rfl pd_Se_find ⟨Nat.le_of_ble_eq_true rfl, Nat.le_of_ble_eq_true rfl⟩) ⟨(withT_blind wPre_blind), va_recv hK (vaR hP) (ci := 9) (q0 := 0) rfl rfl, withT_of (wPre_of (vaR hP) hK (vdR hD)) hT hTw (vdR hD) hS hA⟩ rfl rfl hl.1 rfl (lv_room (Nat.le_of_ble_eq_true rfl)) d_RS_solve_12 ⟨(by decide : 1 + 0 ≤ 1), (by decide : 6 + 0 ≤ 6)⟩) (vdR hD) hS hA (fun g4 H1 locs hP1 hD1 hk1 hS1 => ?_)
  obtain ⟨hP, hD⟩ := va_keepL hP hD (va_sub (vdR hD) hS hA) hk1 hP1 hD1
  have hS := hS1
  generalize H1 = H at hP hS ⊢
  have hP : va_P D vwCl ((rsW K xq xl mq cq iq sq xLang xCount) ++ (sgW K sq sA sF sLe sMo sAl sRL sRM sLn sKL sKW fF fL fM sAssigned sLeast sMost sCount u3.2.1 u3.2.2.1 u3.2.2.2.1 u3.2.2.2.2.1 u3.2.2.2.2.2.1 gF u3.2.2.2.2.2.2.1 u3.2.2.2.2.2.2.2)) H := hP
  have hD : va_D A ((rsW K xq xl mq cq iq sq xLang xCount) ++ (sgW K sq sA sF sLe sMo sAl sRL sRM sLn sKL sKW fF fL fM sAssigned sLeast sMost sCount u3.2.1 u3.2.2.1 u3.2.2.2.1 u3.2.2.2.2.1 u3.2.2.2.2.2.1 gF u3.2.2.2.2.2.2.1 u3.2.2.2.2.2.2.2)) := hD
  have hr := (Option.some.inj hf).symm
  refine W.widen (k := 1) (n := 6) (by decide) (by decide) ?_
  exact vx_ret (W.zret hx hb B.returns (bI_nar _) (fun t ht hW => ⟨_, hr, ⟨(), rfl, by rw [ht]; exact hP, va_K.moved hW.alike hK, hD⟩, hS.F ht⟩) hS.2.2 d_RS_solve_15 (hlocks := B.notSynchronized))
def f_RS_length (n : Nat) (p0 : Int32) (sKept : Bool) (sKeptLengths : Nat → Int32) : Option ((String × (Unit)) ⊕ (Int32)) :=
  (f_RS_requireBetween n p0 0 3).bind fun u1 => u1.elim (fun x => some (.inl (x.1, ()))) fun y1 =>
  (f_RS_requireSolution n sKept).bind fun u3 => u3.elim (fun x => some (.inl (x.1, ()))) fun y3 =>
  ogd (gin p0 4) <|
  some (.inr (sKeptLengths p0.toNatClampNeg))
set_option maxHeartbeats 400000 in
set_option maxRecDepth 100000 in
theorem c_RS_length (l : Launch) (hl0 : l.stackTraces = false) {D : va_G} {K : Nat → ClassId} {T : auTab} {n : Nat} {xq : Nat} {xl : Nat} {mq : Nat} {cq : Nat} {iq : Nat} {sq : Nat} {sA : Nat} {sF : Nat} {sLe : Nat} {sMo : Nat} {sAl : Nat} {sRL : Nat} {sRM : Nat} {sLn : Nat} {sKL : Nat} {sKW : Nat} {fF : Nat → Nat} {fL : Nat → Nat} {fM : Nat → Nat} {xLang : Nat → Option Nat} {xCount : Int32} {sAssigned : Nat → Option Nat} {sLeast : Nat → Int32} {sMost : Nat → Int32} {sCount : Int32} {sAllowed : Nat → Int64} {sLengths : Nat → Int32} {sKept : Bool} {sKeptLengths : Nat → Int32} {sKeptWords : Nat → Int64} {gF : Nat → Nat → Int32} {gL : Nat → Nat → Int32} {gM : Nat → Nat → Int32} {p0 : Int32}  {r : (String × (Unit)) ⊕ (Int32)} (sz : Nat) (hf : f_RS_length n p0 sKept sKeptLengths = some r) : vx_Met l y_RS_length w0_RS_length ({ frames := 7, cells := 2, slots := 12, locals := 104 }) (xPre D K T [.ref xq, .int p0] ((rsW K xq xl mq cq iq sq xLang xCount) ++ (sgW K sq sA sF sLe sMo sAl sRL sRM sLn sKL sKW fF fL fM sAssigned sLeast sMost sCount sAllowed sLengths sKept sKeptLengths sKeptWords gF gL gM)) 0 (fun _ => none) sz) (xPost D K r (fun v (g : Unit) => some (.int v)) (fun v g => ((rsW K xq xl mq cq iq sq xLang xCount) ++ (sgW K sq sA sF sLe sMo sAl sRL sRM sLn sKL sKW fF fL fM sAssigned sLeast sMost sCount sAllowed sLengths sKept sKeptLengths sKeptWords gF gL gM))) (va_A ((rsW K xq xl mq cq iq sq xLang xCount) ++ (sgW K sq sA sF sLe sMo sAl sRL sRM sLn sKL sKW fF fL fM sAssigned sLeast sMost sCount sAllowed sLengths sKept sKeptLengths sKeptWords gF gL gM)) sz)) (xExc D K r (fun u (g : Unit) => ((rsW K xq xl mq cq iq sq xLang xCount) ++ (sgW K sq sA sF sLe sMo sAl sRL sRM sLn sKL sKW fF fL fM sAssigned sLeast sMost sCount sAllowed sLengths sKept sKeptLengths sKeptWords gF gL gM))) (va_A ((rsW K xq xl mq cq iq sq xLang xCount) ++ (sgW K sq sA sF sLe sMo sAl sRL sRM sLn sKL sKW fF fL fM sAssigned sLeast sMost sCount sAllowed sLengths sKept sKeptLengths sKeptWords gF gL gM)) sz)) 2 12 (va_A ((rsW K xq xl mq cq iq sq xLang xCount) ++ (sgW K sq sA sF sLe sMo sAl sRL sRM sLn sKL sKW fF fL fM sAssigned sLeast sMost sCount sAllowed sLengths sKept sKeptLengths sKeptWords gF gL gM)) sz) := by
  unfold f_RS_length at hf
  refine vx_ofW (cc := b_RS_length) (maxL := 2) (ret := (some .int)) (by decide) rfl ?_
  intro p e s m args below meth c s₁ B hml htab hv
  obtain ⟨⟨rfl, hsz, hP, hK, hD0⟩, hX, hZ, hT0⟩ := hv
  subst hsz
  have hx := B.exec
  have hb := B.bytes
  have hts : ∀ w ∈ gW, w.before _ s = true := fun w hw => atoms_spec (ws := w0_RS_length) B.pre w (List.mem_cons_of_mem _ hw)
  have hown : s.vm.findClass "RegularSolver" = some m.cls := findClass_of_methodNamed B.named
  have hD := hD0.self (sz := s.heap.size)
  generalize hAe : va_A ((rsW K xq xl mq cq iq sq xLang xCount) ++ (sgW K sq sA sF sLe sMo sAl sRL sRM sLn sKL sKW fF fL fM sAssigned sLeast sMost sCount sAllowed sLengths sKept sKeptLengths sKeptWords gF gL gM)) s.heap.size = A at hD hZ hT0 ⊢
  have hA : ∀ q : Nat, s.heap.size ≤ q → A q := fun q h => by rw [← hAe]; exact Or.inr h
  have hS : va_S A s.heap s.heap [] := va_S.rf
  have hT : ∀ (q i : Nat), i < 0 → (fun _ => none) i = some q → ∀ (H : Heap) (locs : List Loc), va_S A s.heap H locs → va_P D vwCl (auT K T q) H := fun q i hi hq _ _ hS => ro_of (hT0 q i hi hq).1 (hT0 q i hi hq).2 hS
  have hTw : ∀ (q i : Nat), i < 0 → (fun _ => none) i = some q → gAw A (auT K T q) := fun q i hi hq => (hT0 q i hi hq).2
  have hl := lv_entry [.ref xq, .int p0] (n := 2) (Nat.le_of_ble_eq_true rfl)
  rw [lg_entry_eq]
  generalize (lg_sl [.ref xq, .int p0] ++ List.replicate (2 - (lg_sl [.ref xq, .int p0]).length) Slot.unset).toArray = ls at hl ⊢
  refine x_gen (P := fun H => W p l e _ s m _ below meth c H [] 0 0 _ _) ?_
  intro H hHe
  rw [← hHe] at hP
  have hS : va_S A s.heap H [] := by rw [hHe]; exact hS
  refine lv_iload_n hx hb d_RS_length_0 rfl (lv_at hl 1 rfl) ?_
  refine lv_iconst (v := 0) hx hb d_RS_length_1 (by decide) ?_
  refine lv_iconst (v := 3) hx hb d_RS_length_2 (by decide) ?_
  obtain ⟨u1, eu1, hf⟩ := obd hf
  refine x_call (vx_runS (As := [.int p0, .int 0, .int 3]) (rest := []) ⟨hx, hb, hml, hown, hts⟩ (c_RS_requireBetween l hl0 H.size eu1) (gS 3 hts cd_RS_requireBetween ml_RS_119 st_RS_requireBetween ini_RS rfl rfl pd_RS_requireBetween ⟨Nat.le_of_ble_eq_true rfl, Nat.le_of_ble_eq_true rfl⟩) ⟨xPre_blind, xPre_of (T := fun _ => (0, 0, 0, 0, fun _ => 0, 0, fun _ => 0)) (asg := fun _ => none) va_P0 hK va_nil hS hA hX hZ xT0⟩ rfl rfl hl.1 rfl (lv_room (Nat.le_of_ble_eq_true rfl)) d_RS_length_3 ⟨(by decide : 0 + 1 ≤ 2), (by decide : 0 + 6 ≤ 12)⟩) va_nil hS hA (fun E x ex g2 ce q9 H1 locs hP1 hD1 hk1 hS1 hq1 hq2 hq3 => ?_) (fun y1 ev g2 H1 locs hP1 hD1 hk1 hS1 => ?_)
  · subst ex
    have hr := (Option.some.inj hf).symm
    obtain ⟨hP, hD⟩ : _ ∧ _ := ⟨x_keep0 hP hk1, hD⟩
    have hS := hS1
    generalize H1 = H at hP hS hq1 ⊢
    exact x_out htab B.notSynchronized hq1 hq2 hq3 () hr hP hK hD hS (by decide : 0 + 1 ≤ 2) (by decide : 0 + 6 ≤ 12)
  subst ev
  replace hf := oel hf
  obtain ⟨hP, hD⟩ : _ ∧ _ := ⟨x_keep0 hP hk1, hD⟩
  have hS := hS1
  generalize H1 = H at hP hS ⊢
  have hP : va_P D vwCl ((rsW K xq xl mq cq iq sq xLang xCount) ++ (sgW K sq sA sF sLe sMo sAl sRL sRM sLn sKL sKW fF fL fM sAssigned sLeast sMost sCount sAllowed sLengths sKept sKeptLengths sKeptWords gF gL gM)) H := hP
  have hD : va_D A ((rsW K xq xl mq cq iq sq xLang xCount) ++ (sgW K sq sA sF sLe sMo sAl sRL sRM sLn sKL sKW fF fL fM sAssigned sLeast sMost sCount sAllowed sLengths sKept sKeptLengths sKeptWords gF gL gM)) := hD
  refine lv_aload_n hx hb d_RS_length_6 rfl (lv_at hl 0 rfl) ?_
  obtain ⟨u3, eu3, hf⟩ := obd hf
  refine x_call (vx_runV (As := []) (rest := []) ⟨hx, hb, hml, hown, hts⟩ (c_RS_requireSolution l hl0 H.size eu3) (gV 0 hts cd_RS_requireSolution ml_RS_179 im_RS_requireSolution se_RS_requireSolution ini_RS rfl rfl pd_RS_requireSolution ⟨Nat.le_of_ble_eq_true rfl, Nat.le_of_ble_eq_true rfl⟩) ⟨xPre_blind, va_recv hK hP (ci := 10) (q0 := 0) rfl rfl, xPre_of (T := fun _ => (0, 0, 0, 0, fun _ => 0, 0, fun _ => 0)) (asg := fun _ => none) hP hK hD hS hA hX hZ xT0⟩ rfl rfl hl.1 rfl (lv_room (Nat.le_of_ble_eq_true rfl)) d_RS_length_7 ⟨(by decide : 1 + 1 ≤ 2), (by decide : 6 + 6 ≤ 12)⟩) hD hS hA (fun E x ex g4 ce q9 H1 locs hP1 hD1 hk1 hS1 hq1 hq2 hq3 => ?_) (fun y3 ev g4 H1 locs hP1 hD1 hk1 hS1 => ?_)
  · subst ex
    have hr := (Option.some.inj hf).symm
    obtain ⟨hP, hD⟩ : _ ∧ _ := ⟨hP1, hD1.weaken (fun _ q _ h => va_sub hD hS hA q.1 h)⟩
    have hS := hS1
    generalize H1 = H at hP hS hq1 ⊢
    exact x_out htab B.notSynchronized hq1 hq2 hq3 () hr hP hK hD hS (by decide : 1 + 1 ≤ 2) (by decide : 6 + 6 ≤ 12)
  subst ev
  replace hf := oel hf
  obtain ⟨hP, hD⟩ : _ ∧ _ := ⟨hP1, hD1.weaken (fun _ q _ h => va_sub hD hS hA q.1 h)⟩
  have hS := hS1
  generalize H1 = H at hP hS ⊢
  have hP : va_P D vwCl ((rsW K xq xl mq cq iq sq xLang xCount) ++ (sgW K sq sA sF sLe sMo sAl sRL sRM sLn sKL sKW fF fL fM sAssigned sLeast sMost sCount sAllowed sLengths sKept sKeptLengths sKeptWords gF gL gM)) H := hP
  have hD : va_D A ((rsW K xq xl mq cq iq sq xLang xCount) ++ (sgW K sq sA sF sLe sMo sAl sRL sRM sLn sKL sKW fF fL fM sAssigned sLeast sMost sCount sAllowed sLengths sKept sKeptLengths sKeptWords gF gL gM)) := hD
  refine lv_aload_n hx hb d_RS_length_10 rfl (lv_at hl 0 rfl) ?_
  refine va_get (D := D) (ci := 10) (v := .ref sq) (C := R_RS) (T := T_RS) (N := 6) hx hb hts in_RS hown hK hP 0 rfl rfl 5 (by decide) (hts _ fl_RS_43) (fun _ h9 => h9) rfl d_RS_length_11 ?_
  refine va_get (D := D) (ci := 9) (v := .ref sKL) (C := R_Se) (T := T_Se) (N := 12) hx hb hts in_Se hown hK hP 2 rfl rfl 10 (by decide) (hts _ fl_RS_182) (fun _ h9 => h9) rfl d_RS_length_14 ?_
  refine lv_iload_n hx hb d_RS_length_17 rfl (lv_at hl 1 rfl) ?_
  obtain ⟨g5, hf⟩ := ogi hf
  refine va_iald hx hb hK hP 11 0 rfl rfl (gin_in g5) d_RS_length_18 ?_
  have hr := (Option.some.inj hf).symm
  refine W.widen (k := 2) (n := 12) (by decide) (by decide) ?_
  exact vx_ret (W.iret hx hb B.returns (fun t ht hW => ⟨_, hr, ⟨(), rfl, by rw [ht]; exact hP, va_K.moved hW.alike hK, hD⟩, hS.F ht⟩) hS.2.2 d_RS_length_19 (hlocks := B.notSynchronized))
def f_RS_word (n : Nat) (p0 : Int32) (sKept : Bool) (sKeptWords : Nat → Int64) : Option ((String × (Unit)) ⊕ (Int64)) :=
  (f_RS_requireBetween n p0 0 3).bind fun u1 => u1.elim (fun x => some (.inl (x.1, ()))) fun y1 =>
  (f_RS_requireSolution n sKept).bind fun u3 => u3.elim (fun x => some (.inl (x.1, ()))) fun y3 =>
  ogd (gin p0 4) <|
  some (.inr (sKeptWords p0.toNatClampNeg))
set_option maxHeartbeats 400000 in
set_option maxRecDepth 100000 in
theorem c_RS_word (l : Launch) (hl0 : l.stackTraces = false) {D : va_G} {K : Nat → ClassId} {T : auTab} {n : Nat} {xq : Nat} {xl : Nat} {mq : Nat} {cq : Nat} {iq : Nat} {sq : Nat} {sA : Nat} {sF : Nat} {sLe : Nat} {sMo : Nat} {sAl : Nat} {sRL : Nat} {sRM : Nat} {sLn : Nat} {sKL : Nat} {sKW : Nat} {fF : Nat → Nat} {fL : Nat → Nat} {fM : Nat → Nat} {xLang : Nat → Option Nat} {xCount : Int32} {sAssigned : Nat → Option Nat} {sLeast : Nat → Int32} {sMost : Nat → Int32} {sCount : Int32} {sAllowed : Nat → Int64} {sLengths : Nat → Int32} {sKept : Bool} {sKeptLengths : Nat → Int32} {sKeptWords : Nat → Int64} {gF : Nat → Nat → Int32} {gL : Nat → Nat → Int32} {gM : Nat → Nat → Int32} {p0 : Int32}  {r : (String × (Unit)) ⊕ (Int64)} (sz : Nat) (hf : f_RS_word n p0 sKept sKeptWords = some r) : vx_Met l y_RS_word w0_RS_word ({ frames := 7, cells := 2, slots := 12, locals := 104 }) (xPre D K T [.ref xq, .int p0] ((rsW K xq xl mq cq iq sq xLang xCount) ++ (sgW K sq sA sF sLe sMo sAl sRL sRM sLn sKL sKW fF fL fM sAssigned sLeast sMost sCount sAllowed sLengths sKept sKeptLengths sKeptWords gF gL gM)) 0 (fun _ => none) sz) (xPost D K r (fun v (g : Unit) => some (.long v)) (fun v g => ((rsW K xq xl mq cq iq sq xLang xCount) ++ (sgW K sq sA sF sLe sMo sAl sRL sRM sLn sKL sKW fF fL fM sAssigned sLeast sMost sCount sAllowed sLengths sKept sKeptLengths sKeptWords gF gL gM))) (va_A ((rsW K xq xl mq cq iq sq xLang xCount) ++ (sgW K sq sA sF sLe sMo sAl sRL sRM sLn sKL sKW fF fL fM sAssigned sLeast sMost sCount sAllowed sLengths sKept sKeptLengths sKeptWords gF gL gM)) sz)) (xExc D K r (fun u (g : Unit) => ((rsW K xq xl mq cq iq sq xLang xCount) ++ (sgW K sq sA sF sLe sMo sAl sRL sRM sLn sKL sKW fF fL fM sAssigned sLeast sMost sCount sAllowed sLengths sKept sKeptLengths sKeptWords gF gL gM))) (va_A ((rsW K xq xl mq cq iq sq xLang xCount) ++ (sgW K sq sA sF sLe sMo sAl sRL sRM sLn sKL sKW fF fL fM sAssigned sLeast sMost sCount sAllowed sLengths sKept sKeptLengths sKeptWords gF gL gM)) sz)) 2 12 (va_A ((rsW K xq xl mq cq iq sq xLang xCount) ++ (sgW K sq sA sF sLe sMo sAl sRL sRM sLn sKL sKW fF fL fM sAssigned sLeast sMost sCount sAllowed sLengths sKept sKeptLengths sKeptWords gF gL gM)) sz) := by
  unfold f_RS_word at hf
  refine vx_ofW (cc := b_RS_word) (maxL := 2) (ret := (some .long)) (by decide) rfl ?_
  intro p e s m args below meth c s₁ B hml htab hv
  obtain ⟨⟨rfl, hsz, hP, hK, hD0⟩, hX, hZ, hT0⟩ := hv
  subst hsz
  have hx := B.exec
  have hb := B.bytes
  have hts : ∀ w ∈ gW, w.before _ s = true := fun w hw => atoms_spec (ws := w0_RS_word) B.pre w (List.mem_cons_of_mem _ hw)
  have hown : s.vm.findClass "RegularSolver" = some m.cls := findClass_of_methodNamed B.named
  have hD := hD0.self (sz := s.heap.size)
  generalize hAe : va_A ((rsW K xq xl mq cq iq sq xLang xCount) ++ (sgW K sq sA sF sLe sMo sAl sRL sRM sLn sKL sKW fF fL fM sAssigned sLeast sMost sCount sAllowed sLengths sKept sKeptLengths sKeptWords gF gL gM)) s.heap.size = A at hD hZ hT0 ⊢
  have hA : ∀ q : Nat, s.heap.size ≤ q → A q := fun q h => by rw [← hAe]; exact Or.inr h
  have hS : va_S A s.heap s.heap [] := va_S.rf
  have hT : ∀ (q i : Nat), i < 0 → (fun _ => none) i = some q → ∀ (H : Heap) (locs : List Loc), va_S A s.heap H locs → va_P D vwCl (auT K T q) H := fun q i hi hq _ _ hS => ro_of (hT0 q i hi hq).1 (hT0 q i hi hq).2 hS
  have hTw : ∀ (q i : Nat), i < 0 → (fun _ => none) i = some q → gAw A (auT K T q) := fun q i hi hq => (hT0 q i hi hq).2
  have hl := lv_entry [.ref xq, .int p0] (n := 2) (Nat.le_of_ble_eq_true rfl)
  rw [lg_entry_eq]
  generalize (lg_sl [.ref xq, .int p0] ++ List.replicate (2 - (lg_sl [.ref xq, .int p0]).length) Slot.unset).toArray = ls at hl ⊢
  refine x_gen (P := fun H => W p l e _ s m _ below meth c H [] 0 0 _ _) ?_
  intro H hHe
  rw [← hHe] at hP
  have hS : va_S A s.heap H [] := by rw [hHe]; exact hS
  refine lv_iload_n hx hb d_RS_word_0 rfl (lv_at hl 1 rfl) ?_
  refine lv_iconst (v := 0) hx hb d_RS_word_1 (by decide) ?_
  refine lv_iconst (v := 3) hx hb d_RS_word_2 (by decide) ?_
  obtain ⟨u1, eu1, hf⟩ := obd hf
  refine x_call (vx_runS (As := [.int p0, .int 0, .int 3]) (rest := []) ⟨hx, hb, hml, hown, hts⟩ (c_RS_requireBetween l hl0 H.size eu1) (gS 3 hts cd_RS_requireBetween ml_RS_119 st_RS_requireBetween ini_RS rfl rfl pd_RS_requireBetween ⟨Nat.le_of_ble_eq_true rfl, Nat.le_of_ble_eq_true rfl⟩) ⟨xPre_blind, xPre_of (T := fun _ => (0, 0, 0, 0, fun _ => 0, 0, fun _ => 0)) (asg := fun _ => none) va_P0 hK va_nil hS hA hX hZ xT0⟩ rfl rfl hl.1 rfl (lv_room (Nat.le_of_ble_eq_true rfl)) d_RS_word_3 ⟨(by decide : 0 + 1 ≤ 2), (by decide : 0 + 6 ≤ 12)⟩) va_nil hS hA (fun E x ex g2 ce q9 H1 locs hP1 hD1 hk1 hS1 hq1 hq2 hq3 => ?_) (fun y1 ev g2 H1 locs hP1 hD1 hk1 hS1 => ?_)
  · subst ex
    have hr := (Option.some.inj hf).symm
    obtain ⟨hP, hD⟩ : _ ∧ _ := ⟨x_keep0 hP hk1, hD⟩
    have hS := hS1
    generalize H1 = H at hP hS hq1 ⊢
    exact x_out htab B.notSynchronized hq1 hq2 hq3 () hr hP hK hD hS (by decide : 0 + 1 ≤ 2) (by decide : 0 + 6 ≤ 12)
  subst ev
  replace hf := oel hf
  obtain ⟨hP, hD⟩ : _ ∧ _ := ⟨x_keep0 hP hk1, hD⟩
  have hS := hS1
  generalize H1 = H at hP hS ⊢
  have hP : va_P D vwCl ((rsW K xq xl mq cq iq sq xLang xCount) ++ (sgW K sq sA sF sLe sMo sAl sRL sRM sLn sKL sKW fF fL fM sAssigned sLeast sMost sCount sAllowed sLengths sKept sKeptLengths sKeptWords gF gL gM)) H := hP
  have hD : va_D A ((rsW K xq xl mq cq iq sq xLang xCount) ++ (sgW K sq sA sF sLe sMo sAl sRL sRM sLn sKL sKW fF fL fM sAssigned sLeast sMost sCount sAllowed sLengths sKept sKeptLengths sKeptWords gF gL gM)) := hD
  refine lv_aload_n hx hb d_RS_word_6 rfl (lv_at hl 0 rfl) ?_
  obtain ⟨u3, eu3, hf⟩ := obd hf
  refine x_call (vx_runV (As := []) (rest := []) ⟨hx, hb, hml, hown, hts⟩ (c_RS_requireSolution l hl0 H.size eu3) (gV 0 hts cd_RS_requireSolution ml_RS_179 im_RS_requireSolution se_RS_requireSolution ini_RS rfl rfl pd_RS_requireSolution ⟨Nat.le_of_ble_eq_true rfl, Nat.le_of_ble_eq_true rfl⟩) ⟨xPre_blind, va_recv hK hP (ci := 10) (q0 := 0) rfl rfl, xPre_of (T := fun _ => (0, 0, 0, 0, fun _ => 0, 0, fun _ => 0)) (asg := fun _ => none) hP hK hD hS hA hX hZ xT0⟩ rfl rfl hl.1 rfl (lv_room (Nat.le_of_ble_eq_true rfl)) d_RS_word_7 ⟨(by decide : 1 + 1 ≤ 2), (by decide : 6 + 6 ≤ 12)⟩) hD hS hA (fun E x ex g4 ce q9 H1 locs hP1 hD1 hk1 hS1 hq1 hq2 hq3 => ?_) (fun y3 ev g4 H1 locs hP1 hD1 hk1 hS1 => ?_)
  · subst ex
    have hr := (Option.some.inj hf).symm
    obtain ⟨hP, hD⟩ : _ ∧ _ := ⟨hP1, hD1.weaken (fun _ q _ h => va_sub hD hS hA q.1 h)⟩
    have hS := hS1
    generalize H1 = H at hP hS hq1 ⊢
    exact x_out htab B.notSynchronized hq1 hq2 hq3 () hr hP hK hD hS (by decide : 1 + 1 ≤ 2) (by decide : 6 + 6 ≤ 12)
  subst ev
  replace hf := oel hf
  obtain ⟨hP, hD⟩ : _ ∧ _ := ⟨hP1, hD1.weaken (fun _ q _ h => va_sub hD hS hA q.1 h)⟩
  have hS := hS1
  generalize H1 = H at hP hS ⊢
  have hP : va_P D vwCl ((rsW K xq xl mq cq iq sq xLang xCount) ++ (sgW K sq sA sF sLe sMo sAl sRL sRM sLn sKL sKW fF fL fM sAssigned sLeast sMost sCount sAllowed sLengths sKept sKeptLengths sKeptWords gF gL gM)) H := hP
  have hD : va_D A ((rsW K xq xl mq cq iq sq xLang xCount) ++ (sgW K sq sA sF sLe sMo sAl sRL sRM sLn sKL sKW fF fL fM sAssigned sLeast sMost sCount sAllowed sLengths sKept sKeptLengths sKeptWords gF gL gM)) := hD
  refine lv_aload_n hx hb d_RS_word_10 rfl (lv_at hl 0 rfl) ?_
  refine va_get (D := D) (ci := 10) (v := .ref sq) (C := R_RS) (T := T_RS) (N := 6) hx hb hts in_RS hown hK hP 0 rfl rfl 5 (by decide) (hts _ fl_RS_43) (fun _ h9 => h9) rfl d_RS_word_11 ?_
  refine va_get (D := D) (ci := 9) (v := .ref sKW) (C := R_Se) (T := T_Se) (N := 12) hx hb hts in_Se hown hK hP 2 rfl rfl 11 (by decide) (hts _ fl_RS_185) (fun _ h9 => h9) rfl d_RS_word_14 ?_
  refine lv_iload_n hx hb d_RS_word_17 rfl (lv_at hl 1 rfl) ?_
  obtain ⟨g5, hf⟩ := ogi hf
  refine va_lald hx hb hK hP 12 1 rfl rfl (gin_in g5) d_RS_word_18 ?_
  have hr := (Option.some.inj hf).symm
  refine W.widen (k := 2) (n := 12) (by decide) (by decide) ?_
  exact vx_ret (W.lret hx hb B.returns (fun t ht hW => ⟨_, hr, ⟨(), rfl, by rw [ht]; exact hP, va_K.moved hW.alike hK, hD⟩, hS.F ht⟩) hS.2.2 d_RS_word_19 (hlocks := B.notSynchronized))
def f_RS_keep_N (n : Nat)  : Option ((String × (Unit)) ⊕ (Int32)) :=
  some (.inl ("java/lang/UnsupportedOperationException", ()))
set_option maxHeartbeats 400000 in
set_option maxRecDepth 100000 in
theorem c_RS_keep_N (l : Launch) (hl0 : l.stackTraces = false) {D : va_G} {K : Nat → ClassId} {T : auTab} {n : Nat} {xq : Nat} {xl : Nat} {mq : Nat} {cq : Nat} {iq : Nat} {sq : Nat} {xLang : Nat → Option Nat} {xCount : Int32}   {r : (String × (Unit)) ⊕ (Int32)} (sz : Nat) (hf : f_RS_keep_N n  = some r) : vx_Met l y_RS_keep w0_RS_keep ({ frames := 6, cells := 1, slots := 6, locals := 82 }) (xPre D K T [.ref xq, .null] (rsW K xq xl mq cq iq sq xLang xCount) 0 (fun _ => none) sz) (xPost D K r (fun v (g : Unit) => some (.int v)) (fun v g => (rsW K xq xl mq cq iq sq xLang xCount)) (va_A (rsW K xq xl mq cq iq sq xLang xCount) sz)) (xExc D K r (fun u (g : Unit) => (rsW K xq xl mq cq iq sq xLang xCount)) (va_A (rsW K xq xl mq cq iq sq xLang xCount) sz)) 1 6 (va_A (rsW K xq xl mq cq iq sq xLang xCount) sz) := by
  unfold f_RS_keep_N at hf
  refine vx_ofW (cc := b_RS_keep) (maxL := 2) (ret := (some .int)) (by decide) rfl ?_
  intro p e s m args below meth c s₁ B hml htab hv
  obtain ⟨⟨rfl, hsz, hP, hK, hD0⟩, hX, hZ, hT0⟩ := hv
  subst hsz
  have hx := B.exec
  have hb := B.bytes
  have hts : ∀ w ∈ gW, w.before _ s = true := fun w hw => atoms_spec (ws := w0_RS_keep) B.pre w (List.mem_cons_of_mem _ hw)
  have hown : s.vm.findClass "RegularSolver" = some m.cls := findClass_of_methodNamed B.named
  have hD := hD0.self (sz := s.heap.size)
  generalize hAe : va_A (rsW K xq xl mq cq iq sq xLang xCount) s.heap.size = A at hD hZ hT0 ⊢
  have hA : ∀ q : Nat, s.heap.size ≤ q → A q := fun q h => by rw [← hAe]; exact Or.inr h
  have hS : va_S A s.heap s.heap [] := va_S.rf
  have hT : ∀ (q i : Nat), i < 0 → (fun _ => none) i = some q → ∀ (H : Heap) (locs : List Loc), va_S A s.heap H locs → va_P D vwCl (auT K T q) H := fun q i hi hq _ _ hS => ro_of (hT0 q i hi hq).1 (hT0 q i hi hq).2 hS
  have hTw : ∀ (q i : Nat), i < 0 → (fun _ => none) i = some q → gAw A (auT K T q) := fun q i hi hq => (hT0 q i hi hq).2
  have hl := lv_entry [.ref xq, .null] (n := 2) (Nat.le_of_ble_eq_true rfl)
  rw [lg_entry_eq]
  generalize (lg_sl [.ref xq, .null] ++ List.replicate (2 - (lg_sl [.ref xq, .null]).length) Slot.unset).toArray = ls at hl ⊢
  refine x_gen (P := fun H => W p l e _ s m _ below meth c H [] 0 0 _ _) ?_
  intro H hHe
  rw [← hHe] at hP
  have hS : va_S A s.heap H [] := by rw [hHe]; exact hS
  refine lv_aload_nN hx hb d_RS_keep_0 rfl (lv_at hl 1 rfl) ?_
  refine lv_ifnonnullN hx hb d_RS_keep_1 ?_
  have hr := (Option.some.inj hf).symm
  exact g_throw (text := "large") hx hb hl0 hown hts hZ (by decide) cl_RS_136 ini_UnsupportedOperationException (by decide) za_UnsupportedOperationException zb_UnsupportedOperationException zc_UnsupportedOperationException htab B.notSynchronized (by rw [hml]; exact hl.1) () hr hP hK hD hS d_RS_keep_4 d_RS_keep_7 d_RS_keep_8 d_RS_keep_10 d_RS_keep_13 (Nat.le_of_ble_eq_true rfl) (Nat.le_of_ble_eq_true rfl) (by decide : 0 + 1 ≤ 1) (by decide : 0 + 6 ≤ 6) (by decide : 0 + 1 ≤ 1) (by decide : 0 + 6 ≤ 6)
def f_RS_keep_R (n : Nat) (qz : Nat) (xLang : Nat → Option Nat) (xCount : Int32) : Option ((String × ((Nat → Option Nat) × Int32)) ⊕ (Int32 × (Nat → Option Nat) × Int32)) :=
  ogd (gin xCount 60) <|
  some (.inr ((xCount + 1) - 1, va_up xLang xCount.toNatClampNeg (some qz), xCount + 1))
set_option maxHeartbeats 400000 in
set_option maxRecDepth 100000 in
theorem c_RS_keep_R (l : Launch) (hl0 : l.stackTraces = false) {D : va_G} {K : Nat → ClassId} {T : auTab} {n : Nat} {xq : Nat} {xl : Nat} {mq : Nat} {cq : Nat} {iq : Nat} {sq : Nat} {xLang : Nat → Option Nat} {xCount : Int32}  {qz : Nat} {r : (String × ((Nat → Option Nat) × Int32)) ⊕ (Int32 × (Nat → Option Nat) × Int32)} (sz : Nat) (hf : f_RS_keep_R n qz xLang xCount = some r) : vx_Met l y_RS_keep w0_RS_keep ({ frames := 0, cells := 0, slots := 0, locals := 0 }) (xPre D K T [.ref xq, .ref qz] (rsW K xq xl mq cq iq sq xLang xCount) 1 (fun _ => some qz) sz) (xPost D K r (fun v (g : Unit) => some (.int v.1)) (fun v g => (rsW K xq xl mq cq iq sq v.2.1 v.2.2)) (va_A (rsW K xq xl mq cq iq sq xLang xCount) sz)) (xExc D K r (fun u (g : Unit) => (rsW K xq xl mq cq iq sq u.1 u.2)) (va_A (rsW K xq xl mq cq iq sq xLang xCount) sz)) 0 0 (va_A (rsW K xq xl mq cq iq sq xLang xCount) sz) := by
  unfold f_RS_keep_R at hf
  refine vx_ofW (cc := b_RS_keep) (maxL := 2) (ret := (some .int)) (by decide) rfl ?_
  intro p e s m args below meth c s₁ B hml htab hv
  obtain ⟨⟨rfl, hsz, hP, hK, hD0⟩, hX, hZ, hT0⟩ := hv
  subst hsz
  have hx := B.exec
  have hb := B.bytes
  have hts : ∀ w ∈ gW, w.before _ s = true := fun w hw => atoms_spec (ws := w0_RS_keep) B.pre w (List.mem_cons_of_mem _ hw)
  have hown : s.vm.findClass "RegularSolver" = some m.cls := findClass_of_methodNamed B.named
  have hD := hD0.self (sz := s.heap.size)
  generalize hAe : va_A (rsW K xq xl mq cq iq sq xLang xCount) s.heap.size = A at hD hZ hT0 ⊢
  have hA : ∀ q : Nat, s.heap.size ≤ q → A q := fun q h => by rw [← hAe]; exact Or.inr h
  have hS : va_S A s.heap s.heap [] := va_S.rf
  have hT : ∀ (q i : Nat), i < 1 → (fun _ => some qz) i = some q → ∀ (H : Heap) (locs : List Loc), va_S A s.heap H locs → va_P D vwCl (auT K T q) H := fun q i hi hq _ _ hS => ro_of (hT0 q i hi hq).1 (hT0 q i hi hq).2 hS
  have hTw : ∀ (q i : Nat), i < 1 → (fun _ => some qz) i = some q → gAw A (auT K T q) := fun q i hi hq => (hT0 q i hi hq).2
  have hTqz := hT qz 0 (by decide) rfl
  have hl := lv_entry [.ref xq, .ref qz] (n := 2) (Nat.le_of_ble_eq_true rfl)
  rw [lg_entry_eq]
  generalize (lg_sl [.ref xq, .ref qz] ++ List.replicate (2 - (lg_sl [.ref xq, .ref qz]).length) Slot.unset).toArray = ls at hl ⊢
  refine x_gen (P := fun H => W p l e _ s m _ below meth c H [] 0 0 _ _) ?_
  intro H hHe
  rw [← hHe] at hP
  have hS : va_S A s.heap H [] := by rw [hHe]; exact hS
  refine lv_aload_n hx hb d_RS_keep_0 rfl (lv_at hl 1 rfl) ?_
  refine lv_ifnonnull (tgt := 14) hx hb d_RS_keep_1 (by decide) ?_
  refine lv_aload_n hx hb d_RS_keep_14 rfl (lv_at hl 0 rfl) ?_
  refine va_get (D := D) (ci := 10) (v := .ref xl) (C := R_RS) (T := T_RS) (N := 6) hx hb hts in_RS hown hK hP 0 rfl rfl 0 (by decide) (hts _ fl_RS_11) (fun _ h9 => h9) rfl d_RS_keep_15 ?_
  refine lv_aload_n hx hb d_RS_keep_18 rfl (lv_at hl 0 rfl) ?_
  refine va_get (D := D) (ci := 10) (v := .int xCount) (C := R_RS) (T := T_RS) (N := 6) hx hb hts in_RS hown hK hP 0 rfl rfl 1 (by decide) (hts _ fl_RS_15) (fun _ h9 => h9) rfl d_RS_keep_19 ?_
  refine lv_aload_n hx hb d_RS_keep_22 rfl (lv_at hl 1 rfl) ?_
  obtain ⟨g1, hf⟩ := ogi hf
  refine va_astqM hx hb hK hP hD hS 1 3 rfl rfl (g_any hK (hTqz _ _ hS)) (gin_in g1) d_RS_keep_23 (fun H locs hP hD hS => ?_)
  have hP : va_P D vwCl (rsW K xq xl mq cq iq sq (va_up xLang xCount.toNatClampNeg (some qz)) xCount) H := hP
  have hD : va_D A (rsW K xq xl mq cq iq sq (va_up xLang xCount.toNatClampNeg (some qz)) xCount) := hD
  refine lv_aload_n hx hb d_RS_keep_24 rfl (lv_at hl 0 rfl) ?_
  refine lv_dup hx hb d_RS_keep_25 rfl ?_
  refine va_get (D := D) (ci := 10) (v := .int xCount) (C := R_RS) (T := T_RS) (N := 6) hx hb hts in_RS hown hK hP 0 rfl rfl 1 (by decide) (hts _ fl_RS_15) (fun _ h9 => h9) rfl d_RS_keep_26 ?_
  refine lv_iconst (v := 1) hx hb d_RS_keep_29 (by decide) ?_
  refine lv_iadd hx hb d_RS_keep_30 ?_
  refine va_put (D := D) (ci := 10) (v := .int (xCount + 1)) (ty := .int) (C := R_RS) (T := T_RS) (N := 6) hx hb hts in_RS t_RS t_RS_ok n_RS hown hK hP hD hS 0 rfl rfl 1 (by decide) (hts _ fl_RS_15) (fun _ h9 => h9) rfl (by decide +kernel) rfl rfl (Nat.le_of_ble_eq_true rfl) d_RS_keep_31 (fun H locs hP hD hS => ?_)
  have hP : va_P D vwCl (rsW K xq xl mq cq iq sq (va_up xLang xCount.toNatClampNeg (some qz)) (xCount + 1)) H := hP
  have hD : va_D A (rsW K xq xl mq cq iq sq (va_up xLang xCount.toNatClampNeg (some qz)) (xCount + 1)) := hD
  refine lv_aload_n hx hb d_RS_keep_34 rfl (lv_at hl 0 rfl) ?_
  refine va_get (D := D) (ci := 10) (v := .int (xCount + 1)) (C := R_RS) (T := T_RS) (N := 6) hx hb hts in_RS hown hK hP 0 rfl rfl 1 (by decide) (hts _ fl_RS_15) (fun _ h9 => h9) rfl d_RS_keep_35 ?_
  refine lv_iconst (v := 1) hx hb d_RS_keep_38 (by decide) ?_
  refine lv_isub hx hb d_RS_keep_39 ?_
  have hr := (Option.some.inj hf).symm
  refine W.widen (k := 0) (n := 0) (by decide) (by decide) ?_
  exact vx_ret (W.iret hx hb B.returns (fun t ht hW => ⟨_, hr, ⟨(), rfl, by rw [ht]; exact hP, va_K.moved hW.alike hK, hD⟩, hS.F ht⟩) hS.2.2 d_RS_keep_40 (hlocks := B.notSynchronized))
