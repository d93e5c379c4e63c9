abbrev b_Br_begin : ByteArray := prog_3_method_2_code
def y_Br_begin : MethodName := ⟨"RegularSolver$Brief", "begin", "()V"⟩
abbrev w0_Br_begin : List Cond := Cond.code y_Br_begin b_Br_begin 1 none :: gW
theorem cd_Br_begin : Cond.code y_Br_begin b_Br_begin 1 none ∈ gW := gm 327 (by decide +kernel) (by decide +kernel)
theorem d_Br_begin_0 : decode b_Br_begin 0 = .ok (.aload_n 0, 1) := by decide +kernel
theorem d_Br_begin_1 : decode b_Br_begin 1 = .ok (.iconst 0, 1) := by decide +kernel
theorem d_Br_begin_2 : decode b_Br_begin 2 = .ok (.putfield 16, 3) := by decide +kernel
theorem d_Br_begin_5 : decode b_Br_begin 5 = .ok (.return_, 1) := by decide +kernel
abbrev b_Br_go : ByteArray := prog_3_method_3_code
def y_Br_go : MethodName := ⟨"RegularSolver$Brief", "go", "(IJI)V"⟩
abbrev w0_Br_go : List Cond := Cond.code y_Br_go b_Br_go 6 none :: gW
theorem cd_Br_go : Cond.code y_Br_go b_Br_go 6 none ∈ gW := gm 360 (by decide +kernel) (by decide +kernel)
theorem d_Br_go_0 : decode b_Br_go 0 = .ok (.iload_n 1, 1) := by decide +kernel
theorem d_Br_go_1 : decode b_Br_go 1 = .ok (.ifCond .ne 19, 3) := by decide +kernel
theorem d_Br_go_4 : decode b_Br_go 4 = .ok (.aload_n 0, 1) := by decide +kernel
theorem d_Br_go_5 : decode b_Br_go 5 = .ok (.getfield 7, 3) := by decide +kernel
theorem d_Br_go_8 : decode b_Br_go 8 = .ok (.iload 4, 2) := by decide +kernel
theorem d_Br_go_10 : decode b_Br_go 10 = .ok (.ishr, 1) := by decide +kernel
theorem d_Br_go_11 : decode b_Br_go 11 = .ok (.iconst 1, 1) := by decide +kernel
theorem d_Br_go_12 : decode b_Br_go 12 = .ok (.iand, 1) := by decide +kernel
theorem d_Br_go_13 : decode b_Br_go 13 = .ok (.ifCond .eq 7, 3) := by decide +kernel
theorem d_Br_go_16 : decode b_Br_go 16 = .ok (.iconst 1, 1) := by decide +kernel
theorem d_Br_go_17 : decode b_Br_go 17 = .ok (.goto 4, 3) := by decide +kernel
theorem d_Br_go_20 : decode b_Br_go 20 = .ok (.iconst 0, 1) := by decide +kernel
theorem d_Br_go_21 : decode b_Br_go 21 = .ok (.istore 5, 2) := by decide +kernel
theorem d_Br_go_23 : decode b_Br_go 23 = .ok (.aload_n 0, 1) := by decide +kernel
theorem d_Br_go_24 : decode b_Br_go 24 = .ok (.iload 5, 2) := by decide +kernel
theorem d_Br_go_26 : decode b_Br_go 26 = .ok (.ifCond .eq 7, 3) := by decide +kernel
theorem d_Br_go_29 : decode b_Br_go 29 = .ok (.iconst 1, 1) := by decide +kernel
theorem d_Br_go_30 : decode b_Br_go 30 = .ok (.goto 4, 3) := by decide +kernel
theorem d_Br_go_33 : decode b_Br_go 33 = .ok (.iconst 2, 1) := by decide +kernel
theorem d_Br_go_34 : decode b_Br_go 34 = .ok (.putfield 16, 3) := by decide +kernel
theorem d_Br_go_37 : decode b_Br_go 37 = .ok (.return_, 1) := by decide +kernel
abbrev b_Br_endsAt : ByteArray := prog_3_method_4_code
def y_Br_endsAt : MethodName := ⟨"RegularSolver$Brief", "endsAt", "(IJ)Z"⟩
abbrev w0_Br_endsAt : List Cond := Cond.code y_Br_endsAt b_Br_endsAt 4 (some .boolean) :: gW
theorem cd_Br_endsAt : Cond.code y_Br_endsAt b_Br_endsAt 4 (some .boolean) ∈ gW := gm 398 (by decide +kernel) (by decide +kernel)
theorem d_Br_endsAt_0 : decode b_Br_endsAt 0 = .ok (.iload_n 1, 1) := by decide +kernel
theorem d_Br_endsAt_1 : decode b_Br_endsAt 1 = .ok (.aload_n 0, 1) := by decide +kernel
theorem d_Br_endsAt_2 : decode b_Br_endsAt 2 = .ok (.getfield 13, 3) := by decide +kernel
theorem d_Br_endsAt_5 : decode b_Br_endsAt 5 = .ok (.if_icmp .ne 7, 3) := by decide +kernel
theorem d_Br_endsAt_8 : decode b_Br_endsAt 8 = .ok (.iconst 1, 1) := by decide +kernel
theorem d_Br_endsAt_9 : decode b_Br_endsAt 9 = .ok (.goto 4, 3) := by decide +kernel
theorem d_Br_endsAt_12 : decode b_Br_endsAt 12 = .ok (.iconst 0, 1) := by decide +kernel
theorem d_Br_endsAt_13 : decode b_Br_endsAt 13 = .ok (.ireturn, 1) := by decide +kernel
abbrev b_Ch_backBegunAt : ByteArray := prog_4_method_4_code
def y_Ch_backBegunAt : MethodName := ⟨"RegularSolver$Chain", "backBegunAt", "(I)J"⟩
abbrev w0_Ch_backBegunAt : List Cond := Cond.code y_Ch_backBegunAt b_Ch_backBegunAt 2 (some .long) :: gW
theorem cd_Ch_backBegunAt : Cond.code y_Ch_backBegunAt b_Ch_backBegunAt 2 (some .long) ∈ gW := gm 335 (by decide +kernel) (by decide +kernel)
theorem d_Ch_backBegunAt_0 : decode b_Ch_backBegunAt 0 = .ok (.aload_n 0, 1) := by decide +kernel
theorem d_Ch_backBegunAt_1 : decode b_Ch_backBegunAt 1 = .ok (.getfield 7, 3) := by decide +kernel
theorem d_Ch_backBegunAt_4 : decode b_Ch_backBegunAt 4 = .ok (.iload_n 1, 1) := by decide +kernel
theorem d_Ch_backBegunAt_5 : decode b_Ch_backBegunAt 5 = .ok (.invokevirtual 38, 3) := by decide +kernel
theorem d_Ch_backBegunAt_8 : decode b_Ch_backBegunAt 8 = .ok (.ifCond .eq 7, 3) := by decide +kernel
theorem d_Ch_backBegunAt_11 : decode b_Ch_backBegunAt 11 = .ok (.lconst 1, 1) := by decide +kernel
theorem d_Ch_backBegunAt_12 : decode b_Ch_backBegunAt 12 = .ok (.goto 4, 3) := by decide +kernel
theorem d_Ch_backBegunAt_15 : decode b_Ch_backBegunAt 15 = .ok (.lconst 0, 1) := by decide +kernel
theorem d_Ch_backBegunAt_16 : decode b_Ch_backBegunAt 16 = .ok (.lreturn, 1) := by decide +kernel
abbrev b_Ch_begin : ByteArray := prog_4_method_2_code
def y_Ch_begin : MethodName := ⟨"RegularSolver$Chain", "begin", "()V"⟩
abbrev w0_Ch_begin : List Cond := Cond.code y_Ch_begin b_Ch_begin 1 none :: gW
theorem cd_Ch_begin : Cond.code y_Ch_begin b_Ch_begin 1 none ∈ gW := gm 330 (by decide +kernel) (by decide +kernel)
theorem d_Ch_begin_0 : decode b_Ch_begin 0 = .ok (.aload_n 0, 1) := by decide +kernel
theorem d_Ch_begin_1 : decode b_Ch_begin 1 = .ok (.iconst 0, 1) := by decide +kernel
theorem d_Ch_begin_2 : decode b_Ch_begin 2 = .ok (.putfield 16, 3) := by decide +kernel
theorem d_Ch_begin_5 : decode b_Ch_begin 5 = .ok (.aload_n 0, 1) := by decide +kernel
theorem d_Ch_begin_6 : decode b_Ch_begin 6 = .ok (.aload_n 0, 1) := by decide +kernel
theorem d_Ch_begin_7 : decode b_Ch_begin 7 = .ok (.iconst 0, 1) := by decide +kernel
theorem d_Ch_begin_8 : decode b_Ch_begin 8 = .ok (.invokevirtual 20, 3) := by decide +kernel
theorem d_Ch_begin_11 : decode b_Ch_begin 11 = .ok (.putfield 24, 3) := by decide +kernel
theorem d_Ch_begin_14 : decode b_Ch_begin 14 = .ok (.return_, 1) := by decide +kernel
abbrev b_Ch_go : ByteArray := prog_4_method_3_code
def y_Ch_go : MethodName := ⟨"RegularSolver$Chain", "go", "(IJI)V"⟩
abbrev w0_Ch_go : List Cond := Cond.code y_Ch_go b_Ch_go 5 none :: gW
theorem cd_Ch_go : Cond.code y_Ch_go b_Ch_go 5 none ∈ gW := gm 363 (by decide +kernel) (by decide +kernel)
theorem d_Ch_go_0 : decode b_Ch_go 0 = .ok (.aload_n 0, 1) := by decide +kernel
theorem d_Ch_go_1 : decode b_Ch_go 1 = .ok (.aload_n 0, 1) := by decide +kernel
theorem d_Ch_go_2 : decode b_Ch_go 2 = .ok (.getfield 7, 3) := by decide +kernel
theorem d_Ch_go_5 : decode b_Ch_go 5 = .ok (.iload_n 1, 1) := by decide +kernel
theorem d_Ch_go_6 : decode b_Ch_go 6 = .ok (.iload 4, 2) := by decide +kernel
theorem d_Ch_go_8 : decode b_Ch_go 8 = .ok (.invokevirtual 28, 3) := by decide +kernel
theorem d_Ch_go_11 : decode b_Ch_go 11 = .ok (.putfield 16, 3) := by decide +kernel
theorem d_Ch_go_14 : decode b_Ch_go 14 = .ok (.aload_n 0, 1) := by decide +kernel
theorem d_Ch_go_15 : decode b_Ch_go 15 = .ok (.aload_n 0, 1) := by decide +kernel
theorem d_Ch_go_16 : decode b_Ch_go 16 = .ok (.getfield 13, 3) := by decide +kernel
theorem d_Ch_go_19 : decode b_Ch_go 19 = .ok (.lload_n 2, 1) := by decide +kernel
theorem d_Ch_go_20 : decode b_Ch_go 20 = .ok (.iload 4, 2) := by decide +kernel
theorem d_Ch_go_22 : decode b_Ch_go 22 = .ok (.invokevirtual 34, 3) := by decide +kernel
theorem d_Ch_go_25 : decode b_Ch_go 25 = .ok (.aload_n 0, 1) := by decide +kernel
theorem d_Ch_go_26 : decode b_Ch_go 26 = .ok (.aload_n 0, 1) := by decide +kernel
theorem d_Ch_go_27 : decode b_Ch_go 27 = .ok (.getfield 16, 3) := by decide +kernel
theorem d_Ch_go_30 : decode b_Ch_go 30 = .ok (.invokevirtual 20, 3) := by decide +kernel
theorem d_Ch_go_33 : decode b_Ch_go 33 = .ok (.lor, 1) := by decide +kernel
theorem d_Ch_go_34 : decode b_Ch_go 34 = .ok (.putfield 24, 3) := by decide +kernel
theorem d_Ch_go_37 : decode b_Ch_go 37 = .ok (.return_, 1) := by decide +kernel
abbrev b_Ch_endsAt : ByteArray := prog_4_method_5_code
def y_Ch_endsAt : MethodName := ⟨"RegularSolver$Chain", "endsAt", "(IJ)Z"⟩
abbrev w0_Ch_endsAt : List Cond := Cond.code y_Ch_endsAt b_Ch_endsAt 4 (some .boolean) :: gW
theorem cd_Ch_endsAt : Cond.code y_Ch_endsAt b_Ch_endsAt 4 (some .boolean) ∈ gW := gm 401 (by decide +kernel) (by decide +kernel)
theorem d_Ch_endsAt_0 : decode b_Ch_endsAt 0 = .ok (.aload_n 0, 1) := by decide +kernel
theorem d_Ch_endsAt_1 : decode b_Ch_endsAt 1 = .ok (.getfield 13, 3) := by decide +kernel
theorem d_Ch_endsAt_4 : decode b_Ch_endsAt 4 = .ok (.lload_n 2, 1) := by decide +kernel
theorem d_Ch_endsAt_5 : decode b_Ch_endsAt 5 = .ok (.invokevirtual 42, 3) := by decide +kernel
theorem d_Ch_endsAt_8 : decode b_Ch_endsAt 8 = .ok (.ireturn, 1) := by decide +kernel
abbrev b_Pa_begin : ByteArray := prog_8_method_2_code
def y_Pa_begin : MethodName := ⟨"RegularSolver$Pairs", "begin", "()V"⟩
abbrev w0_Pa_begin : List Cond := Cond.code y_Pa_begin b_Pa_begin 1 none :: gW
theorem cd_Pa_begin : Cond.code y_Pa_begin b_Pa_begin 1 none ∈ gW := gm 342 (by decide +kernel) (by decide +kernel)
theorem d_Pa_begin_0 : decode b_Pa_begin 0 = .ok (.aload_n 0, 1) := by decide +kernel
theorem d_Pa_begin_1 : decode b_Pa_begin 1 = .ok (.iconst 0, 1) := by decide +kernel
theorem d_Pa_begin_2 : decode b_Pa_begin 2 = .ok (.putfield 20, 3) := by decide +kernel
theorem d_Pa_begin_5 : decode b_Pa_begin 5 = .ok (.aload_n 0, 1) := by decide +kernel
theorem d_Pa_begin_6 : decode b_Pa_begin 6 = .ok (.lconst 0, 1) := by decide +kernel
theorem d_Pa_begin_7 : decode b_Pa_begin 7 = .ok (.putfield 24, 3) := by decide +kernel
theorem d_Pa_begin_10 : decode b_Pa_begin 10 = .ok (.return_, 1) := by decide +kernel
abbrev b_Pa_go : ByteArray := prog_8_method_3_code
def y_Pa_go : MethodName := ⟨"RegularSolver$Pairs", "go", "(IJI)V"⟩
abbrev w0_Pa_go : List Cond := Cond.code y_Pa_go b_Pa_go 5 none :: gW
theorem cd_Pa_go : Cond.code y_Pa_go b_Pa_go 5 none ∈ gW := gm 375 (by decide +kernel) (by decide +kernel)
theorem d_Pa_go_0 : decode b_Pa_go 0 = .ok (.aload_n 0, 1) := by decide +kernel
theorem d_Pa_go_1 : decode b_Pa_go 1 = .ok (.aload_n 0, 1) := by decide +kernel
theorem d_Pa_go_2 : decode b_Pa_go 2 = .ok (.getfield 7, 3) := by decide +kernel
theorem d_Pa_go_5 : decode b_Pa_go 5 = .ok (.iload_n 1, 1) := by decide +kernel
theorem d_Pa_go_6 : decode b_Pa_go 6 = .ok (.iload 4, 2) := by decide +kernel
theorem d_Pa_go_8 : decode b_Pa_go 8 = .ok (.invokevirtual 28, 3) := by decide +kernel
theorem d_Pa_go_11 : decode b_Pa_go 11 = .ok (.putfield 20, 3) := by decide +kernel
theorem d_Pa_go_14 : decode b_Pa_go 14 = .ok (.aload_n 0, 1) := by decide +kernel
theorem d_Pa_go_15 : decode b_Pa_go 15 = .ok (.aload_n 0, 1) := by decide +kernel
theorem d_Pa_go_16 : decode b_Pa_go 16 = .ok (.getfield 13, 3) := by decide +kernel
theorem d_Pa_go_19 : decode b_Pa_go 19 = .ok (.lload_n 2, 1) := by decide +kernel
theorem d_Pa_go_20 : decode b_Pa_go 20 = .ok (.l2i, 1) := by decide +kernel
theorem d_Pa_go_21 : decode b_Pa_go 21 = .ok (.iload 4, 2) := by decide +kernel
theorem d_Pa_go_23 : decode b_Pa_go 23 = .ok (.invokevirtual 28, 3) := by decide +kernel
theorem d_Pa_go_26 : decode b_Pa_go 26 = .ok (.i2l, 1) := by decide +kernel
theorem d_Pa_go_27 : decode b_Pa_go 27 = .ok (.putfield 24, 3) := by decide +kernel
theorem d_Pa_go_30 : decode b_Pa_go 30 = .ok (.return_, 1) := by decide +kernel
abbrev b_Pa_endsAt : ByteArray := prog_8_method_4_code
def y_Pa_endsAt : MethodName := ⟨"RegularSolver$Pairs", "endsAt", "(IJ)Z"⟩
abbrev w0_Pa_endsAt : List Cond := Cond.code y_Pa_endsAt b_Pa_endsAt 6 (some .boolean) :: gW
theorem cd_Pa_endsAt : Cond.code y_Pa_endsAt b_Pa_endsAt 6 (some .boolean) ∈ gW := gm 405 (by decide +kernel) (by decide +kernel)
theorem d_Pa_endsAt_0 : decode b_Pa_endsAt 0 = .ok (.aload_n 0, 1) := by decide +kernel
theorem d_Pa_endsAt_1 : decode b_Pa_endsAt 1 = .ok (.getfield 7, 3) := by decide +kernel
theorem d_Pa_endsAt_4 : decode b_Pa_endsAt 4 = .ok (.iload_n 1, 1) := by decide +kernel
theorem d_Pa_endsAt_5 : decode b_Pa_endsAt 5 = .ok (.invokevirtual 34, 3) := by decide +kernel
theorem d_Pa_endsAt_8 : decode b_Pa_endsAt 8 = .ok (.istore 4, 2) := by decide +kernel
theorem d_Pa_endsAt_10 : decode b_Pa_endsAt 10 = .ok (.aload_n 0, 1) := by decide +kernel
theorem d_Pa_endsAt_11 : decode b_Pa_endsAt 11 = .ok (.getfield 13, 3) := by decide +kernel
theorem d_Pa_endsAt_14 : decode b_Pa_endsAt 14 = .ok (.lload_n 2, 1) := by decide +kernel
theorem d_Pa_endsAt_15 : decode b_Pa_endsAt 15 = .ok (.l2i, 1) := by decide +kernel
theorem d_Pa_endsAt_16 : decode b_Pa_endsAt 16 = .ok (.invokevirtual 34, 3) := by decide +kernel
theorem d_Pa_endsAt_19 : decode b_Pa_endsAt 19 = .ok (.istore 5, 2) := by decide +kernel
theorem d_Pa_endsAt_21 : decode b_Pa_endsAt 21 = .ok (.aload_n 0, 1) := by decide +kernel
theorem d_Pa_endsAt_22 : decode b_Pa_endsAt 22 = .ok (.getfield 16, 3) := by decide +kernel
theorem d_Pa_endsAt_25 : decode b_Pa_endsAt 25 = .ok (.ifCond .eq 21, 3) := by decide +kernel
theorem d_Pa_endsAt_28 : decode b_Pa_endsAt 28 = .ok (.iload 4, 2) := by decide +kernel
theorem d_Pa_endsAt_30 : decode b_Pa_endsAt 30 = .ok (.ifCond .eq 12, 3) := by decide +kernel
theorem d_Pa_endsAt_33 : decode b_Pa_endsAt 33 = .ok (.iload 5, 2) := by decide +kernel
theorem d_Pa_endsAt_35 : decode b_Pa_endsAt 35 = .ok (.ifCond .eq 7, 3) := by decide +kernel
theorem d_Pa_endsAt_38 : decode b_Pa_endsAt 38 = .ok (.iconst 1, 1) := by decide +kernel
theorem d_Pa_endsAt_39 : decode b_Pa_endsAt 39 = .ok (.goto 22, 3) := by decide +kernel
theorem d_Pa_endsAt_42 : decode b_Pa_endsAt 42 = .ok (.iconst 0, 1) := by decide +kernel
theorem d_Pa_endsAt_43 : decode b_Pa_endsAt 43 = .ok (.goto 18, 3) := by decide +kernel
theorem d_Pa_endsAt_46 : decode b_Pa_endsAt 46 = .ok (.iload 4, 2) := by decide +kernel
theorem d_Pa_endsAt_48 : decode b_Pa_endsAt 48 = .ok (.ifCond .ne 8, 3) := by decide +kernel
theorem d_Pa_endsAt_51 : decode b_Pa_endsAt 51 = .ok (.iload 5, 2) := by decide +kernel
theorem d_Pa_endsAt_53 : decode b_Pa_endsAt 53 = .ok (.ifCond .eq 7, 3) := by decide +kernel
theorem d_Pa_endsAt_56 : decode b_Pa_endsAt 56 = .ok (.iconst 1, 1) := by decide +kernel
theorem d_Pa_endsAt_57 : decode b_Pa_endsAt 57 = .ok (.goto 4, 3) := by decide +kernel
theorem d_Pa_endsAt_60 : decode b_Pa_endsAt 60 = .ok (.iconst 0, 1) := by decide +kernel
theorem d_Pa_endsAt_61 : decode b_Pa_endsAt 61 = .ok (.ireturn, 1) := by decide +kernel
abbrev b_Re_begin : ByteArray := prog_9_method_2_code
def y_Re_begin : MethodName := ⟨"RegularSolver$Repeat", "begin", "()V"⟩
abbrev w0_Re_begin : List Cond := Cond.code y_Re_begin b_Re_begin 1 none :: gW
theorem cd_Re_begin : Cond.code y_Re_begin b_Re_begin 1 none ∈ gW := gm 345 (by decide +kernel) (by decide +kernel)
theorem d_Re_begin_0 : decode b_Re_begin 0 = .ok (.aload_n 0, 1) := by decide +kernel
theorem d_Re_begin_1 : decode b_Re_begin 1 = .ok (.lconst 0, 1) := by decide +kernel
theorem d_Re_begin_2 : decode b_Re_begin 2 = .ok (.putfield 13, 3) := by decide +kernel
theorem d_Re_begin_5 : decode b_Re_begin 5 = .ok (.return_, 1) := by decide +kernel
abbrev b_Re_endsAt : ByteArray := prog_9_method_4_code
def y_Re_endsAt : MethodName := ⟨"RegularSolver$Repeat", "endsAt", "(IJ)Z"⟩
abbrev w0_Re_endsAt : List Cond := Cond.code y_Re_endsAt b_Re_endsAt 4 (some .boolean) :: gW
theorem cd_Re_endsAt : Cond.code y_Re_endsAt b_Re_endsAt 4 (some .boolean) ∈ gW := gm 383 (by decide +kernel) (by decide +kernel)
theorem d_Re_endsAt_0 : decode b_Re_endsAt 0 = .ok (.lload_n 2, 1) := by decide +kernel
theorem d_Re_endsAt_1 : decode b_Re_endsAt 1 = .ok (.lconst 0, 1) := by decide +kernel
theorem d_Re_endsAt_2 : decode b_Re_endsAt 2 = .ok (.lcmp, 1) := by decide +kernel
theorem d_Re_endsAt_3 : decode b_Re_endsAt 3 = .ok (.ifCond .eq 14, 3) := by decide +kernel
theorem d_Re_endsAt_6 : decode b_Re_endsAt 6 = .ok (.aload_n 0, 1) := by decide +kernel
theorem d_Re_endsAt_7 : decode b_Re_endsAt 7 = .ok (.getfield 7, 3) := by decide +kernel
theorem d_Re_endsAt_10 : decode b_Re_endsAt 10 = .ok (.lload_n 2, 1) := by decide +kernel
theorem d_Re_endsAt_11 : decode b_Re_endsAt 11 = .ok (.invokevirtual 27, 3) := by decide +kernel
theorem d_Re_endsAt_14 : decode b_Re_endsAt 14 = .ok (.ifCond .eq 7, 3) := by decide +kernel
theorem d_Re_endsAt_17 : decode b_Re_endsAt 17 = .ok (.iconst 1, 1) := by decide +kernel
theorem d_Re_endsAt_18 : decode b_Re_endsAt 18 = .ok (.goto 4, 3) := by decide +kernel
theorem d_Re_endsAt_21 : decode b_Re_endsAt 21 = .ok (.iconst 0, 1) := by decide +kernel
theorem d_Re_endsAt_22 : decode b_Re_endsAt 22 = .ok (.ireturn, 1) := by decide +kernel
abbrev b_Re_go : ByteArray := prog_9_method_3_code
def y_Re_go : MethodName := ⟨"RegularSolver$Repeat", "go", "(IJI)V"⟩
abbrev w0_Re_go : List Cond := Cond.code y_Re_go b_Re_go 7 none :: gW
theorem cd_Re_go : Cond.code y_Re_go b_Re_go 7 none ∈ gW := gm 379 (by decide +kernel) (by decide +kernel)
theorem d_Re_go_0 : decode b_Re_go 0 = .ok (.aload_n 0, 1) := by decide +kernel
theorem d_Re_go_1 : decode b_Re_go 1 = .ok (.iload_n 1, 1) := by decide +kernel
theorem d_Re_go_2 : decode b_Re_go 2 = .ok (.lload_n 2, 1) := by decide +kernel
theorem d_Re_go_3 : decode b_Re_go 3 = .ok (.invokevirtual 17, 3) := by decide +kernel
theorem d_Re_go_6 : decode b_Re_go 6 = .ok (.ifCond .eq 7, 3) := by decide +kernel
theorem d_Re_go_9 : decode b_Re_go 9 = .ok (.lconst 1, 1) := by decide +kernel
theorem d_Re_go_10 : decode b_Re_go 10 = .ok (.goto 4, 3) := by decide +kernel
theorem d_Re_go_13 : decode b_Re_go 13 = .ok (.lconst 0, 1) := by decide +kernel
theorem d_Re_go_14 : decode b_Re_go 14 = .ok (.lstore 5, 2) := by decide +kernel
theorem d_Re_go_16 : decode b_Re_go 16 = .ok (.aload_n 0, 1) := by decide +kernel
theorem d_Re_go_17 : decode b_Re_go 17 = .ok (.aload_n 0, 1) := by decide +kernel
theorem d_Re_go_18 : decode b_Re_go 18 = .ok (.getfield 7, 3) := by decide +kernel
theorem d_Re_go_21 : decode b_Re_go 21 = .ok (.lload_n 2, 1) := by decide +kernel
theorem d_Re_go_22 : decode b_Re_go 22 = .ok (.lload 5, 2) := by decide +kernel
theorem d_Re_go_24 : decode b_Re_go 24 = .ok (.lor, 1) := by decide +kernel
theorem d_Re_go_25 : decode b_Re_go 25 = .ok (.iload 4, 2) := by decide +kernel
theorem d_Re_go_27 : decode b_Re_go 27 = .ok (.invokevirtual 21, 3) := by decide +kernel
theorem d_Re_go_30 : decode b_Re_go 30 = .ok (.putfield 13, 3) := by decide +kernel
theorem d_Re_go_33 : decode b_Re_go 33 = .ok (.return_, 1) := by decide +kernel
theorem pd_Br_begin : y_Br_begin.cls ≠ "java/lang/invoke/MethodHandle" ∧ y_Br_begin.cls ≠ "java/lang/invoke/VarHandle" ∧ (parseMethodDescriptor y_Br_begin.desc).map (fun d => d.parameters.length) = some 0 := by decide +kernel
theorem pd_Br_go : y_Br_go.cls ≠ "java/lang/invoke/MethodHandle" ∧ y_Br_go.cls ≠ "java/lang/invoke/VarHandle" ∧ (parseMethodDescriptor y_Br_go.desc).map (fun d => d.parameters.length) = some 3 := by decide +kernel
theorem pd_Br_endsAt : y_Br_endsAt.cls ≠ "java/lang/invoke/MethodHandle" ∧ y_Br_endsAt.cls ≠ "java/lang/invoke/VarHandle" ∧ (parseMethodDescriptor y_Br_endsAt.desc).map (fun d => d.parameters.length) = some 2 := by decide +kernel
theorem pd_Ch_backBegunAt : y_Ch_backBegunAt.cls ≠ "java/lang/invoke/MethodHandle" ∧ y_Ch_backBegunAt.cls ≠ "java/lang/invoke/VarHandle" ∧ (parseMethodDescriptor y_Ch_backBegunAt.desc).map (fun d => d.parameters.length) = some 1 := by decide +kernel
theorem pd_Ch_begin : y_Ch_begin.cls ≠ "java/lang/invoke/MethodHandle" ∧ y_Ch_begin.cls ≠ "java/lang/invoke/VarHandle" ∧ (parseMethodDescriptor y_Ch_begin.desc).map (fun d => d.parameters.length) = some 0 := by decide +kernel
theorem pd_Ch_go : y_Ch_go.cls ≠ "java/lang/invoke/MethodHandle" ∧ y_Ch_go.cls ≠ "java/lang/invoke/VarHandle" ∧ (parseMethodDescriptor y_Ch_go.desc).map (fun d => d.parameters.length) = some 3 := by decide +kernel
theorem pd_Ch_endsAt : y_Ch_endsAt.cls ≠ "java/lang/invoke/MethodHandle" ∧ y_Ch_endsAt.cls ≠ "java/lang/invoke/VarHandle" ∧ (parseMethodDescriptor y_Ch_endsAt.desc).map (fun d => d.parameters.length) = some 2 := by decide +kernel
theorem pd_Pa_begin : y_Pa_begin.cls ≠ "java/lang/invoke/MethodHandle" ∧ y_Pa_begin.cls ≠ "java/lang/invoke/VarHandle" ∧ (parseMethodDescriptor y_Pa_begin.desc).map (fun d => d.parameters.length) = some 0 := by decide +kernel
theorem pd_Pa_go : y_Pa_go.cls ≠ "java/lang/invoke/MethodHandle" ∧ y_Pa_go.cls ≠ "java/lang/invoke/VarHandle" ∧ (parseMethodDescriptor y_Pa_go.desc).map (fun d => d.parameters.length) = some 3 := by decide +kernel
theorem pd_Pa_endsAt : y_Pa_endsAt.cls ≠ "java/lang/invoke/MethodHandle" ∧ y_Pa_endsAt.cls ≠ "java/lang/invoke/VarHandle" ∧ (parseMethodDescriptor y_Pa_endsAt.desc).map (fun d => d.parameters.length) = some 2 := by decide +kernel
theorem pd_Re_begin : y_Re_begin.cls ≠ "java/lang/invoke/MethodHandle" ∧ y_Re_begin.cls ≠ "java/lang/invoke/VarHandle" ∧ (parseMethodDescriptor y_Re_begin.desc).map (fun d => d.parameters.length) = some 0 := by decide +kernel
theorem pd_Re_endsAt : y_Re_endsAt.cls ≠ "java/lang/invoke/MethodHandle" ∧ y_Re_endsAt.cls ≠ "java/lang/invoke/VarHandle" ∧ (parseMethodDescriptor y_Re_endsAt.desc).map (fun d => d.parameters.length) = some 2 := by decide +kernel
theorem pd_Re_go : y_Re_go.cls ≠ "java/lang/invoke/MethodHandle" ∧ y_Re_go.cls ≠ "java/lang/invoke/VarHandle" ∧ (parseMethodDescriptor y_Re_go.desc).map (fun d => d.parameters.length) = some 3 := by decide +kernel
theorem fl_Br_16 : (Cond.fieldLink "RegularSolver$Brief" 16 "RegularSolver$Brief" "head" "I") ∈ gW := gm 287 (by decide +kernel) (by decide +kernel)
theorem sf_Br_head : (Cond.sameField "RegularSolver$Brief" "RegularSolver$Way" "head" "I") ∈ gW := gm 288 (by decide +kernel) (by decide +kernel)
theorem fl_Br_7 : (Cond.fieldLink "RegularSolver$Brief" 7 "RegularSolver$Brief" "set" "I") ∈ gW := gm 284 (by decide +kernel) (by decide +kernel)
theorem fl_Br_13 : (Cond.fieldLink "RegularSolver$Brief" 13 "RegularSolver$Brief" "end" "I") ∈ gW := gm 285 (by decide +kernel) (by decide +kernel)
theorem fl_Ch_7 : (Cond.fieldLink "RegularSolver$Chain" 7 "RegularSolver$Chain" "front" "LRegularSolver$Automaton;") ∈ gW := gm 507 (by decide +kernel) (by decide +kernel)
theorem ml_Ch_38 : (Cond.methodLink "RegularSolver$Chain" 38 ({ cls := "RegularSolver$Automaton", name := "isLast", desc := "(I)Z" } : MethodName)) ∈ gW := gm 336 (by decide +kernel) (by decide +kernel)
theorem fl_Ch_16 : (Cond.fieldLink "RegularSolver$Chain" 16 "RegularSolver$Chain" "head" "I") ∈ gW := gm 289 (by decide +kernel) (by decide +kernel)
theorem sf_Ch_head : (Cond.sameField "RegularSolver$Chain" "RegularSolver$Way" "head" "I") ∈ gW := gm 290 (by decide +kernel) (by decide +kernel)
theorem ml_Ch_20 : (Cond.methodLink "RegularSolver$Chain" 20 ({ cls := "RegularSolver$Chain", name := "backBegunAt", desc := "(I)J" } : MethodName)) ∈ gW := gm 331 (by decide +kernel) (by decide +kernel)
theorem ini_Ch : (Cond.initialized "RegularSolver$Chain") ∈ gW := gm 17 (by decide +kernel) (by decide +kernel)
theorem im_Ch_backBegunAt : (Cond.instanceMethod ({ cls := "RegularSolver$Chain", name := "backBegunAt", desc := "(I)J" } : MethodName)) ∈ gW := gm 333 (by decide +kernel) (by decide +kernel)
theorem se_Ch_backBegunAt : (Cond.selects "RegularSolver$Chain" ({ cls := "RegularSolver$Chain", name := "backBegunAt", desc := "(I)J" } : MethodName) ({ cls := "RegularSolver$Chain", name := "backBegunAt", desc := "(I)J" } : MethodName)) ∈ gW := gs (by decide +kernel) (by decide +kernel)
theorem fl_Ch_24 : (Cond.fieldLink "RegularSolver$Chain" 24 "RegularSolver$Chain" "tail" "J") ∈ gW := gm 299 (by decide +kernel) (by decide +kernel)
theorem sf_Ch_tail : (Cond.sameField "RegularSolver$Chain" "RegularSolver$Way" "tail" "J") ∈ gW := gm 300 (by decide +kernel) (by decide +kernel)
theorem ml_Ch_28 : (Cond.methodLink "RegularSolver$Chain" 28 ({ cls := "RegularSolver$Automaton", name := "go", desc := "(II)I" } : MethodName)) ∈ gW := gm 364 (by decide +kernel) (by decide +kernel)
theorem fl_Ch_13 : (Cond.fieldLink "RegularSolver$Chain" 13 "RegularSolver$Chain" "back" "LRegularSolver$Automaton;") ∈ gW := gm 508 (by decide +kernel) (by decide +kernel)
theorem ml_Ch_34 : (Cond.methodLink "RegularSolver$Chain" 34 ({ cls := "RegularSolver$Automaton", name := "goAll", desc := "(JI)J" } : MethodName)) ∈ gW := gm 368 (by decide +kernel) (by decide +kernel)
theorem ml_Ch_42 : (Cond.methodLink "RegularSolver$Chain" 42 ({ cls := "RegularSolver$Automaton", name := "hasLast", desc := "(J)Z" } : MethodName)) ∈ gW := gm 402 (by decide +kernel) (by decide +kernel)
theorem im_Au_hasLast : (Cond.instanceMethod ({ cls := "RegularSolver$Automaton", name := "hasLast", desc := "(J)Z" } : MethodName)) ∈ gW := gm 385 (by decide +kernel) (by decide +kernel)
theorem se_Au_hasLast : (Cond.selects "RegularSolver$Automaton" ({ cls := "RegularSolver$Automaton", name := "hasLast", desc := "(J)Z" } : MethodName) ({ cls := "RegularSolver$Automaton", name := "hasLast", desc := "(J)Z" } : MethodName)) ∈ gW := gm 386 (by decide +kernel) (by decide +kernel)
theorem fl_Pa_20 : (Cond.fieldLink "RegularSolver$Pairs" 20 "RegularSolver$Pairs" "head" "I") ∈ gW := gm 291 (by decide +kernel) (by decide +kernel)
theorem sf_Pa_head : (Cond.sameField "RegularSolver$Pairs" "RegularSolver$Way" "head" "I") ∈ gW := gm 292 (by decide +kernel) (by decide +kernel)
theorem fl_Pa_24 : (Cond.fieldLink "RegularSolver$Pairs" 24 "RegularSolver$Pairs" "tail" "J") ∈ gW := gm 297 (by decide +kernel) (by decide +kernel)
theorem sf_Pa_tail : (Cond.sameField "RegularSolver$Pairs" "RegularSolver$Way" "tail" "J") ∈ gW := gm 298 (by decide +kernel) (by decide +kernel)
theorem fl_Pa_7 : (Cond.fieldLink "RegularSolver$Pairs" 7 "RegularSolver$Pairs" "one" "LRegularSolver$Automaton;") ∈ gW := gm 529 (by decide +kernel) (by decide +kernel)
theorem ml_Pa_28 : (Cond.methodLink "RegularSolver$Pairs" 28 ({ cls := "RegularSolver$Automaton", name := "go", desc := "(II)I" } : MethodName)) ∈ gW := gm 376 (by decide +kernel) (by decide +kernel)
theorem fl_Pa_13 : (Cond.fieldLink "RegularSolver$Pairs" 13 "RegularSolver$Pairs" "other" "LRegularSolver$Automaton;") ∈ gW := gm 530 (by decide +kernel) (by decide +kernel)
theorem ml_Pa_34 : (Cond.methodLink "RegularSolver$Pairs" 34 ({ cls := "RegularSolver$Automaton", name := "isLast", desc := "(I)Z" } : MethodName)) ∈ gW := gm 406 (by decide +kernel) (by decide +kernel)
theorem fl_Pa_16 : (Cond.fieldLink "RegularSolver$Pairs" 16 "RegularSolver$Pairs" "both" "Z") ∈ gW := gm 531 (by decide +kernel) (by decide +kernel)
theorem fl_Re_13 : (Cond.fieldLink "RegularSolver$Repeat" 13 "RegularSolver$Repeat" "tail" "J") ∈ gW := gm 295 (by decide +kernel) (by decide +kernel)
theorem sf_Re_tail : (Cond.sameField "RegularSolver$Repeat" "RegularSolver$Way" "tail" "J") ∈ gW := gm 296 (by decide +kernel) (by decide +kernel)
theorem fl_Re_7 : (Cond.fieldLink "RegularSolver$Repeat" 7 "RegularSolver$Repeat" "part" "LRegularSolver$Automaton;") ∈ gW := gm 575 (by decide +kernel) (by decide +kernel)
theorem ml_Re_27 : (Cond.methodLink "RegularSolver$Repeat" 27 ({ cls := "RegularSolver$Automaton", name := "hasLast", desc := "(J)Z" } : MethodName)) ∈ gW := gm 384 (by decide +kernel) (by decide +kernel)
theorem ml_Re_17 : (Cond.methodLink "RegularSolver$Repeat" 17 ({ cls := "RegularSolver$Repeat", name := "endsAt", desc := "(IJ)Z" } : MethodName)) ∈ gW := gm 380 (by decide +kernel) (by decide +kernel)
theorem ini_Re : (Cond.initialized "RegularSolver$Repeat") ∈ gW := gm 19 (by decide +kernel) (by decide +kernel)
theorem im_Re_endsAt : (Cond.instanceMethod ({ cls := "RegularSolver$Repeat", name := "endsAt", desc := "(IJ)Z" } : MethodName)) ∈ gW := gm 381 (by decide +kernel) (by decide +kernel)
theorem se_Re_endsAt : (Cond.selects "RegularSolver$Repeat" ({ cls := "RegularSolver$Repeat", name := "endsAt", desc := "(IJ)Z" } : MethodName) ({ cls := "RegularSolver$Repeat", name := "endsAt", desc := "(IJ)Z" } : MethodName)) ∈ gW := gm 382 (by decide +kernel) (by decide +kernel)
theorem ml_Re_21 : (Cond.methodLink "RegularSolver$Repeat" 21 ({ cls := "RegularSolver$Automaton", name := "goAll", desc := "(JI)J" } : MethodName)) ∈ gW := gm 388 (by decide +kernel) (by decide +kernel)
section
variable {p : Program} {l : Launch} {e : Env} {R : Room} {s : State} {m : MethodId} {args : Array Value} {below : List Frame} {meth : Method} {c : Code} {H : Heap} {locs : List Loc} {cells slots : Nat} {Q : State → Prop} {A : Nat → Prop} {H0 : Heap}
variable {n : Nat} {D : va_G} {K : Nat → ClassId} {wq : Nat} {wHead : Int32} {wTail : Int64} {bSet : Int32} {bEnd : Int32}
def f_Br_begin (n : Nat)  : Option (Int32) :=
  some 0
set_option maxHeartbeats 4000000 in
set_option maxRecDepth 100000 in
theorem w_Br_begin    (hx : p.tables.exec = Jvm.exec) (hb : c.code = b_Br_begin) (hml : c.maxLocals = 1) (hts : ∀ w ∈ gW, w.before args s = true) (hown : s.vm.findClass "RegularSolver$Brief" = some m.cls) (hK : va_K D vwCl (tG K) s) (hRf : 0 ≤ R.frames) (hRl : 0 ≤ R.locals) (hRc : cells ≤ R.cells) (hRs : slots ≤ R.slots) (hA : ∀ q, H0.size ≤ q → A q) {out : Int32} (Kr : ∀ (r : Int32), out = r → ∀ (pc : Nat) (ls : Array Slot) (H : Heap) (locs : List Loc), decode b_Br_begin pc = .ok (.return_, 1) → va_P D vwCl (brW K wq r wTail bSet bEnd) H → va_D A (brW K wq r wTail bSet bEnd) → va_S A H0 H locs → W p l e R s m args below meth c H locs cells slots Q (F0 m pc ls [])) (hf : f_Br_begin n  = some out) (ls : Array Slot) (hP : va_P D vwCl (brW K wq wHead wTail bSet bEnd) H) (hD : va_D A (brW K wq wHead wTail bSet bEnd)) (hS : va_S A H0 H locs) (hl : lv_has ls 1 [(0, .ref wq)]) : W p l e R s m args below meth c H locs cells slots Q (F0 m 0 ls []) := by
  unfold f_Br_begin at hf
  refine lv_aload_n hx hb d_Br_begin_0 rfl (lv_at hl 0 rfl) ?_
  refine lv_iconst (v := 0) hx hb d_Br_begin_1 (by decide) ?_
  refine va_put (D := D) (ci := 2) (v := .int 0) (ty := .int) (C := R_Br) (T := T_Br) (N := 4) hx hb hts in_Br t_Br t_Br_ok n_Br hown hK hP hD hS 0 rfl rfl 0 (by decide) (hts _ fl_Br_16) (u_same (hts _ sf_Br_head)) rfl (by decide +kernel) rfl rfl (Nat.le_of_ble_eq_true rfl) d_Br_begin_2 (fun H locs hP hD hS => ?_)
  have hP : va_P D vwCl (brW K wq 0 wTail bSet bEnd) H := hP
  have hD : va_D A (brW K wq 0 wTail bSet bEnd) := hD
  exact Kr _ (Option.some.inj hf).symm _ _ _ _ d_Br_begin_5 hP hD hS
set_option maxHeartbeats 4000000 in
set_option maxRecDepth 100000 in
theorem c_Br_begin (l : Launch)    {r : Int32} (sz : Nat) (hf : f_Br_begin n  = some r) : Met l y_Br_begin w0_Br_begin ({ frames := 0, cells := 0, slots := 0, locals := 0 }) (wPre D K [.ref wq] (brW K wq wHead wTail bSet bEnd) sz) (wPost D K none (brW K wq r wTail bSet bEnd) (va_A (brW K wq wHead wTail bSet bEnd) sz)) 0 0 (va_A (brW K wq wHead wTail bSet bEnd) sz) := by
  refine Met.ofW (cc := b_Br_begin) (maxL := 1) (ret := none) (by decide) rfl ?_
  intro p e s m args below meth c s₁ B hml hv
  obtain ⟨rfl, hsz, hP, hK, hD0⟩ := hv
  subst hsz
  have hl := lv_entry [.ref wq] (n := 1) (Nat.le_of_ble_eq_true rfl)
  rw [lg_entry_eq]
  generalize (lg_sl [.ref wq] ++ List.replicate (1 - (lg_sl [.ref wq]).length) Slot.unset).toArray = ls at hl ⊢
  refine w_Br_begin (A := va_A (brW K wq wHead wTail bSet bEnd) s.heap.size) (H0 := s.heap) B.exec B.bytes hml (fun w hw => atoms_spec (ws := w0_Br_begin) B.pre w (List.mem_cons_of_mem _ hw)) (findClass_of_methodNamed B.named) hK (Nat.le_refl _) (Nat.le_refl _) (Nat.zero_le _) (Nat.zero_le _) (fun q h => Or.inr h) (fun r er pc ls H locs hd hP hD hS => ?_) hf ls hP (hD0.self (sz := s.heap.size)) va_S.rf hl
  subst er
  exact W.vret B.exec B.bytes B.returns (fun t ht hW => ⟨⟨rfl, by rw [ht]; exact hP, va_K.moved hW.alike hK, hD⟩, hS.F ht⟩) hS.2.2 hd (hlocks := B.notSynchronized)
end
section
variable {p : Program} {l : Launch} {e : Env} {R : Room} {s : State} {m : MethodId} {args : Array Value} {below : List Frame} {meth : Method} {c : Code} {H : Heap} {locs : List Loc} {cells slots : Nat} {Q : State → Prop} {A : Nat → Prop} {H0 : Heap}
variable {n : Nat} {D : va_G} {K : Nat → ClassId} {wq : Nat} {wHead : Int32} {wTail : Int64} {bSet : Int32} {bEnd : Int32}
def f_Br_go (n : Nat) (p0 : Int32) (p1 : Int64) (p2 : Int32) (bSet : Int32) : Option (Int32) :=
  if p0 = 0 then
    if ((bSet >>> (p2 &&& 31)) &&& 1) = 0 then
      some 2
    else
      some 1
  else
    some 2
set_option maxHeartbeats 4000000 in
set_option maxRecDepth 100000 in
theorem w_Br_go  {p0 : Int32} {p1 : Int64} {p2 : Int32}  (hx : p.tables.exec = Jvm.exec) (hb : c.code = b_Br_go) (hml : c.maxLocals = 6) (hts : ∀ w ∈ gW, w.before args s = true) (hown : s.vm.findClass "RegularSolver$Brief" = some m.cls) (hK : va_K D vwCl (tG K) s) (hRf : 0 ≤ R.frames) (hRl : 0 ≤ R.locals) (hRc : cells ≤ R.cells) (hRs : slots ≤ R.slots) (hA : ∀ q, H0.size ≤ q → A q) {out : Int32} (Kr : ∀ (r : Int32), out = r → ∀ (pc : Nat) (ls : Array Slot) (H : Heap) (locs : List Loc), decode b_Br_go pc = .ok (.return_, 1) → va_P D vwCl (brW K wq r wTail bSet bEnd) H → va_D A (brW K wq r wTail bSet bEnd) → va_S A H0 H locs → W p l e R s m args below meth c H locs cells slots Q (F0 m pc ls [])) (hf : f_Br_go n p0 p1 p2 bSet = some out) (ls : Array Slot) (hP : va_P D vwCl (brW K wq wHead wTail bSet bEnd) H) (hD : va_D A (brW K wq wHead wTail bSet bEnd)) (hS : va_S A H0 H locs) (hl : lv_has ls 6 [(0, .ref wq), (1, .int p0), (2, .long p1), (4, .int p2)]) : W p l e R s m args below meth c H locs cells slots Q (F0 m 0 ls []) := by
  unfold f_Br_go at hf
  refine lv_iload_n hx hb d_Br_go_0 rfl (lv_at hl 1 rfl) ?_
  refine lv_if_ne (tgt := 20) hx hb d_Br_go_1 (by decide) (fun c1 => ?_) (fun c1 => ?_)
  · rw [if_neg c1] at hf
    refine lv_iconst (v := 0) hx hb d_Br_go_20 (by decide) ?_
    refine lv_istore (lv' := [(5, .int 0), (0, .ref wq), (1, .int p0), (2, .long p1), (4, .int p2)]) hx hb d_Br_go_21 hl (by decide) rfl (fun ls hl => ?_)
    refine lv_aload_n hx hb d_Br_go_23 rfl (lv_at hl 1 rfl) ?_
    refine lv_iload hx hb d_Br_go_24 (lv_at hl 0 rfl) ?_
    refine kz_eqT (tgt := 33) hx hb d_Br_go_26 (by decide) (by decide) ?_
    refine lv_iconst (v := 2) hx hb d_Br_go_33 (by decide) ?_
    refine va_put (D := D) (ci := 2) (v := .int 2) (ty := .int) (C := R_Br) (T := T_Br) (N := 4) hx hb hts in_Br t_Br t_Br_ok n_Br hown hK hP hD hS 0 rfl rfl 0 (by decide) (hts _ fl_Br_16) (u_same (hts _ sf_Br_head)) rfl (by decide +kernel) rfl rfl (Nat.le_of_ble_eq_true rfl) d_Br_go_34 (fun H locs hP hD hS => ?_)
    have hP : va_P D vwCl (brW K wq 2 wTail bSet bEnd) H := hP
    have hD : va_D A (brW K wq 2 wTail bSet bEnd) := hD
    exact Kr _ (Option.some.inj hf).symm _ _ _ _ d_Br_go_37 hP hD hS
  · rw [if_pos c1] at hf
    refine lv_aload_n hx hb d_Br_go_4 rfl (lv_at hl 0 rfl) ?_
    refine va_get (D := D) (ci := 2) (v := .int bSet) (C := R_Br) (T := T_Br) (N := 4) hx hb hts in_Br hown hK hP 0 rfl rfl 2 (by decide) (hts _ fl_Br_7) (fun _ h9 => h9) rfl d_Br_go_5 ?_
    refine lv_iload hx hb d_Br_go_8 (lv_at hl 3 rfl) ?_
    refine lv_ishr hx hb d_Br_go_10 ?_
    refine lv_iconst (v := 1) hx hb d_Br_go_11 (by decide) ?_
    refine lv_iand hx hb d_Br_go_12 ?_
    refine lv_if_eq (tgt := 20) hx hb d_Br_go_13 (by decide) (fun c2 => ?_) (fun c2 => ?_)
    · rw [if_pos c2] at hf
      refine lv_iconst (v := 0) hx hb d_Br_go_20 (by decide) ?_
      refine lv_istore (lv' := [(5, .int 0), (0, .ref wq), (1, .int p0), (2, .long p1), (4, .int p2)]) hx hb d_Br_go_21 hl (by decide) rfl (fun ls hl => ?_)
      refine lv_aload_n hx hb d_Br_go_23 rfl (lv_at hl 1 rfl) ?_
      refine lv_iload hx hb d_Br_go_24 (lv_at hl 0 rfl) ?_
      refine kz_eqT (tgt := 33) hx hb d_Br_go_26 (by decide) (by decide) ?_
      refine lv_iconst (v := 2) hx hb d_Br_go_33 (by decide) ?_
      refine va_put (D := D) (ci := 2) (v := .int 2) (ty := .int) (C := R_Br) (T := T_Br) (N := 4) hx hb hts in_Br t_Br t_Br_ok n_Br hown hK hP hD hS 0 rfl rfl 0 (by decide) (hts _ fl_Br_16) (u_same (hts _ sf_Br_head)) rfl (by decide +kernel) rfl rfl (Nat.le_of_ble_eq_true rfl) d_Br_go_34 (fun H locs hP hD hS => ?_)
      have hP : va_P D vwCl (brW K wq 2 wTail bSet bEnd) H := hP
      have hD : va_D A (brW K wq 2 wTail bSet bEnd) := hD
      exact Kr _ (Option.some.inj hf).symm _ _ _ _ d_Br_go_37 hP hD hS
    · rw [if_neg c2] at hf
      refine lv_iconst (v := 1) hx hb d_Br_go_16 (by decide) ?_
      refine lv_goto (tgt := 21) hx hb d_Br_go_17 (by decide) ?_
      refine lv_istore (lv' := [(5, .int 1), (0, .ref wq), (1, .int p0), (2, .long p1), (4, .int p2)]) hx hb d_Br_go_21 hl (by decide) rfl (fun ls hl => ?_)
      refine lv_aload_n hx hb d_Br_go_23 rfl (lv_at hl 1 rfl) ?_
      refine lv_iload hx hb d_Br_go_24 (lv_at hl 0 rfl) ?_
      refine kz_eqF (tgt := 33) hx hb d_Br_go_26 (by decide) (by decide) ?_
      refine lv_iconst (v := 1) hx hb d_Br_go_29 (by decide) ?_
      refine lv_goto (tgt := 34) hx hb d_Br_go_30 (by decide) ?_
      refine va_put (D := D) (ci := 2) (v := .int 1) (ty := .int) (C := R_Br) (T := T_Br) (N := 4) hx hb hts in_Br t_Br t_Br_ok n_Br hown hK hP hD hS 0 rfl rfl 0 (by decide) (hts _ fl_Br_16) (u_same (hts _ sf_Br_head)) rfl (by decide +kernel) rfl rfl (Nat.le_of_ble_eq_true rfl) d_Br_go_34 (fun H locs hP hD hS => ?_)
      have hP : va_P D vwCl (brW K wq 1 wTail bSet bEnd) H := hP
      have hD : va_D A (brW K wq 1 wTail bSet bEnd) := hD
      exact Kr _ (Option.some.inj hf).symm _ _ _ _ d_Br_go_37 hP hD hS
set_option maxHeartbeats 4000000 in
set_option maxRecDepth 100000 in
theorem c_Br_go (l : Launch)  {p0 : Int32} {p1 : Int64} {p2 : Int32}  {r : Int32} (sz : Nat) (hf : f_Br_go n p0 p1 p2 bSet = some r) : Met l y_Br_go w0_Br_go ({ frames := 0, cells := 0, slots := 0, locals := 0 }) (wPre D K [.ref wq, .int p0, .long p1, .int p2] (brW K wq wHead wTail bSet bEnd) sz) (wPost D K none (brW K wq r wTail bSet bEnd) (va_A (brW K wq wHead wTail bSet bEnd) sz)) 0 0 (va_A (brW K wq wHead wTail bSet bEnd) sz) := by
  refine Met.ofW (cc := b_Br_go) (maxL := 6) (ret := none) (by decide) rfl ?_
  intro p e s m args below meth c s₁ B hml hv
  obtain ⟨rfl, hsz, hP, hK, hD0⟩ := hv
  subst hsz
  have hl := lv_entry [.ref wq, .int p0, .long p1, .int p2] (n := 6) (Nat.le_of_ble_eq_true rfl)
  rw [lg_entry_eq]
  generalize (lg_sl [.ref wq, .int p0, .long p1, .int p2] ++ List.replicate (6 - (lg_sl [.ref wq, .int p0, .long p1, .int p2]).length) Slot.unset).toArray = ls at hl ⊢
  refine w_Br_go (A := va_A (brW K wq wHead wTail bSet bEnd) s.heap.size) (H0 := s.heap) B.exec B.bytes hml (fun w hw => atoms_spec (ws := w0_Br_go) B.pre w (List.mem_cons_of_mem _ hw)) (findClass_of_methodNamed B.named) hK (Nat.le_refl _) (Nat.le_refl _) (Nat.zero_le _) (Nat.zero_le _) (fun q h => Or.inr h) (fun r er pc ls H locs hd hP hD hS => ?_) hf ls hP (hD0.self (sz := s.heap.size)) va_S.rf hl
  subst er
  exact W.vret B.exec B.bytes B.returns (fun t ht hW => ⟨⟨rfl, by rw [ht]; exact hP, va_K.moved hW.alike hK, hD⟩, hS.F ht⟩) hS.2.2 hd (hlocks := B.notSynchronized)
end
section
variable {p : Program} {l : Launch} {e : Env} {R : Room} {s : State} {m : MethodId} {args : Array Value} {below : List Frame} {meth : Method} {c : Code} {H : Heap} {locs : List Loc} {cells slots : Nat} {Q : State → Prop} {A : Nat → Prop} {H0 : Heap}
variable {n : Nat} {D : va_G} {K : Nat → ClassId} {wq : Nat} {wHead : Int32} {wTail : Int64} {bSet : Int32} {bEnd : Int32}
def f_Br_endsAt (n : Nat) (p0 : Int32) (p1 : Int64) (bEnd : Int32) : Option (Bool) :=
  if p0 = bEnd then
    some true
  else
    some false
set_option maxHeartbeats 4000000 in
set_option maxRecDepth 100000 in
theorem w_Br_endsAt  {p0 : Int32} {p1 : Int64}  (hx : p.tables.exec = Jvm.exec) (hb : c.code = b_Br_endsAt) (hml : c.maxLocals = 4) (hts : ∀ w ∈ gW, w.before args s = true) (hown : s.vm.findClass "RegularSolver$Brief" = some m.cls) (hK : va_K D vwCl (tG K) s) (hRf : 0 ≤ R.frames) (hRl : 0 ≤ R.locals) (hRc : cells ≤ R.cells) (hRs : slots ≤ R.slots) (hP : va_P D vwCl (brW K wq wHead wTail bSet bEnd) H) {out : Bool} (Kr : ∀ (r : Bool), out = r → ∀ (pc : Nat) (ls : Array Slot), decode b_Br_endsAt pc = .ok (.ireturn, 1) → W p l e R s m args below meth c H locs cells slots Q (F0 m pc ls [.int (bI r)])) (hf : f_Br_endsAt n p0 p1 bEnd = some out) (ls : Array Slot) (hl : lv_has ls 4 [(0, .ref wq), (1, .int p0), (2, .long p1)]) : W p l e R s m args below meth c H locs cells slots Q (F0 m 0 ls []) := by
  unfold f_Br_endsAt at hf
  refine lv_iload_n hx hb d_Br_endsAt_0 rfl (lv_at hl 1 rfl) ?_
  refine lv_aload_n hx hb d_Br_endsAt_1 rfl (lv_at hl 0 rfl) ?_
  refine va_get (D := D) (ci := 2) (v := .int bEnd) (C := R_Br) (T := T_Br) (N := 4) hx hb hts in_Br hown hK hP 0 rfl rfl 3 (by decide) (hts _ fl_Br_13) (fun _ h9 => h9) rfl d_Br_endsAt_2 ?_
  refine lv_icmp_ne (tgt := 12) hx hb d_Br_endsAt_5 (by decide) (fun c1 => ?_) (fun c1 => ?_)
  · rw [if_neg c1] at hf
    refine lv_iconst (v := 0) hx hb d_Br_endsAt_12 (by decide) ?_
    exact Kr _ (Option.some.inj hf).symm _ _ d_Br_endsAt_13
  · rw [if_pos c1] at hf
    refine lv_iconst (v := 1) hx hb d_Br_endsAt_8 (by decide) ?_
    refine lv_goto (tgt := 13) hx hb d_Br_endsAt_9 (by decide) ?_
    exact Kr _ (Option.some.inj hf).symm _ _ d_Br_endsAt_13
set_option maxHeartbeats 4000000 in
set_option maxRecDepth 100000 in
theorem c_Br_endsAt (l : Launch)  {p0 : Int32} {p1 : Int64}  {r : Bool} (hf : f_Br_endsAt n p0 p1 bEnd = some r) : Met l y_Br_endsAt w0_Br_endsAt ({ frames := 0, cells := 0, slots := 0, locals := 0 }) (pPre D K [.ref wq, .int p0, .long p1] ((brW K wq wHead wTail bSet bEnd))) (pPost (some (.int (bI r)))) 0 0 (fun _ => False) := by
  refine Met.ofW (cc := b_Br_endsAt) (maxL := 4) (ret := (some .boolean)) (by decide) rfl ?_
  intro p e s m args below meth c s₁ B hml hv
  obtain ⟨rfl, hP, hK⟩ := hv
  have hl := lv_entry [.ref wq, .int p0, .long p1] (n := 4) (Nat.le_of_ble_eq_true rfl)
  rw [lg_entry_eq]
  generalize (lg_sl [.ref wq, .int p0, .long p1] ++ List.replicate (4 - (lg_sl [.ref wq, .int p0, .long p1]).length) Slot.unset).toArray = ls at hl ⊢
  refine w_Br_endsAt B.exec B.bytes hml (fun w hw => atoms_spec (ws := w0_Br_endsAt) B.pre w (List.mem_cons_of_mem _ hw)) (findClass_of_methodNamed B.named) hK (Nat.le_refl _) (Nat.le_refl _) (Nat.zero_le _) (Nat.zero_le _) hP (fun r er pc ls hd => ?_) hf ls hl
  subst er
  exact W.zret B.exec B.bytes B.returns (bI_nar _) (fun t ht hW => ⟨rfl, ht⟩) (fun q h => by cases h) hd (hlocks := B.notSynchronized)
end
section
variable {p : Program} {l : Launch} {e : Env} {R : Room} {s : State} {m : MethodId} {args : Array Value} {below : List Frame} {meth : Method} {c : Code} {H : Heap} {locs : List Loc} {cells slots : Nat} {Q : State → Prop} {A : Nat → Prop} {H0 : Heap}
variable {n : Nat} {D : va_G} {K : Nat → ClassId} {wq : Nat} {q1 : Nat} {q2 : Nat} {an1 : Nat} {aa1 : Nat} {an2 : Nat} {aa2 : Nat} {wHead : Int32} {wTail : Int64} {aStates1 : Int32} {aNl1 : Nat} {aNext1 : Nat → Int32} {aLast1 : Int64} {aAhead1 : Nat → Int64} {aStates2 : Int32} {aNl2 : Nat} {aNext2 : Nat → Int32} {aLast2 : Int64} {aAhead2 : Nat → Int64}
def f_Ch_backBegunAt (n : Nat) (p0 : Int32) (aLast1 : Int64) : Option (Int64) :=
  (f_Au_isLast n p0 aLast1).bind fun u1 =>
  if u1 = true then
    some 1
  else
    some 0
set_option maxHeartbeats 4000000 in
set_option maxRecDepth 100000 in
theorem w_Ch_backBegunAt  {p0 : Int32}  (hx : p.tables.exec = Jvm.exec) (hb : c.code = b_Ch_backBegunAt) (hml : c.maxLocals = 2) (hts : ∀ w ∈ gW, w.before args s = true) (hown : s.vm.findClass "RegularSolver$Chain" = some m.cls) (hK : va_K D vwCl (tG K) s) (hO1 : va_P D vwCl (auW K q1 an1 aa1 aStates1 aNl1 aNext1 aLast1 aAhead1) H) (hO2 : va_P D vwCl (auW K q2 an2 aa2 aStates2 aNl2 aNext2 aLast2 aAhead2) H) (hRf : 1 ≤ R.frames) (hRl : 21 ≤ R.locals) (hRc : cells ≤ R.cells) (hRs : slots ≤ R.slots) (hP : va_P D vwCl (chW K wq q1 q2 wHead wTail) H) {out : Int64} (Kr : ∀ (r : Int64), out = r → ∀ (pc : Nat) (ls : Array Slot), decode b_Ch_backBegunAt pc = .ok (.lreturn, 1) → W p l e R s m args below meth c H locs cells slots Q (F0 m pc ls [.long r])) (hf : f_Ch_backBegunAt n p0 aLast1 = some out) (ls : Array Slot) (hl : lv_has ls 2 [(0, .ref wq), (1, .int p0)]) : W p l e R s m args below meth c H locs cells slots Q (F0 m 0 ls []) := by
  unfold f_Ch_backBegunAt at hf
  refine lv_aload_n hx hb d_Ch_backBegunAt_0 rfl (lv_at hl 0 rfl) ?_
  refine va_get (D := D) (ci := 3) (v := .ref q1) (C := R_Ch) (T := T_Ch) (N := 4) hx hb hts in_Ch hown hK hP 0 rfl rfl 2 (by decide) (hts _ fl_Ch_7) (fun _ h9 => h9) rfl d_Ch_backBegunAt_1 ?_
  refine lv_iload_n hx hb d_Ch_backBegunAt_4 rfl (lv_at hl 1 rfl) ?_
  obtain ⟨u1, eu1, hf⟩ := obd hf
  refine p_call (W.runV (As := [.int p0]) (rest := []) ⟨hx, hb, hml, hown, hts⟩ (c_Au_isLast l eu1) (gV 1 hts cd_Au_isLast ml_Ch_38 im_Au_isLast se_Au_isLast ini_Au rfl rfl pd_Au_isLast ⟨Nat.le_trans (Nat.le_of_ble_eq_true rfl) hRf, Nat.le_trans (Nat.le_of_ble_eq_true rfl) hRl⟩) ⟨pPre_blind, va_recv hK hO1 (ci := 1) (q0 := 0) rfl rfl, pPre_of hO1 hK⟩ rfl rfl hl.1 rfl (lv_room (Nat.le_of_ble_eq_true rfl)) d_Ch_backBegunAt_5 ⟨hRc, hRs⟩) ?_
  refine bz_eq (tgt := 15) hx hb d_Ch_backBegunAt_8 (by decide) (fun c2 => ?_) (fun c2 => ?_)
  · rw [if_neg c2] at hf
    refine lv_lconst (v := 0) hx hb d_Ch_backBegunAt_15 (by decide) ?_
    exact Kr _ (Option.some.inj hf).symm _ _ d_Ch_backBegunAt_16
  · rw [if_pos c2] at hf
    refine lv_lconst (v := 1) hx hb d_Ch_backBegunAt_11 (by decide) ?_
    refine lv_goto (tgt := 16) hx hb d_Ch_backBegunAt_12 (by decide) ?_
    exact Kr _ (Option.some.inj hf).symm _ _ d_Ch_backBegunAt_16
set_option maxHeartbeats 4000000 in
set_option maxRecDepth 100000 in
theorem c_Ch_backBegunAt (l : Launch)  {p0 : Int32}  {r : Int64} (hf : f_Ch_backBegunAt n p0 aLast1 = some r) : Met l y_Ch_backBegunAt w0_Ch_backBegunAt ({ frames := 1, cells := 0, slots := 0, locals := 21 }) (pPre D K [.ref wq, .int p0] ((chW K wq q1 q2 wHead wTail) ++ (auW K q1 an1 aa1 aStates1 aNl1 aNext1 aLast1 aAhead1) ++ (auW K q2 an2 aa2 aStates2 aNl2 aNext2 aLast2 aAhead2))) (pPost (some (.long r))) 0 0 (fun _ => False) := by
  refine Met.ofW (cc := b_Ch_backBegunAt) (maxL := 2) (ret := (some .long)) (by decide) rfl ?_
  intro p e s m args below meth c s₁ B hml hv
  obtain ⟨rfl, hP, hK⟩ := hv
  have hl := lv_entry [.ref wq, .int p0] (n := 2) (Nat.le_of_ble_eq_true rfl)
  rw [lg_entry_eq]
  generalize (lg_sl [.ref wq, .int p0] ++ List.replicate (2 - (lg_sl [.ref wq, .int p0]).length) Slot.unset).toArray = ls at hl ⊢
  refine w_Ch_backBegunAt B.exec B.bytes hml (fun w hw => atoms_spec (ws := w0_Ch_backBegunAt) B.pre w (List.mem_cons_of_mem _ hw)) (findClass_of_methodNamed B.named) hK (vaR (vaL hP)) (vaR hP) (Nat.le_refl _) (Nat.le_refl _) (Nat.zero_le _) (Nat.zero_le _) (vaL (vaL hP)) (fun r er pc ls hd => ?_) hf ls hl
  subst er
  exact W.lret B.exec B.bytes B.returns (fun t ht hW => ⟨rfl, ht⟩) (fun q h => by cases h) hd (hlocks := B.notSynchronized)
end
section
variable {p : Program} {l : Launch} {e : Env} {R : Room} {s : State} {m : MethodId} {args : Array Value} {below : List Frame} {meth : Method} {c : Code} {H : Heap} {locs : List Loc} {cells slots : Nat} {Q : State → Prop} {A : Nat → Prop} {H0 : Heap}
variable {n : Nat} {D : va_G} {K : Nat → ClassId} {wq : Nat} {q1 : Nat} {q2 : Nat} {an1 : Nat} {aa1 : Nat} {an2 : Nat} {aa2 : Nat} {wHead : Int32} {wTail : Int64} {aStates1 : Int32} {aNl1 : Nat} {aNext1 : Nat → Int32} {aLast1 : Int64} {aAhead1 : Nat → Int64} {aStates2 : Int32} {aNl2 : Nat} {aNext2 : Nat → Int32} {aLast2 : Int64} {aAhead2 : Nat → Int64}
def f_Ch_begin (n : Nat) (aLast1 : Int64) : Option (Int32 × Int64) :=
  (f_Ch_backBegunAt n 0 aLast1).bind fun u1 =>
  some (0, u1)
set_option maxHeartbeats 4000000 in
set_option maxRecDepth 100000 in
theorem w_Ch_begin    (hx : p.tables.exec = Jvm.exec) (hb : c.code = b_Ch_begin) (hml : c.maxLocals = 1) (hts : ∀ w ∈ gW, w.before args s = true) (hown : s.vm.findClass "RegularSolver$Chain" = some m.cls) (hK : va_K D vwCl (tG K) s) (hO1 : ∀ (H : Heap) (locs : List Loc), va_S A H0 H locs → va_P D vwCl (auW K q1 an1 aa1 aStates1 aNl1 aNext1 aLast1 aAhead1) H) (hw1 : gAw A (auW K q1 an1 aa1 aStates1 aNl1 aNext1 aLast1 aAhead1)) (hO2 : ∀ (H : Heap) (locs : List Loc), va_S A H0 H locs → va_P D vwCl (auW K q2 an2 aa2 aStates2 aNl2 aNext2 aLast2 aAhead2) H) (hw2 : gAw A (auW K q2 an2 aa2 aStates2 aNl2 aNext2 aLast2 aAhead2)) (hRf : 2 ≤ R.frames) (hRl : 42 ≤ R.locals) (hRc : cells ≤ R.cells) (hRs : slots ≤ R.slots) (hA : ∀ q, H0.size ≤ q → A q) {out : Int32 × Int64} (Kr : ∀ (r : Int32 × Int64), out = r → ∀ (pc : Nat) (ls : Array Slot) (H : Heap) (locs : List Loc), decode b_Ch_begin pc = .ok (.return_, 1) → va_P D vwCl (chW K wq q1 q2 r.1 r.2) H → va_D A (chW K wq q1 q2 r.1 r.2) → va_S A H0 H locs → W p l e R s m args below meth c H locs cells slots Q (F0 m pc ls [])) (hf : f_Ch_begin n aLast1 = some out) (ls : Array Slot) (hP : va_P D vwCl (chW K wq q1 q2 wHead wTail) H) (hD : va_D A (chW K wq q1 q2 wHead wTail)) (hS : va_S A H0 H locs) (hl : lv_has ls 1 [(0, .ref wq)]) : W p l e R s m args below meth c H locs cells slots Q (F0 m 0 ls []) := by
  unfold f_Ch_begin at hf
  refine lv_aload_n hx hb d_Ch_begin_0 rfl (lv_at hl 0 rfl) ?_
  refine lv_iconst (v := 0) hx hb d_Ch_begin_1 (by decide) ?_
  refine va_put (D := D) (ci := 3) (v := .int 0) (ty := .int) (C := R_Ch) (T := T_Ch) (N := 4) hx hb hts in_Ch t_Ch t_Ch_ok n_Ch hown hK hP hD hS 0 rfl rfl 0 (by decide) (hts _ fl_Ch_16) (u_same (hts _ sf_Ch_head)) rfl (by decide +kernel) rfl rfl (Nat.le_of_ble_eq_true rfl) d_Ch_begin_2 (fun H locs hP hD hS => ?_)
  have hP : va_P D vwCl (chW K wq q1 q2 0 wTail) H := hP
  have hD : va_D A (chW K wq q1 q2 0 wTail) := hD
  refine lv_aload_n hx hb d_Ch_begin_5 rfl (lv_at hl 0 rfl) ?_
  refine lv_aload_n hx hb d_Ch_begin_6 rfl (lv_at hl 0 rfl) ?_
  refine lv_iconst (v := 0) hx hb d_Ch_begin_7 (by decide) ?_
  obtain ⟨u1, eu1, hf⟩ := obd hf
  refine p_call (W.runV (As := [.int 0]) (rest := [.ref wq]) ⟨hx, hb, hml, hown, hts⟩ (c_Ch_backBegunAt l eu1) (gV 1 hts cd_Ch_backBegunAt ml_Ch_20 im_Ch_backBegunAt se_Ch_backBegunAt ini_Ch rfl rfl pd_Ch_backBegunAt ⟨Nat.le_trans (Nat.le_of_ble_eq_true rfl) hRf, Nat.le_trans (Nat.le_of_ble_eq_true rfl) hRl⟩) ⟨pPre_blind, va_recv hK hP (ci := 3) (q0 := 0) rfl rfl, pPre_of (va_P.app (va_P.app hP (hO1 _ _ hS)) (hO2 _ _ hS)) hK⟩ rfl rfl hl.1 rfl (lv_room (Nat.le_of_ble_eq_true rfl)) d_Ch_begin_8 ⟨hRc, hRs⟩) ?_
  refine va_put (D := D) (ci := 3) (v := .long u1) (ty := .long) (C := R_Ch) (T := T_Ch) (N := 4) hx hb hts in_Ch t_Ch t_Ch_ok n_Ch hown hK hP hD hS 0 rfl rfl 1 (by decide) (hts _ fl_Ch_24) (u_same (hts _ sf_Ch_tail)) rfl (by decide +kernel) rfl rfl (Nat.le_of_ble_eq_true rfl) d_Ch_begin_11 (fun H locs hP hD hS => ?_)
  have hP : va_P D vwCl (chW K wq q1 q2 0 u1) H := hP
  have hD : va_D A (chW K wq q1 q2 0 u1) := hD
  exact Kr _ (Option.some.inj hf).symm _ _ _ _ d_Ch_begin_14 hP hD hS
set_option maxHeartbeats 4000000 in
set_option maxRecDepth 100000 in
theorem c_Ch_begin (l : Launch)    {r : Int32 × Int64} (sz : Nat) (hf : f_Ch_begin n aLast1 = some r) : Met l y_Ch_begin w0_Ch_begin ({ frames := 2, cells := 0, slots := 0, locals := 42 }) (wPreR D K [.ref wq] (chW K wq q1 q2 wHead wTail) ((auW K q1 an1 aa1 aStates1 aNl1 aNext1 aLast1 aAhead1) ++ (auW K q2 an2 aa2 aStates2 aNl2 aNext2 aLast2 aAhead2)) sz) (wPost D K none (chW K wq q1 q2 r.1 r.2) (va_A (chW K wq q1 q2 wHead wTail) sz)) 0 0 (va_A (chW K wq q1 q2 wHead wTail) sz) := by
  refine Met.ofW (cc := b_Ch_begin) (maxL := 1) (ret := none) (by decide) rfl ?_
  intro p e s m args below meth c s₁ B hml hv
  obtain ⟨rfl, hsz, hP, hK, hD0, hR, hw⟩ := hv
  subst hsz
  have hl := lv_entry [.ref wq] (n := 1) (Nat.le_of_ble_eq_true rfl)
  rw [lg_entry_eq]
  generalize (lg_sl [.ref wq] ++ List.replicate (1 - (lg_sl [.ref wq]).length) Slot.unset).toArray = ls at hl ⊢
  refine w_Ch_begin (A := va_A (chW K wq q1 q2 wHead wTail) s.heap.size) (H0 := s.heap) B.exec B.bytes hml (fun w hw => atoms_spec (ws := w0_Ch_begin) B.pre w (List.mem_cons_of_mem _ hw)) (findClass_of_methodNamed B.named) hK (fun _ _ hS => ro_of (vaL hR) (gAw.left hw) hS) (gAw.left hw) (fun _ _ hS => ro_of (vaR hR) (gAw.right hw) hS) (gAw.right hw) (Nat.le_refl _) (Nat.le_refl _) (Nat.zero_le _) (Nat.zero_le _) (fun q h => Or.inr h) (fun r er pc ls H locs hd hP hD hS => ?_) hf ls hP (hD0.self (sz := s.heap.size)) va_S.rf hl
  subst er
  exact W.vret B.exec B.bytes B.returns (fun t ht hW => ⟨⟨rfl, by rw [ht]; exact hP, va_K.moved hW.alike hK, hD⟩, hS.F ht⟩) hS.2.2 hd (hlocks := B.notSynchronized)
end
section
variable {p : Program} {l : Launch} {e : Env} {R : Room} {s : State} {m : MethodId} {args : Array Value} {below : List Frame} {meth : Method} {c : Code} {H : Heap} {locs : List Loc} {cells slots : Nat} {Q : State → Prop} {A : Nat → Prop} {H0 : Heap}
variable {n : Nat} {D : va_G} {K : Nat → ClassId} {wq : Nat} {q1 : Nat} {q2 : Nat} {an1 : Nat} {aa1 : Nat} {an2 : Nat} {aa2 : Nat} {wHead : Int32} {wTail : Int64} {aStates1 : Int32} {aNl1 : Nat} {aNext1 : Nat → Int32} {aLast1 : Int64} {aAhead1 : Nat → Int64} {aStates2 : Int32} {aNl2 : Nat} {aNext2 : Nat → Int32} {aLast2 : Int64} {aAhead2 : Nat → Int64}
def f_Ch_go (n : Nat) (p0 : Int32) (p1 : Int64) (p2 : Int32) (aNl1 : Nat) (aNext1 : Nat → Int32) (aLast1 : Int64) (aStates2 : Int32) (aNl2 : Nat) (aNext2 : Nat → Int32) : Option (Int32 × Int64) :=
  (f_Au_go n p0 p2 aNl1 aNext1).bind fun u1 =>
  (f_Au_goAll n p1 p2 aStates2 aNl2 aNext2).bind fun u2 =>
  (f_Ch_backBegunAt n u1 aLast1).bind fun u3 =>
  some (u1, u2 ||| u3)
set_option maxHeartbeats 4000000 in
set_option maxRecDepth 100000 in
theorem w_Ch_go  {p0 : Int32} {p1 : Int64} {p2 : Int32}  (hx : p.tables.exec = Jvm.exec) (hb : c.code = b_Ch_go) (hml : c.maxLocals = 5) (hts : ∀ w ∈ gW, w.before args s = true) (hown : s.vm.findClass "RegularSolver$Chain" = some m.cls) (hK : va_K D vwCl (tG K) s) (hO1 : ∀ (H : Heap) (locs : List Loc), va_S A H0 H locs → va_P D vwCl (auW K q1 an1 aa1 aStates1 aNl1 aNext1 aLast1 aAhead1) H) (hw1 : gAw A (auW K q1 an1 aa1 aStates1 aNl1 aNext1 aLast1 aAhead1)) (hO2 : ∀ (H : Heap) (locs : List Loc), va_S A H0 H locs → va_P D vwCl (auW K q2 an2 aa2 aStates2 aNl2 aNext2 aLast2 aAhead2) H) (hw2 : gAw A (auW K q2 an2 aa2 aStates2 aNl2 aNext2 aLast2 aAhead2)) (hRf : 2 ≤ R.frames) (hRl : 50 ≤ R.locals) (hRc : cells ≤ R.cells) (hRs : slots ≤ R.slots) (hA : ∀ q, H0.size ≤ q → A q) {out : Int32 × Int64} (Kr : ∀ (r : Int32 × Int64), out = r → ∀ (pc : Nat) (ls : Array Slot) (H : Heap) (locs : List Loc), decode b_Ch_go pc = .ok (.return_, 1) → va_P D vwCl (chW K wq q1 q2 r.1 r.2) H → va_D A (chW K wq q1 q2 r.1 r.2) → va_S A H0 H locs → W p l e R s m args below meth c H locs cells slots Q (F0 m pc ls [])) (hf : f_Ch_go n p0 p1 p2 aNl1 aNext1 aLast1 aStates2 aNl2 aNext2 = some out) (ls : Array Slot) (hP : va_P D vwCl (chW K wq q1 q2 wHead wTail) H) (hD : va_D A (chW K wq q1 q2 wHead wTail)) (hS : va_S A H0 H locs) (hl : lv_has ls 5 [(0, .ref wq), (1, .int p0), (2, .long p1), (4, .int p2)]) : W p l e R s m args below meth c H locs cells slots Q (F0 m 0 ls []) := by
  unfold f_Ch_go at hf
  refine lv_aload_n hx hb d_Ch_go_0 rfl (lv_at hl 0 rfl) ?_
  refine lv_aload_n hx hb d_Ch_go_1 rfl (lv_at hl 0 rfl) ?_
  refine va_get (D := D) (ci := 3) (v := .ref q1) (C := R_Ch) (T := T_Ch) (N := 4) hx hb hts in_Ch hown hK hP 0 rfl rfl 2 (by decide) (hts _ fl_Ch_7) (fun _ h9 => h9) rfl d_Ch_go_2 ?_
  refine lv_iload_n hx hb d_Ch_go_5 rfl (lv_at hl 1 rfl) ?_
  refine lv_iload hx hb d_Ch_go_6 (lv_at hl 3 rfl) ?_
  obtain ⟨u1, eu1, hf⟩ := obd hf
  refine p_call (W.runV (As := [.int p0, .int p2]) (rest := [.ref wq]) ⟨hx, hb, hml, hown, hts⟩ (c_Au_go l eu1) (gV 2 hts cd_Au_go ml_Ch_28 im_Au_go se_Au_go ini_Au rfl rfl pd_Au_go ⟨Nat.le_trans (Nat.le_of_ble_eq_true rfl) hRf, Nat.le_trans (Nat.le_of_ble_eq_true rfl) hRl⟩) ⟨pPre_blind, va_recv hK (hO1 _ _ hS) (ci := 1) (q0 := 0) rfl rfl, pPre_of (hO1 _ _ hS) hK⟩ rfl rfl hl.1 rfl (lv_room (Nat.le_of_ble_eq_true rfl)) d_Ch_go_8 ⟨hRc, hRs⟩) ?_
  refine va_put (D := D) (ci := 3) (v := .int u1) (ty := .int) (C := R_Ch) (T := T_Ch) (N := 4) hx hb hts in_Ch t_Ch t_Ch_ok n_Ch hown hK hP hD hS 0 rfl rfl 0 (by decide) (hts _ fl_Ch_16) (u_same (hts _ sf_Ch_head)) rfl (by decide +kernel) rfl rfl (Nat.le_of_ble_eq_true rfl) d_Ch_go_11 (fun H locs hP hD hS => ?_)
  have hP : va_P D vwCl (chW K wq q1 q2 u1 wTail) H := hP
  have hD : va_D A (chW K wq q1 q2 u1 wTail) := hD
  refine lv_aload_n hx hb d_Ch_go_14 rfl (lv_at hl 0 rfl) ?_
  refine lv_aload_n hx hb d_Ch_go_15 rfl (lv_at hl 0 rfl) ?_
  refine va_get (D := D) (ci := 3) (v := .ref q2) (C := R_Ch) (T := T_Ch) (N := 4) hx hb hts in_Ch hown hK hP 0 rfl rfl 3 (by decide) (hts _ fl_Ch_13) (fun _ h9 => h9) rfl d_Ch_go_16 ?_
  refine lv_lload_n hx hb d_Ch_go_19 rfl (lv_at hl 2 rfl) ?_
  refine lv_iload hx hb d_Ch_go_20 (lv_at hl 3 rfl) ?_
  obtain ⟨u2, eu2, hf⟩ := obd hf
  refine p_call (W.runV (As := [.long p1, .int p2]) (rest := [.ref wq]) ⟨hx, hb, hml, hown, hts⟩ (c_Au_goAll l eu2) (gV 2 hts cd_Au_goAll ml_Ch_34 im_Au_goAll se_Au_goAll ini_Au rfl rfl pd_Au_goAll ⟨Nat.le_trans (Nat.le_of_ble_eq_true rfl) hRf, Nat.le_trans (Nat.le_of_ble_eq_true rfl) hRl⟩) ⟨pPre_blind, va_recv hK (hO2 _ _ hS) (ci := 1) (q0 := 0) rfl rfl, pPre_of (hO2 _ _ hS) hK⟩ rfl rfl hl.1 rfl (lv_room (Nat.le_of_ble_eq_true rfl)) d_Ch_go_22 ⟨hRc, hRs⟩) ?_
  refine lv_aload_n hx hb d_Ch_go_25 rfl (lv_at hl 0 rfl) ?_
  refine lv_aload_n hx hb d_Ch_go_26 rfl (lv_at hl 0 rfl) ?_
  refine va_get (D := D) (ci := 3) (v := .int u1) (C := R_Ch) (T := T_Ch) (N := 4) hx hb hts in_Ch hown hK hP 0 rfl rfl 0 (by decide) (hts _ fl_Ch_16) (u_same (hts _ sf_Ch_head)) rfl d_Ch_go_27 ?_
  obtain ⟨u3, eu3, hf⟩ := obd hf
  refine p_call (W.runV (As := [.int u1]) (rest := [.long u2, .ref wq]) ⟨hx, hb, hml, hown, hts⟩ (c_Ch_backBegunAt l eu3) (gV 1 hts cd_Ch_backBegunAt ml_Ch_20 im_Ch_backBegunAt se_Ch_backBegunAt ini_Ch rfl rfl pd_Ch_backBegunAt ⟨Nat.le_trans (Nat.le_of_ble_eq_true rfl) hRf, Nat.le_trans (Nat.le_of_ble_eq_true rfl) hRl⟩) ⟨pPre_blind, va_recv hK hP (ci := 3) (q0 := 0) rfl rfl, pPre_of (va_P.app (va_P.app hP (hO1 _ _ hS)) (hO2 _ _ hS)) hK⟩ rfl rfl hl.1 rfl (lv_room (Nat.le_of_ble_eq_true rfl)) d_Ch_go_30 ⟨hRc, hRs⟩) ?_
  refine lv_lor hx hb d_Ch_go_33 ?_
  refine va_put (D := D) (ci := 3) (v := .long (u2 ||| u3)) (ty := .long) (C := R_Ch) (T := T_Ch) (N := 4) hx hb hts in_Ch t_Ch t_Ch_ok n_Ch hown hK hP hD hS 0 rfl rfl 1 (by decide) (hts _ fl_Ch_24) (u_same (hts _ sf_Ch_tail)) rfl (by decide +kernel) rfl rfl (Nat.le_of_ble_eq_true rfl) d_Ch_go_34 (fun H locs hP hD hS => ?_)
  have hP : va_P D vwCl (chW K wq q1 q2 u1 (u2 ||| u3)) H := hP
  have hD : va_D A (chW K wq q1 q2 u1 (u2 ||| u3)) := hD
  exact Kr _ (Option.some.inj hf).symm _ _ _ _ d_Ch_go_37 hP hD hS
set_option maxHeartbeats 4000000 in
set_option maxRecDepth 100000 in
theorem c_Ch_go (l : Launch)  {p0 : Int32} {p1 : Int64} {p2 : Int32}  {r : Int32 × Int64} (sz : Nat) (hf : f_Ch_go n p0 p1 p2 aNl1 aNext1 aLast1 aStates2 aNl2 aNext2 = some r) : Met l y_Ch_go w0_Ch_go ({ frames := 2, cells := 0, slots := 0, locals := 50 }) (wPreR D K [.ref wq, .int p0, .long p1, .int p2] (chW K wq q1 q2 wHead wTail) ((auW K q1 an1 aa1 aStates1 aNl1 aNext1 aLast1 aAhead1) ++ (auW K q2 an2 aa2 aStates2 aNl2 aNext2 aLast2 aAhead2)) sz) (wPost D K none (chW K wq q1 q2 r.1 r.2) (va_A (chW K wq q1 q2 wHead wTail) sz)) 0 0 (va_A (chW K wq q1 q2 wHead wTail) sz) := by
  refine Met.ofW (cc := b_Ch_go) (maxL := 5) (ret := none) (by decide) rfl ?_
  intro p e s m args below meth c s₁ B hml hv
  obtain ⟨rfl, hsz, hP, hK, hD0, hR, hw⟩ := hv
  subst hsz
  have hl := lv_entry [.ref wq, .int p0, .long p1, .int p2] (n := 5) (Nat.le_of_ble_eq_true rfl)
  rw [lg_entry_eq]
  generalize (lg_sl [.ref wq, .int p0, .long p1, .int p2] ++ List.replicate (5 - (lg_sl [.ref wq, .int p0, .long p1, .int p2]).length) Slot.unset).toArray = ls at hl ⊢
  refine w_Ch_go (A := va_A (chW K wq q1 q2 wHead wTail) s.heap.size) (H0 := s.heap) B.exec B.bytes hml (fun w hw => atoms_spec (ws := w0_Ch_go) B.pre w (List.mem_cons_of_mem _ hw)) (findClass_of_methodNamed B.named) hK (fun _ _ hS => ro_of (vaL hR) (gAw.left hw) hS) (gAw.left hw) (fun _ _ hS => ro_of (vaR hR) (gAw.right hw) hS) (gAw.right hw) (Nat.le_refl _) (Nat.le_refl _) (Nat.zero_le _) (Nat.zero_le _) (fun q h => Or.inr h) (fun r er pc ls H locs hd hP hD hS => ?_) hf ls hP (hD0.self (sz := s.heap.size)) va_S.rf hl
  subst er
  exact W.vret B.exec B.bytes B.returns (fun t ht hW => ⟨⟨rfl, by rw [ht]; exact hP, va_K.moved hW.alike hK, hD⟩, hS.F ht⟩) hS.2.2 hd (hlocks := B.notSynchronized)
end
section
variable {p : Program} {l : Launch} {e : Env} {R : Room} {s : State} {m : MethodId} {args : Array Value} {below : List Frame} {meth : Method} {c : Code} {H : Heap} {locs : List Loc} {cells slots : Nat} {Q : State → Prop} {A : Nat → Prop} {H0 : Heap}
variable {n : Nat} {D : va_G} {K : Nat → ClassId} {wq : Nat} {q1 : Nat} {q2 : Nat} {an1 : Nat} {aa1 : Nat} {an2 : Nat} {aa2 : Nat} {wHead : Int32} {wTail : Int64} {aStates1 : Int32} {aNl1 : Nat} {aNext1 : Nat → Int32} {aLast1 : Int64} {aAhead1 : Nat → Int64} {aStates2 : Int32} {aNl2 : Nat} {aNext2 : Nat → Int32} {aLast2 : Int64} {aAhead2 : Nat → Int64}
def f_Ch_endsAt (n : Nat) (p0 : Int32) (p1 : Int64) (aLast2 : Int64) : Option (Bool) :=
  (f_Au_hasLast n p1 aLast2).bind fun u1 =>
  some u1
set_option maxHeartbeats 4000000 in
set_option maxRecDepth 100000 in
theorem w_Ch_endsAt  {p0 : Int32} {p1 : Int64}  (hx : p.tables.exec = Jvm.exec) (hb : c.code = b_Ch_endsAt) (hml : c.maxLocals = 4) (hts : ∀ w ∈ gW, w.before args s = true) (hown : s.vm.findClass "RegularSolver$Chain" = some m.cls) (hK : va_K D vwCl (tG K) s) (hO1 : va_P D vwCl (auW K q1 an1 aa1 aStates1 aNl1 aNext1 aLast1 aAhead1) H) (hO2 : va_P D vwCl (auW K q2 an2 aa2 aStates2 aNl2 aNext2 aLast2 aAhead2) H) (hRf : 1 ≤ R.frames) (hRl : 22 ≤ R.locals) (hRc : cells ≤ R.cells) (hRs : slots ≤ R.slots) (hP : va_P D vwCl (chW K wq q1 q2 wHead wTail) H) {out : Bool} (Kr : ∀ (r : Bool), out = r → ∀ (pc : Nat) (ls : Array Slot), decode b_Ch_endsAt pc = .ok (.ireturn, 1) → W p l e R s m args below meth c H locs cells slots Q (F0 m pc ls [.int (bI r)])) (hf : f_Ch_endsAt n p0 p1 aLast2 = some out) (ls : Array Slot) (hl : lv_has ls 4 [(0, .ref wq), (1, .int p0), (2, .long p1)]) : W p l e R s m args below meth c H locs cells slots Q (F0 m 0 ls []) := by
  unfold f_Ch_endsAt at hf
  refine lv_aload_n hx hb d_Ch_endsAt_0 rfl (lv_at hl 0 rfl) ?_
  refine va_get (D := D) (ci := 3) (v := .ref q2) (C := R_Ch) (T := T_Ch) (N := 4) hx hb hts in_Ch hown hK hP 0 rfl rfl 3 (by decide) (hts _ fl_Ch_13) (fun _ h9 => h9) rfl d_Ch_endsAt_1 ?_
  refine lv_lload_n hx hb d_Ch_endsAt_4 rfl (lv_at hl 2 rfl) ?_
  obtain ⟨u1, eu1, hf⟩ := obd hf
  refine p_call (W.runV (As := [.long p1]) (rest := []) ⟨hx, hb, hml, hown, hts⟩ (c_Au_hasLast l eu1) (gV 1 hts cd_Au_hasLast ml_Ch_42 im_Au_hasLast se_Au_hasLast ini_Au rfl rfl pd_Au_hasLast ⟨Nat.le_trans (Nat.le_of_ble_eq_true rfl) hRf, Nat.le_trans (Nat.le_of_ble_eq_true rfl) hRl⟩) ⟨pPre_blind, va_recv hK hO2 (ci := 1) (q0 := 0) rfl rfl, pPre_of hO2 hK⟩ rfl rfl hl.1 rfl (lv_room (Nat.le_of_ble_eq_true rfl)) d_Ch_endsAt_5 ⟨hRc, hRs⟩) ?_
  exact Kr _ (Option.some.inj hf).symm _ _ d_Ch_endsAt_8
set_option maxHeartbeats 4000000 in
set_option maxRecDepth 100000 in
theorem c_Ch_endsAt (l : Launch)  {p0 : Int32} {p1 : Int64}  {r : Bool} (hf : f_Ch_endsAt n p0 p1 aLast2 = some r) : Met l y_Ch_endsAt w0_Ch_endsAt ({ frames := 1, cells := 0, slots := 0, locals := 22 }) (pPre D K [.ref wq, .int p0, .long p1] ((chW K wq q1 q2 wHead wTail) ++ (auW K q1 an1 aa1 aStates1 aNl1 aNext1 aLast1 aAhead1) ++ (auW K q2 an2 aa2 aStates2 aNl2 aNext2 aLast2 aAhead2))) (pPost (some (.int (bI r)))) 0 0 (fun _ => False) := by
  refine Met.ofW (cc := b_Ch_endsAt) (maxL := 4) (ret := (some .boolean)) (by decide) rfl ?_
  intro p e s m args below meth c s₁ B hml hv
  obtain ⟨rfl, hP, hK⟩ := hv
  have hl := lv_entry [.ref wq, .int p0, .long p1] (n := 4) (Nat.le_of_ble_eq_true rfl)
  rw [lg_entry_eq]
  generalize (lg_sl [.ref wq, .int p0, .long p1] ++ List.replicate (4 - (lg_sl [.ref wq, .int p0, .long p1]).length) Slot.unset).toArray = ls at hl ⊢
  refine w_Ch_endsAt B.exec B.bytes hml (fun w hw => atoms_spec (ws := w0_Ch_endsAt) B.pre w (List.mem_cons_of_mem _ hw)) (findClass_of_methodNamed B.named) hK (vaR (vaL hP)) (vaR hP) (Nat.le_refl _) (Nat.le_refl _) (Nat.zero_le _) (Nat.zero_le _) (vaL (vaL hP)) (fun r er pc ls hd => ?_) hf ls hl
  subst er
  exact W.zret B.exec B.bytes B.returns (bI_nar _) (fun t ht hW => ⟨rfl, ht⟩) (fun q h => by cases h) hd (hlocks := B.notSynchronized)
end
section
variable {p : Program} {l : Launch} {e : Env} {R : Room} {s : State} {m : MethodId} {args : Array Value} {below : List Frame} {meth : Method} {c : Code} {H : Heap} {locs : List Loc} {cells slots : Nat} {Q : State → Prop} {A : Nat → Prop} {H0 : Heap}
variable {n : Nat} {D : va_G} {K : Nat → ClassId} {wq : Nat} {q1 : Nat} {q2 : Nat} {an1 : Nat} {aa1 : Nat} {an2 : Nat} {aa2 : Nat} {wHead : Int32} {wTail : Int64} {pBoth : Bool} {aStates1 : Int32} {aNl1 : Nat} {aNext1 : Nat → Int32} {aLast1 : Int64} {aAhead1 : Nat → Int64} {aStates2 : Int32} {aNl2 : Nat} {aNext2 : Nat → Int32} {aLast2 : Int64} {aAhead2 : Nat → Int64}
def f_Pa_begin (n : Nat)  : Option (Int32 × Int64) :=
  some (0, 0)
set_option maxHeartbeats 4000000 in
set_option maxRecDepth 100000 in
theorem w_Pa_begin    (hx : p.tables.exec = Jvm.exec) (hb : c.code = b_Pa_begin) (hml : c.maxLocals = 1) (hts : ∀ w ∈ gW, w.before args s = true) (hown : s.vm.findClass "RegularSolver$Pairs" = some m.cls) (hK : va_K D vwCl (tG K) s) (hO1 : ∀ (H : Heap) (locs : List Loc), va_S A H0 H locs → va_P D vwCl (auW K q1 an1 aa1 aStates1 aNl1 aNext1 aLast1 aAhead1) H) (hw1 : gAw A (auW K q1 an1 aa1 aStates1 aNl1 aNext1 aLast1 aAhead1)) (hO2 : ∀ (H : Heap) (locs : List Loc), va_S A H0 H locs → va_P D vwCl (auW K q2 an2 aa2 aStates2 aNl2 aNext2 aLast2 aAhead2) H) (hw2 : gAw A (auW K q2 an2 aa2 aStates2 aNl2 aNext2 aLast2 aAhead2)) (hRf : 0 ≤ R.frames) (hRl : 0 ≤ R.locals) (hRc : cells ≤ R.cells) (hRs : slots ≤ R.slots) (hA : ∀ q, H0.size ≤ q → A q) {out : Int32 × Int64} (Kr : ∀ (r : Int32 × Int64), out = r → ∀ (pc : Nat) (ls : Array Slot) (H : Heap) (locs : List Loc), decode b_Pa_begin pc = .ok (.return_, 1) → va_P D vwCl (paW K wq q1 q2 r.1 r.2 pBoth) H → va_D A (paW K wq q1 q2 r.1 r.2 pBoth) → va_S A H0 H locs → W p l e R s m args below meth c H locs cells slots Q (F0 m pc ls [])) (hf : f_Pa_begin n  = some out) (ls : Array Slot) (hP : va_P D vwCl (paW K wq q1 q2 wHead wTail pBoth) H) (hD : va_D A (paW K wq q1 q2 wHead wTail pBoth)) (hS : va_S A H0 H locs) (hl : lv_has ls 1 [(0, .ref wq)]) : W p l e R s m args below meth c H locs cells slots Q (F0 m 0 ls []) := by
  unfold f_Pa_begin at hf
  refine lv_aload_n hx hb d_Pa_begin_0 rfl (lv_at hl 0 rfl) ?_
  refine lv_iconst (v := 0) hx hb d_Pa_begin_1 (by decide) ?_
  refine va_put (D := D) (ci := 4) (v := .int 0) (ty := .int) (C := R_Pa) (T := T_Pa) (N := 5) hx hb hts in_Pa t_Pa t_Pa_ok n_Pa hown hK hP hD hS 0 rfl rfl 0 (by decide) (hts _ fl_Pa_20) (u_same (hts _ sf_Pa_head)) rfl (by decide +kernel) rfl rfl (Nat.le_of_ble_eq_true rfl) d_Pa_begin_2 (fun H locs hP hD hS => ?_)
  have hP : va_P D vwCl (paW K wq q1 q2 0 wTail pBoth) H := hP
  have hD : va_D A (paW K wq q1 q2 0 wTail pBoth) := hD
  refine lv_aload_n hx hb d_Pa_begin_5 rfl (lv_at hl 0 rfl) ?_
  refine lv_lconst (v := 0) hx hb d_Pa_begin_6 (by decide) ?_
  refine va_put (D := D) (ci := 4) (v := .long 0) (ty := .long) (C := R_Pa) (T := T_Pa) (N := 5) hx hb hts in_Pa t_Pa t_Pa_ok n_Pa hown hK hP hD hS 0 rfl rfl 1 (by decide) (hts _ fl_Pa_24) (u_same (hts _ sf_Pa_tail)) rfl (by decide +kernel) rfl rfl (Nat.le_of_ble_eq_true rfl) d_Pa_begin_7 (fun H locs hP hD hS => ?_)
  have hP : va_P D vwCl (paW K wq q1 q2 0 0 pBoth) H := hP
  have hD : va_D A (paW K wq q1 q2 0 0 pBoth) := hD
  exact Kr _ (Option.some.inj hf).symm _ _ _ _ d_Pa_begin_10 hP hD hS
set_option maxHeartbeats 4000000 in
set_option maxRecDepth 100000 in
theorem c_Pa_begin (l : Launch)    {r : Int32 × Int64} (sz : Nat) (hf : f_Pa_begin n  = some r) : Met l y_Pa_begin w0_Pa_begin ({ frames := 0, cells := 0, slots := 0, locals := 0 }) (wPreR D K [.ref wq] (paW K wq q1 q2 wHead wTail pBoth) ((auW K q1 an1 aa1 aStates1 aNl1 aNext1 aLast1 aAhead1) ++ (auW K q2 an2 aa2 aStates2 aNl2 aNext2 aLast2 aAhead2)) sz) (wPost D K none (paW K wq q1 q2 r.1 r.2 pBoth) (va_A (paW K wq q1 q2 wHead wTail pBoth) sz)) 0 0 (va_A (paW K wq q1 q2 wHead wTail pBoth) sz) := by
  refine Met.ofW (cc := b_Pa_begin) (maxL := 1) (ret := none) (by decide) rfl ?_
  intro p e s m args below meth c s₁ B hml hv
  obtain ⟨rfl, hsz, hP, hK, hD0, hR, hw⟩ := hv
  subst hsz
  have hl := lv_entry [.ref wq] (n := 1) (Nat.le_of_ble_eq_true rfl)
  rw [lg_entry_eq]
  generalize (lg_sl [.ref wq] ++ List.replicate (1 - (lg_sl [.ref wq]).length) Slot.unset).toArray = ls at hl ⊢
  refine w_Pa_begin (A := va_A (paW K wq q1 q2 wHead wTail pBoth) s.heap.size) (H0 := s.heap) B.exec B.bytes hml (fun w hw => atoms_spec (ws := w0_Pa_begin) B.pre w (List.mem_cons_of_mem _ hw)) (findClass_of_methodNamed B.named) hK (fun _ _ hS => ro_of (vaL hR) (gAw.left hw) hS) (gAw.left hw) (fun _ _ hS => ro_of (vaR hR) (gAw.right hw) hS) (gAw.right hw) (Nat.le_refl _) (Nat.le_refl _) (Nat.zero_le _) (Nat.zero_le _) (fun q h => Or.inr h) (fun r er pc ls H locs hd hP hD hS => ?_) hf ls hP (hD0.self (sz := s.heap.size)) va_S.rf hl
  subst er
  exact W.vret B.exec B.bytes B.returns (fun t ht hW => ⟨⟨rfl, by rw [ht]; exact hP, va_K.moved hW.alike hK, hD⟩, hS.F ht⟩) hS.2.2 hd (hlocks := B.notSynchronized)
end
section
variable {p : Program} {l : Launch} {e : Env} {R : Room} {s : State} {m : MethodId} {args : Array Value} {below : List Frame} {meth : Method} {c : Code} {H : Heap} {locs : List Loc} {cells slots : Nat} {Q : State → Prop} {A : Nat → Prop} {H0 : Heap}
variable {n : Nat} {D : va_G} {K : Nat → ClassId} {wq : Nat} {q1 : Nat} {q2 : Nat} {an1 : Nat} {aa1 : Nat} {an2 : Nat} {aa2 : Nat} {wHead : Int32} {wTail : Int64} {pBoth : Bool} {aStates1 : Int32} {aNl1 : Nat} {aNext1 : Nat → Int32} {aLast1 : Int64} {aAhead1 : Nat → Int64} {aStates2 : Int32} {aNl2 : Nat} {aNext2 : Nat → Int32} {aLast2 : Int64} {aAhead2 : Nat → Int64}
def f_Pa_go (n : Nat) (p0 : Int32) (p1 : Int64) (p2 : Int32) (aNl1 : Nat) (aNext1 : Nat → Int32) (aNl2 : Nat) (aNext2 : Nat → Int32) : Option (Int32 × Int64) :=
  (f_Au_go n p0 p2 aNl1 aNext1).bind fun u1 =>
  (f_Au_go n p1.toInt32 p2 aNl2 aNext2).bind fun u2 =>
  some (u1, u2.toInt64)
set_option maxHeartbeats 4000000 in
set_option maxRecDepth 100000 in
theorem w_Pa_go  {p0 : Int32} {p1 : Int64} {p2 : Int32}  (hx : p.tables.exec = Jvm.exec) (hb : c.code = b_Pa_go) (hml : c.maxLocals = 5) (hts : ∀ w ∈ gW, w.before args s = true) (hown : s.vm.findClass "RegularSolver$Pairs" = some m.cls) (hK : va_K D vwCl (tG K) s) (hO1 : ∀ (H : Heap) (locs : List Loc), va_S A H0 H locs → va_P D vwCl (auW K q1 an1 aa1 aStates1 aNl1 aNext1 aLast1 aAhead1) H) (hw1 : gAw A (auW K q1 an1 aa1 aStates1 aNl1 aNext1 aLast1 aAhead1)) (hO2 : ∀ (H : Heap) (locs : List Loc), va_S A H0 H locs → va_P D vwCl (auW K q2 an2 aa2 aStates2 aNl2 aNext2 aLast2 aAhead2) H) (hw2 : gAw A (auW K q2 an2 aa2 aStates2 aNl2 aNext2 aLast2 aAhead2)) (hRf : 1 ≤ R.frames) (hRl : 22 ≤ R.locals) (hRc : cells ≤ R.cells) (hRs : slots ≤ R.slots) (hA : ∀ q, H0.size ≤ q → A q) {out : Int32 × Int64} (Kr : ∀ (r : Int32 × Int64), out = r → ∀ (pc : Nat) (ls : Array Slot) (H : Heap) (locs : List Loc), decode b_Pa_go pc = .ok (.return_, 1) → va_P D vwCl (paW K wq q1 q2 r.1 r.2 pBoth) H → va_D A (paW K wq q1 q2 r.1 r.2 pBoth) → va_S A H0 H locs → W p l e R s m args below meth c H locs cells slots Q (F0 m pc ls [])) (hf : f_Pa_go n p0 p1 p2 aNl1 aNext1 aNl2 aNext2 = some out) (ls : Array Slot) (hP : va_P D vwCl (paW K wq q1 q2 wHead wTail pBoth) H) (hD : va_D A (paW K wq q1 q2 wHead wTail pBoth)) (hS : va_S A H0 H locs) (hl : lv_has ls 5 [(0, .ref wq), (1, .int p0), (2, .long p1), (4, .int p2)]) : W p l e R s m args below meth c H locs cells slots Q (F0 m 0 ls []) := by
  unfold f_Pa_go at hf
  refine lv_aload_n hx hb d_Pa_go_0 rfl (lv_at hl 0 rfl) ?_
  refine lv_aload_n hx hb d_Pa_go_1 rfl (lv_at hl 0 rfl) ?_
  refine va_get (D := D) (ci := 4) (v := .ref q1) (C := R_Pa) (T := T_Pa) (N := 5) hx hb hts in_Pa hown hK hP 0 rfl rfl 2 (by decide) (hts _ fl_Pa_7) (fun _ h9 => h9) rfl d_Pa_go_2 ?_
  refine lv_iload_n hx hb d_Pa_go_5 rfl (lv_at hl 1 rfl) ?_
  refine lv_iload hx hb d_Pa_go_6 (lv_at hl 3 rfl) ?_
  obtain ⟨u1, eu1, hf⟩ := obd hf
  refine p_call (W.runV (As := [.int p0, .int p2]) (rest := [.ref wq]) ⟨hx, hb, hml, hown, hts⟩ (c_Au_go l eu1) (gV 2 hts cd_Au_go ml_Pa_28 im_Au_go se_Au_go ini_Au rfl rfl pd_Au_go ⟨Nat.le_trans (Nat.le_of_ble_eq_true rfl) hRf, Nat.le_trans (Nat.le_of_ble_eq_true rfl) hRl⟩) ⟨pPre_blind, va_recv hK (hO1 _ _ hS) (ci := 1) (q0 := 0) rfl rfl, pPre_of (hO1 _ _ hS) hK⟩ rfl rfl hl.1 rfl (lv_room (Nat.le_of_ble_eq_true rfl)) d_Pa_go_8 ⟨hRc, hRs⟩) ?_
  refine va_put (D := D) (ci := 4) (v := .int u1) (ty := .int) (C := R_Pa) (T := T_Pa) (N := 5) hx hb hts in_Pa t_Pa t_Pa_ok n_Pa hown hK hP hD hS 0 rfl rfl 0 (by decide) (hts _ fl_Pa_20) (u_same (hts _ sf_Pa_head)) rfl (by decide +kernel) rfl rfl (Nat.le_of_ble_eq_true rfl) d_Pa_go_11 (fun H locs hP hD hS => ?_)
  have hP : va_P D vwCl (paW K wq q1 q2 u1 wTail pBoth) H := hP
  have hD : va_D A (paW K wq q1 q2 u1 wTail pBoth) := hD
  refine lv_aload_n hx hb d_Pa_go_14 rfl (lv_at hl 0 rfl) ?_
  refine lv_aload_n hx hb d_Pa_go_15 rfl (lv_at hl 0 rfl) ?_
  refine va_get (D := D) (ci := 4) (v := .ref q2) (C := R_Pa) (T := T_Pa) (N := 5) hx hb hts in_Pa hown hK hP 0 rfl rfl 3 (by decide) (hts _ fl_Pa_13) (fun _ h9 => h9) rfl d_Pa_go_16 ?_
  refine lv_lload_n hx hb d_Pa_go_19 rfl (lv_at hl 2 rfl) ?_
  refine lv_l2i (v := p1.toInt32) hx hb d_Pa_go_20 rfl ?_
  refine lv_iload hx hb d_Pa_go_21 (lv_at hl 3 rfl) ?_
  obtain ⟨u2, eu2, hf⟩ := obd hf
  refine p_call (W.runV (As := [.int p1.toInt32, .int p2]) (rest := [.ref wq]) ⟨hx, hb, hml, hown, hts⟩ (c_Au_go l eu2) (gV 2 hts cd_Au_go ml_Pa_28 im_Au_go se_Au_go ini_Au rfl rfl pd_Au_go ⟨Nat.le_trans (Nat.le_of_ble_eq_true rfl) hRf, Nat.le_trans (Nat.le_of_ble_eq_true rfl) hRl⟩) ⟨pPre_blind, va_recv hK (hO2 _ _ hS) (ci := 1) (q0 := 0) rfl rfl, pPre_of (hO2 _ _ hS) hK⟩ rfl rfl hl.1 rfl (lv_room (Nat.le_of_ble_eq_true rfl)) d_Pa_go_23 ⟨hRc, hRs⟩) ?_
  refine lv_i2l (v := u2.toInt64) hx hb d_Pa_go_26 rfl ?_
  refine va_put (D := D) (ci := 4) (v := .long u2.toInt64) (ty := .long) (C := R_Pa) (T := T_Pa) (N := 5) hx hb hts in_Pa t_Pa t_Pa_ok n_Pa hown hK hP hD hS 0 rfl rfl 1 (by decide) (hts _ fl_Pa_24) (u_same (hts _ sf_Pa_tail)) rfl (by decide +kernel) rfl rfl (Nat.le_of_ble_eq_true rfl) d_Pa_go_27 (fun H locs hP hD hS => ?_)
  have hP : va_P D vwCl (paW K wq q1 q2 u1 u2.toInt64 pBoth) H := hP
  have hD : va_D A (paW K wq q1 q2 u1 u2.toInt64 pBoth) := hD
  exact Kr _ (Option.some.inj hf).symm _ _ _ _ d_Pa_go_30 hP hD hS
set_option maxHeartbeats 4000000 in
set_option maxRecDepth 100000 in
theorem c_Pa_go (l : Launch)  {p0 : Int32} {p1 : Int64} {p2 : Int32}  {r : Int32 × Int64} (sz : Nat) (hf : f_Pa_go n p0 p1 p2 aNl1 aNext1 aNl2 aNext2 = some r) : Met l y_Pa_go w0_Pa_go ({ frames := 1, cells := 0, slots := 0, locals := 22 }) (wPreR D K [.ref wq, .int p0, .long p1, .int p2] (paW K wq q1 q2 wHead wTail pBoth) ((auW K q1 an1 aa1 aStates1 aNl1 aNext1 aLast1 aAhead1) ++ (auW K q2 an2 aa2 aStates2 aNl2 aNext2 aLast2 aAhead2)) sz) (wPost D K none (paW K wq q1 q2 r.1 r.2 pBoth) (va_A (paW K wq q1 q2 wHead wTail pBoth) sz)) 0 0 (va_A (paW K wq q1 q2 wHead wTail pBoth) sz) := by
  refine Met.ofW (cc := b_Pa_go) (maxL := 5) (ret := none) (by decide) rfl ?_
  intro p e s m args below meth c s₁ B hml hv
  obtain ⟨rfl, hsz, hP, hK, hD0, hR, hw⟩ := hv
  subst hsz
  have hl := lv_entry [.ref wq, .int p0, .long p1, .int p2] (n := 5) (Nat.le_of_ble_eq_true rfl)
  rw [lg_entry_eq]
  generalize (lg_sl [.ref wq, .int p0, .long p1, .int p2] ++ List.replicate (5 - (lg_sl [.ref wq, .int p0, .long p1, .int p2]).length) Slot.unset).toArray = ls at hl ⊢
  refine w_Pa_go (A := va_A (paW K wq q1 q2 wHead wTail pBoth) s.heap.size) (H0 := s.heap) B.exec B.bytes hml (fun w hw => atoms_spec (ws := w0_Pa_go) B.pre w (List.mem_cons_of_mem _ hw)) (findClass_of_methodNamed B.named) hK (fun _ _ hS => ro_of (vaL hR) (gAw.left hw) hS) (gAw.left hw) (fun _ _ hS => ro_of (vaR hR) (gAw.right hw) hS) (gAw.right hw) (Nat.le_refl _) (Nat.le_refl _) (Nat.zero_le _) (Nat.zero_le _) (fun q h => Or.inr h) (fun r er pc ls H locs hd hP hD hS => ?_) hf ls hP (hD0.self (sz := s.heap.size)) va_S.rf hl
  subst er
  exact W.vret B.exec B.bytes B.returns (fun t ht hW => ⟨⟨rfl, by rw [ht]; exact hP, va_K.moved hW.alike hK, hD⟩, hS.F ht⟩) hS.2.2 hd (hlocks := B.notSynchronized)
end
section
variable {p : Program} {l : Launch} {e : Env} {R : Room} {s : State} {m : MethodId} {args : Array Value} {below : List Frame} {meth : Method} {c : Code} {H : Heap} {locs : List Loc} {cells slots : Nat} {Q : State → Prop} {A : Nat → Prop} {H0 : Heap}
variable {n : Nat} {D : va_G} {K : Nat → ClassId} {wq : Nat} {q1 : Nat} {q2 : Nat} {an1 : Nat} {aa1 : Nat} {an2 : Nat} {aa2 : Nat} {wHead : Int32} {wTail : Int64} {pBoth : Bool} {aStates1 : Int32} {aNl1 : Nat} {aNext1 : Nat → Int32} {aLast1 : Int64} {aAhead1 : Nat → Int64} {aStates2 : Int32} {aNl2 : Nat} {aNext2 : Nat → Int32} {aLast2 : Int64} {aAhead2 : Nat → Int64}
def f_Pa_endsAt (n : Nat) (p0 : Int32) (p1 : Int64) (pBoth : Bool) (aLast1 : Int64) (aLast2 : Int64) : Option (Bool) :=
  (f_Au_isLast n p0 aLast1).bind fun u1 =>
  (f_Au_isLast n p1.toInt32 aLast2).bind fun u2 =>
  if pBoth = true then
    if u1 = true then
      if u2 = true then
        some true
      else
        some false
    else
      some false
  else
    if u1 = true then
      some true
    else
      if u2 = true then
        some true
      else
        some false
set_option maxHeartbeats 4000000 in
set_option maxRecDepth 100000 in
theorem w_Pa_endsAt  {p0 : Int32} {p1 : Int64}  (hx : p.tables.exec = Jvm.exec) (hb : c.code = b_Pa_endsAt) (hml : c.maxLocals = 6) (hts : ∀ w ∈ gW, w.before args s = true) (hown : s.vm.findClass "RegularSolver$Pairs" = some m.cls) (hK : va_K D vwCl (tG K) s) (hO1 : va_P D vwCl (auW K q1 an1 aa1 aStates1 aNl1 aNext1 aLast1 aAhead1) H) (hO2 : va_P D vwCl (auW K q2 an2 aa2 aStates2 aNl2 aNext2 aLast2 aAhead2) H) (hRf : 1 ≤ R.frames) (hRl : 21 ≤ R.locals) (hRc : cells ≤ R.cells) (hRs : slots ≤ R.slots) (hP : va_P D vwCl (paW K wq q1 q2 wHead wTail pBoth) H) {out : Bool} (Kr : ∀ (r : Bool), out = r → ∀ (pc : Nat) (ls : Array Slot), decode b_Pa_endsAt pc = .ok (.ireturn, 1) → W p l e R s m args below meth c H locs cells slots Q (F0 m pc ls [.int (bI r)])) (hf : f_Pa_endsAt n p0 p1 pBoth aLast1 aLast2 = some out) (ls : Array Slot) (hl : lv_has ls 6 [(0, .ref wq), (1, .int p0), (2, .long p1)]) : W p l e R s m args below meth c H locs cells slots Q (F0 m 0 ls []) := by
  unfold f_Pa_endsAt at hf
  refine lv_aload_n hx hb d_Pa_endsAt_0 rfl (lv_at hl 0 rfl) ?_
  refine va_get (D := D) (ci := 4) (v := .ref q1) (C := R_Pa) (T := T_Pa) (N := 5) hx hb hts in_Pa hown hK hP 0 rfl rfl 2 (by decide) (hts _ fl_Pa_7) (fun _ h9 => h9) rfl d_Pa_endsAt_1 ?_
  refine lv_iload_n hx hb d_Pa_endsAt_4 rfl (lv_at hl 1 rfl) ?_
  obtain ⟨u1, eu1, hf⟩ := obd hf
  refine p_call (W.runV (As := [.int p0]) (rest := []) ⟨hx, hb, hml, hown, hts⟩ (c_Au_isLast l eu1) (gV 1 hts cd_Au_isLast ml_Pa_34 im_Au_isLast se_Au_isLast ini_Au rfl rfl pd_Au_isLast ⟨Nat.le_trans (Nat.le_of_ble_eq_true rfl) hRf, Nat.le_trans (Nat.le_of_ble_eq_true rfl) hRl⟩) ⟨pPre_blind, va_recv hK hO1 (ci := 1) (q0 := 0) rfl rfl, pPre_of hO1 hK⟩ rfl rfl hl.1 rfl (lv_room (Nat.le_of_ble_eq_true rfl)) d_Pa_endsAt_5 ⟨hRc, hRs⟩) ?_
  refine lv_istore (lv' := [(4, .int (bI u1)), (0, .ref wq), (1, .int p0), (2, .long p1)]) hx hb d_Pa_endsAt_8 hl (by decide) rfl (fun ls hl => ?_)
  refine lv_aload_n hx hb d_Pa_endsAt_10 rfl (lv_at hl 1 rfl) ?_
  refine va_get (D := D) (ci := 4) (v := .ref q2) (C := R_Pa) (T := T_Pa) (N := 5) hx hb hts in_Pa hown hK hP 0 rfl rfl 3 (by decide) (hts _ fl_Pa_13) (fun _ h9 => h9) rfl d_Pa_endsAt_11 ?_
  refine lv_lload_n hx hb d_Pa_endsAt_14 rfl (lv_at hl 3 rfl) ?_
  refine lv_l2i (v := p1.toInt32) hx hb d_Pa_endsAt_15 rfl ?_
  obtain ⟨u2, eu2, hf⟩ := obd hf
  refine p_call (W.runV (As := [.int p1.toInt32]) (rest := []) ⟨hx, hb, hml, hown, hts⟩ (c_Au_isLast l eu2) (gV 1 hts cd_Au_isLast ml_Pa_34 im_Au_isLast se_Au_isLast ini_Au rfl rfl pd_Au_isLast ⟨Nat.le_trans (Nat.le_of_ble_eq_true rfl) hRf, Nat.le_trans (Nat.le_of_ble_eq_true rfl) hRl⟩) ⟨pPre_blind, va_recv hK hO2 (ci := 1) (q0 := 0) rfl rfl, pPre_of hO2 hK⟩ rfl rfl hl.1 rfl (lv_room (Nat.le_of_ble_eq_true rfl)) d_Pa_endsAt_16 ⟨hRc, hRs⟩) ?_
  refine lv_istore (lv' := [(5, .int (bI u2)), (4, .int (bI u1)), (0, .ref wq), (1, .int p0), (2, .long p1)]) hx hb d_Pa_endsAt_19 hl (by decide) rfl (fun ls hl => ?_)
  refine lv_aload_n hx hb d_Pa_endsAt_21 rfl (lv_at hl 2 rfl) ?_
  refine va_get (D := D) (ci := 4) (v := .int (bI pBoth)) (C := R_Pa) (T := T_Pa) (N := 5) hx hb hts in_Pa hown hK hP 0 rfl rfl 4 (by decide) (hts _ fl_Pa_16) (fun _ h9 => h9) rfl d_Pa_endsAt_22 ?_
  refine bz_eq (tgt := 46) hx hb d_Pa_endsAt_25 (by decide) (fun c3 => ?_) (fun c3 => ?_)
  · rw [if_neg c3] at hf
    refine lv_iload hx hb d_Pa_endsAt_46 (lv_at hl 1 rfl) ?_
    refine bz_ne (tgt := 56) hx hb d_Pa_endsAt_48 (by decide) (fun c4 => ?_) (fun c4 => ?_)
    · rw [if_pos c4] at hf
      refine lv_iconst (v := 1) hx hb d_Pa_endsAt_56 (by decide) ?_
      refine lv_goto (tgt := 61) hx hb d_Pa_endsAt_57 (by decide) ?_
      exact Kr _ (Option.some.inj hf).symm _ _ d_Pa_endsAt_61
    · rw [if_neg c4] at hf
      refine lv_iload hx hb d_Pa_endsAt_51 (lv_at hl 0 rfl) ?_
      refine bz_eq (tgt := 60) hx hb d_Pa_endsAt_53 (by decide) (fun c5 => ?_) (fun c5 => ?_)
      · rw [if_neg c5] at hf
        refine lv_iconst (v := 0) hx hb d_Pa_endsAt_60 (by decide) ?_
        exact Kr _ (Option.some.inj hf).symm _ _ d_Pa_endsAt_61
      · rw [if_pos c5] at hf
        refine lv_iconst (v := 1) hx hb d_Pa_endsAt_56 (by decide) ?_
        refine lv_goto (tgt := 61) hx hb d_Pa_endsAt_57 (by decide) ?_
        exact Kr _ (Option.some.inj hf).symm _ _ d_Pa_endsAt_61
  · rw [if_pos c3] at hf
    refine lv_iload hx hb d_Pa_endsAt_28 (lv_at hl 1 rfl) ?_
    refine bz_eq (tgt := 42) hx hb d_Pa_endsAt_30 (by decide) (fun c6 => ?_) (fun c6 => ?_)
    · rw [if_neg c6] at hf
      refine lv_iconst (v := 0) hx hb d_Pa_endsAt_42 (by decide) ?_
      refine lv_goto (tgt := 61) hx hb d_Pa_endsAt_43 (by decide) ?_
      exact Kr _ (Option.some.inj hf).symm _ _ d_Pa_endsAt_61
    · rw [if_pos c6] at hf
      refine lv_iload hx hb d_Pa_endsAt_33 (lv_at hl 0 rfl) ?_
      refine bz_eq (tgt := 42) hx hb d_Pa_endsAt_35 (by decide) (fun c7 => ?_) (fun c7 => ?_)
      · rw [if_neg c7] at hf
        refine lv_iconst (v := 0) hx hb d_Pa_endsAt_42 (by decide) ?_
        refine lv_goto (tgt := 61) hx hb d_Pa_endsAt_43 (by decide) ?_
        exact Kr _ (Option.some.inj hf).symm _ _ d_Pa_endsAt_61
      · rw [if_pos c7] at hf
        refine lv_iconst (v := 1) hx hb d_Pa_endsAt_38 (by decide) ?_
        refine lv_goto (tgt := 61) hx hb d_Pa_endsAt_39 (by decide) ?_
        exact Kr _ (Option.some.inj hf).symm _ _ d_Pa_endsAt_61
set_option maxHeartbeats 4000000 in
set_option maxRecDepth 100000 in
theorem c_Pa_endsAt (l : Launch)  {p0 : Int32} {p1 : Int64}  {r : Bool} (hf : f_Pa_endsAt n p0 p1 pBoth aLast1 aLast2 = some r) : Met l y_Pa_endsAt w0_Pa_endsAt ({ frames := 1, cells := 0, slots := 0, locals := 21 }) (pPre D K [.ref wq, .int p0, .long p1] ((paW K wq q1 q2 wHead wTail pBoth) ++ (auW K q1 an1 aa1 aStates1 aNl1 aNext1 aLast1 aAhead1) ++ (auW K q2 an2 aa2 aStates2 aNl2 aNext2 aLast2 aAhead2))) (pPost (some (.int (bI r)))) 0 0 (fun _ => False) := by
  refine Met.ofW (cc := b_Pa_endsAt) (maxL := 6) (ret := (some .boolean)) (by decide) rfl ?_
  intro p e s m args below meth c s₁ B hml hv
  obtain ⟨rfl, hP, hK⟩ := hv
  have hl := lv_entry [.ref wq, .int p0, .long p1] (n := 6) (Nat.le_of_ble_eq_true rfl)
  rw [lg_entry_eq]
  generalize (lg_sl [.ref wq, .int p0, .long p1] ++ List.replicate (6 - (lg_sl [.ref wq, .int p0, .long p1]).length) Slot.unset).toArray = ls at hl ⊢
  refine w_Pa_endsAt B.exec B.bytes hml (fun w hw => atoms_spec (ws := w0_Pa_endsAt) B.pre w (List.mem_cons_of_mem _ hw)) (findClass_of_methodNamed B.named) hK (vaR (vaL hP)) (vaR hP) (Nat.le_refl _) (Nat.le_refl _) (Nat.zero_le _) (Nat.zero_le _) (vaL (vaL hP)) (fun r er pc ls hd => ?_) hf ls hl
  subst er
  exact W.zret B.exec B.bytes B.returns (bI_nar _) (fun t ht hW => ⟨rfl, ht⟩) (fun q h => by cases h) hd (hlocks := B.notSynchronized)
end
section
variable {p : Program} {l : Launch} {e : Env} {R : Room} {s : State} {m : MethodId} {args : Array Value} {below : List Frame} {meth : Method} {c : Code} {H : Heap} {locs : List Loc} {cells slots : Nat} {Q : State → Prop} {A : Nat → Prop} {H0 : Heap}
variable {n : Nat} {D : va_G} {K : Nat → ClassId} {wq : Nat} {q1 : Nat} {an1 : Nat} {aa1 : Nat} {wHead : Int32} {wTail : Int64} {aStates1 : Int32} {aNl1 : Nat} {aNext1 : Nat → Int32} {aLast1 : Int64} {aAhead1 : Nat → Int64}
def f_Re_begin (n : Nat)  : Option (Int64) :=
  some 0
set_option maxHeartbeats 4000000 in
set_option maxRecDepth 100000 in
theorem w_Re_begin    (hx : p.tables.exec = Jvm.exec) (hb : c.code = b_Re_begin) (hml : c.maxLocals = 1) (hts : ∀ w ∈ gW, w.before args s = true) (hown : s.vm.findClass "RegularSolver$Repeat" = some m.cls) (hK : va_K D vwCl (tG K) s) (hO1 : ∀ (H : Heap) (locs : List Loc), va_S A H0 H locs → va_P D vwCl (auW K q1 an1 aa1 aStates1 aNl1 aNext1 aLast1 aAhead1) H) (hw1 : gAw A (auW K q1 an1 aa1 aStates1 aNl1 aNext1 aLast1 aAhead1)) (hRf : 0 ≤ R.frames) (hRl : 0 ≤ R.locals) (hRc : cells ≤ R.cells) (hRs : slots ≤ R.slots) (hA : ∀ q, H0.size ≤ q → A q) {out : Int64} (Kr : ∀ (r : Int64), out = r → ∀ (pc : Nat) (ls : Array Slot) (H : Heap) (locs : List Loc), decode b_Re_begin pc = .ok (.return_, 1) → va_P D vwCl (reW K wq q1 wHead r) H → va_D A (reW K wq q1 wHead r) → va_S A H0 H locs → W p l e R s m args below meth c H locs cells slots Q (F0 m pc ls [])) (hf : f_Re_begin n  = some out) (ls : Array Slot) (hP : va_P D vwCl (reW K wq q1 wHead wTail) H) (hD : va_D A (reW K wq q1 wHead wTail)) (hS : va_S A H0 H locs) (hl : lv_has ls 1 [(0, .ref wq)]) : W p l e R s m args below meth c H locs cells slots Q (F0 m 0 ls []) := by
  unfold f_Re_begin at hf
  refine lv_aload_n hx hb d_Re_begin_0 rfl (lv_at hl 0 rfl) ?_
  refine lv_lconst (v := 0) hx hb d_Re_begin_1 (by decide) ?_
  refine va_put (D := D) (ci := 5) (v := .long 0) (ty := .long) (C := R_Re) (T := T_Re) (N := 3) hx hb hts in_Re t_Re t_Re_ok n_Re hown hK hP hD hS 0 rfl rfl 1 (by decide) (hts _ fl_Re_13) (u_same (hts _ sf_Re_tail)) rfl (by decide +kernel) rfl rfl (Nat.le_of_ble_eq_true rfl) d_Re_begin_2 (fun H locs hP hD hS => ?_)
  have hP : va_P D vwCl (reW K wq q1 wHead 0) H := hP
  have hD : va_D A (reW K wq q1 wHead 0) := hD
  exact Kr _ (Option.some.inj hf).symm _ _ _ _ d_Re_begin_5 hP hD hS
set_option maxHeartbeats 4000000 in
set_option maxRecDepth 100000 in
theorem c_Re_begin (l : Launch)    {r : Int64} (sz : Nat) (hf : f_Re_begin n  = some r) : Met l y_Re_begin w0_Re_begin ({ frames := 0, cells := 0, slots := 0, locals := 0 }) (wPreR D K [.ref wq] (reW K wq q1 wHead wTail) ((auW K q1 an1 aa1 aStates1 aNl1 aNext1 aLast1 aAhead1)) sz) (wPost D K none (reW K wq q1 wHead r) (va_A (reW K wq q1 wHead wTail) sz)) 0 0 (va_A (reW K wq q1 wHead wTail) sz) := by
  refine Met.ofW (cc := b_Re_begin) (maxL := 1) (ret := none) (by decide) rfl ?_
  intro p e s m args below meth c s₁ B hml hv
  obtain ⟨rfl, hsz, hP, hK, hD0, hR, hw⟩ := hv
  subst hsz
  have hl := lv_entry [.ref wq] (n := 1) (Nat.le_of_ble_eq_true rfl)
  rw [lg_entry_eq]
  generalize (lg_sl [.ref wq] ++ List.replicate (1 - (lg_sl [.ref wq]).length) Slot.unset).toArray = ls at hl ⊢
  refine w_Re_begin (A := va_A (reW K wq q1 wHead wTail) s.heap.size) (H0 := s.heap) B.exec B.bytes hml (fun w hw => atoms_spec (ws := w0_Re_begin) B.pre w (List.mem_cons_of_mem _ hw)) (findClass_of_methodNamed B.named) hK (fun _ _ hS => ro_of hR hw hS) hw (Nat.le_refl _) (Nat.le_refl _) (Nat.zero_le _) (Nat.zero_le _) (fun q h => Or.inr h) (fun r er pc ls H locs hd hP hD hS => ?_) hf ls hP (hD0.self (sz := s.heap.size)) va_S.rf hl
  subst er
  exact W.vret B.exec B.bytes B.returns (fun t ht hW => ⟨⟨rfl, by rw [ht]; exact hP, va_K.moved hW.alike hK, hD⟩, hS.F ht⟩) hS.2.2 hd (hlocks := B.notSynchronized)
end
section
variable {p : Program} {l : Launch} {e : Env} {R : Room} {s : State} {m : MethodId} {args : Array Value} {below : List Frame} {meth : Method} {c : Code} {H : Heap} {locs : List Loc} {cells slots : Nat} {Q : State → Prop} {A : Nat → Prop} {H0 : Heap}
variable {n : Nat} {D : va_G} {K : Nat → ClassId} {wq : Nat} {q1 : Nat} {an1 : Nat} {aa1 : Nat} {wHead : Int32} {wTail : Int64} {aStates1 : Int32} {aNl1 : Nat} {aNext1 : Nat → Int32} {aLast1 : Int64} {aAhead1 : Nat → Int64}
def f_Re_endsAt (n : Nat) (p0 : Int32) (p1 : Int64) (aLast1 : Int64) : Option (Bool) :=
  if p1 = 0 then
    some true
  else
    (f_Au_hasLast n p1 aLast1).bind fun u2 =>
    if u2 = true then
      some true
    else
      some false
set_option maxHeartbeats 4000000 in
set_option maxRecDepth 100000 in
theorem w_Re_endsAt  {p0 : Int32} {p1 : Int64}  (hx : p.tables.exec = Jvm.exec) (hb : c.code = b_Re_endsAt) (hml : c.maxLocals = 4) (hts : ∀ w ∈ gW, w.before args s = true) (hown : s.vm.findClass "RegularSolver$Repeat" = some m.cls) (hK : va_K D vwCl (tG K) s) (hO1 : va_P D vwCl (auW K q1 an1 aa1 aStates1 aNl1 aNext1 aLast1 aAhead1) H) (hRf : 1 ≤ R.frames) (hRl : 22 ≤ R.locals) (hRc : cells ≤ R.cells) (hRs : slots ≤ R.slots) (hP : va_P D vwCl (reW K wq q1 wHead wTail) H) {out : Bool} (Kr : ∀ (r : Bool), out = r → ∀ (pc : Nat) (ls : Array Slot), decode b_Re_endsAt pc = .ok (.ireturn, 1) → W p l e R s m args below meth c H locs cells slots Q (F0 m pc ls [.int (bI r)])) (hf : f_Re_endsAt n p0 p1 aLast1 = some out) (ls : Array Slot) (hl : lv_has ls 4 [(0, .ref wq), (1, .int p0), (2, .long p1)]) : W p l e R s m args below meth c H locs cells slots Q (F0 m 0 ls []) := by
  unfold f_Re_endsAt at hf
  refine lv_lload_n hx hb d_Re_endsAt_0 rfl (lv_at hl 2 rfl) ?_
  refine lv_lconst (v := 0) hx hb d_Re_endsAt_1 (by decide) ?_
  refine W.lcmp hx hb d_Re_endsAt_2 ?_
  refine lc_eq (tgt := 17) hx hb d_Re_endsAt_3 (by decide) (fun c1 => ?_) (fun c1 => ?_)
  · rw [if_pos c1] at hf
    refine lv_iconst (v := 1) hx hb d_Re_endsAt_17 (by decide) ?_
    refine lv_goto (tgt := 22) hx hb d_Re_endsAt_18 (by decide) ?_
    exact Kr _ (Option.some.inj hf).symm _ _ d_Re_endsAt_22
  · rw [if_neg c1] at hf
    refine lv_aload_n hx hb d_Re_endsAt_6 rfl (lv_at hl 0 rfl) ?_
    refine va_get (D := D) (ci := 5) (v := .ref q1) (C := R_Re) (T := T_Re) (N := 3) hx hb hts in_Re hown hK hP 0 rfl rfl 2 (by decide) (hts _ fl_Re_7) (fun _ h9 => h9) rfl d_Re_endsAt_7 ?_
    refine lv_lload_n hx hb d_Re_endsAt_10 rfl (lv_at hl 2 rfl) ?_
    obtain ⟨u2, eu2, hf⟩ := obd hf
    refine p_call (W.runV (As := [.long p1]) (rest := []) ⟨hx, hb, hml, hown, hts⟩ (c_Au_hasLast l eu2) (gV 1 hts cd_Au_hasLast ml_Re_27 im_Au_hasLast se_Au_hasLast ini_Au rfl rfl pd_Au_hasLast ⟨Nat.le_trans (Nat.le_of_ble_eq_true rfl) hRf, Nat.le_trans (Nat.le_of_ble_eq_true rfl) hRl⟩) ⟨pPre_blind, va_recv hK hO1 (ci := 1) (q0 := 0) rfl rfl, pPre_of hO1 hK⟩ rfl rfl hl.1 rfl (lv_room (Nat.le_of_ble_eq_true rfl)) d_Re_endsAt_11 ⟨hRc, hRs⟩) ?_
    refine bz_eq (tgt := 21) hx hb d_Re_endsAt_14 (by decide) (fun c3 => ?_) (fun c3 => ?_)
    · rw [if_neg c3] at hf
      refine lv_iconst (v := 0) hx hb d_Re_endsAt_21 (by decide) ?_
      exact Kr _ (Option.some.inj hf).symm _ _ d_Re_endsAt_22
    · rw [if_pos c3] at hf
      refine lv_iconst (v := 1) hx hb d_Re_endsAt_17 (by decide) ?_
      refine lv_goto (tgt := 22) hx hb d_Re_endsAt_18 (by decide) ?_
      exact Kr _ (Option.some.inj hf).symm _ _ d_Re_endsAt_22
set_option maxHeartbeats 4000000 in
set_option maxRecDepth 100000 in
theorem c_Re_endsAt (l : Launch)  {p0 : Int32} {p1 : Int64}  {r : Bool} (hf : f_Re_endsAt n p0 p1 aLast1 = some r) : Met l y_Re_endsAt w0_Re_endsAt ({ frames := 1, cells := 0, slots := 0, locals := 22 }) (pPre D K [.ref wq, .int p0, .long p1] ((reW K wq q1 wHead wTail) ++ (auW K q1 an1 aa1 aStates1 aNl1 aNext1 aLast1 aAhead1))) (pPost (some (.int (bI r)))) 0 0 (fun _ => False) := by
  refine Met.ofW (cc := b_Re_endsAt) (maxL := 4) (ret := (some .boolean)) (by decide) rfl ?_
  intro p e s m args below meth c s₁ B hml hv
  obtain ⟨rfl, hP, hK⟩ := hv
  have hl := lv_entry [.ref wq, .int p0, .long p1] (n := 4) (Nat.le_of_ble_eq_true rfl)
  rw [lg_entry_eq]
  generalize (lg_sl [.ref wq, .int p0, .long p1] ++ List.replicate (4 - (lg_sl [.ref wq, .int p0, .long p1]).length) Slot.unset).toArray = ls at hl ⊢
  refine w_Re_endsAt B.exec B.bytes hml (fun w hw => atoms_spec (ws := w0_Re_endsAt) B.pre w (List.mem_cons_of_mem _ hw)) (findClass_of_methodNamed B.named) hK (vaR hP) (Nat.le_refl _) (Nat.le_refl _) (Nat.zero_le _) (Nat.zero_le _) (vaL hP) (fun r er pc ls hd => ?_) hf ls hl
  subst er
  exact W.zret B.exec B.bytes B.returns (bI_nar _) (fun t ht hW => ⟨rfl, ht⟩) (fun q h => by cases h) hd (hlocks := B.notSynchronized)
end
section
variable {p : Program} {l : Launch} {e : Env} {R : Room} {s : State} {m : MethodId} {args : Array Value} {below : List Frame} {meth : Method} {c : Code} {H : Heap} {locs : List Loc} {cells slots : Nat} {Q : State → Prop} {A : Nat → Prop} {H0 : Heap}
variable {n : Nat} {D : va_G} {K : Nat → ClassId} {wq : Nat} {q1 : Nat} {an1 : Nat} {aa1 : Nat} {wHead : Int32} {wTail : Int64} {aStates1 : Int32} {aNl1 : Nat} {aNext1 : Nat → Int32} {aLast1 : Int64} {aAhead1 : Nat → Int64}
def f_Re_go (n : Nat) (p0 : Int32) (p1 : Int64) (p2 : Int32) (aStates1 : Int32) (aNl1 : Nat) (aNext1 : Nat → Int32) (aLast1 : Int64) : Option (Int64) :=
  (f_Re_endsAt n p0 p1 aLast1).bind fun u1 =>
  if u1 = true then
    (f_Au_goAll n (p1 ||| 1) p2 aStates1 aNl1 aNext1).bind fun u4 =>
    some u4
  else
    (f_Au_goAll n (p1 ||| 0) p2 aStates1 aNl1 aNext1).bind fun u3 =>
    some u3
set_option maxHeartbeats 4000000 in
set_option maxRecDepth 100000 in
theorem w_Re_go  {p0 : Int32} {p1 : Int64} {p2 : Int32}  (hx : p.tables.exec = Jvm.exec) (hb : c.code = b_Re_go) (hml : c.maxLocals = 7) (hts : ∀ w ∈ gW, w.before args s = true) (hown : s.vm.findClass "RegularSolver$Repeat" = some m.cls) (hK : va_K D vwCl (tG K) s) (hO1 : ∀ (H : Heap) (locs : List Loc), va_S A H0 H locs → va_P D vwCl (auW K q1 an1 aa1 aStates1 aNl1 aNext1 aLast1 aAhead1) H) (hw1 : gAw A (auW K q1 an1 aa1 aStates1 aNl1 aNext1 aLast1 aAhead1)) (hRf : 2 ≤ R.frames) (hRl : 50 ≤ R.locals) (hRc : cells ≤ R.cells) (hRs : slots ≤ R.slots) (hA : ∀ q, H0.size ≤ q → A q) {out : Int64} (Kr : ∀ (r : Int64), out = r → ∀ (pc : Nat) (ls : Array Slot) (H : Heap) (locs : List Loc), decode b_Re_go pc = .ok (.return_, 1) → va_P D vwCl (reW K wq q1 wHead r) H → va_D A (reW K wq q1 wHead r) → va_S A H0 H locs → W p l e R s m args below meth c H locs cells slots Q (F0 m pc ls [])) (hf : f_Re_go n p0 p1 p2 aStates1 aNl1 aNext1 aLast1 = some out) (ls : Array Slot) (hP : va_P D vwCl (reW K wq q1 wHead wTail) H) (hD : va_D A (reW K wq q1 wHead wTail)) (hS : va_S A H0 H locs) (hl : lv_has ls 7 [(0, .ref wq), (1, .int p0), (2, .long p1), (4, .int p2)]) : W p l e R s m args below meth c H locs cells slots Q (F0 m 0 ls []) := by
  unfold f_Re_go at hf
  refine lv_aload_n hx hb d_Re_go_0 rfl (lv_at hl 0 rfl) ?_
  refine lv_iload_n hx hb d_Re_go_1 rfl (lv_at hl 1 rfl) ?_
  refine lv_lload_n hx hb d_Re_go_2 rfl (lv_at hl 2 rfl) ?_
  obtain ⟨u1, eu1, hf⟩ := obd hf
  refine p_call (W.runV (As := [.int p0, .long p1]) (rest := []) ⟨hx, hb, hml, hown, hts⟩ (c_Re_endsAt l eu1) (gV 2 hts cd_Re_endsAt ml_Re_17 im_Re_endsAt se_Re_endsAt ini_Re rfl rfl pd_Re_endsAt ⟨Nat.le_trans (Nat.le_of_ble_eq_true rfl) hRf, Nat.le_trans (Nat.le_of_ble_eq_true rfl) hRl⟩) ⟨pPre_blind, va_recv hK hP (ci := 5) (q0 := 0) rfl rfl, pPre_of (va_P.app hP (hO1 _ _ hS)) hK⟩ rfl rfl hl.1 rfl (lv_room (Nat.le_of_ble_eq_true rfl)) d_Re_go_3 ⟨hRc, hRs⟩) ?_
  refine bz_eq (tgt := 13) hx hb d_Re_go_6 (by decide) (fun c2 => ?_) (fun c2 => ?_)
  · rw [if_neg c2] at hf
    refine lv_lconst (v := 0) hx hb d_Re_go_13 (by decide) ?_
    refine lv_lstore (lv' := [(5, .long 0), (0, .ref wq), (1, .int p0), (2, .long p1), (4, .int p2)]) hx hb d_Re_go_14 hl (by decide) rfl (fun ls hl => ?_)
    refine lv_aload_n hx hb d_Re_go_16 rfl (lv_at hl 1 rfl) ?_
    refine lv_aload_n hx hb d_Re_go_17 rfl (lv_at hl 1 rfl) ?_
    refine va_get (D := D) (ci := 5) (v := .ref q1) (C := R_Re) (T := T_Re) (N := 3) hx hb hts in_Re hown hK hP 0 rfl rfl 2 (by decide) (hts _ fl_Re_7) (fun _ h9 => h9) rfl d_Re_go_18 ?_
    refine lv_lload_n hx hb d_Re_go_21 rfl (lv_at hl 3 rfl) ?_
    refine lv_lload hx hb d_Re_go_22 (lv_at hl 0 rfl) ?_
    refine lv_lor hx hb d_Re_go_24 ?_
    refine lv_iload hx hb d_Re_go_25 (lv_at hl 4 rfl) ?_
    obtain ⟨u3, eu3, hf⟩ := obd hf
    refine p_call (W.runV (As := [.long (p1 ||| 0), .int p2]) (rest := [.ref wq]) ⟨hx, hb, hml, hown, hts⟩ (c_Au_goAll l eu3) (gV 2 hts cd_Au_goAll ml_Re_21 im_Au_goAll se_Au_goAll ini_Au rfl rfl pd_Au_goAll ⟨Nat.le_trans (Nat.le_of_ble_eq_true rfl) hRf, Nat.le_trans (Nat.le_of_ble_eq_true rfl) hRl⟩) ⟨pPre_blind, va_recv hK (hO1 _ _ hS) (ci := 1) (q0 := 0) rfl rfl, pPre_of (hO1 _ _ hS) hK⟩ rfl rfl hl.1 rfl (lv_room (Nat.le_of_ble_eq_true rfl)) d_Re_go_27 ⟨hRc, hRs⟩) ?_
    refine va_put (D := D) (ci := 5) (v := .long u3) (ty := .long) (C := R_Re) (T := T_Re) (N := 3) hx hb hts in_Re t_Re t_Re_ok n_Re hown hK hP hD hS 0 rfl rfl 1 (by decide) (hts _ fl_Re_13) (u_same (hts _ sf_Re_tail)) rfl (by decide +kernel) rfl rfl (Nat.le_of_ble_eq_true rfl) d_Re_go_30 (fun H locs hP hD hS => ?_)
    have hP : va_P D vwCl (reW K wq q1 wHead u3) H := hP
    have hD : va_D A (reW K wq q1 wHead u3) := hD
    exact Kr _ (Option.some.inj hf).symm _ _ _ _ d_Re_go_33 hP hD hS
  · rw [if_pos c2] at hf
    refine lv_lconst (v := 1) hx hb d_Re_go_9 (by decide) ?_
    refine lv_goto (tgt := 14) hx hb d_Re_go_10 (by decide) ?_
    refine lv_lstore (lv' := [(5, .long 1), (0, .ref wq), (1, .int p0), (2, .long p1), (4, .int p2)]) hx hb d_Re_go_14 hl (by decide) rfl (fun ls hl => ?_)
    refine lv_aload_n hx hb d_Re_go_16 rfl (lv_at hl 1 rfl) ?_
    refine lv_aload_n hx hb d_Re_go_17 rfl (lv_at hl 1 rfl) ?_
    refine va_get (D := D) (ci := 5) (v := .ref q1) (C := R_Re) (T := T_Re) (N := 3) hx hb hts in_Re hown hK hP 0 rfl rfl 2 (by decide) (hts _ fl_Re_7) (fun _ h9 => h9) rfl d_Re_go_18 ?_
    refine lv_lload_n hx hb d_Re_go_21 rfl (lv_at hl 3 rfl) ?_
    refine lv_lload hx hb d_Re_go_22 (lv_at hl 0 rfl) ?_
    refine lv_lor hx hb d_Re_go_24 ?_
    refine lv_iload hx hb d_Re_go_25 (lv_at hl 4 rfl) ?_
    obtain ⟨u4, eu4, hf⟩ := obd hf
    refine p_call (W.runV (As := [.long (p1 ||| 1), .int p2]) (rest := [.ref wq]) ⟨hx, hb, hml, hown, hts⟩ (c_Au_goAll l eu4) (gV 2 hts cd_Au_goAll ml_Re_21 im_Au_goAll se_Au_goAll ini_Au rfl rfl pd_Au_goAll ⟨Nat.le_trans (Nat.le_of_ble_eq_true rfl) hRf, Nat.le_trans (Nat.le_of_ble_eq_true rfl) hRl⟩) ⟨pPre_blind, va_recv hK (hO1 _ _ hS) (ci := 1) (q0 := 0) rfl rfl, pPre_of (hO1 _ _ hS) hK⟩ rfl rfl hl.1 rfl (lv_room (Nat.le_of_ble_eq_true rfl)) d_Re_go_27 ⟨hRc, hRs⟩) ?_
    refine va_put (D := D) (ci := 5) (v := .long u4) (ty := .long) (C := R_Re) (T := T_Re) (N := 3) hx hb hts in_Re t_Re t_Re_ok n_Re hown hK hP hD hS 0 rfl rfl 1 (by decide) (hts _ fl_Re_13) (u_same (hts _ sf_Re_tail)) rfl (by decide +kernel) rfl rfl (Nat.le_of_ble_eq_true rfl) d_Re_go_30 (fun H locs hP hD hS => ?_)
    have hP : va_P D vwCl (reW K wq q1 wHead u4) H := hP
    have hD : va_D A (reW K wq q1 wHead u4) := hD
    exact Kr _ (Option.some.inj hf).symm _ _ _ _ d_Re_go_33 hP hD hS
set_option maxHeartbeats 4000000 in
set_option maxRecDepth 100000 in
theorem c_Re_go (l : Launch)  {p0 : Int32} {p1 : Int64} {p2 : Int32}  {r : Int64} (sz : Nat) (hf : f_Re_go n p0 p1 p2 aStates1 aNl1 aNext1 aLast1 = some r) : Met l y_Re_go w0_Re_go ({ frames := 2, cells := 0, slots := 0, locals := 50 }) (wPreR D K [.ref wq, .int p0, .long p1, .int p2] (reW K wq q1 wHead wTail) ((auW K q1 an1 aa1 aStates1 aNl1 aNext1 aLast1 aAhead1)) sz) (wPost D K none (reW K wq q1 wHead r) (va_A (reW K wq q1 wHead wTail) sz)) 0 0 (va_A (reW K wq q1 wHead wTail) sz) := by
  refine Met.ofW (cc := b_Re_go) (maxL := 7) (ret := none) (by decide) rfl ?_
  intro p e s m args below meth c s₁ B hml hv
  obtain ⟨rfl, hsz, hP, hK, hD0, hR, hw⟩ := hv
  subst hsz
  have hl := lv_entry [.ref wq, .int p0, .long p1, .int p2] (n := 7) (Nat.le_of_ble_eq_true rfl)
  rw [lg_entry_eq]
  generalize (lg_sl [.ref wq, .int p0, .long p1, .int p2] ++ List.replicate (7 - (lg_sl [.ref wq, .int p0, .long p1, .int p2]).length) Slot.unset).toArray = ls at hl ⊢
  refine w_Re_go (A := va_A (reW K wq q1 wHead wTail) s.heap.size) (H0 := s.heap) B.exec B.bytes hml (fun w hw => atoms_spec (ws := w0_Re_go) B.pre w (List.mem_cons_of_mem _ hw)) (findClass_of_methodNamed B.named) hK (fun _ _ hS => ro_of hR hw hS) hw (Nat.le_refl _) (Nat.le_refl _) (Nat.zero_le _) (Nat.zero_le _) (fun q h => Or.inr h) (fun r er pc ls H locs hd hP hD hS => ?_) hf ls hP (hD0.self (sz := s.heap.size)) va_S.rf hl
  subst er
  exact W.vret B.exec B.bytes B.returns (fun t ht hW => ⟨⟨rfl, by rw [ht]; exact hP, va_K.moved hW.alike hK, hD⟩, hS.F ht⟩) hS.2.2 hd (hlocks := B.notSynchronized)
end
