abbrev b_Wy_init : ByteArray := prog_11_method_1_code
def y_Wy_init : MethodName := ⟨"RegularSolver$Way", "<init>", "()V"⟩
abbrev w0_Wy_init : List Cond := Cond.code y_Wy_init b_Wy_init 1 none :: gW
theorem cd_Wy_init : Cond.code y_Wy_init b_Wy_init 1 none ∈ gW := gm 282 (by decide +kernel) (by decide +kernel)
theorem d_Wy_init_0 : decode b_Wy_init 0 = .ok (.aload_n 0, 1) := by decide +kernel
theorem d_Wy_init_1 : decode b_Wy_init 1 = .ok (.invokespecial 1, 3) := by decide +kernel
theorem d_Wy_init_4 : decode b_Wy_init 4 = .ok (.aload_n 0, 1) := by decide +kernel
theorem d_Wy_init_5 : decode b_Wy_init 5 = .ok (.iconst 0, 1) := by decide +kernel
theorem d_Wy_init_6 : decode b_Wy_init 6 = .ok (.putfield 7, 3) := by decide +kernel
theorem d_Wy_init_9 : decode b_Wy_init 9 = .ok (.aload_n 0, 1) := by decide +kernel
theorem d_Wy_init_10 : decode b_Wy_init 10 = .ok (.lconst 0, 1) := by decide +kernel
theorem d_Wy_init_11 : decode b_Wy_init 11 = .ok (.putfield 13, 3) := by decide +kernel
theorem d_Wy_init_14 : decode b_Wy_init 14 = .ok (.return_, 1) := by decide +kernel
abbrev b_Br_init : ByteArray := prog_3_method_1_code
def y_Br_init : MethodName := ⟨"RegularSolver$Brief", "<init>", "(II)V"⟩
abbrev w0_Br_init : List Cond := Cond.code y_Br_init b_Br_init 3 none :: gW
theorem cd_Br_init : Cond.code y_Br_init b_Br_init 3 none ∈ gW := gm 279 (by decide +kernel) (by decide +kernel)
theorem d_Br_init_0 : decode b_Br_init 0 = .ok (.aload_n 0, 1) := by decide +kernel
theorem d_Br_init_1 : decode b_Br_init 1 = .ok (.invokespecial 1, 3) := by decide +kernel
theorem d_Br_init_4 : decode b_Br_init 4 = .ok (.aload_n 0, 1) := by decide +kernel
theorem d_Br_init_5 : decode b_Br_init 5 = .ok (.iload_n 1, 1) := by decide +kernel
theorem d_Br_init_6 : decode b_Br_init 6 = .ok (.putfield 7, 3) := by decide +kernel
theorem d_Br_init_9 : decode b_Br_init 9 = .ok (.aload_n 0, 1) := by decide +kernel
theorem d_Br_init_10 : decode b_Br_init 10 = .ok (.iload_n 2, 1) := by decide +kernel
theorem d_Br_init_11 : decode b_Br_init 11 = .ok (.putfield 13, 3) := by decide +kernel
theorem d_Br_init_14 : decode b_Br_init 14 = .ok (.return_, 1) := by decide +kernel
abbrev b_Ch_init : ByteArray := prog_4_method_1_code
def y_Ch_init : MethodName := ⟨"RegularSolver$Chain", "<init>", "(LRegularSolver$Automaton;LRegularSolver$Automaton;)V"⟩
abbrev w0_Ch_init : List Cond := Cond.code y_Ch_init b_Ch_init 3 none :: gW
theorem cd_Ch_init : Cond.code y_Ch_init b_Ch_init 3 none ∈ gW := gm 505 (by decide +kernel) (by decide +kernel)
theorem d_Ch_init_0 : decode b_Ch_init 0 = .ok (.aload_n 0, 1) := by decide +kernel
theorem d_Ch_init_1 : decode b_Ch_init 1 = .ok (.invokespecial 1, 3) := by decide +kernel
theorem d_Ch_init_4 : decode b_Ch_init 4 = .ok (.aload_n 0, 1) := by decide +kernel
theorem d_Ch_init_5 : decode b_Ch_init 5 = .ok (.aload_n 1, 1) := by decide +kernel
theorem d_Ch_init_6 : decode b_Ch_init 6 = .ok (.putfield 7, 3) := by decide +kernel
theorem d_Ch_init_9 : decode b_Ch_init 9 = .ok (.aload_n 0, 1) := by decide +kernel
theorem d_Ch_init_10 : decode b_Ch_init 10 = .ok (.aload_n 2, 1) := by decide +kernel
theorem d_Ch_init_11 : decode b_Ch_init 11 = .ok (.putfield 13, 3) := by decide +kernel
theorem d_Ch_init_14 : decode b_Ch_init 14 = .ok (.return_, 1) := by decide +kernel
abbrev b_Pa_init : ByteArray := prog_8_method_1_code
def y_Pa_init : MethodName := ⟨"RegularSolver$Pairs", "<init>", "(LRegularSolver$Automaton;LRegularSolver$Automaton;Z)V"⟩
abbrev w0_Pa_init : List Cond := Cond.code y_Pa_init b_Pa_init 4 none :: gW
theorem cd_Pa_init : Cond.code y_Pa_init b_Pa_init 4 none ∈ gW := gm 527 (by decide +kernel) (by decide +kernel)
theorem d_Pa_init_0 : decode b_Pa_init 0 = .ok (.aload_n 0, 1) := by decide +kernel
theorem d_Pa_init_1 : decode b_Pa_init 1 = .ok (.invokespecial 1, 3) := by decide +kernel
theorem d_Pa_init_4 : decode b_Pa_init 4 = .ok (.aload_n 0, 1) := by decide +kernel
theorem d_Pa_init_5 : decode b_Pa_init 5 = .ok (.aload_n 1, 1) := by decide +kernel
theorem d_Pa_init_6 : decode b_Pa_init 6 = .ok (.putfield 7, 3) := by decide +kernel
theorem d_Pa_init_9 : decode b_Pa_init 9 = .ok (.aload_n 0, 1) := by decide +kernel
theorem d_Pa_init_10 : decode b_Pa_init 10 = .ok (.aload_n 2, 1) := by decide +kernel
theorem d_Pa_init_11 : decode b_Pa_init 11 = .ok (.putfield 13, 3) := by decide +kernel
theorem d_Pa_init_14 : decode b_Pa_init 14 = .ok (.aload_n 0, 1) := by decide +kernel
theorem d_Pa_init_15 : decode b_Pa_init 15 = .ok (.iload_n 3, 1) := by decide +kernel
theorem d_Pa_init_16 : decode b_Pa_init 16 = .ok (.putfield 16, 3) := by decide +kernel
theorem d_Pa_init_19 : decode b_Pa_init 19 = .ok (.return_, 1) := by decide +kernel
abbrev b_Re_init : ByteArray := prog_9_method_1_code
def y_Re_init : MethodName := ⟨"RegularSolver$Repeat", "<init>", "(LRegularSolver$Automaton;)V"⟩
abbrev w0_Re_init : List Cond := Cond.code y_Re_init b_Re_init 2 none :: gW
theorem cd_Re_init : Cond.code y_Re_init b_Re_init 2 none ∈ gW := gm 573 (by decide +kernel) (by decide +kernel)
theorem d_Re_init_0 : decode b_Re_init 0 = .ok (.aload_n 0, 1) := by decide +kernel
theorem d_Re_init_1 : decode b_Re_init 1 = .ok (.invokespecial 1, 3) := by decide +kernel
theorem d_Re_init_4 : decode b_Re_init 4 = .ok (.aload_n 0, 1) := by decide +kernel
theorem d_Re_init_5 : decode b_Re_init 5 = .ok (.aload_n 1, 1) := by decide +kernel
theorem d_Re_init_6 : decode b_Re_init 6 = .ok (.putfield 7, 3) := by decide +kernel
theorem d_Re_init_9 : decode b_Re_init 9 = .ok (.return_, 1) := by decide +kernel
abbrev b_Se_init : ByteArray := prog_10_method_1_code
def y_Se_init : MethodName := ⟨"RegularSolver$Search", "<init>", "()V"⟩
abbrev w0_Se_init : List Cond := Cond.code y_Se_init b_Se_init 1 none :: gW
theorem cd_Se_init : Cond.code y_Se_init b_Se_init 1 none ∈ gW := gm 105 (by decide +kernel) (by decide +kernel)
theorem d_Se_init_0 : decode b_Se_init 0 = .ok (.aload_n 0, 1) := by decide +kernel
theorem d_Se_init_1 : decode b_Se_init 1 = .ok (.invokespecial 3, 3) := by decide +kernel
theorem d_Se_init_4 : decode b_Se_init 4 = .ok (.aload_n 0, 1) := by decide +kernel
theorem d_Se_init_5 : decode b_Se_init 5 = .ok (.iconst 4, 1) := by decide +kernel
theorem d_Se_init_6 : decode b_Se_init 6 = .ok (.anewarray 9, 3) := by decide +kernel
theorem d_Se_init_9 : decode b_Se_init 9 = .ok (.putfield 11, 3) := by decide +kernel
theorem d_Se_init_12 : decode b_Se_init 12 = .ok (.aload_n 0, 1) := by decide +kernel
theorem d_Se_init_13 : decode b_Se_init 13 = .ok (.bipush 8, 2) := by decide +kernel
theorem d_Se_init_15 : decode b_Se_init 15 = .ok (.iconst 4, 1) := by decide +kernel
theorem d_Se_init_16 : decode b_Se_init 16 = .ok (.multianewarray 17 2, 4) := by decide +kernel
theorem d_Se_init_20 : decode b_Se_init 20 = .ok (.putfield 19, 3) := by decide +kernel
theorem d_Se_init_23 : decode b_Se_init 23 = .ok (.aload_n 0, 1) := by decide +kernel
theorem d_Se_init_24 : decode b_Se_init 24 = .ok (.bipush 8, 2) := by decide +kernel
theorem d_Se_init_26 : decode b_Se_init 26 = .ok (.newarray .int, 2) := by decide +kernel
theorem d_Se_init_28 : decode b_Se_init 28 = .ok (.putfield 22, 3) := by decide +kernel
theorem d_Se_init_31 : decode b_Se_init 31 = .ok (.aload_n 0, 1) := by decide +kernel
theorem d_Se_init_32 : decode b_Se_init 32 = .ok (.bipush 8, 2) := by decide +kernel
theorem d_Se_init_34 : decode b_Se_init 34 = .ok (.newarray .int, 2) := by decide +kernel
theorem d_Se_init_36 : decode b_Se_init 36 = .ok (.putfield 26, 3) := by decide +kernel
theorem d_Se_init_39 : decode b_Se_init 39 = .ok (.aload_n 0, 1) := by decide +kernel
theorem d_Se_init_40 : decode b_Se_init 40 = .ok (.iconst 0, 1) := by decide +kernel
theorem d_Se_init_41 : decode b_Se_init 41 = .ok (.putfield 29, 3) := by decide +kernel
theorem d_Se_init_44 : decode b_Se_init 44 = .ok (.aload_n 0, 1) := by decide +kernel
theorem d_Se_init_45 : decode b_Se_init 45 = .ok (.iconst 4, 1) := by decide +kernel
theorem d_Se_init_46 : decode b_Se_init 46 = .ok (.newarray .long, 2) := by decide +kernel
theorem d_Se_init_48 : decode b_Se_init 48 = .ok (.putfield 33, 3) := by decide +kernel
theorem d_Se_init_51 : decode b_Se_init 51 = .ok (.aload_n 0, 1) := by decide +kernel
theorem d_Se_init_52 : decode b_Se_init 52 = .ok (.bipush 8, 2) := by decide +kernel
theorem d_Se_init_54 : decode b_Se_init 54 = .ok (.iconst 5, 1) := by decide +kernel
theorem d_Se_init_55 : decode b_Se_init 55 = .ok (.multianewarray 17 2, 4) := by decide +kernel
theorem d_Se_init_59 : decode b_Se_init 59 = .ok (.putfield 37, 3) := by decide +kernel
theorem d_Se_init_62 : decode b_Se_init 62 = .ok (.aload_n 0, 1) := by decide +kernel
theorem d_Se_init_63 : decode b_Se_init 63 = .ok (.bipush 8, 2) := by decide +kernel
theorem d_Se_init_65 : decode b_Se_init 65 = .ok (.iconst 5, 1) := by decide +kernel
theorem d_Se_init_66 : decode b_Se_init 66 = .ok (.multianewarray 17 2, 4) := by decide +kernel
theorem d_Se_init_70 : decode b_Se_init 70 = .ok (.putfield 40, 3) := by decide +kernel
theorem d_Se_init_73 : decode b_Se_init 73 = .ok (.aload_n 0, 1) := by decide +kernel
theorem d_Se_init_74 : decode b_Se_init 74 = .ok (.iconst 4, 1) := by decide +kernel
theorem d_Se_init_75 : decode b_Se_init 75 = .ok (.newarray .int, 2) := by decide +kernel
theorem d_Se_init_77 : decode b_Se_init 77 = .ok (.putfield 43, 3) := by decide +kernel
theorem d_Se_init_80 : decode b_Se_init 80 = .ok (.aload_n 0, 1) := by decide +kernel
theorem d_Se_init_81 : decode b_Se_init 81 = .ok (.iconst 0, 1) := by decide +kernel
theorem d_Se_init_82 : decode b_Se_init 82 = .ok (.putfield 46, 3) := by decide +kernel
theorem d_Se_init_85 : decode b_Se_init 85 = .ok (.aload_n 0, 1) := by decide +kernel
theorem d_Se_init_86 : decode b_Se_init 86 = .ok (.iconst 4, 1) := by decide +kernel
theorem d_Se_init_87 : decode b_Se_init 87 = .ok (.newarray .int, 2) := by decide +kernel
theorem d_Se_init_89 : decode b_Se_init 89 = .ok (.putfield 50, 3) := by decide +kernel
theorem d_Se_init_92 : decode b_Se_init 92 = .ok (.aload_n 0, 1) := by decide +kernel
theorem d_Se_init_93 : decode b_Se_init 93 = .ok (.iconst 4, 1) := by decide +kernel
theorem d_Se_init_94 : decode b_Se_init 94 = .ok (.newarray .long, 2) := by decide +kernel
theorem d_Se_init_96 : decode b_Se_init 96 = .ok (.putfield 53, 3) := by decide +kernel
theorem d_Se_init_99 : decode b_Se_init 99 = .ok (.return_, 1) := by decide +kernel
theorem pd_Wy_init : y_Wy_init.cls ≠ "java/lang/invoke/MethodHandle" ∧ y_Wy_init.cls ≠ "java/lang/invoke/VarHandle" ∧ (parseMethodDescriptor y_Wy_init.desc).map (fun d => d.parameters.length) = some 0 := by decide +kernel
theorem pd_Br_init : y_Br_init.cls ≠ "java/lang/invoke/MethodHandle" ∧ y_Br_init.cls ≠ "java/lang/invoke/VarHandle" ∧ (parseMethodDescriptor y_Br_init.desc).map (fun d => d.parameters.length) = some 2 := by decide +kernel
theorem pd_Ch_init : y_Ch_init.cls ≠ "java/lang/invoke/MethodHandle" ∧ y_Ch_init.cls ≠ "java/lang/invoke/VarHandle" ∧ (parseMethodDescriptor y_Ch_init.desc).map (fun d => d.parameters.length) = some 2 := by decide +kernel
theorem pd_Pa_init : y_Pa_init.cls ≠ "java/lang/invoke/MethodHandle" ∧ y_Pa_init.cls ≠ "java/lang/invoke/VarHandle" ∧ (parseMethodDescriptor y_Pa_init.desc).map (fun d => d.parameters.length) = some 3 := by decide +kernel
theorem pd_Re_init : y_Re_init.cls ≠ "java/lang/invoke/MethodHandle" ∧ y_Re_init.cls ≠ "java/lang/invoke/VarHandle" ∧ (parseMethodDescriptor y_Re_init.desc).map (fun d => d.parameters.length) = some 1 := by decide +kernel
theorem pd_Se_init : y_Se_init.cls ≠ "java/lang/invoke/MethodHandle" ∧ y_Se_init.cls ≠ "java/lang/invoke/VarHandle" ∧ (parseMethodDescriptor y_Se_init.desc).map (fun d => d.parameters.length) = some 0 := by decide +kernel
theorem ml_Wy_1 : (Cond.methodLink "RegularSolver$Way" 1 ({ cls := "java/lang/Object", name := "<init>", desc := "()V" } : MethodName)) ∈ gW := gm 283 (by decide +kernel) (by decide +kernel)
theorem fl_Wy_7 : (Cond.fieldLink "RegularSolver$Way" 7 "RegularSolver$Way" "head" "I") ∈ gW := gm 286 (by decide +kernel) (by decide +kernel)
theorem fl_Wy_13 : (Cond.fieldLink "RegularSolver$Way" 13 "RegularSolver$Way" "tail" "J") ∈ gW := gm 294 (by decide +kernel) (by decide +kernel)
theorem im_Wy_init : (Cond.instanceMethod ({ cls := "RegularSolver$Way", name := "<init>", desc := "()V" } : MethodName)) ∈ gW := gm 281 (by decide +kernel) (by decide +kernel)
theorem ini_Wy : (Cond.initialized "RegularSolver$Way") ∈ gW := gm 12 (by decide +kernel) (by decide +kernel)
theorem ml_Se_3 : (Cond.methodLink "RegularSolver$Search" 3 ({ cls := "java/lang/Object", name := "<init>", desc := "()V" } : MethodName)) ∈ gW := gm 106 (by decide +kernel) (by decide +kernel)
theorem cl_Se_9 : (Cond.classLink "RegularSolver$Search" 9 "RegularSolver$Automaton") ∈ gW := gm 107 (by decide +kernel) (by decide +kernel)
theorem cl_Se_17 : (Cond.classLink "RegularSolver$Search" 17 "[[I") ∈ gW := gm 108 (by decide +kernel) (by decide +kernel)
set_option maxHeartbeats 200000 in
set_option maxRecDepth 100000 in
theorem c_Wy_init_Br (l : Launch) {D : va_G} {K : Nat → ClassId} {wq : Nat} (sz : Nat)  : Met l y_Wy_init w0_Wy_init ({ frames := 1, cells := 0, slots := 0, locals := 12 }) (wPre D K [.ref wq] [(wq, .inr (2, [.int 0, .long 0, .int 0, .int 0]))] sz) (wPostG D K (fun _ : Unit => none) (fun g => [(wq, .inr (2, [.int 0, .long 0, .int 0, .int 0]))]) (va_A [(wq, .inr (2, [.int 0, .long 0, .int 0, .int 0]))] sz)) 0 0 (va_A [(wq, .inr (2, [.int 0, .long 0, .int 0, .int 0]))] sz) := by
  refine Met.ofW (cc := b_Wy_init) (maxL := 1) (ret := none) (by decide) rfl ?_
  intro p e s m args below meth c s₁ B hml hv
  obtain ⟨rfl, hsz, hP, hK, hD0⟩ := hv
  subst hsz
  have hx := B.exec
  have hb := B.bytes
  have hts : ∀ w ∈ gW, w.before _ s = true := fun w hw => atoms_spec (ws := w0_Wy_init) B.pre w (List.mem_cons_of_mem _ hw)
  have hown : s.vm.findClass "RegularSolver$Way" = some m.cls := findClass_of_methodNamed B.named
  have hin : meth.name = "<init>" := (name_of_methodNamed B.named B.method).1
  have hD := hD0.self (sz := s.heap.size)
  generalize hAe : va_A [(wq, .inr (2, [.int 0, .long 0, .int 0, .int 0]))] s.heap.size = A at hD ⊢
  have hA : ∀ q : Nat, s.heap.size ≤ q → A q := fun q h => by rw [← hAe]; exact Or.inr h
  have hS : va_S A s.heap s.heap [] := va_S.rf
  have hl := lv_entry [.ref wq] (n := 1) (Nat.le_of_ble_eq_true rfl)
  rw [lg_entry_eq]
  generalize (lg_sl [.ref wq] ++ List.replicate (1 - (lg_sl [.ref wq]).length) Slot.unset).toArray = ls at hl ⊢
  refine lv_aload_n hx hb d_Wy_init_0 rfl (lv_at hl 0 rfl) ?_
  refine W.objInit hx hb hown (hts _ ml_Wy_1) (hts _ im_Ob_init) (hts _ cdo_Ob_init) rfl (by rw [hml]; exact hl.1) rfl d_Wy_init_1 (Nat.le_of_ble_eq_true rfl) (Nat.le_of_ble_eq_true rfl) ?_
  refine W.eq (g2 := F0 m 4 ls []) rfl ?_
  refine lv_aload_n hx hb d_Wy_init_4 rfl (lv_at hl 0 rfl) ?_
  refine lv_iconst (v := 0) hx hb d_Wy_init_5 (by decide) ?_
  refine va_put (D := D) (ci := 2) (v := .int 0) (ty := .int) (C := R_Br) (T := T_Br) (N := 4) hx hb hts in_Br t_Br t_Br_ok n_Br hown hK hP hD hS 0 rfl rfl 0 (by decide) (hts _ fl_Wy_7) (fun _ h9 => h9) rfl (by decide +kernel) rfl rfl (Nat.le_of_ble_eq_true rfl) d_Wy_init_6 (fun H locs hP hD hS => ?_)
  have hP : va_P D vwCl ([(wq, .inr (2, [.int 0, .long 0, .int 0, .int 0]))] : va_W) H := hP
  have hD : va_D A ([(wq, .inr (2, [.int 0, .long 0, .int 0, .int 0]))] : va_W) := hD
  refine lv_aload_n hx hb d_Wy_init_9 rfl (lv_at hl 0 rfl) ?_
  refine lv_lconst (v := 0) hx hb d_Wy_init_10 (by decide) ?_
  refine va_put (D := D) (ci := 2) (v := .long 0) (ty := .long) (C := R_Br) (T := T_Br) (N := 4) hx hb hts in_Br t_Br t_Br_ok n_Br hown hK hP hD hS 0 rfl rfl 1 (by decide) (hts _ fl_Wy_13) (fun _ h9 => h9) rfl (by decide +kernel) rfl rfl (Nat.le_of_ble_eq_true rfl) d_Wy_init_11 (fun H locs hP hD hS => ?_)
  have hP : va_P D vwCl ([(wq, .inr (2, [.int 0, .long 0, .int 0, .int 0]))] : va_W) H := hP
  have hD : va_D A ([(wq, .inr (2, [.int 0, .long 0, .int 0, .int 0]))] : va_W) := hD
  refine W.widen (k := 0) (n := 0) (by decide) (by decide) ?_
  exact W.vret hx hb B.returns (fun t ht hW => ⟨⟨(), rfl, by rw [ht]; exact hP, va_K.moved hW.alike hK, hD⟩, hS.F ht⟩) hS.2.2 d_Wy_init_14 (hlocks := B.notSynchronized)
set_option maxHeartbeats 200000 in
set_option maxRecDepth 100000 in
theorem c_Wy_init_Ch (l : Launch) {D : va_G} {K : Nat → ClassId} {wq : Nat} (sz : Nat)  : Met l y_Wy_init w0_Wy_init ({ frames := 1, cells := 0, slots := 0, locals := 12 }) (wPre D K [.ref wq] [(wq, .inr (3, [.int 0, .long 0, .null, .null]))] sz) (wPostG D K (fun _ : Unit => none) (fun g => [(wq, .inr (3, [.int 0, .long 0, .null, .null]))]) (va_A [(wq, .inr (3, [.int 0, .long 0, .null, .null]))] sz)) 0 0 (va_A [(wq, .inr (3, [.int 0, .long 0, .null, .null]))] sz) := by
  refine Met.ofW (cc := b_Wy_init) (maxL := 1) (ret := none) (by decide) rfl ?_
  intro p e s m args below meth c s₁ B hml hv
  obtain ⟨rfl, hsz, hP, hK, hD0⟩ := hv
  subst hsz
  have hx := B.exec
  have hb := B.bytes
  have hts : ∀ w ∈ gW, w.before _ s = true := fun w hw => atoms_spec (ws := w0_Wy_init) B.pre w (List.mem_cons_of_mem _ hw)
  have hown : s.vm.findClass "RegularSolver$Way" = some m.cls := findClass_of_methodNamed B.named
  have hin : meth.name = "<init>" := (name_of_methodNamed B.named B.method).1
  have hD := hD0.self (sz := s.heap.size)
  generalize hAe : va_A [(wq, .inr (3, [.int 0, .long 0, .null, .null]))] s.heap.size = A at hD ⊢
  have hA : ∀ q : Nat, s.heap.size ≤ q → A q := fun q h => by rw [← hAe]; exact Or.inr h
  have hS : va_S A s.heap s.heap [] := va_S.rf
  have hl := lv_entry [.ref wq] (n := 1) (Nat.le_of_ble_eq_true rfl)
  rw [lg_entry_eq]
  generalize (lg_sl [.ref wq] ++ List.replicate (1 - (lg_sl [.ref wq]).length) Slot.unset).toArray = ls at hl ⊢
  refine lv_aload_n hx hb d_Wy_init_0 rfl (lv_at hl 0 rfl) ?_
  refine W.objInit hx hb hown (hts _ ml_Wy_1) (hts _ im_Ob_init) (hts _ cdo_Ob_init) rfl (by rw [hml]; exact hl.1) rfl d_Wy_init_1 (Nat.le_of_ble_eq_true rfl) (Nat.le_of_ble_eq_true rfl) ?_
  refine W.eq (g2 := F0 m 4 ls []) rfl ?_
  refine lv_aload_n hx hb d_Wy_init_4 rfl (lv_at hl 0 rfl) ?_
  refine lv_iconst (v := 0) hx hb d_Wy_init_5 (by decide) ?_
  refine va_put (D := D) (ci := 3) (v := .int 0) (ty := .int) (C := R_Ch) (T := T_Ch) (N := 4) hx hb hts in_Ch t_Ch t_Ch_ok n_Ch hown hK hP hD hS 0 rfl rfl 0 (by decide) (hts _ fl_Wy_7) (fun _ h9 => h9) rfl (by decide +kernel) rfl rfl (Nat.le_of_ble_eq_true rfl) d_Wy_init_6 (fun H locs hP hD hS => ?_)
  have hP : va_P D vwCl ([(wq, .inr (3, [.int 0, .long 0, .null, .null]))] : va_W) H := hP
  have hD : va_D A ([(wq, .inr (3, [.int 0, .long 0, .null, .null]))] : va_W) := hD
  refine lv_aload_n hx hb d_Wy_init_9 rfl (lv_at hl 0 rfl) ?_
  refine lv_lconst (v := 0) hx hb d_Wy_init_10 (by decide) ?_
  refine va_put (D := D) (ci := 3) (v := .long 0) (ty := .long) (C := R_Ch) (T := T_Ch) (N := 4) hx hb hts in_Ch t_Ch t_Ch_ok n_Ch hown hK hP hD hS 0 rfl rfl 1 (by decide) (hts _ fl_Wy_13) (fun _ h9 => h9) rfl (by decide +kernel) rfl rfl (Nat.le_of_ble_eq_true rfl) d_Wy_init_11 (fun H locs hP hD hS => ?_)
  have hP : va_P D vwCl ([(wq, .inr (3, [.int 0, .long 0, .null, .null]))] : va_W) H := hP
  have hD : va_D A ([(wq, .inr (3, [.int 0, .long 0, .null, .null]))] : va_W) := hD
  refine W.widen (k := 0) (n := 0) (by decide) (by decide) ?_
  exact W.vret hx hb B.returns (fun t ht hW => ⟨⟨(), rfl, by rw [ht]; exact hP, va_K.moved hW.alike hK, hD⟩, hS.F ht⟩) hS.2.2 d_Wy_init_14 (hlocks := B.notSynchronized)
set_option maxHeartbeats 200000 in
set_option maxRecDepth 100000 in
theorem c_Wy_init_Pa (l : Launch) {D : va_G} {K : Nat → ClassId} {wq : Nat} (sz : Nat)  : Met l y_Wy_init w0_Wy_init ({ frames := 1, cells := 0, slots := 0, locals := 12 }) (wPre D K [.ref wq] [(wq, .inr (4, [.int 0, .long 0, .null, .null, .int (bI false)]))] sz) (wPostG D K (fun _ : Unit => none) (fun g => [(wq, .inr (4, [.int 0, .long 0, .null, .null, .int (bI false)]))]) (va_A [(wq, .inr (4, [.int 0, .long 0, .null, .null, .int (bI false)]))] sz)) 0 0 (va_A [(wq, .inr (4, [.int 0, .long 0, .null, .null, .int (bI false)]))] sz) := by
  refine Met.ofW (cc := b_Wy_init) (maxL := 1) (ret := none) (by decide) rfl ?_
  intro p e s m args below meth c s₁ B hml hv
  obtain ⟨rfl, hsz, hP, hK, hD0⟩ := hv
  subst hsz
  have hx := B.exec
  have hb := B.bytes
  have hts : ∀ w ∈ gW, w.before _ s = true := fun w hw => atoms_spec (ws := w0_Wy_init) B.pre w (List.mem_cons_of_mem _ hw)
  have hown : s.vm.findClass "RegularSolver$Way" = some m.cls := findClass_of_methodNamed B.named
  have hin : meth.name = "<init>" := (name_of_methodNamed B.named B.method).1
  have hD := hD0.self (sz := s.heap.size)
  generalize hAe : va_A [(wq, .inr (4, [.int 0, .long 0, .null, .null, .int (bI false)]))] s.heap.size = A at hD ⊢
  have hA : ∀ q : Nat, s.heap.size ≤ q → A q := fun q h => by rw [← hAe]; exact Or.inr h
  have hS : va_S A s.heap s.heap [] := va_S.rf
  have hl := lv_entry [.ref wq] (n := 1) (Nat.le_of_ble_eq_true rfl)
  rw [lg_entry_eq]
  generalize (lg_sl [.ref wq] ++ List.replicate (1 - (lg_sl [.ref wq]).length) Slot.unset).toArray = ls at hl ⊢
  refine lv_aload_n hx hb d_Wy_init_0 rfl (lv_at hl 0 rfl) ?_
  refine W.objInit hx hb hown (hts _ ml_Wy_1) (hts _ im_Ob_init) (hts _ cdo_Ob_init) rfl (by rw [hml]; exact hl.1) rfl d_Wy_init_1 (Nat.le_of_ble_eq_true rfl) (Nat.le_of_ble_eq_true rfl) ?_
  refine W.eq (g2 := F0 m 4 ls []) rfl ?_
  refine lv_aload_n hx hb d_Wy_init_4 rfl (lv_at hl 0 rfl) ?_
  refine lv_iconst (v := 0) hx hb d_Wy_init_5 (by decide) ?_
  refine va_put (D := D) (ci := 4) (v := .int 0) (ty := .int) (C := R_Pa) (T := T_Pa) (N := 5) hx hb hts in_Pa t_Pa t_Pa_ok n_Pa hown hK hP hD hS 0 rfl rfl 0 (by decide) (hts _ fl_Wy_7) (fun _ h9 => h9) rfl (by decide +kernel) rfl rfl (Nat.le_of_ble_eq_true rfl) d_Wy_init_6 (fun H locs hP hD hS => ?_)
  have hP : va_P D vwCl ([(wq, .inr (4, [.int 0, .long 0, .null, .null, .int (bI false)]))] : va_W) H := hP
  have hD : va_D A ([(wq, .inr (4, [.int 0, .long 0, .null, .null, .int (bI false)]))] : va_W) := hD
  refine lv_aload_n hx hb d_Wy_init_9 rfl (lv_at hl 0 rfl) ?_
  refine lv_lconst (v := 0) hx hb d_Wy_init_10 (by decide) ?_
  refine va_put (D := D) (ci := 4) (v := .long 0) (ty := .long) (C := R_Pa) (T := T_Pa) (N := 5) hx hb hts in_Pa t_Pa t_Pa_ok n_Pa hown hK hP hD hS 0 rfl rfl 1 (by decide) (hts _ fl_Wy_13) (fun _ h9 => h9) rfl (by decide +kernel) rfl rfl (Nat.le_of_ble_eq_true rfl) d_Wy_init_11 (fun H locs hP hD hS => ?_)
  have hP : va_P D vwCl ([(wq, .inr (4, [.int 0, .long 0, .null, .null, .int (bI false)]))] : va_W) H := hP
  have hD : va_D A ([(wq, .inr (4, [.int 0, .long 0, .null, .null, .int (bI false)]))] : va_W) := hD
  refine W.widen (k := 0) (n := 0) (by decide) (by decide) ?_
  exact W.vret hx hb B.returns (fun t ht hW => ⟨⟨(), rfl, by rw [ht]; exact hP, va_K.moved hW.alike hK, hD⟩, hS.F ht⟩) hS.2.2 d_Wy_init_14 (hlocks := B.notSynchronized)
set_option maxHeartbeats 200000 in
set_option maxRecDepth 100000 in
theorem c_Wy_init_Re (l : Launch) {D : va_G} {K : Nat → ClassId} {wq : Nat} (sz : Nat)  : Met l y_Wy_init w0_Wy_init ({ frames := 1, cells := 0, slots := 0, locals := 12 }) (wPre D K [.ref wq] [(wq, .inr (5, [.int 0, .long 0, .null]))] sz) (wPostG D K (fun _ : Unit => none) (fun g => [(wq, .inr (5, [.int 0, .long 0, .null]))]) (va_A [(wq, .inr (5, [.int 0, .long 0, .null]))] sz)) 0 0 (va_A [(wq, .inr (5, [.int 0, .long 0, .null]))] sz) := by
  refine Met.ofW (cc := b_Wy_init) (maxL := 1) (ret := none) (by decide) rfl ?_
  intro p e s m args below meth c s₁ B hml hv
  obtain ⟨rfl, hsz, hP, hK, hD0⟩ := hv
  subst hsz
  have hx := B.exec
  have hb := B.bytes
  have hts : ∀ w ∈ gW, w.before _ s = true := fun w hw => atoms_spec (ws := w0_Wy_init) B.pre w (List.mem_cons_of_mem _ hw)
  have hown : s.vm.findClass "RegularSolver$Way" = some m.cls := findClass_of_methodNamed B.named
  have hin : meth.name = "<init>" := (name_of_methodNamed B.named B.method).1
  have hD := hD0.self (sz := s.heap.size)
  generalize hAe : va_A [(wq, .inr (5, [.int 0, .long 0, .null]))] s.heap.size = A at hD ⊢
  have hA : ∀ q : Nat, s.heap.size ≤ q → A q := fun q h => by rw [← hAe]; exact Or.inr h
  have hS : va_S A s.heap s.heap [] := va_S.rf
  have hl := lv_entry [.ref wq] (n := 1) (Nat.le_of_ble_eq_true rfl)
  rw [lg_entry_eq]
  generalize (lg_sl [.ref wq] ++ List.replicate (1 - (lg_sl [.ref wq]).length) Slot.unset).toArray = ls at hl ⊢
  refine lv_aload_n hx hb d_Wy_init_0 rfl (lv_at hl 0 rfl) ?_
  refine W.objInit hx hb hown (hts _ ml_Wy_1) (hts _ im_Ob_init) (hts _ cdo_Ob_init) rfl (by rw [hml]; exact hl.1) rfl d_Wy_init_1 (Nat.le_of_ble_eq_true rfl) (Nat.le_of_ble_eq_true rfl) ?_
  refine W.eq (g2 := F0 m 4 ls []) rfl ?_
  refine lv_aload_n hx hb d_Wy_init_4 rfl (lv_at hl 0 rfl) ?_
  refine lv_iconst (v := 0) hx hb d_Wy_init_5 (by decide) ?_
  refine va_put (D := D) (ci := 5) (v := .int 0) (ty := .int) (C := R_Re) (T := T_Re) (N := 3) hx hb hts in_Re t_Re t_Re_ok n_Re hown hK hP hD hS 0 rfl rfl 0 (by decide) (hts _ fl_Wy_7) (fun _ h9 => h9) rfl (by decide +kernel) rfl rfl (Nat.le_of_ble_eq_true rfl) d_Wy_init_6 (fun H locs hP hD hS => ?_)
  have hP : va_P D vwCl ([(wq, .inr (5, [.int 0, .long 0, .null]))] : va_W) H := hP
  have hD : va_D A ([(wq, .inr (5, [.int 0, .long 0, .null]))] : va_W) := hD
  refine lv_aload_n hx hb d_Wy_init_9 rfl (lv_at hl 0 rfl) ?_
  refine lv_lconst (v := 0) hx hb d_Wy_init_10 (by decide) ?_
  refine va_put (D := D) (ci := 5) (v := .long 0) (ty := .long) (C := R_Re) (T := T_Re) (N := 3) hx hb hts in_Re t_Re t_Re_ok n_Re hown hK hP hD hS 0 rfl rfl 1 (by decide) (hts _ fl_Wy_13) (fun _ h9 => h9) rfl (by decide +kernel) rfl rfl (Nat.le_of_ble_eq_true rfl) d_Wy_init_11 (fun H locs hP hD hS => ?_)
  have hP : va_P D vwCl ([(wq, .inr (5, [.int 0, .long 0, .null]))] : va_W) H := hP
  have hD : va_D A ([(wq, .inr (5, [.int 0, .long 0, .null]))] : va_W) := hD
  refine W.widen (k := 0) (n := 0) (by decide) (by decide) ?_
  exact W.vret hx hb B.returns (fun t ht hW => ⟨⟨(), rfl, by rw [ht]; exact hP, va_K.moved hW.alike hK, hD⟩, hS.F ht⟩) hS.2.2 d_Wy_init_14 (hlocks := B.notSynchronized)
set_option maxHeartbeats 200000 in
set_option maxRecDepth 100000 in
theorem c_Br_init (l : Launch) {D : va_G} {K : Nat → ClassId} {wq : Nat} {bSet bEnd : Int32} (sz : Nat)  : Met l y_Br_init w0_Br_init ({ frames := 2, cells := 0, slots := 0, locals := 32 }) (withX (wPre D K [.ref wq, .int bSet, .int bEnd] [(wq, .inr (2, [.int 0, .long 0, .int 0, .int 0]))] sz)) (wPostG D K (fun _ : Unit => none) (fun g => brW K wq 0 0 bSet bEnd) (va_A [(wq, .inr (2, [.int 0, .long 0, .int 0, .int 0]))] sz)) 0 0 (va_A [(wq, .inr (2, [.int 0, .long 0, .int 0, .int 0]))] sz) := by
  refine Met.ofW (cc := b_Br_init) (maxL := 3) (ret := none) (by decide) rfl ?_
  intro p e s m args below meth c s₁ B hml hv
  obtain ⟨hv, hX⟩ := hv
  obtain ⟨rfl, hsz, hP, hK, hD0⟩ := hv
  subst hsz
  have hx := B.exec
  have hb := B.bytes
  have hts : ∀ w ∈ gW, w.before _ s = true := fun w hw => atoms_spec (ws := w0_Br_init) B.pre w (List.mem_cons_of_mem _ hw)
  have hown : s.vm.findClass "RegularSolver$Brief" = some m.cls := findClass_of_methodNamed B.named
  have hin : meth.name = "<init>" := (name_of_methodNamed B.named B.method).1
  have hD := hD0.self (sz := s.heap.size)
  generalize hAe : va_A [(wq, .inr (2, [.int 0, .long 0, .int 0, .int 0]))] s.heap.size = A at hD ⊢
  have hA : ∀ q : Nat, s.heap.size ≤ q → A q := fun q h => by rw [← hAe]; exact Or.inr h
  have hS : va_S A s.heap s.heap [] := va_S.rf
  have hl := lv_entry [.ref wq, .int bSet, .int bEnd] (n := 3) (Nat.le_of_ble_eq_true rfl)
  rw [lg_entry_eq]
  generalize (lg_sl [.ref wq, .int bSet, .int bEnd] ++ List.replicate (3 - (lg_sl [.ref wq, .int bSet, .int bEnd]).length) Slot.unset).toArray = ls at hl ⊢
  refine lv_aload_n hx hb d_Br_init_0 rfl (lv_at hl 0 rfl) ?_
  have hKc := hK
  have hP : va_P D vwCl ([] ++ [(wq, .inr (2, [.int 0, .long 0, .int 0, .int 0]))] : va_W) s.heap := hP
  have hD : va_D A ([] ++ [(wq, .inr (2, [.int 0, .long 0, .int 0, .int 0]))] : va_W) := hD
  refine w_callA (va_runIN (As := []) (rest := []) ⟨hx, hb, hml, hown, hts⟩ (c_Wy_init_Br l s.heap.size) ⟨va_cnB 0 hts (gW_g cd_Wy_init) rfl rfl rfl (hX.2.1 ("RegularSolver$Brief", 1, ⟨"RegularSolver$Way", "<init>", "()V"⟩) (by decide +kernel)) (hts _ ini_Wy) pd_Wy_init ⟨Nat.le_of_ble_eq_true rfl, Nat.le_of_ble_eq_true rfl⟩, rfl, hts _ im_Wy_init⟩ ⟨wPre_blind, wPre_of (vaR hP) hK (vdR hD)⟩ rfl rfl hl.1 rfl (lv_room (Nat.le_of_ble_eq_true rfl)) d_Br_init_1 ⟨(by decide : 0 + 0 ≤ 0), (by decide : 0 + 0 ≤ 0)⟩) (vdR hD) hS hA (fun g1 H1 locs hP1 hD1 hk1 hS1 => ?_)
  obtain ⟨hP, hD⟩ := va_keepL hP hD (va_sub (vdR hD) hS hA) hk1 hP1 hD1
  have hS := hS1
  generalize H1 = H at hP hS ⊢
  have hP : va_P D vwCl ([(wq, .inr (2, [.int 0, .long 0, .int 0, .int 0]))] : va_W) H := hP
  have hD : va_D A ([(wq, .inr (2, [.int 0, .long 0, .int 0, .int 0]))] : va_W) := hD
  refine W.widen (k := 0) (n := 0) (by decide) (by decide) ?_
  refine lv_aload_n hx hb d_Br_init_4 rfl (lv_at hl 0 rfl) ?_
  refine lv_iload_n hx hb d_Br_init_5 rfl (lv_at hl 1 rfl) ?_
  refine va_putF (D := D) (ci := 2) (v := .int bSet) (ty := .int) (C := R_Br) (T := T_Br) (N := 4) hx hb hts in_Br t_Br t_Br_ok n_Br hown hK hP hD hS 0 rfl rfl 2 (by decide) (hts _ fl_Br_7) (fun _ h9 => h9) rfl hin rfl (by decide +kernel) rfl rfl (Nat.le_of_ble_eq_true rfl) d_Br_init_6 (fun H locs hP hD hS => ?_)
  have hP : va_P D vwCl ([(wq, .inr (2, [.int 0, .long 0, .int bSet, .int 0]))] : va_W) H := hP
  have hD : va_D A ([(wq, .inr (2, [.int 0, .long 0, .int bSet, .int 0]))] : va_W) := hD
  refine lv_aload_n hx hb d_Br_init_9 rfl (lv_at hl 0 rfl) ?_
  refine lv_iload_n hx hb d_Br_init_10 rfl (lv_at hl 2 rfl) ?_
  refine va_putF (D := D) (ci := 2) (v := .int bEnd) (ty := .int) (C := R_Br) (T := T_Br) (N := 4) hx hb hts in_Br t_Br t_Br_ok n_Br hown hK hP hD hS 0 rfl rfl 3 (by decide) (hts _ fl_Br_13) (fun _ h9 => h9) rfl hin rfl (by decide +kernel) rfl rfl (Nat.le_of_ble_eq_true rfl) d_Br_init_11 (fun H locs hP hD hS => ?_)
  have hP : va_P D vwCl ([(wq, .inr (2, [.int 0, .long 0, .int bSet, .int bEnd]))] : va_W) H := hP
  have hD : va_D A ([(wq, .inr (2, [.int 0, .long 0, .int bSet, .int bEnd]))] : va_W) := hD
  refine W.widen (k := 0) (n := 0) (by decide) (by decide) ?_
  exact W.vret hx hb B.returns (fun t ht hW => ⟨⟨(), rfl, by rw [ht]; exact hP, va_K.moved hW.alike hK, hD⟩, hS.F ht⟩) hS.2.2 d_Br_init_14 (hlocks := B.notSynchronized)
set_option maxHeartbeats 200000 in
set_option maxRecDepth 100000 in
theorem c_Ch_init (l : Launch) {D : va_G} {K : Nat → ClassId} {wq q1 q2 : Nat} (sz : Nat)  : Met l y_Ch_init w0_Ch_init ({ frames := 2, cells := 0, slots := 0, locals := 32 }) (withX (wPre D K [.ref wq, .ref q1, .ref q2] [(wq, .inr (3, [.int 0, .long 0, .null, .null]))] sz)) (wPostG D K (fun _ : Unit => none) (fun g => chW K wq q1 q2 0 0) (va_A [(wq, .inr (3, [.int 0, .long 0, .null, .null]))] sz)) 0 0 (va_A [(wq, .inr (3, [.int 0, .long 0, .null, .null]))] sz) := by
  refine Met.ofW (cc := b_Ch_init) (maxL := 3) (ret := none) (by decide) rfl ?_
  intro p e s m args below meth c s₁ B hml hv
  obtain ⟨hv, hX⟩ := hv
  obtain ⟨rfl, hsz, hP, hK, hD0⟩ := hv
  subst hsz
  have hx := B.exec
  have hb := B.bytes
  have hts : ∀ w ∈ gW, w.before _ s = true := fun w hw => atoms_spec (ws := w0_Ch_init) B.pre w (List.mem_cons_of_mem _ hw)
  have hown : s.vm.findClass "RegularSolver$Chain" = some m.cls := findClass_of_methodNamed B.named
  have hin : meth.name = "<init>" := (name_of_methodNamed B.named B.method).1
  have hD := hD0.self (sz := s.heap.size)
  generalize hAe : va_A [(wq, .inr (3, [.int 0, .long 0, .null, .null]))] s.heap.size = A at hD ⊢
  have hA : ∀ q : Nat, s.heap.size ≤ q → A q := fun q h => by rw [← hAe]; exact Or.inr h
  have hS : va_S A s.heap s.heap [] := va_S.rf
  have hl := lv_entry [.ref wq, .ref q1, .ref q2] (n := 3) (Nat.le_of_ble_eq_true rfl)
  rw [lg_entry_eq]
  generalize (lg_sl [.ref wq, .ref q1, .ref q2] ++ List.replicate (3 - (lg_sl [.ref wq, .ref q1, .ref q2]).length) Slot.unset).toArray = ls at hl ⊢
  refine lv_aload_n hx hb d_Ch_init_0 rfl (lv_at hl 0 rfl) ?_
  have hKc := hK
  have hP : va_P D vwCl ([] ++ [(wq, .inr (3, [.int 0, .long 0, .null, .null]))] : va_W) s.heap := hP
  have hD : va_D A ([] ++ [(wq, .inr (3, [.int 0, .long 0, .null, .null]))] : va_W) := hD
  refine w_callA (va_runIN (As := []) (rest := []) ⟨hx, hb, hml, hown, hts⟩ (c_Wy_init_Ch l s.heap.size) ⟨va_cnB 0 hts (gW_g cd_Wy_init) rfl rfl rfl (hX.2.1 ("RegularSolver$Chain", 1, ⟨"RegularSolver$Way", "<init>", "()V"⟩) (by decide +kernel)) (hts _ ini_Wy) pd_Wy_init ⟨Nat.le_of_ble_eq_true rfl, Nat.le_of_ble_eq_true rfl⟩, rfl, hts _ im_Wy_init⟩ ⟨wPre_blind, wPre_of (vaR hP) hK (vdR hD)⟩ rfl rfl hl.1 rfl (lv_room (Nat.le_of_ble_eq_true rfl)) d_Ch_init_1 ⟨(by decide : 0 + 0 ≤ 0), (by decide : 0 + 0 ≤ 0)⟩) (vdR hD) hS hA (fun g1 H1 locs hP1 hD1 hk1 hS1 => ?_)
  obtain ⟨hP, hD⟩ := va_keepL hP hD (va_sub (vdR hD) hS hA) hk1 hP1 hD1
  have hS := hS1
  generalize H1 = H at hP hS ⊢
  have hP : va_P D vwCl ([(wq, .inr (3, [.int 0, .long 0, .null, .null]))] : va_W) H := hP
  have hD : va_D A ([(wq, .inr (3, [.int 0, .long 0, .null, .null]))] : va_W) := hD
  refine W.widen (k := 0) (n := 0) (by decide) (by decide) ?_
  refine lv_aload_n hx hb d_Ch_init_4 rfl (lv_at hl 0 rfl) ?_
  refine lv_aload_n hx hb d_Ch_init_5 rfl (lv_at hl 1 rfl) ?_
  refine va_putF (D := D) (ci := 3) (v := .ref q1) (ty := (.object "RegularSolver$Automaton")) (C := R_Ch) (T := T_Ch) (N := 4) hx hb hts in_Ch t_Ch t_Ch_ok n_Ch hown hK hP hD hS 0 rfl rfl 2 (by decide) (hts _ fl_Ch_7) (fun _ h9 => h9) rfl hin rfl (by decide +kernel) rfl rfl (Nat.le_of_ble_eq_true rfl) d_Ch_init_6 (fun H locs hP hD hS => ?_)
  have hP : va_P D vwCl ([(wq, .inr (3, [.int 0, .long 0, .ref q1, .null]))] : va_W) H := hP
  have hD : va_D A ([(wq, .inr (3, [.int 0, .long 0, .ref q1, .null]))] : va_W) := hD
  refine lv_aload_n hx hb d_Ch_init_9 rfl (lv_at hl 0 rfl) ?_
  refine lv_aload_n hx hb d_Ch_init_10 rfl (lv_at hl 2 rfl) ?_
  refine va_putF (D := D) (ci := 3) (v := .ref q2) (ty := (.object "RegularSolver$Automaton")) (C := R_Ch) (T := T_Ch) (N := 4) hx hb hts in_Ch t_Ch t_Ch_ok n_Ch hown hK hP hD hS 0 rfl rfl 3 (by decide) (hts _ fl_Ch_13) (fun _ h9 => h9) rfl hin rfl (by decide +kernel) rfl rfl (Nat.le_of_ble_eq_true rfl) d_Ch_init_11 (fun H locs hP hD hS => ?_)
  have hP : va_P D vwCl ([(wq, .inr (3, [.int 0, .long 0, .ref q1, .ref q2]))] : va_W) H := hP
  have hD : va_D A ([(wq, .inr (3, [.int 0, .long 0, .ref q1, .ref q2]))] : va_W) := hD
  refine W.widen (k := 0) (n := 0) (by decide) (by decide) ?_
  exact W.vret hx hb B.returns (fun t ht hW => ⟨⟨(), rfl, by rw [ht]; exact hP, va_K.moved hW.alike hK, hD⟩, hS.F ht⟩) hS.2.2 d_Ch_init_14 (hlocks := B.notSynchronized)
set_option maxHeartbeats 200000 in
set_option maxRecDepth 100000 in
theorem c_Pa_init (l : Launch) {D : va_G} {K : Nat → ClassId} {wq q1 q2 : Nat} {pBoth : Bool} (sz : Nat)  : Met l y_Pa_init w0_Pa_init ({ frames := 2, cells := 0, slots := 0, locals := 32 }) (withX (wPre D K [.ref wq, .ref q1, .ref q2, .int (bI pBoth)] [(wq, .inr (4, [.int 0, .long 0, .null, .null, .int (bI false)]))] sz)) (wPostG D K (fun _ : Unit => none) (fun g => paW K wq q1 q2 0 0 pBoth) (va_A [(wq, .inr (4, [.int 0, .long 0, .null, .null, .int (bI false)]))] sz)) 0 0 (va_A [(wq, .inr (4, [.int 0, .long 0, .null, .null, .int (bI false)]))] sz) := by
  refine Met.ofW (cc := b_Pa_init) (maxL := 4) (ret := none) (by decide) rfl ?_
  intro p e s m args below meth c s₁ B hml hv
  obtain ⟨hv, hX⟩ := hv
  obtain ⟨rfl, hsz, hP, hK, hD0⟩ := hv
  subst hsz
  have hx := B.exec
  have hb := B.bytes
  have hts : ∀ w ∈ gW, w.before _ s = true := fun w hw => atoms_spec (ws := w0_Pa_init) B.pre w (List.mem_cons_of_mem _ hw)
  have hown : s.vm.findClass "RegularSolver$Pairs" = some m.cls := findClass_of_methodNamed B.named
  have hin : meth.name = "<init>" := (name_of_methodNamed B.named B.method).1
  have hD := hD0.self (sz := s.heap.size)
  generalize hAe : va_A [(wq, .inr (4, [.int 0, .long 0, .null, .null, .int (bI false)]))] s.heap.size = A at hD ⊢
  have hA : ∀ q : Nat, s.heap.size ≤ q → A q := fun q h => by rw [← hAe]; exact Or.inr h
  have hS : va_S A s.heap s.heap [] := va_S.rf
  have hl := lv_entry [.ref wq, .ref q1, .ref q2, .int (bI pBoth)] (n := 4) (Nat.le_of_ble_eq_true rfl)
  rw [lg_entry_eq]
  generalize (lg_sl [.ref wq, .ref q1, .ref q2, .int (bI pBoth)] ++ List.replicate (4 - (lg_sl [.ref wq, .ref q1, .ref q2, .int (bI pBoth)]).length) Slot.unset).toArray = ls at hl ⊢
  refine lv_aload_n hx hb d_Pa_init_0 rfl (lv_at hl 0 rfl) ?_
  have hKc := hK
  have hP : va_P D vwCl ([] ++ [(wq, .inr (4, [.int 0, .long 0, .null, .null, .int (bI false)]))] : va_W) s.heap := hP
  have hD : va_D A ([] ++ [(wq, .inr (4, [.int 0, .long 0, .null, .null, .int (bI false)]))] : va_W) := hD
  refine w_callA (va_runIN (As := []) (rest := []) ⟨hx, hb, hml, hown, hts⟩ (c_Wy_init_Pa l s.heap.size) ⟨va_cnB 0 hts (gW_g cd_Wy_init) rfl rfl rfl (hX.2.1 ("RegularSolver$Pairs", 1, ⟨"RegularSolver$Way", "<init>", "()V"⟩) (by decide +kernel)) (hts _ ini_Wy) pd_Wy_init ⟨Nat.le_of_ble_eq_true rfl, Nat.le_of_ble_eq_true rfl⟩, rfl, hts _ im_Wy_init⟩ ⟨wPre_blind, wPre_of (vaR hP) hK (vdR hD)⟩ rfl rfl hl.1 rfl (lv_room (Nat.le_of_ble_eq_true rfl)) d_Pa_init_1 ⟨(by decide : 0 + 0 ≤ 0), (by decide : 0 + 0 ≤ 0)⟩) (vdR hD) hS hA (fun g1 H1 locs hP1 hD1 hk1 hS1 => ?_)
  obtain ⟨hP, hD⟩ := va_keepL hP hD (va_sub (vdR hD) hS hA) hk1 hP1 hD1
  have hS := hS1
  generalize H1 = H at hP hS ⊢
  have hP : va_P D vwCl ([(wq, .inr (4, [.int 0, .long 0, .null, .null, .int (bI false)]))] : va_W) H := hP
  have hD : va_D A ([(wq, .inr (4, [.int 0, .long 0, .null, .null, .int (bI false)]))] : va_W) := hD
  refine W.widen (k := 0) (n := 0) (by decide) (by decide) ?_
  refine lv_aload_n hx hb d_Pa_init_4 rfl (lv_at hl 0 rfl) ?_
  refine lv_aload_n hx hb d_Pa_init_5 rfl (lv_at hl 1 rfl) ?_
  refine va_putF (D := D) (ci := 4) (v := .ref q1) (ty := (.object "RegularSolver$Automaton")) (C := R_Pa) (T := T_Pa) (N := 5) hx hb hts in_Pa t_Pa t_Pa_ok n_Pa hown hK hP hD hS 0 rfl rfl 2 (by decide) (hts _ fl_Pa_7) (fun _ h9 => h9) rfl hin rfl (by decide +kernel) rfl rfl (Nat.le_of_ble_eq_true rfl) d_Pa_init_6 (fun H locs hP hD hS => ?_)
  have hP : va_P D vwCl ([(wq, .inr (4, [.int 0, .long 0, .ref q1, .null, .int (bI false)]))] : va_W) H := hP
  have hD : va_D A ([(wq, .inr (4, [.int 0, .long 0, .ref q1, .null, .int (bI false)]))] : va_W) := hD
  refine lv_aload_n hx hb d_Pa_init_9 rfl (lv_at hl 0 rfl) ?_
  refine lv_aload_n hx hb d_Pa_init_10 rfl (lv_at hl 2 rfl) ?_
  refine va_putF (D := D) (ci := 4) (v := .ref q2) (ty := (.object "RegularSolver$Automaton")) (C := R_Pa) (T := T_Pa) (N := 5) hx hb hts in_Pa t_Pa t_Pa_ok n_Pa hown hK hP hD hS 0 rfl rfl 3 (by decide) (hts _ fl_Pa_13) (fun _ h9 => h9) rfl hin rfl (by decide +kernel) rfl rfl (Nat.le_of_ble_eq_true rfl) d_Pa_init_11 (fun H locs hP hD hS => ?_)
  have hP : va_P D vwCl ([(wq, .inr (4, [.int 0, .long 0, .ref q1, .ref q2, .int (bI false)]))] : va_W) H := hP
  have hD : va_D A ([(wq, .inr (4, [.int 0, .long 0, .ref q1, .ref q2, .int (bI false)]))] : va_W) := hD
  refine lv_aload_n hx hb d_Pa_init_14 rfl (lv_at hl 0 rfl) ?_
  refine lv_iload_n hx hb d_Pa_init_15 rfl (lv_at hl 3 rfl) ?_
  refine va_putF (D := D) (ci := 4) (v := .int (bI pBoth)) (ty := .boolean) (C := R_Pa) (T := T_Pa) (N := 5) hx hb hts in_Pa t_Pa t_Pa_ok n_Pa hown hK hP hD hS 0 rfl rfl 4 (by decide) (hts _ fl_Pa_16) (fun _ h9 => h9) rfl hin rfl (by decide +kernel) (bI_nar _) (bI_fit _) (Nat.le_of_ble_eq_true rfl) d_Pa_init_16 (fun H locs hP hD hS => ?_)
  have hP : va_P D vwCl ([(wq, .inr (4, [.int 0, .long 0, .ref q1, .ref q2, .int (bI pBoth)]))] : va_W) H := hP
  have hD : va_D A ([(wq, .inr (4, [.int 0, .long 0, .ref q1, .ref q2, .int (bI pBoth)]))] : va_W) := hD
  refine W.widen (k := 0) (n := 0) (by decide) (by decide) ?_
  exact W.vret hx hb B.returns (fun t ht hW => ⟨⟨(), rfl, by rw [ht]; exact hP, va_K.moved hW.alike hK, hD⟩, hS.F ht⟩) hS.2.2 d_Pa_init_19 (hlocks := B.notSynchronized)
set_option maxHeartbeats 200000 in
set_option maxRecDepth 100000 in
theorem c_Re_init (l : Launch) {D : va_G} {K : Nat → ClassId} {wq q1 : Nat} (sz : Nat)  : Met l y_Re_init w0_Re_init ({ frames := 2, cells := 0, slots := 0, locals := 32 }) (withX (wPre D K [.ref wq, .ref q1] [(wq, .inr (5, [.int 0, .long 0, .null]))] sz)) (wPostG D K (fun _ : Unit => none) (fun g => reW K wq q1 0 0) (va_A [(wq, .inr (5, [.int 0, .long 0, .null]))] sz)) 0 0 (va_A [(wq, .inr (5, [.int 0, .long 0, .null]))] sz) := by
  refine Met.ofW (cc := b_Re_init) (maxL := 2) (ret := none) (by decide) rfl ?_
  intro p e s m args below meth c s₁ B hml hv
  obtain ⟨hv, hX⟩ := hv
  obtain ⟨rfl, hsz, hP, hK, hD0⟩ := hv
  subst hsz
  have hx := B.exec
  have hb := B.bytes
  have hts : ∀ w ∈ gW, w.before _ s = true := fun w hw => atoms_spec (ws := w0_Re_init) B.pre w (List.mem_cons_of_mem _ hw)
  have hown : s.vm.findClass "RegularSolver$Repeat" = some m.cls := findClass_of_methodNamed B.named
  have hin : meth.name = "<init>" := (name_of_methodNamed B.named B.method).1
  have hD := hD0.self (sz := s.heap.size)
  generalize hAe : va_A [(wq, .inr (5, [.int 0, .long 0, .null]))] s.heap.size = A at hD ⊢
  have hA : ∀ q : Nat, s.heap.size ≤ q → A q := fun q h => by rw [← hAe]; exact Or.inr h
  have hS : va_S A s.heap s.heap [] := va_S.rf
  have hl := lv_entry [.ref wq, .ref q1] (n := 2) (Nat.le_of_ble_eq_true rfl)
  rw [lg_entry_eq]
  generalize (lg_sl [.ref wq, .ref q1] ++ List.replicate (2 - (lg_sl [.ref wq, .ref q1]).length) Slot.unset).toArray = ls at hl ⊢
  refine lv_aload_n hx hb d_Re_init_0 rfl (lv_at hl 0 rfl) ?_
  have hKc := hK
  have hP : va_P D vwCl ([] ++ [(wq, .inr (5, [.int 0, .long 0, .null]))] : va_W) s.heap := hP
  have hD : va_D A ([] ++ [(wq, .inr (5, [.int 0, .long 0, .null]))] : va_W) := hD
  refine w_callA (va_runIN (As := []) (rest := []) ⟨hx, hb, hml, hown, hts⟩ (c_Wy_init_Re l s.heap.size) ⟨va_cnB 0 hts (gW_g cd_Wy_init) rfl rfl rfl (hX.2.1 ("RegularSolver$Repeat", 1, ⟨"RegularSolver$Way", "<init>", "()V"⟩) (by decide +kernel)) (hts _ ini_Wy) pd_Wy_init ⟨Nat.le_of_ble_eq_true rfl, Nat.le_of_ble_eq_true rfl⟩, rfl, hts _ im_Wy_init⟩ ⟨wPre_blind, wPre_of (vaR hP) hK (vdR hD)⟩ rfl rfl hl.1 rfl (lv_room (Nat.le_of_ble_eq_true rfl)) d_Re_init_1 ⟨(by decide : 0 + 0 ≤ 0), (by decide : 0 + 0 ≤ 0)⟩) (vdR hD) hS hA (fun g1 H1 locs hP1 hD1 hk1 hS1 => ?_)
  obtain ⟨hP, hD⟩ := va_keepL hP hD (va_sub (vdR hD) hS hA) hk1 hP1 hD1
  have hS := hS1
  generalize H1 = H at hP hS ⊢
  have hP : va_P D vwCl ([(wq, .inr (5, [.int 0, .long 0, .null]))] : va_W) H := hP
  have hD : va_D A ([(wq, .inr (5, [.int 0, .long 0, .null]))] : va_W) := hD
  refine W.widen (k := 0) (n := 0) (by decide) (by decide) ?_
  refine lv_aload_n hx hb d_Re_init_4 rfl (lv_at hl 0 rfl) ?_
  refine lv_aload_n hx hb d_Re_init_5 rfl (lv_at hl 1 rfl) ?_
  refine va_putF (D := D) (ci := 5) (v := .ref q1) (ty := (.object "RegularSolver$Automaton")) (C := R_Re) (T := T_Re) (N := 3) hx hb hts in_Re t_Re t_Re_ok n_Re hown hK hP hD hS 0 rfl rfl 2 (by decide) (hts _ fl_Re_7) (fun _ h9 => h9) rfl hin rfl (by decide +kernel) rfl rfl (Nat.le_of_ble_eq_true rfl) d_Re_init_6 (fun H locs hP hD hS => ?_)
  have hP : va_P D vwCl ([(wq, .inr (5, [.int 0, .long 0, .ref q1]))] : va_W) H := hP
  have hD : va_D A ([(wq, .inr (5, [.int 0, .long 0, .ref q1]))] : va_W) := hD
  refine W.widen (k := 0) (n := 0) (by decide) (by decide) ?_
  exact W.vret hx hb B.returns (fun t ht hW => ⟨⟨(), rfl, by rw [ht]; exact hP, va_K.moved hW.alike hK, hD⟩, hS.F ht⟩) hS.2.2 d_Re_init_9 (hlocks := B.notSynchronized)
set_option maxHeartbeats 200000 in
set_option maxRecDepth 100000 in
theorem c_Se_init (l : Launch) {D : va_G} {K : Nat → ClassId} {sq : Nat} (sz : Nat)  : Met l y_Se_init w0_Se_init ({ frames := 1, cells := 34, slots := 172, locals := 12 }) (withX (wPre D K [.ref sq] [(sq, .inr (9, [.null, .null, .null, .null, .int 0, .null, .null, .null, .null, .int (bI false), .null, .null]))] sz)) (wPostG D K (fun _ : (Nat → Nat) × (Nat → Nat → Nat) => none) (fun g => (seW K sq (g.1 0) (g.1 1) (g.1 2) (g.1 3) (g.1 4) (g.1 5) (g.1 6) (g.1 7) (g.1 8) (g.1 9) (g.2 0) (g.2 1) (g.2 2) (fun _ => none) (fun _ => 0) (fun _ => 0) 0 (fun _ => 0) (fun _ => 0) false (fun _ => 0) (fun _ => 0)) ++ (grW K (g.2 0) 4 (fun _ _ => 0)) ++ (grW K (g.2 1) 5 (fun _ _ => 0)) ++ (grW K (g.2 2) 5 (fun _ _ => 0))) (va_A [(sq, .inr (9, [.null, .null, .null, .null, .int 0, .null, .null, .null, .null, .int (bI false), .null, .null]))] sz)) 34 172 (va_A [(sq, .inr (9, [.null, .null, .null, .null, .int 0, .null, .null, .null, .null, .int (bI false), .null, .null]))] sz) := by
  refine Met.ofW (cc := b_Se_init) (maxL := 1) (ret := none) (by decide) rfl ?_
  intro p e s m args below meth c s₁ B hml hv
  obtain ⟨hv, hX⟩ := hv
  obtain ⟨rfl, hsz, hP, hK, hD0⟩ := hv
  subst hsz
  have hx := B.exec
  have hb := B.bytes
  have hts : ∀ w ∈ gW, w.before _ s = true := fun w hw => atoms_spec (ws := w0_Se_init) B.pre w (List.mem_cons_of_mem _ hw)
  have hown : s.vm.findClass "RegularSolver$Search" = some m.cls := findClass_of_methodNamed B.named
  have hin : meth.name = "<init>" := (name_of_methodNamed B.named B.method).1
  have hD := hD0.self (sz := s.heap.size)
  generalize hAe : va_A [(sq, .inr (9, [.null, .null, .null, .null, .int 0, .null, .null, .null, .null, .int (bI false), .null, .null]))] s.heap.size = A at hD ⊢
  have hA : ∀ q : Nat, s.heap.size ≤ q → A q := fun q h => by rw [← hAe]; exact Or.inr h
  have hS : va_S A s.heap s.heap [] := va_S.rf
  have hl := lv_entry [.ref sq] (n := 1) (Nat.le_of_ble_eq_true rfl)
  rw [lg_entry_eq]
  generalize (lg_sl [.ref sq] ++ List.replicate (1 - (lg_sl [.ref sq]).length) Slot.unset).toArray = ls at hl ⊢
  refine lv_aload_n hx hb d_Se_init_0 rfl (lv_at hl 0 rfl) ?_
  refine W.objInit hx hb hown (hts _ ml_Se_3) (hts _ im_Ob_init) (hts _ cdo_Ob_init) rfl (by rw [hml]; exact hl.1) rfl d_Se_init_1 (Nat.le_of_ble_eq_true rfl) (Nat.le_of_ble_eq_true rfl) ?_
  refine W.eq (g2 := F0 m 4 ls []) rfl ?_
  refine lv_aload_n hx hb d_Se_init_4 rfl (lv_at hl 0 rfl) ?_
  refine lv_iconst (v := 4) hx hb d_Se_init_5 (by decide) ?_
  refine g_newq hx hb hown (hts _ cl_Se_9) hX.2.2.1 hK hP hD hS hA (N' := 4) (by decide) (by decide) (by decide) (by decide : 0 + 1 ≤ 34) (by decide : 0 + 4 ≤ 172) d_Se_init_6 (fun q1 H hP hD hS => ?_)
  have hP : va_P D vwCl ([(sq, .inr (9, [.null, .null, .null, .null, .int 0, .null, .null, .null, .null, .int (bI false), .null, .null])), (q1, .inl (K 3, 4, .inr (.inr (.inr (.inr (fun _ => none))))))] : va_W) H := hP
  have hD : va_D A ([(sq, .inr (9, [.null, .null, .null, .null, .int 0, .null, .null, .null, .null, .int (bI false), .null, .null])), (q1, .inl (K 3, 4, .inr (.inr (.inr (.inr (fun _ => none))))))] : va_W) := hD
  refine W.widen (k := 1) (n := 4) (by decide) (by decide) ?_
  refine va_putF (D := D) (ci := 9) (v := .ref q1) (ty := (.array (.object "RegularSolver$Automaton"))) (C := R_Se) (T := T_Se) (N := 12) hx hb hts in_Se t_Se t_Se_ok n_Se hown hK hP hD hS 0 rfl rfl 0 (by decide) (hts _ fl_Se_11) (fun _ h9 => h9) rfl hin rfl (by decide +kernel) rfl rfl (Nat.le_of_ble_eq_true rfl) d_Se_init_9 (fun H locs hP hD hS => ?_)
  have hP : va_P D vwCl ([(sq, .inr (9, [.ref q1, .null, .null, .null, .int 0, .null, .null, .null, .null, .int (bI false), .null, .null])), (q1, .inl (K 3, 4, .inr (.inr (.inr (.inr (fun _ => none))))))] : va_W) H := hP
  have hD : va_D A ([(sq, .inr (9, [.ref q1, .null, .null, .null, .int 0, .null, .null, .null, .null, .int (bI false), .null, .null])), (q1, .inl (K 3, 4, .inr (.inr (.inr (.inr (fun _ => none))))))] : va_W) := hD
  refine lv_aload_n hx hb d_Se_init_12 rfl (lv_at hl 0 rfl) ?_
  refine lv_bipush (v := 8) hx hb d_Se_init_13 (by decide) ?_
  refine lv_iconst (v := 4) hx hb d_Se_init_15 (by decide) ?_
  refine g_mna (X := [(sq, .inr (9, [.ref q1, .null, .null, .null, .int 0, .null, .null, .null, .null, .int (bI false), .null, .null])), (q1, .inl (K 3, 4, .inr (.inr (.inr (.inr (fun _ => none))))))]) (G := ([] : va_W)) hx hb hown (hts _ cl_Se_17) hX.2.2.2 (hts _ ac_int) hK (by first | exact hP | simpa using hP) (by first | exact hD | simpa using hD) hS hA (M := 4) (by decide) (by decide) (by decide) (by decide : 1 + (1 + 8) ≤ 34) (by decide : 4 + (8 + 8 * 4) ≤ 172) d_Se_init_16 (fun q2 r2 H hP hD hS => ?_)
  have hP : va_P D vwCl (([(sq, .inr (9, [.ref q1, .null, .null, .null, .int 0, .null, .null, .null, .null, .int (bI false), .null, .null])), (q1, .inl (K 3, 4, .inr (.inr (.inr (.inr (fun _ => none)))))), (q2, .inl (K 4, 8, .inr (.inr (.inr (.inr (fun i => if i < 8 then some (r2 i) else none))))))] : va_W) ++ grW K r2 4 (fun _ _ => 0)) H := by simpa using hP
  have hD : va_D A (([(sq, .inr (9, [.ref q1, .null, .null, .null, .int 0, .null, .null, .null, .null, .int (bI false), .null, .null])), (q1, .inl (K 3, 4, .inr (.inr (.inr (.inr (fun _ => none)))))), (q2, .inl (K 4, 8, .inr (.inr (.inr (.inr (fun i => if i < 8 then some (r2 i) else none))))))] : va_W) ++ grW K r2 4 (fun _ _ => 0)) := by simpa using hD
  refine W.widen (k := 10) (n := 44) (by decide) (by decide) ?_
  refine va_putF (D := D) (ci := 9) (v := .ref q2) (ty := (.array (.array .int))) (C := R_Se) (T := T_Se) (N := 12) hx hb hts in_Se t_Se t_Se_ok n_Se hown hK hP hD hS 0 rfl rfl 1 (by decide) (hts _ fl_Se_19) (fun _ h9 => h9) rfl hin rfl (by decide +kernel) rfl rfl (Nat.le_of_ble_eq_true rfl) d_Se_init_20 (fun H locs hP hD hS => ?_)
  have hP : va_P D vwCl (([(sq, .inr (9, [.ref q1, .ref q2, .null, .null, .int 0, .null, .null, .null, .null, .int (bI false), .null, .null])), (q1, .inl (K 3, 4, .inr (.inr (.inr (.inr (fun _ => none)))))), (q2, .inl (K 4, 8, .inr (.inr (.inr (.inr (fun i => if i < 8 then some (r2 i) else none))))))] : va_W) ++ grW K r2 4 (fun _ _ => 0)) H := hP
  have hD : va_D A (([(sq, .inr (9, [.ref q1, .ref q2, .null, .null, .int 0, .null, .null, .null, .null, .int (bI false), .null, .null])), (q1, .inl (K 3, 4, .inr (.inr (.inr (.inr (fun _ => none)))))), (q2, .inl (K 4, 8, .inr (.inr (.inr (.inr (fun i => if i < 8 then some (r2 i) else none))))))] : va_W) ++ grW K r2 4 (fun _ _ => 0)) := hD
  refine lv_aload_n hx hb d_Se_init_23 rfl (lv_at hl 0 rfl) ?_
  refine lv_bipush (v := 8) hx hb d_Se_init_24 (by decide) ?_
  refine g_newa (atype := .int) (ty := .int) hx hb (hts _ ac_int) rfl 0 rfl (fun _ h => h) hK hP hD hS hA (N' := 8) (a0 := (8, .inl (fun _ => 0))) (fun _ => rfl) (by decide) (by decide) (by decide) (by decide : 10 + 1 ≤ 34) (by decide : 44 + 8 ≤ 172) d_Se_init_26 (fun q3 H hP hD hS => ?_)
  have hP := vswP hP
  have hD := vswD hD
  have hP : va_P D vwCl (([(sq, .inr (9, [.ref q1, .ref q2, .null, .null, .int 0, .null, .null, .null, .null, .int (bI false), .null, .null])), (q1, .inl (K 3, 4, .inr (.inr (.inr (.inr (fun _ => none)))))), (q2, .inl (K 4, 8, .inr (.inr (.inr (.inr (fun i => if i < 8 then some (r2 i) else none)))))), (q3, .inl (K 0, 8, .inl (fun _ => 0)))] : va_W) ++ grW K r2 4 (fun _ _ => 0)) H := hP
  have hD : va_D A (([(sq, .inr (9, [.ref q1, .ref q2, .null, .null, .int 0, .null, .null, .null, .null, .int (bI false), .null, .null])), (q1, .inl (K 3, 4, .inr (.inr (.inr (.inr (fun _ => none)))))), (q2, .inl (K 4, 8, .inr (.inr (.inr (.inr (fun i => if i < 8 then some (r2 i) else none)))))), (q3, .inl (K 0, 8, .inl (fun _ => 0)))] : va_W) ++ grW K r2 4 (fun _ _ => 0)) := hD
  refine W.widen (k := 11) (n := 52) (by decide) (by decide) ?_
  refine va_putF (D := D) (ci := 9) (v := .ref q3) (ty := (.array .int)) (C := R_Se) (T := T_Se) (N := 12) hx hb hts in_Se t_Se t_Se_ok n_Se hown hK hP hD hS 0 rfl rfl 2 (by decide) (hts _ fl_Se_22) (fun _ h9 => h9) rfl hin rfl (by decide +kernel) rfl rfl (Nat.le_of_ble_eq_true rfl) d_Se_init_28 (fun H locs hP hD hS => ?_)
  have hP : va_P D vwCl (([(sq, .inr (9, [.ref q1, .ref q2, .ref q3, .null, .int 0, .null, .null, .null, .null, .int (bI false), .null, .null])), (q1, .inl (K 3, 4, .inr (.inr (.inr (.inr (fun _ => none)))))), (q2, .inl (K 4, 8, .inr (.inr (.inr (.inr (fun i => if i < 8 then some (r2 i) else none)))))), (q3, .inl (K 0, 8, .inl (fun _ => 0)))] : va_W) ++ grW K r2 4 (fun _ _ => 0)) H := hP
  have hD : va_D A (([(sq, .inr (9, [.ref q1, .ref q2, .ref q3, .null, .int 0, .null, .null, .null, .null, .int (bI false), .null, .null])), (q1, .inl (K 3, 4, .inr (.inr (.inr (.inr (fun _ => none)))))), (q2, .inl (K 4, 8, .inr (.inr (.inr (.inr (fun i => if i < 8 then some (r2 i) else none)))))), (q3, .inl (K 0, 8, .inl (fun _ => 0)))] : va_W) ++ grW K r2 4 (fun _ _ => 0)) := hD
  refine lv_aload_n hx hb d_Se_init_31 rfl (lv_at hl 0 rfl) ?_
  refine lv_bipush (v := 8) hx hb d_Se_init_32 (by decide) ?_
  refine g_newa (atype := .int) (ty := .int) hx hb (hts _ ac_int) rfl 0 rfl (fun _ h => h) hK hP hD hS hA (N' := 8) (a0 := (8, .inl (fun _ => 0))) (fun _ => rfl) (by decide) (by decide) (by decide) (by decide : 11 + 1 ≤ 34) (by decide : 52 + 8 ≤ 172) d_Se_init_34 (fun q4 H hP hD hS => ?_)
  have hP := vswP hP
  have hD := vswD hD
  have hP : va_P D vwCl (([(sq, .inr (9, [.ref q1, .ref q2, .ref q3, .null, .int 0, .null, .null, .null, .null, .int (bI false), .null, .null])), (q1, .inl (K 3, 4, .inr (.inr (.inr (.inr (fun _ => none)))))), (q2, .inl (K 4, 8, .inr (.inr (.inr (.inr (fun i => if i < 8 then some (r2 i) else none)))))), (q3, .inl (K 0, 8, .inl (fun _ => 0))), (q4, .inl (K 0, 8, .inl (fun _ => 0)))] : va_W) ++ grW K r2 4 (fun _ _ => 0)) H := hP
  have hD : va_D A (([(sq, .inr (9, [.ref q1, .ref q2, .ref q3, .null, .int 0, .null, .null, .null, .null, .int (bI false), .null, .null])), (q1, .inl (K 3, 4, .inr (.inr (.inr (.inr (fun _ => none)))))), (q2, .inl (K 4, 8, .inr (.inr (.inr (.inr (fun i => if i < 8 then some (r2 i) else none)))))), (q3, .inl (K 0, 8, .inl (fun _ => 0))), (q4, .inl (K 0, 8, .inl (fun _ => 0)))] : va_W) ++ grW K r2 4 (fun _ _ => 0)) := hD
  refine W.widen (k := 12) (n := 60) (by decide) (by decide) ?_
  refine va_putF (D := D) (ci := 9) (v := .ref q4) (ty := (.array .int)) (C := R_Se) (T := T_Se) (N := 12) hx hb hts in_Se t_Se t_Se_ok n_Se hown hK hP hD hS 0 rfl rfl 3 (by decide) (hts _ fl_Se_26) (fun _ h9 => h9) rfl hin rfl (by decide +kernel) rfl rfl (Nat.le_of_ble_eq_true rfl) d_Se_init_36 (fun H locs hP hD hS => ?_)
  have hP : va_P D vwCl (([(sq, .inr (9, [.ref q1, .ref q2, .ref q3, .ref q4, .int 0, .null, .null, .null, .null, .int (bI false), .null, .null])), (q1, .inl (K 3, 4, .inr (.inr (.inr (.inr (fun _ => none)))))), (q2, .inl (K 4, 8, .inr (.inr (.inr (.inr (fun i => if i < 8 then some (r2 i) else none)))))), (q3, .inl (K 0, 8, .inl (fun _ => 0))), (q4, .inl (K 0, 8, .inl (fun _ => 0)))] : va_W) ++ grW K r2 4 (fun _ _ => 0)) H := hP
  have hD : va_D A (([(sq, .inr (9, [.ref q1, .ref q2, .ref q3, .ref q4, .int 0, .null, .null, .null, .null, .int (bI false), .null, .null])), (q1, .inl (K 3, 4, .inr (.inr (.inr (.inr (fun _ => none)))))), (q2, .inl (K 4, 8, .inr (.inr (.inr (.inr (fun i => if i < 8 then some (r2 i) else none)))))), (q3, .inl (K 0, 8, .inl (fun _ => 0))), (q4, .inl (K 0, 8, .inl (fun _ => 0)))] : va_W) ++ grW K r2 4 (fun _ _ => 0)) := hD
  refine lv_aload_n hx hb d_Se_init_39 rfl (lv_at hl 0 rfl) ?_
  refine lv_iconst (v := 0) hx hb d_Se_init_40 (by decide) ?_
  refine va_put (D := D) (ci := 9) (v := .int 0) (ty := .int) (C := R_Se) (T := T_Se) (N := 12) hx hb hts in_Se t_Se t_Se_ok n_Se hown hK hP hD hS 0 rfl rfl 4 (by decide) (hts _ fl_Se_29) (fun _ h9 => h9) rfl (by decide +kernel) rfl rfl (Nat.le_of_ble_eq_true rfl) d_Se_init_41 (fun H locs hP hD hS => ?_)
  have hP : va_P D vwCl (([(sq, .inr (9, [.ref q1, .ref q2, .ref q3, .ref q4, .int 0, .null, .null, .null, .null, .int (bI false), .null, .null])), (q1, .inl (K 3, 4, .inr (.inr (.inr (.inr (fun _ => none)))))), (q2, .inl (K 4, 8, .inr (.inr (.inr (.inr (fun i => if i < 8 then some (r2 i) else none)))))), (q3, .inl (K 0, 8, .inl (fun _ => 0))), (q4, .inl (K 0, 8, .inl (fun _ => 0)))] : va_W) ++ grW K r2 4 (fun _ _ => 0)) H := hP
  have hD : va_D A (([(sq, .inr (9, [.ref q1, .ref q2, .ref q3, .ref q4, .int 0, .null, .null, .null, .null, .int (bI false), .null, .null])), (q1, .inl (K 3, 4, .inr (.inr (.inr (.inr (fun _ => none)))))), (q2, .inl (K 4, 8, .inr (.inr (.inr (.inr (fun i => if i < 8 then some (r2 i) else none)))))), (q3, .inl (K 0, 8, .inl (fun _ => 0))), (q4, .inl (K 0, 8, .inl (fun _ => 0)))] : va_W) ++ grW K r2 4 (fun _ _ => 0)) := hD
  refine lv_aload_n hx hb d_Se_init_44 rfl (lv_at hl 0 rfl) ?_
  refine lv_iconst (v := 4) hx hb d_Se_init_45 (by decide) ?_
  refine g_newa (atype := .long) (ty := .long) hx hb (hts _ ac_long) rfl 1 rfl (fun _ h => h) hK hP hD hS hA (N' := 4) (a0 := (4, .inr (.inl (fun _ => 0)))) (fun _ => rfl) (by decide) (by decide) (by decide) (by decide : 12 + 1 ≤ 34) (by decide : 60 + 4 ≤ 172) d_Se_init_46 (fun q5 H hP hD hS => ?_)
  have hP := vswP hP
  have hD := vswD hD
  have hP : va_P D vwCl (([(sq, .inr (9, [.ref q1, .ref q2, .ref q3, .ref q4, .int 0, .null, .null, .null, .null, .int (bI false), .null, .null])), (q1, .inl (K 3, 4, .inr (.inr (.inr (.inr (fun _ => none)))))), (q2, .inl (K 4, 8, .inr (.inr (.inr (.inr (fun i => if i < 8 then some (r2 i) else none)))))), (q3, .inl (K 0, 8, .inl (fun _ => 0))), (q4, .inl (K 0, 8, .inl (fun _ => 0))), (q5, .inl (K 1, 4, .inr (.inl (fun _ => 0))))] : va_W) ++ grW K r2 4 (fun _ _ => 0)) H := hP
  have hD : va_D A (([(sq, .inr (9, [.ref q1, .ref q2, .ref q3, .ref q4, .int 0, .null, .null, .null, .null, .int (bI false), .null, .null])), (q1, .inl (K 3, 4, .inr (.inr (.inr (.inr (fun _ => none)))))), (q2, .inl (K 4, 8, .inr (.inr (.inr (.inr (fun i => if i < 8 then some (r2 i) else none)))))), (q3, .inl (K 0, 8, .inl (fun _ => 0))), (q4, .inl (K 0, 8, .inl (fun _ => 0))), (q5, .inl (K 1, 4, .inr (.inl (fun _ => 0))))] : va_W) ++ grW K r2 4 (fun _ _ => 0)) := hD
  refine W.widen (k := 13) (n := 64) (by decide) (by decide) ?_
  refine va_putF (D := D) (ci := 9) (v := .ref q5) (ty := (.array .long)) (C := R_Se) (T := T_Se) (N := 12) hx hb hts in_Se t_Se t_Se_ok n_Se hown hK hP hD hS 0 rfl rfl 5 (by decide) (hts _ fl_Se_33) (fun _ h9 => h9) rfl hin rfl (by decide +kernel) rfl rfl (Nat.le_of_ble_eq_true rfl) d_Se_init_48 (fun H locs hP hD hS => ?_)
  have hP : va_P D vwCl (([(sq, .inr (9, [.ref q1, .ref q2, .ref q3, .ref q4, .int 0, .ref q5, .null, .null, .null, .int (bI false), .null, .null])), (q1, .inl (K 3, 4, .inr (.inr (.inr (.inr (fun _ => none)))))), (q2, .inl (K 4, 8, .inr (.inr (.inr (.inr (fun i => if i < 8 then some (r2 i) else none)))))), (q3, .inl (K 0, 8, .inl (fun _ => 0))), (q4, .inl (K 0, 8, .inl (fun _ => 0))), (q5, .inl (K 1, 4, .inr (.inl (fun _ => 0))))] : va_W) ++ grW K r2 4 (fun _ _ => 0)) H := hP
  have hD : va_D A (([(sq, .inr (9, [.ref q1, .ref q2, .ref q3, .ref q4, .int 0, .ref q5, .null, .null, .null, .int (bI false), .null, .null])), (q1, .inl (K 3, 4, .inr (.inr (.inr (.inr (fun _ => none)))))), (q2, .inl (K 4, 8, .inr (.inr (.inr (.inr (fun i => if i < 8 then some (r2 i) else none)))))), (q3, .inl (K 0, 8, .inl (fun _ => 0))), (q4, .inl (K 0, 8, .inl (fun _ => 0))), (q5, .inl (K 1, 4, .inr (.inl (fun _ => 0))))] : va_W) ++ grW K r2 4 (fun _ _ => 0)) := hD
  refine lv_aload_n hx hb d_Se_init_51 rfl (lv_at hl 0 rfl) ?_
  refine lv_bipush (v := 8) hx hb d_Se_init_52 (by decide) ?_
  refine lv_iconst (v := 5) hx hb d_Se_init_54 (by decide) ?_
  refine g_mna (X := [(sq, .inr (9, [.ref q1, .ref q2, .ref q3, .ref q4, .int 0, .ref q5, .null, .null, .null, .int (bI false), .null, .null])), (q1, .inl (K 3, 4, .inr (.inr (.inr (.inr (fun _ => none)))))), (q2, .inl (K 4, 8, .inr (.inr (.inr (.inr (fun i => if i < 8 then some (r2 i) else none)))))), (q3, .inl (K 0, 8, .inl (fun _ => 0))), (q4, .inl (K 0, 8, .inl (fun _ => 0))), (q5, .inl (K 1, 4, .inr (.inl (fun _ => 0))))]) (G := grW K r2 4 (fun _ _ => 0)) hx hb hown (hts _ cl_Se_17) hX.2.2.2 (hts _ ac_int) hK (by first | exact hP | simpa using hP) (by first | exact hD | simpa using hD) hS hA (M := 5) (by decide) (by decide) (by decide) (by decide : 13 + (1 + 8) ≤ 34) (by decide : 64 + (8 + 8 * 5) ≤ 172) d_Se_init_55 (fun q6 r6 H hP hD hS => ?_)
  have hP : va_P D vwCl (([(sq, .inr (9, [.ref q1, .ref q2, .ref q3, .ref q4, .int 0, .ref q5, .null, .null, .null, .int (bI false), .null, .null])), (q1, .inl (K 3, 4, .inr (.inr (.inr (.inr (fun _ => none)))))), (q2, .inl (K 4, 8, .inr (.inr (.inr (.inr (fun i => if i < 8 then some (r2 i) else none)))))), (q3, .inl (K 0, 8, .inl (fun _ => 0))), (q4, .inl (K 0, 8, .inl (fun _ => 0))), (q5, .inl (K 1, 4, .inr (.inl (fun _ => 0)))), (q6, .inl (K 4, 8, .inr (.inr (.inr (.inr (fun i => if i < 8 then some (r6 i) else none))))))] : va_W) ++ (grW K r2 4 (fun _ _ => 0) ++ grW K r6 5 (fun _ _ => 0))) H := hP
  have hD : va_D A (([(sq, .inr (9, [.ref q1, .ref q2, .ref q3, .ref q4, .int 0, .ref q5, .null, .null, .null, .int (bI false), .null, .null])), (q1, .inl (K 3, 4, .inr (.inr (.inr (.inr (fun _ => none)))))), (q2, .inl (K 4, 8, .inr (.inr (.inr (.inr (fun i => if i < 8 then some (r2 i) else none)))))), (q3, .inl (K 0, 8, .inl (fun _ => 0))), (q4, .inl (K 0, 8, .inl (fun _ => 0))), (q5, .inl (K 1, 4, .inr (.inl (fun _ => 0)))), (q6, .inl (K 4, 8, .inr (.inr (.inr (.inr (fun i => if i < 8 then some (r6 i) else none))))))] : va_W) ++ (grW K r2 4 (fun _ _ => 0) ++ grW K r6 5 (fun _ _ => 0))) := hD
  refine W.widen (k := 22) (n := 112) (by decide) (by decide) ?_
  refine va_putF (D := D) (ci := 9) (v := .ref q6) (ty := (.array (.array .int))) (C := R_Se) (T := T_Se) (N := 12) hx hb hts in_Se t_Se t_Se_ok n_Se hown hK hP hD hS 0 rfl rfl 6 (by decide) (hts _ fl_Se_37) (fun _ h9 => h9) rfl hin rfl (by decide +kernel) rfl rfl (Nat.le_of_ble_eq_true rfl) d_Se_init_59 (fun H locs hP hD hS => ?_)
  have hP : va_P D vwCl (([(sq, .inr (9, [.ref q1, .ref q2, .ref q3, .ref q4, .int 0, .ref q5, .ref q6, .null, .null, .int (bI false), .null, .null])), (q1, .inl (K 3, 4, .inr (.inr (.inr (.inr (fun _ => none)))))), (q2, .inl (K 4, 8, .inr (.inr (.inr (.inr (fun i => if i < 8 then some (r2 i) else none)))))), (q3, .inl (K 0, 8, .inl (fun _ => 0))), (q4, .inl (K 0, 8, .inl (fun _ => 0))), (q5, .inl (K 1, 4, .inr (.inl (fun _ => 0)))), (q6, .inl (K 4, 8, .inr (.inr (.inr (.inr (fun i => if i < 8 then some (r6 i) else none))))))] : va_W) ++ (grW K r2 4 (fun _ _ => 0) ++ grW K r6 5 (fun _ _ => 0))) H := hP
  have hD : va_D A (([(sq, .inr (9, [.ref q1, .ref q2, .ref q3, .ref q4, .int 0, .ref q5, .ref q6, .null, .null, .int (bI false), .null, .null])), (q1, .inl (K 3, 4, .inr (.inr (.inr (.inr (fun _ => none)))))), (q2, .inl (K 4, 8, .inr (.inr (.inr (.inr (fun i => if i < 8 then some (r2 i) else none)))))), (q3, .inl (K 0, 8, .inl (fun _ => 0))), (q4, .inl (K 0, 8, .inl (fun _ => 0))), (q5, .inl (K 1, 4, .inr (.inl (fun _ => 0)))), (q6, .inl (K 4, 8, .inr (.inr (.inr (.inr (fun i => if i < 8 then some (r6 i) else none))))))] : va_W) ++ (grW K r2 4 (fun _ _ => 0) ++ grW K r6 5 (fun _ _ => 0))) := hD
  refine lv_aload_n hx hb d_Se_init_62 rfl (lv_at hl 0 rfl) ?_
  refine lv_bipush (v := 8) hx hb d_Se_init_63 (by decide) ?_
  refine lv_iconst (v := 5) hx hb d_Se_init_65 (by decide) ?_
  refine g_mna (X := [(sq, .inr (9, [.ref q1, .ref q2, .ref q3, .ref q4, .int 0, .ref q5, .ref q6, .null, .null, .int (bI false), .null, .null])), (q1, .inl (K 3, 4, .inr (.inr (.inr (.inr (fun _ => none)))))), (q2, .inl (K 4, 8, .inr (.inr (.inr (.inr (fun i => if i < 8 then some (r2 i) else none)))))), (q3, .inl (K 0, 8, .inl (fun _ => 0))), (q4, .inl (K 0, 8, .inl (fun _ => 0))), (q5, .inl (K 1, 4, .inr (.inl (fun _ => 0)))), (q6, .inl (K 4, 8, .inr (.inr (.inr (.inr (fun i => if i < 8 then some (r6 i) else none))))))]) (G := (grW K r2 4 (fun _ _ => 0) ++ grW K r6 5 (fun _ _ => 0))) hx hb hown (hts _ cl_Se_17) hX.2.2.2 (hts _ ac_int) hK (by first | exact hP | simpa using hP) (by first | exact hD | simpa using hD) hS hA (M := 5) (by decide) (by decide) (by decide) (by decide : 22 + (1 + 8) ≤ 34) (by decide : 112 + (8 + 8 * 5) ≤ 172) d_Se_init_66 (fun q7 r7 H hP hD hS => ?_)
  have hP : va_P D vwCl (([(sq, .inr (9, [.ref q1, .ref q2, .ref q3, .ref q4, .int 0, .ref q5, .ref q6, .null, .null, .int (bI false), .null, .null])), (q1, .inl (K 3, 4, .inr (.inr (.inr (.inr (fun _ => none)))))), (q2, .inl (K 4, 8, .inr (.inr (.inr (.inr (fun i => if i < 8 then some (r2 i) else none)))))), (q3, .inl (K 0, 8, .inl (fun _ => 0))), (q4, .inl (K 0, 8, .inl (fun _ => 0))), (q5, .inl (K 1, 4, .inr (.inl (fun _ => 0)))), (q6, .inl (K 4, 8, .inr (.inr (.inr (.inr (fun i => if i < 8 then some (r6 i) else none)))))), (q7, .inl (K 4, 8, .inr (.inr (.inr (.inr (fun i => if i < 8 then some (r7 i) else none))))))] : va_W) ++ ((grW K r2 4 (fun _ _ => 0) ++ grW K r6 5 (fun _ _ => 0)) ++ grW K r7 5 (fun _ _ => 0))) H := hP
  have hD : va_D A (([(sq, .inr (9, [.ref q1, .ref q2, .ref q3, .ref q4, .int 0, .ref q5, .ref q6, .null, .null, .int (bI false), .null, .null])), (q1, .inl (K 3, 4, .inr (.inr (.inr (.inr (fun _ => none)))))), (q2, .inl (K 4, 8, .inr (.inr (.inr (.inr (fun i => if i < 8 then some (r2 i) else none)))))), (q3, .inl (K 0, 8, .inl (fun _ => 0))), (q4, .inl (K 0, 8, .inl (fun _ => 0))), (q5, .inl (K 1, 4, .inr (.inl (fun _ => 0)))), (q6, .inl (K 4, 8, .inr (.inr (.inr (.inr (fun i => if i < 8 then some (r6 i) else none)))))), (q7, .inl (K 4, 8, .inr (.inr (.inr (.inr (fun i => if i < 8 then some (r7 i) else none))))))] : va_W) ++ ((grW K r2 4 (fun _ _ => 0) ++ grW K r6 5 (fun _ _ => 0)) ++ grW K r7 5 (fun _ _ => 0))) := hD
  refine W.widen (k := 31) (n := 160) (by decide) (by decide) ?_
  refine va_putF (D := D) (ci := 9) (v := .ref q7) (ty := (.array (.array .int))) (C := R_Se) (T := T_Se) (N := 12) hx hb hts in_Se t_Se t_Se_ok n_Se hown hK hP hD hS 0 rfl rfl 7 (by decide) (hts _ fl_Se_40) (fun _ h9 => h9) rfl hin rfl (by decide +kernel) rfl rfl (Nat.le_of_ble_eq_true rfl) d_Se_init_70 (fun H locs hP hD hS => ?_)
  have hP : va_P D vwCl (([(sq, .inr (9, [.ref q1, .ref q2, .ref q3, .ref q4, .int 0, .ref q5, .ref q6, .ref q7, .null, .int (bI false), .null, .null])), (q1, .inl (K 3, 4, .inr (.inr (.inr (.inr (fun _ => none)))))), (q2, .inl (K 4, 8, .inr (.inr (.inr (.inr (fun i => if i < 8 then some (r2 i) else none)))))), (q3, .inl (K 0, 8, .inl (fun _ => 0))), (q4, .inl (K 0, 8, .inl (fun _ => 0))), (q5, .inl (K 1, 4, .inr (.inl (fun _ => 0)))), (q6, .inl (K 4, 8, .inr (.inr (.inr (.inr (fun i => if i < 8 then some (r6 i) else none)))))), (q7, .inl (K 4, 8, .inr (.inr (.inr (.inr (fun i => if i < 8 then some (r7 i) else none))))))] : va_W) ++ ((grW K r2 4 (fun _ _ => 0) ++ grW K r6 5 (fun _ _ => 0)) ++ grW K r7 5 (fun _ _ => 0))) H := hP
  have hD : va_D A (([(sq, .inr (9, [.ref q1, .ref q2, .ref q3, .ref q4, .int 0, .ref q5, .ref q6, .ref q7, .null, .int (bI false), .null, .null])), (q1, .inl (K 3, 4, .inr (.inr (.inr (.inr (fun _ => none)))))), (q2, .inl (K 4, 8, .inr (.inr (.inr (.inr (fun i => if i < 8 then some (r2 i) else none)))))), (q3, .inl (K 0, 8, .inl (fun _ => 0))), (q4, .inl (K 0, 8, .inl (fun _ => 0))), (q5, .inl (K 1, 4, .inr (.inl (fun _ => 0)))), (q6, .inl (K 4, 8, .inr (.inr (.inr (.inr (fun i => if i < 8 then some (r6 i) else none)))))), (q7, .inl (K 4, 8, .inr (.inr (.inr (.inr (fun i => if i < 8 then some (r7 i) else none))))))] : va_W) ++ ((grW K r2 4 (fun _ _ => 0) ++ grW K r6 5 (fun _ _ => 0)) ++ grW K r7 5 (fun _ _ => 0))) := hD
  refine lv_aload_n hx hb d_Se_init_73 rfl (lv_at hl 0 rfl) ?_
  refine lv_iconst (v := 4) hx hb d_Se_init_74 (by decide) ?_
  refine g_newa (atype := .int) (ty := .int) hx hb (hts _ ac_int) rfl 0 rfl (fun _ h => h) hK hP hD hS hA (N' := 4) (a0 := (4, .inl (fun _ => 0))) (fun _ => rfl) (by decide) (by decide) (by decide) (by decide : 31 + 1 ≤ 34) (by decide : 160 + 4 ≤ 172) d_Se_init_75 (fun q8 H hP hD hS => ?_)
  have hP := vswP hP
  have hD := vswD hD
  have hP : va_P D vwCl (([(sq, .inr (9, [.ref q1, .ref q2, .ref q3, .ref q4, .int 0, .ref q5, .ref q6, .ref q7, .null, .int (bI false), .null, .null])), (q1, .inl (K 3, 4, .inr (.inr (.inr (.inr (fun _ => none)))))), (q2, .inl (K 4, 8, .inr (.inr (.inr (.inr (fun i => if i < 8 then some (r2 i) else none)))))), (q3, .inl (K 0, 8, .inl (fun _ => 0))), (q4, .inl (K 0, 8, .inl (fun _ => 0))), (q5, .inl (K 1, 4, .inr (.inl (fun _ => 0)))), (q6, .inl (K 4, 8, .inr (.inr (.inr (.inr (fun i => if i < 8 then some (r6 i) else none)))))), (q7, .inl (K 4, 8, .inr (.inr (.inr (.inr (fun i => if i < 8 then some (r7 i) else none)))))), (q8, .inl (K 0, 4, .inl (fun _ => 0)))] : va_W) ++ ((grW K r2 4 (fun _ _ => 0) ++ grW K r6 5 (fun _ _ => 0)) ++ grW K r7 5 (fun _ _ => 0))) H := hP
  have hD : va_D A (([(sq, .inr (9, [.ref q1, .ref q2, .ref q3, .ref q4, .int 0, .ref q5, .ref q6, .ref q7, .null, .int (bI false), .null, .null])), (q1, .inl (K 3, 4, .inr (.inr (.inr (.inr (fun _ => none)))))), (q2, .inl (K 4, 8, .inr (.inr (.inr (.inr (fun i => if i < 8 then some (r2 i) else none)))))), (q3, .inl (K 0, 8, .inl (fun _ => 0))), (q4, .inl (K 0, 8, .inl (fun _ => 0))), (q5, .inl (K 1, 4, .inr (.inl (fun _ => 0)))), (q6, .inl (K 4, 8, .inr (.inr (.inr (.inr (fun i => if i < 8 then some (r6 i) else none)))))), (q7, .inl (K 4, 8, .inr (.inr (.inr (.inr (fun i => if i < 8 then some (r7 i) else none)))))), (q8, .inl (K 0, 4, .inl (fun _ => 0)))] : va_W) ++ ((grW K r2 4 (fun _ _ => 0) ++ grW K r6 5 (fun _ _ => 0)) ++ grW K r7 5 (fun _ _ => 0))) := hD
  refine W.widen (k := 32) (n := 164) (by decide) (by decide) ?_
  refine va_putF (D := D) (ci := 9) (v := .ref q8) (ty := (.array .int)) (C := R_Se) (T := T_Se) (N := 12) hx hb hts in_Se t_Se t_Se_ok n_Se hown hK hP hD hS 0 rfl rfl 8 (by decide) (hts _ fl_Se_43) (fun _ h9 => h9) rfl hin rfl (by decide +kernel) rfl rfl (Nat.le_of_ble_eq_true rfl) d_Se_init_77 (fun H locs hP hD hS => ?_)
  have hP : va_P D vwCl (([(sq, .inr (9, [.ref q1, .ref q2, .ref q3, .ref q4, .int 0, .ref q5, .ref q6, .ref q7, .ref q8, .int (bI false), .null, .null])), (q1, .inl (K 3, 4, .inr (.inr (.inr (.inr (fun _ => none)))))), (q2, .inl (K 4, 8, .inr (.inr (.inr (.inr (fun i => if i < 8 then some (r2 i) else none)))))), (q3, .inl (K 0, 8, .inl (fun _ => 0))), (q4, .inl (K 0, 8, .inl (fun _ => 0))), (q5, .inl (K 1, 4, .inr (.inl (fun _ => 0)))), (q6, .inl (K 4, 8, .inr (.inr (.inr (.inr (fun i => if i < 8 then some (r6 i) else none)))))), (q7, .inl (K 4, 8, .inr (.inr (.inr (.inr (fun i => if i < 8 then some (r7 i) else none)))))), (q8, .inl (K 0, 4, .inl (fun _ => 0)))] : va_W) ++ ((grW K r2 4 (fun _ _ => 0) ++ grW K r6 5 (fun _ _ => 0)) ++ grW K r7 5 (fun _ _ => 0))) H := hP
  have hD : va_D A (([(sq, .inr (9, [.ref q1, .ref q2, .ref q3, .ref q4, .int 0, .ref q5, .ref q6, .ref q7, .ref q8, .int (bI false), .null, .null])), (q1, .inl (K 3, 4, .inr (.inr (.inr (.inr (fun _ => none)))))), (q2, .inl (K 4, 8, .inr (.inr (.inr (.inr (fun i => if i < 8 then some (r2 i) else none)))))), (q3, .inl (K 0, 8, .inl (fun _ => 0))), (q4, .inl (K 0, 8, .inl (fun _ => 0))), (q5, .inl (K 1, 4, .inr (.inl (fun _ => 0)))), (q6, .inl (K 4, 8, .inr (.inr (.inr (.inr (fun i => if i < 8 then some (r6 i) else none)))))), (q7, .inl (K 4, 8, .inr (.inr (.inr (.inr (fun i => if i < 8 then some (r7 i) else none)))))), (q8, .inl (K 0, 4, .inl (fun _ => 0)))] : va_W) ++ ((grW K r2 4 (fun _ _ => 0) ++ grW K r6 5 (fun _ _ => 0)) ++ grW K r7 5 (fun _ _ => 0))) := hD
  refine lv_aload_n hx hb d_Se_init_80 rfl (lv_at hl 0 rfl) ?_
  refine lv_iconst (v := 0) hx hb d_Se_init_81 (by decide) ?_
  refine va_put (D := D) (ci := 9) (v := .int (bI false)) (ty := .boolean) (C := R_Se) (T := T_Se) (N := 12) hx hb hts in_Se t_Se t_Se_ok n_Se hown hK hP hD hS 0 rfl rfl 9 (by decide) (hts _ fl_Se_46) (fun _ h9 => h9) rfl (by decide +kernel) (bI_nar _) (bI_fit _) (Nat.le_of_ble_eq_true rfl) d_Se_init_82 (fun H locs hP hD hS => ?_)
  have hP : va_P D vwCl (([(sq, .inr (9, [.ref q1, .ref q2, .ref q3, .ref q4, .int 0, .ref q5, .ref q6, .ref q7, .ref q8, .int (bI false), .null, .null])), (q1, .inl (K 3, 4, .inr (.inr (.inr (.inr (fun _ => none)))))), (q2, .inl (K 4, 8, .inr (.inr (.inr (.inr (fun i => if i < 8 then some (r2 i) else none)))))), (q3, .inl (K 0, 8, .inl (fun _ => 0))), (q4, .inl (K 0, 8, .inl (fun _ => 0))), (q5, .inl (K 1, 4, .inr (.inl (fun _ => 0)))), (q6, .inl (K 4, 8, .inr (.inr (.inr (.inr (fun i => if i < 8 then some (r6 i) else none)))))), (q7, .inl (K 4, 8, .inr (.inr (.inr (.inr (fun i => if i < 8 then some (r7 i) else none)))))), (q8, .inl (K 0, 4, .inl (fun _ => 0)))] : va_W) ++ ((grW K r2 4 (fun _ _ => 0) ++ grW K r6 5 (fun _ _ => 0)) ++ grW K r7 5 (fun _ _ => 0))) H := hP
  have hD : va_D A (([(sq, .inr (9, [.ref q1, .ref q2, .ref q3, .ref q4, .int 0, .ref q5, .ref q6, .ref q7, .ref q8, .int (bI false), .null, .null])), (q1, .inl (K 3, 4, .inr (.inr (.inr (.inr (fun _ => none)))))), (q2, .inl (K 4, 8, .inr (.inr (.inr (.inr (fun i => if i < 8 then some (r2 i) else none)))))), (q3, .inl (K 0, 8, .inl (fun _ => 0))), (q4, .inl (K 0, 8, .inl (fun _ => 0))), (q5, .inl (K 1, 4, .inr (.inl (fun _ => 0)))), (q6, .inl (K 4, 8, .inr (.inr (.inr (.inr (fun i => if i < 8 then some (r6 i) else none)))))), (q7, .inl (K 4, 8, .inr (.inr (.inr (.inr (fun i => if i < 8 then some (r7 i) else none)))))), (q8, .inl (K 0, 4, .inl (fun _ => 0)))] : va_W) ++ ((grW K r2 4 (fun _ _ => 0) ++ grW K r6 5 (fun _ _ => 0)) ++ grW K r7 5 (fun _ _ => 0))) := hD
  refine lv_aload_n hx hb d_Se_init_85 rfl (lv_at hl 0 rfl) ?_
  refine lv_iconst (v := 4) hx hb d_Se_init_86 (by decide) ?_
  refine g_newa (atype := .int) (ty := .int) hx hb (hts _ ac_int) rfl 0 rfl (fun _ h => h) hK hP hD hS hA (N' := 4) (a0 := (4, .inl (fun _ => 0))) (fun _ => rfl) (by decide) (by decide) (by decide) (by decide : 32 + 1 ≤ 34) (by decide : 164 + 4 ≤ 172) d_Se_init_87 (fun q9 H hP hD hS => ?_)
  have hP := vswP hP
  have hD := vswD hD
  have hP : va_P D vwCl (([(sq, .inr (9, [.ref q1, .ref q2, .ref q3, .ref q4, .int 0, .ref q5, .ref q6, .ref q7, .ref q8, .int (bI false), .null, .null])), (q1, .inl (K 3, 4, .inr (.inr (.inr (.inr (fun _ => none)))))), (q2, .inl (K 4, 8, .inr (.inr (.inr (.inr (fun i => if i < 8 then some (r2 i) else none)))))), (q3, .inl (K 0, 8, .inl (fun _ => 0))), (q4, .inl (K 0, 8, .inl (fun _ => 0))), (q5, .inl (K 1, 4, .inr (.inl (fun _ => 0)))), (q6, .inl (K 4, 8, .inr (.inr (.inr (.inr (fun i => if i < 8 then some (r6 i) else none)))))), (q7, .inl (K 4, 8, .inr (.inr (.inr (.inr (fun i => if i < 8 then some (r7 i) else none)))))), (q8, .inl (K 0, 4, .inl (fun _ => 0))), (q9, .inl (K 0, 4, .inl (fun _ => 0)))] : va_W) ++ ((grW K r2 4 (fun _ _ => 0) ++ grW K r6 5 (fun _ _ => 0)) ++ grW K r7 5 (fun _ _ => 0))) H := hP
  have hD : va_D A (([(sq, .inr (9, [.ref q1, .ref q2, .ref q3, .ref q4, .int 0, .ref q5, .ref q6, .ref q7, .ref q8, .int (bI false), .null, .null])), (q1, .inl (K 3, 4, .inr (.inr (.inr (.inr (fun _ => none)))))), (q2, .inl (K 4, 8, .inr (.inr (.inr (.inr (fun i => if i < 8 then some (r2 i) else none)))))), (q3, .inl (K 0, 8, .inl (fun _ => 0))), (q4, .inl (K 0, 8, .inl (fun _ => 0))), (q5, .inl (K 1, 4, .inr (.inl (fun _ => 0)))), (q6, .inl (K 4, 8, .inr (.inr (.inr (.inr (fun i => if i < 8 then some (r6 i) else none)))))), (q7, .inl (K 4, 8, .inr (.inr (.inr (.inr (fun i => if i < 8 then some (r7 i) else none)))))), (q8, .inl (K 0, 4, .inl (fun _ => 0))), (q9, .inl (K 0, 4, .inl (fun _ => 0)))] : va_W) ++ ((grW K r2 4 (fun _ _ => 0) ++ grW K r6 5 (fun _ _ => 0)) ++ grW K r7 5 (fun _ _ => 0))) := hD
  refine W.widen (k := 33) (n := 168) (by decide) (by decide) ?_
  refine va_putF (D := D) (ci := 9) (v := .ref q9) (ty := (.array .int)) (C := R_Se) (T := T_Se) (N := 12) hx hb hts in_Se t_Se t_Se_ok n_Se hown hK hP hD hS 0 rfl rfl 10 (by decide) (hts _ fl_Se_50) (fun _ h9 => h9) rfl hin rfl (by decide +kernel) rfl rfl (Nat.le_of_ble_eq_true rfl) d_Se_init_89 (fun H locs hP hD hS => ?_)
  have hP : va_P D vwCl (([(sq, .inr (9, [.ref q1, .ref q2, .ref q3, .ref q4, .int 0, .ref q5, .ref q6, .ref q7, .ref q8, .int (bI false), .ref q9, .null])), (q1, .inl (K 3, 4, .inr (.inr (.inr (.inr (fun _ => none)))))), (q2, .inl (K 4, 8, .inr (.inr (.inr (.inr (fun i => if i < 8 then some (r2 i) else none)))))), (q3, .inl (K 0, 8, .inl (fun _ => 0))), (q4, .inl (K 0, 8, .inl (fun _ => 0))), (q5, .inl (K 1, 4, .inr (.inl (fun _ => 0)))), (q6, .inl (K 4, 8, .inr (.inr (.inr (.inr (fun i => if i < 8 then some (r6 i) else none)))))), (q7, .inl (K 4, 8, .inr (.inr (.inr (.inr (fun i => if i < 8 then some (r7 i) else none)))))), (q8, .inl (K 0, 4, .inl (fun _ => 0))), (q9, .inl (K 0, 4, .inl (fun _ => 0)))] : va_W) ++ ((grW K r2 4 (fun _ _ => 0) ++ grW K r6 5 (fun _ _ => 0)) ++ grW K r7 5 (fun _ _ => 0))) H := hP
  have hD : va_D A (([(sq, .inr (9, [.ref q1, .ref q2, .ref q3, .ref q4, .int 0, .ref q5, .ref q6, .ref q7, .ref q8, .int (bI false), .ref q9, .null])), (q1, .inl (K 3, 4, .inr (.inr (.inr (.inr (fun _ => none)))))), (q2, .inl (K 4, 8, .inr (.inr (.inr (.inr (fun i => if i < 8 then some (r2 i) else none)))))), (q3, .inl (K 0, 8, .inl (fun _ => 0))), (q4, .inl (K 0, 8, .inl (fun _ => 0))), (q5, .inl (K 1, 4, .inr (.inl (fun _ => 0)))), (q6, .inl (K 4, 8, .inr (.inr (.inr (.inr (fun i => if i < 8 then some (r6 i) else none)))))), (q7, .inl (K 4, 8, .inr (.inr (.inr (.inr (fun i => if i < 8 then some (r7 i) else none)))))), (q8, .inl (K 0, 4, .inl (fun _ => 0))), (q9, .inl (K 0, 4, .inl (fun _ => 0)))] : va_W) ++ ((grW K r2 4 (fun _ _ => 0) ++ grW K r6 5 (fun _ _ => 0)) ++ grW K r7 5 (fun _ _ => 0))) := hD
  refine lv_aload_n hx hb d_Se_init_92 rfl (lv_at hl 0 rfl) ?_
  refine lv_iconst (v := 4) hx hb d_Se_init_93 (by decide) ?_
  refine g_newa (atype := .long) (ty := .long) hx hb (hts _ ac_long) rfl 1 rfl (fun _ h => h) hK hP hD hS hA (N' := 4) (a0 := (4, .inr (.inl (fun _ => 0)))) (fun _ => rfl) (by decide) (by decide) (by decide) (by decide : 33 + 1 ≤ 34) (by decide : 168 + 4 ≤ 172) d_Se_init_94 (fun q10 H hP hD hS => ?_)
  have hP := vswP hP
  have hD := vswD hD
  have hP : va_P D vwCl (([(sq, .inr (9, [.ref q1, .ref q2, .ref q3, .ref q4, .int 0, .ref q5, .ref q6, .ref q7, .ref q8, .int (bI false), .ref q9, .null])), (q1, .inl (K 3, 4, .inr (.inr (.inr (.inr (fun _ => none)))))), (q2, .inl (K 4, 8, .inr (.inr (.inr (.inr (fun i => if i < 8 then some (r2 i) else none)))))), (q3, .inl (K 0, 8, .inl (fun _ => 0))), (q4, .inl (K 0, 8, .inl (fun _ => 0))), (q5, .inl (K 1, 4, .inr (.inl (fun _ => 0)))), (q6, .inl (K 4, 8, .inr (.inr (.inr (.inr (fun i => if i < 8 then some (r6 i) else none)))))), (q7, .inl (K 4, 8, .inr (.inr (.inr (.inr (fun i => if i < 8 then some (r7 i) else none)))))), (q8, .inl (K 0, 4, .inl (fun _ => 0))), (q9, .inl (K 0, 4, .inl (fun _ => 0))), (q10, .inl (K 1, 4, .inr (.inl (fun _ => 0))))] : va_W) ++ ((grW K r2 4 (fun _ _ => 0) ++ grW K r6 5 (fun _ _ => 0)) ++ grW K r7 5 (fun _ _ => 0))) H := hP
  have hD : va_D A (([(sq, .inr (9, [.ref q1, .ref q2, .ref q3, .ref q4, .int 0, .ref q5, .ref q6, .ref q7, .ref q8, .int (bI false), .ref q9, .null])), (q1, .inl (K 3, 4, .inr (.inr (.inr (.inr (fun _ => none)))))), (q2, .inl (K 4, 8, .inr (.inr (.inr (.inr (fun i => if i < 8 then some (r2 i) else none)))))), (q3, .inl (K 0, 8, .inl (fun _ => 0))), (q4, .inl (K 0, 8, .inl (fun _ => 0))), (q5, .inl (K 1, 4, .inr (.inl (fun _ => 0)))), (q6, .inl (K 4, 8, .inr (.inr (.inr (.inr (fun i => if i < 8 then some (r6 i) else none)))))), (q7, .inl (K 4, 8, .inr (.inr (.inr (.inr (fun i => if i < 8 then some (r7 i) else none)))))), (q8, .inl (K 0, 4, .inl (fun _ => 0))), (q9, .inl (K 0, 4, .inl (fun _ => 0))), (q10, .inl (K 1, 4, .inr (.inl (fun _ => 0))))] : va_W) ++ ((grW K r2 4 (fun _ _ => 0) ++ grW K r6 5 (fun _ _ => 0)) ++ grW K r7 5 (fun _ _ => 0))) := hD
  refine W.widen (k := 34) (n := 172) (by decide) (by decide) ?_
  refine va_putF (D := D) (ci := 9) (v := .ref q10) (ty := (.array .long)) (C := R_Se) (T := T_Se) (N := 12) hx hb hts in_Se t_Se t_Se_ok n_Se hown hK hP hD hS 0 rfl rfl 11 (by decide) (hts _ fl_Se_53) (fun _ h9 => h9) rfl hin rfl (by decide +kernel) rfl rfl (Nat.le_of_ble_eq_true rfl) d_Se_init_96 (fun H locs hP hD hS => ?_)
  have hP : va_P D vwCl (([(sq, .inr (9, [.ref q1, .ref q2, .ref q3, .ref q4, .int 0, .ref q5, .ref q6, .ref q7, .ref q8, .int (bI false), .ref q9, .ref q10])), (q1, .inl (K 3, 4, .inr (.inr (.inr (.inr (fun _ => none)))))), (q2, .inl (K 4, 8, .inr (.inr (.inr (.inr (fun i => if i < 8 then some (r2 i) else none)))))), (q3, .inl (K 0, 8, .inl (fun _ => 0))), (q4, .inl (K 0, 8, .inl (fun _ => 0))), (q5, .inl (K 1, 4, .inr (.inl (fun _ => 0)))), (q6, .inl (K 4, 8, .inr (.inr (.inr (.inr (fun i => if i < 8 then some (r6 i) else none)))))), (q7, .inl (K 4, 8, .inr (.inr (.inr (.inr (fun i => if i < 8 then some (r7 i) else none)))))), (q8, .inl (K 0, 4, .inl (fun _ => 0))), (q9, .inl (K 0, 4, .inl (fun _ => 0))), (q10, .inl (K 1, 4, .inr (.inl (fun _ => 0))))] : va_W) ++ ((grW K r2 4 (fun _ _ => 0) ++ grW K r6 5 (fun _ _ => 0)) ++ grW K r7 5 (fun _ _ => 0))) H := hP
  have hD : va_D A (([(sq, .inr (9, [.ref q1, .ref q2, .ref q3, .ref q4, .int 0, .ref q5, .ref q6, .ref q7, .ref q8, .int (bI false), .ref q9, .ref q10])), (q1, .inl (K 3, 4, .inr (.inr (.inr (.inr (fun _ => none)))))), (q2, .inl (K 4, 8, .inr (.inr (.inr (.inr (fun i => if i < 8 then some (r2 i) else none)))))), (q3, .inl (K 0, 8, .inl (fun _ => 0))), (q4, .inl (K 0, 8, .inl (fun _ => 0))), (q5, .inl (K 1, 4, .inr (.inl (fun _ => 0)))), (q6, .inl (K 4, 8, .inr (.inr (.inr (.inr (fun i => if i < 8 then some (r6 i) else none)))))), (q7, .inl (K 4, 8, .inr (.inr (.inr (.inr (fun i => if i < 8 then some (r7 i) else none)))))), (q8, .inl (K 0, 4, .inl (fun _ => 0))), (q9, .inl (K 0, 4, .inl (fun _ => 0))), (q10, .inl (K 1, 4, .inr (.inl (fun _ => 0))))] : va_W) ++ ((grW K r2 4 (fun _ _ => 0) ++ grW K r6 5 (fun _ _ => 0)) ++ grW K r7 5 (fun _ _ => 0))) := hD
  refine W.widen (k := 34) (n := 172) (by decide) (by decide) ?_
  exact W.vret hx hb B.returns (fun t ht hW => ⟨⟨((fun i => match i with | 0 => q1 | 1 => q2 | 2 => q3 | 3 => q4 | 4 => q5 | 5 => q6 | 6 => q7 | 7 => q8 | 8 => q9 | _ => q10), (fun i => match i with | 0 => r2 | 1 => r6 | _ => r7)), rfl, by rw [ht]; exact (by simpa only [List.append_assoc] using hP), va_K.moved hW.alike hK, (by simpa only [List.append_assoc] using hD)⟩, hS.F ht⟩) hS.2.2 d_Se_init_99 (hlocks := B.notSynchronized)
