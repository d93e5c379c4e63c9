theorem za_IllegalArgumentException : ∀ w ∈ (vx_atS "RegularSolver" 51 "java/lang/IllegalArgumentException" gZn).filter goodWord, w ∈ gW := by decide +kernel
theorem zb_IllegalArgumentException : ∀ w ∈ (vx_atS "RegularSolver" 51 "java/lang/IllegalArgumentException" gZn).filter (fun w => !goodWord w), w ∈ gZw := by decide +kernel
theorem zc_IllegalArgumentException : ∀ w ∈ Cond.classLink "RegularSolver" 47 "java/lang/IllegalArgumentException" :: Cond.initialized "java/lang/IllegalArgumentException" :: vx_atS "RegularSolver" 51 "java/lang/IllegalArgumentException" gZn, vx_ot w = true := by decide +kernel
theorem za_IndexOutOfBoundsException : ∀ w ∈ (vx_atS "RegularSolver" 168 "java/lang/IndexOutOfBoundsException" gZn).filter goodWord, w ∈ gW := by decide +kernel
theorem zb_IndexOutOfBoundsException : ∀ w ∈ (vx_atS "RegularSolver" 168 "java/lang/IndexOutOfBoundsException" gZn).filter (fun w => !goodWord w), w ∈ gZw := by decide +kernel
theorem zc_IndexOutOfBoundsException : ∀ w ∈ Cond.classLink "RegularSolver" 164 "java/lang/IndexOutOfBoundsException" :: Cond.initialized "java/lang/IndexOutOfBoundsException" :: vx_atS "RegularSolver" 168 "java/lang/IndexOutOfBoundsException" gZn, vx_ot w = true := by decide +kernel
theorem za_IllegalStateException : ∀ w ∈ (vx_atS "RegularSolver" 201 "java/lang/IllegalStateException" gZn).filter goodWord, w ∈ gW := by decide +kernel
theorem zb_IllegalStateException : ∀ w ∈ (vx_atS "RegularSolver" 201 "java/lang/IllegalStateException" gZn).filter (fun w => !goodWord w), w ∈ gZw := by decide +kernel
theorem zc_IllegalStateException : ∀ w ∈ Cond.classLink "RegularSolver" 197 "java/lang/IllegalStateException" :: Cond.initialized "java/lang/IllegalStateException" :: vx_atS "RegularSolver" 201 "java/lang/IllegalStateException" gZn, vx_ot w = true := by decide +kernel
abbrev b_RS_requireLanguage : ByteArray := prog_1_method_21_code
def y_RS_requireLanguage : MethodName := ⟨"RegularSolver", "requireLanguage", "(I)V"⟩
abbrev w0_RS_requireLanguage : List Cond := Cond.code y_RS_requireLanguage b_RS_requireLanguage 2 none :: gW
theorem cd_RS_requireLanguage : Cond.code y_RS_requireLanguage b_RS_requireLanguage 2 none ∈ gW := gm 500 (by decide +kernel) (by decide +kernel)
theorem d_RS_requireLanguage_0 : decode b_RS_requireLanguage 0 = .ok (.iload_n 1, 1) := by decide +kernel
theorem d_RS_requireLanguage_1 : decode b_RS_requireLanguage 1 = .ok (.ifCond .lt 11, 3) := by decide +kernel
theorem d_RS_requireLanguage_4 : decode b_RS_requireLanguage 4 = .ok (.iload_n 1, 1) := by decide +kernel
theorem d_RS_requireLanguage_5 : decode b_RS_requireLanguage 5 = .ok (.aload_n 0, 1) := by decide +kernel
theorem d_RS_requireLanguage_6 : decode b_RS_requireLanguage 6 = .ok (.getfield 15, 3) := by decide +kernel
theorem d_RS_requireLanguage_9 : decode b_RS_requireLanguage 9 = .ok (.if_icmp .lt 13, 3) := by decide +kernel
theorem d_RS_requireLanguage_12 : decode b_RS_requireLanguage 12 = .ok (.new 47, 3) := by decide +kernel
theorem d_RS_requireLanguage_15 : decode b_RS_requireLanguage 15 = .ok (.dup, 1) := by decide +kernel
theorem d_RS_requireLanguage_16 : decode b_RS_requireLanguage 16 = .ok (.ldc 189, 2) := by decide +kernel
theorem d_RS_requireLanguage_18 : decode b_RS_requireLanguage 18 = .ok (.invokespecial 51, 3) := by decide +kernel
theorem d_RS_requireLanguage_21 : decode b_RS_requireLanguage 21 = .ok (.athrow, 1) := by decide +kernel
theorem d_RS_requireLanguage_22 : decode b_RS_requireLanguage 22 = .ok (.return_, 1) := by decide +kernel
abbrev b_RS_requireRoom : ByteArray := prog_1_method_22_code
def y_RS_requireRoom : MethodName := ⟨"RegularSolver", "requireRoom", "()V"⟩
abbrev w0_RS_requireRoom : List Cond := Cond.code y_RS_requireRoom b_RS_requireRoom 1 none :: gW
theorem cd_RS_requireRoom : Cond.code y_RS_requireRoom b_RS_requireRoom 1 none ∈ gW := gm 258 (by decide +kernel) (by decide +kernel)
theorem d_RS_requireRoom_0 : decode b_RS_requireRoom 0 = .ok (.aload_n 0, 1) := by decide +kernel
theorem d_RS_requireRoom_1 : decode b_RS_requireRoom 1 = .ok (.getfield 15, 3) := by decide +kernel
theorem d_RS_requireRoom_4 : decode b_RS_requireRoom 4 = .ok (.bipush 60, 2) := by decide +kernel
theorem d_RS_requireRoom_6 : decode b_RS_requireRoom 6 = .ok (.if_icmp .lt 13, 3) := by decide +kernel
theorem d_RS_requireRoom_9 : decode b_RS_requireRoom 9 = .ok (.new 164, 3) := by decide +kernel
theorem d_RS_requireRoom_12 : decode b_RS_requireRoom 12 = .ok (.dup, 1) := by decide +kernel
theorem d_RS_requireRoom_13 : decode b_RS_requireRoom 13 = .ok (.ldc 191, 2) := by decide +kernel
theorem d_RS_requireRoom_15 : decode b_RS_requireRoom 15 = .ok (.invokespecial 168, 3) := by decide +kernel
theorem d_RS_requireRoom_18 : decode b_RS_requireRoom 18 = .ok (.athrow, 1) := by decide +kernel
theorem d_RS_requireRoom_19 : decode b_RS_requireRoom 19 = .ok (.return_, 1) := by decide +kernel
abbrev b_RS_requireSolution : ByteArray := prog_1_method_23_code
def y_RS_requireSolution : MethodName := ⟨"RegularSolver", "requireSolution", "()V"⟩
abbrev w0_RS_requireSolution : List Cond := Cond.code y_RS_requireSolution b_RS_requireSolution 1 none :: gW
theorem cd_RS_requireSolution : Cond.code y_RS_requireSolution b_RS_requireSolution 1 none ∈ gW := gm 810 (by decide +kernel) (by decide +kernel)
theorem d_RS_requireSolution_0 : decode b_RS_requireSolution 0 = .ok (.aload_n 0, 1) := by decide +kernel
theorem d_RS_requireSolution_1 : decode b_RS_requireSolution 1 = .ok (.getfield 43, 3) := by decide +kernel
theorem d_RS_requireSolution_4 : decode b_RS_requireSolution 4 = .ok (.getfield 193, 3) := by decide +kernel
theorem d_RS_requireSolution_7 : decode b_RS_requireSolution 7 = .ok (.ifCond .ne 13, 3) := by decide +kernel
theorem d_RS_requireSolution_10 : decode b_RS_requireSolution 10 = .ok (.new 197, 3) := by decide +kernel
theorem d_RS_requireSolution_13 : decode b_RS_requireSolution 13 = .ok (.dup, 1) := by decide +kernel
theorem d_RS_requireSolution_14 : decode b_RS_requireSolution 14 = .ok (.ldc 199, 2) := by decide +kernel
theorem d_RS_requireSolution_16 : decode b_RS_requireSolution 16 = .ok (.invokespecial 201, 3) := by decide +kernel
theorem d_RS_requireSolution_19 : decode b_RS_requireSolution 19 = .ok (.athrow, 1) := by decide +kernel
theorem d_RS_requireSolution_20 : decode b_RS_requireSolution 20 = .ok (.return_, 1) := by decide +kernel
abbrev b_RS_requireIndex : ByteArray := prog_1_method_24_code
def y_RS_requireIndex : MethodName := ⟨"RegularSolver", "requireIndex", "(II)V"⟩
abbrev w0_RS_requireIndex : List Cond := Cond.code y_RS_requireIndex b_RS_requireIndex 2 none :: gW
theorem cd_RS_requireIndex : Cond.code y_RS_requireIndex b_RS_requireIndex 2 none ∈ gW := gm 596 (by decide +kernel) (by decide +kernel)
theorem d_RS_requireIndex_0 : decode b_RS_requireIndex 0 = .ok (.iload_n 0, 1) := by decide +kernel
theorem d_RS_requireIndex_1 : decode b_RS_requireIndex 1 = .ok (.ifCond .lt 8, 3) := by decide +kernel
theorem d_RS_requireIndex_4 : decode b_RS_requireIndex 4 = .ok (.iload_n 0, 1) := by decide +kernel
theorem d_RS_requireIndex_5 : decode b_RS_requireIndex 5 = .ok (.iload_n 1, 1) := by decide +kernel
theorem d_RS_requireIndex_6 : decode b_RS_requireIndex 6 = .ok (.if_icmp .lt 13, 3) := by decide +kernel
theorem d_RS_requireIndex_9 : decode b_RS_requireIndex 9 = .ok (.new 164, 3) := by decide +kernel
theorem d_RS_requireIndex_12 : decode b_RS_requireIndex 12 = .ok (.dup, 1) := by decide +kernel
theorem d_RS_requireIndex_13 : decode b_RS_requireIndex 13 = .ok (.ldc 202, 2) := by decide +kernel
theorem d_RS_requireIndex_15 : decode b_RS_requireIndex 15 = .ok (.invokespecial 168, 3) := by decide +kernel
theorem d_RS_requireIndex_18 : decode b_RS_requireIndex 18 = .ok (.athrow, 1) := by decide +kernel
theorem d_RS_requireIndex_19 : decode b_RS_requireIndex 19 = .ok (.return_, 1) := by decide +kernel
abbrev b_RS_requireBetween : ByteArray := prog_1_method_25_code
def y_RS_requireBetween : MethodName := ⟨"RegularSolver", "requireBetween", "(III)V"⟩
abbrev w0_RS_requireBetween : List Cond := Cond.code y_RS_requireBetween b_RS_requireBetween 3 none :: gW
theorem cd_RS_requireBetween : Cond.code y_RS_requireBetween b_RS_requireBetween 3 none ∈ gW := gm 609 (by decide +kernel) (by decide +kernel)
theorem d_RS_requireBetween_0 : decode b_RS_requireBetween 0 = .ok (.iload_n 0, 1) := by decide +kernel
theorem d_RS_requireBetween_1 : decode b_RS_requireBetween 1 = .ok (.iload_n 1, 1) := by decide +kernel
theorem d_RS_requireBetween_2 : decode b_RS_requireBetween 2 = .ok (.if_icmp .lt 8, 3) := by decide +kernel
theorem d_RS_requireBetween_5 : decode b_RS_requireBetween 5 = .ok (.iload_n 0, 1) := by decide +kernel
theorem d_RS_requireBetween_6 : decode b_RS_requireBetween 6 = .ok (.iload_n 2, 1) := by decide +kernel
theorem d_RS_requireBetween_7 : decode b_RS_requireBetween 7 = .ok (.if_icmp .le 13, 3) := by decide +kernel
theorem d_RS_requireBetween_10 : decode b_RS_requireBetween 10 = .ok (.new 47, 3) := by decide +kernel
theorem d_RS_requireBetween_13 : decode b_RS_requireBetween 13 = .ok (.dup, 1) := by decide +kernel
theorem d_RS_requireBetween_14 : decode b_RS_requireBetween 14 = .ok (.ldc 204, 2) := by decide +kernel
theorem d_RS_requireBetween_16 : decode b_RS_requireBetween 16 = .ok (.invokespecial 51, 3) := by decide +kernel
theorem d_RS_requireBetween_19 : decode b_RS_requireBetween 19 = .ok (.athrow, 1) := by decide +kernel
theorem d_RS_requireBetween_20 : decode b_RS_requireBetween 20 = .ok (.return_, 1) := by decide +kernel
abbrev b_RS_requireFactor : ByteArray := prog_1_method_26_code
def y_RS_requireFactor : MethodName := ⟨"RegularSolver", "requireFactor", "(I)V"⟩
abbrev w0_RS_requireFactor : List Cond := Cond.code y_RS_requireFactor b_RS_requireFactor 1 none :: gW
theorem cd_RS_requireFactor : Cond.code y_RS_requireFactor b_RS_requireFactor 1 none ∈ gW := gm 711 (by decide +kernel) (by decide +kernel)
theorem d_RS_requireFactor_0 : decode b_RS_requireFactor 0 = .ok (.iload_n 0, 1) := by decide +kernel
theorem d_RS_requireFactor_1 : decode b_RS_requireFactor 1 = .ok (.bipush (-100), 2) := by decide +kernel
theorem d_RS_requireFactor_3 : decode b_RS_requireFactor 3 = .ok (.bipush 100, 2) := by decide +kernel
theorem d_RS_requireFactor_5 : decode b_RS_requireFactor 5 = .ok (.invokestatic 119, 3) := by decide +kernel
theorem d_RS_requireFactor_8 : decode b_RS_requireFactor 8 = .ok (.return_, 1) := by decide +kernel
theorem pd_RS_requireLanguage : y_RS_requireLanguage.cls ≠ "java/lang/invoke/MethodHandle" ∧ y_RS_requireLanguage.cls ≠ "java/lang/invoke/VarHandle" ∧ (parseMethodDescriptor y_RS_requireLanguage.desc).map (fun d => d.parameters.length) = some 1 := by decide +kernel
theorem pd_RS_requireRoom : y_RS_requireRoom.cls ≠ "java/lang/invoke/MethodHandle" ∧ y_RS_requireRoom.cls ≠ "java/lang/invoke/VarHandle" ∧ (parseMethodDescriptor y_RS_requireRoom.desc).map (fun d => d.parameters.length) = some 0 := by decide +kernel
theorem pd_RS_requireSolution : y_RS_requireSolution.cls ≠ "java/lang/invoke/MethodHandle" ∧ y_RS_requireSolution.cls ≠ "java/lang/invoke/VarHandle" ∧ (parseMethodDescriptor y_RS_requireSolution.desc).map (fun d => d.parameters.length) = some 0 := by decide +kernel
theorem pd_RS_requireIndex : y_RS_requireIndex.cls ≠ "java/lang/invoke/MethodHandle" ∧ y_RS_requireIndex.cls ≠ "java/lang/invoke/VarHandle" ∧ (parseMethodDescriptor y_RS_requireIndex.desc).map (fun d => d.parameters.length) = some 2 := by decide +kernel
theorem pd_RS_requireBetween : y_RS_requireBetween.cls ≠ "java/lang/invoke/MethodHandle" ∧ y_RS_requireBetween.cls ≠ "java/lang/invoke/VarHandle" ∧ (parseMethodDescriptor y_RS_requireBetween.desc).map (fun d => d.parameters.length) = some 3 := by decide +kernel
theorem pd_RS_requireFactor : y_RS_requireFactor.cls ≠ "java/lang/invoke/MethodHandle" ∧ y_RS_requireFactor.cls ≠ "java/lang/invoke/VarHandle" ∧ (parseMethodDescriptor y_RS_requireFactor.desc).map (fun d => d.parameters.length) = some 1 := by decide +kernel
theorem cl_RS_47 : (Cond.classLink "RegularSolver" 47 "java/lang/IllegalArgumentException") ∈ gW := gm 186 (by decide +kernel) (by decide +kernel)
theorem ini_IllegalArgumentException : (Cond.initialized "java/lang/IllegalArgumentException") ∈ gW := gm 10 (by decide +kernel) (by decide +kernel)
theorem cl_RS_164 : (Cond.classLink "RegularSolver" 164 "java/lang/IndexOutOfBoundsException") ∈ gW := gm 259 (by decide +kernel) (by decide +kernel)
theorem ini_IndexOutOfBoundsException : (Cond.initialized "java/lang/IndexOutOfBoundsException") ∈ gW := gm 11 (by decide +kernel) (by decide +kernel)
theorem fl_RS_193 : (Cond.fieldLink "RegularSolver" 193 "RegularSolver$Search" "isKept" "Z") ∈ gW := gm 120 (by decide +kernel) (by decide +kernel)
theorem cl_RS_197 : (Cond.classLink "RegularSolver" 197 "java/lang/IllegalStateException") ∈ gW := gm 811 (by decide +kernel) (by decide +kernel)
theorem ini_IllegalStateException : (Cond.initialized "java/lang/IllegalStateException") ∈ gW := gm 22 (by decide +kernel) (by decide +kernel)
theorem ml_RS_119 : (Cond.methodLink "RegularSolver" 119 ({ cls := "RegularSolver", name := "requireBetween", desc := "(III)V" } : MethodName)) ∈ gW := gm 607 (by decide +kernel) (by decide +kernel)
theorem ini_RS : (Cond.initialized "RegularSolver") ∈ gW := gm 1 (by decide +kernel) (by decide +kernel)
theorem st_RS_requireBetween : (Cond.static ({ cls := "RegularSolver", name := "requireBetween", desc := "(III)V" } : MethodName)) ∈ gW := gm 608 (by decide +kernel) (by decide +kernel)
def f_RS_requireLanguage (n : Nat) (p0 : Int32) (xCount : Int32) : Option ((String × (Unit)) ⊕ (Unit)) :=
  if p0 < 0 then
    some (.inl ("java/lang/IllegalArgumentException", ()))
  else
    if p0 < xCount then
      some (.inr ())
    else
      some (.inl ("java/lang/IllegalArgumentException", ()))
set_option maxHeartbeats 400000 in
set_option maxRecDepth 100000 in
theorem c_RS_requireLanguage (l : Launch) (hl0 : l.stackTraces = false) {D : va_G} {K : Nat → ClassId} {T : auTab} {n : Nat} {xq : Nat} {xl : Nat} {mq : Nat} {cq : Nat} {iq : Nat} {sq : Nat} {xLang : Nat → Option Nat} {xCount : Int32} {p0 : Int32}  {r : (String × (Unit)) ⊕ (Unit)} (sz : Nat) (hf : f_RS_requireLanguage n p0 xCount = some r) : vx_Met l y_RS_requireLanguage w0_RS_requireLanguage ({ frames := 6, cells := 1, slots := 6, locals := 82 }) (xPre D K T [.ref xq, .int p0] (rsW K xq xl mq cq iq sq xLang xCount) 0 (fun _ => none) sz) (xPost D K r (fun v (g : Unit) => none) (fun v g => (rsW K xq xl mq cq iq sq xLang xCount)) (va_A (rsW K xq xl mq cq iq sq xLang xCount) sz)) (xExc D K r (fun u (g : Unit) => (rsW K xq xl mq cq iq sq xLang xCount)) (va_A (rsW K xq xl mq cq iq sq xLang xCount) sz)) 1 6 (va_A (rsW K xq xl mq cq iq sq xLang xCount) sz) := by
  unfold f_RS_requireLanguage at hf
  refine vx_ofW (cc := b_RS_requireLanguage) (maxL := 2) (ret := none) (by decide) rfl ?_
  intro p e s m args below meth c s₁ B hml htab hv
  obtain ⟨⟨rfl, hsz, hP, hK, hD0⟩, hX, hZ, hT0⟩ := hv
  subst hsz
  have hx := B.exec
  have hb := B.bytes
  have hts : ∀ w ∈ gW, w.before _ s = true := fun w hw => atoms_spec (ws := w0_RS_requireLanguage) B.pre w (List.mem_cons_of_mem _ hw)
  have hown : s.vm.findClass "RegularSolver" = some m.cls := findClass_of_methodNamed B.named
  have hD := hD0.self (sz := s.heap.size)
  generalize hAe : va_A (rsW K xq xl mq cq iq sq xLang xCount) s.heap.size = A at hD hZ hT0 ⊢
  have hA : ∀ q : Nat, s.heap.size ≤ q → A q := fun q h => by rw [← hAe]; exact Or.inr h
  have hS : va_S A s.heap s.heap [] := va_S.rf
  have hT : ∀ (q i : Nat), i < 0 → (fun _ => none) i = some q → ∀ (H : Heap) (locs : List Loc), va_S A s.heap H locs → va_P D vwCl (auT K T q) H := fun q i hi hq _ _ hS => ro_of (hT0 q i hi hq).1 (hT0 q i hi hq).2 hS
  have hTw : ∀ (q i : Nat), i < 0 → (fun _ => none) i = some q → gAw A (auT K T q) := fun q i hi hq => (hT0 q i hi hq).2
  have hl := lv_entry [.ref xq, .int p0] (n := 2) (Nat.le_of_ble_eq_true rfl)
  rw [lg_entry_eq]
  generalize (lg_sl [.ref xq, .int p0] ++ List.replicate (2 - (lg_sl [.ref xq, .int p0]).length) Slot.unset).toArray = ls at hl ⊢
  refine x_gen (P := fun H => W p l e _ s m _ below meth c H [] 0 0 _ _) ?_
  intro H hHe
  rw [← hHe] at hP
  have hS : va_S A s.heap H [] := by rw [hHe]; exact hS
  refine lv_iload_n hx hb d_RS_requireLanguage_0 rfl (lv_at hl 1 rfl) ?_
  refine lv_if_lt (tgt := 12) hx hb d_RS_requireLanguage_1 (by decide) (fun c1 => ?_) (fun c1 => ?_)
  · rw [if_pos c1] at hf
    have hr := (Option.some.inj hf).symm
    exact g_throw (text := "no such language") hx hb hl0 hown hts hZ (by decide) cl_RS_47 ini_IllegalArgumentException (by decide) za_IllegalArgumentException zb_IllegalArgumentException zc_IllegalArgumentException htab B.notSynchronized (by rw [hml]; exact hl.1) () hr hP hK hD hS d_RS_requireLanguage_12 d_RS_requireLanguage_15 d_RS_requireLanguage_16 d_RS_requireLanguage_18 d_RS_requireLanguage_21 (Nat.le_of_ble_eq_true rfl) (Nat.le_of_ble_eq_true rfl) (by decide : 0 + 1 ≤ 1) (by decide : 0 + 6 ≤ 6) (by decide : 0 + 1 ≤ 1) (by decide : 0 + 6 ≤ 6)
  · rw [if_neg c1] at hf
    refine lv_iload_n hx hb d_RS_requireLanguage_4 rfl (lv_at hl 1 rfl) ?_
    refine lv_aload_n hx hb d_RS_requireLanguage_5 rfl (lv_at hl 0 rfl) ?_
    refine va_get (D := D) (ci := 10) (v := .int xCount) (C := R_RS) (T := T_RS) (N := 6) hx hb hts in_RS hown hK hP 0 rfl rfl 1 (by decide) (hts _ fl_RS_15) (fun _ h9 => h9) rfl d_RS_requireLanguage_6 ?_
    refine lv_icmp_lt (tgt := 22) hx hb d_RS_requireLanguage_9 (by decide) (fun c2 => ?_) (fun c2 => ?_)
    · rw [if_pos c2] at hf
      have hr := (Option.some.inj hf).symm
      refine W.widen (k := 1) (n := 6) (by decide) (by decide) ?_
      exact vx_ret (W.vret hx hb B.returns (fun t ht hW => ⟨_, hr, ⟨(), rfl, by rw [ht]; exact hP, va_K.moved hW.alike hK, hD⟩, hS.F ht⟩) hS.2.2 d_RS_requireLanguage_22 (hlocks := B.notSynchronized))
    · rw [if_neg c2] at hf
      have hr := (Option.some.inj hf).symm
      exact g_throw (text := "no such language") hx hb hl0 hown hts hZ (by decide) cl_RS_47 ini_IllegalArgumentException (by decide) za_IllegalArgumentException zb_IllegalArgumentException zc_IllegalArgumentException htab B.notSynchronized (by rw [hml]; exact hl.1) () hr hP hK hD hS d_RS_requireLanguage_12 d_RS_requireLanguage_15 d_RS_requireLanguage_16 d_RS_requireLanguage_18 d_RS_requireLanguage_21 (Nat.le_of_ble_eq_true rfl) (Nat.le_of_ble_eq_true rfl) (by decide : 0 + 1 ≤ 1) (by decide : 0 + 6 ≤ 6) (by decide : 0 + 1 ≤ 1) (by decide : 0 + 6 ≤ 6)
def f_RS_requireRoom (n : Nat) (xCount : Int32) : Option ((String × (Unit)) ⊕ (Unit)) :=
  if xCount < 60 then
    some (.inr ())
  else
    some (.inl ("java/lang/IndexOutOfBoundsException", ()))
set_option maxHeartbeats 400000 in
set_option maxRecDepth 100000 in
theorem c_RS_requireRoom (l : Launch) (hl0 : l.stackTraces = false) {D : va_G} {K : Nat → ClassId} {T : auTab} {n : Nat} {xq : Nat} {xl : Nat} {mq : Nat} {cq : Nat} {iq : Nat} {sq : Nat} {xLang : Nat → Option Nat} {xCount : Int32}   {r : (String × (Unit)) ⊕ (Unit)} (sz : Nat) (hf : f_RS_requireRoom n xCount = some r) : vx_Met l y_RS_requireRoom w0_RS_requireRoom ({ frames := 6, cells := 1, slots := 6, locals := 82 }) (xPre D K T [.ref xq] (rsW K xq xl mq cq iq sq xLang xCount) 0 (fun _ => none) sz) (xPost D K r (fun v (g : Unit) => none) (fun v g => (rsW K xq xl mq cq iq sq xLang xCount)) (va_A (rsW K xq xl mq cq iq sq xLang xCount) sz)) (xExc D K r (fun u (g : Unit) => (rsW K xq xl mq cq iq sq xLang xCount)) (va_A (rsW K xq xl mq cq iq sq xLang xCount) sz)) 1 6 (va_A (rsW K xq xl mq cq iq sq xLang xCount) sz) := by
  unfold f_RS_requireRoom at hf
  refine vx_ofW (cc := b_RS_requireRoom) (maxL := 1) (ret := none) (by decide) rfl ?_
  intro p e s m args below meth c s₁ B hml htab hv
  obtain ⟨⟨rfl, hsz, hP, hK, hD0⟩, hX, hZ, hT0⟩ := hv
  subst hsz
  have hx := B.exec
  have hb := B.bytes
  have hts : ∀ w ∈ gW, w.before _ s = true := fun w hw => atoms_spec (ws := w0_RS_requireRoom) B.pre w (List.mem_cons_of_mem _ hw)
  have hown : s.vm.findClass "RegularSolver" = some m.cls := findClass_of_methodNamed B.named
  have hD := hD0.self (sz := s.heap.size)
  generalize hAe : va_A (rsW K xq xl mq cq iq sq xLang xCount) s.heap.size = A at hD hZ hT0 ⊢
  have hA : ∀ q : Nat, s.heap.size ≤ q → A q := fun q h => by rw [← hAe]; exact Or.inr h
  have hS : va_S A s.heap s.heap [] := va_S.rf
  have hT : ∀ (q i : Nat), i < 0 → (fun _ => none) i = some q → ∀ (H : Heap) (locs : List Loc), va_S A s.heap H locs → va_P D vwCl (auT K T q) H := fun q i hi hq _ _ hS => ro_of (hT0 q i hi hq).1 (hT0 q i hi hq).2 hS
  have hTw : ∀ (q i : Nat), i < 0 → (fun _ => none) i = some q → gAw A (auT K T q) := fun q i hi hq => (hT0 q i hi hq).2
  have hl := lv_entry [.ref xq] (n := 1) (Nat.le_of_ble_eq_true rfl)
  rw [lg_entry_eq]
  generalize (lg_sl [.ref xq] ++ List.replicate (1 - (lg_sl [.ref xq]).length) Slot.unset).toArray = ls at hl ⊢
  refine x_gen (P := fun H => W p l e _ s m _ below meth c H [] 0 0 _ _) ?_
  intro H hHe
  rw [← hHe] at hP
  have hS : va_S A s.heap H [] := by rw [hHe]; exact hS
  refine lv_aload_n hx hb d_RS_requireRoom_0 rfl (lv_at hl 0 rfl) ?_
  refine va_get (D := D) (ci := 10) (v := .int xCount) (C := R_RS) (T := T_RS) (N := 6) hx hb hts in_RS hown hK hP 0 rfl rfl 1 (by decide) (hts _ fl_RS_15) (fun _ h9 => h9) rfl d_RS_requireRoom_1 ?_
  refine lv_bipush (v := 60) hx hb d_RS_requireRoom_4 (by decide) ?_
  refine lv_icmp_lt (tgt := 19) hx hb d_RS_requireRoom_6 (by decide) (fun c1 => ?_) (fun c1 => ?_)
  · rw [if_pos c1] at hf
    have hr := (Option.some.inj hf).symm
    refine W.widen (k := 1) (n := 6) (by decide) (by decide) ?_
    exact vx_ret (W.vret hx hb B.returns (fun t ht hW => ⟨_, hr, ⟨(), rfl, by rw [ht]; exact hP, va_K.moved hW.alike hK, hD⟩, hS.F ht⟩) hS.2.2 d_RS_requireRoom_19 (hlocks := B.notSynchronized))
  · rw [if_neg c1] at hf
    have hr := (Option.some.inj hf).symm
    exact g_throw (text := "there are 60 languages") hx hb hl0 hown hts hZ (by decide) cl_RS_164 ini_IndexOutOfBoundsException (by decide) za_IndexOutOfBoundsException zb_IndexOutOfBoundsException zc_IndexOutOfBoundsException htab B.notSynchronized (by rw [hml]; exact hl.1) () hr hP hK hD hS d_RS_requireRoom_9 d_RS_requireRoom_12 d_RS_requireRoom_13 d_RS_requireRoom_15 d_RS_requireRoom_18 (Nat.le_of_ble_eq_true rfl) (Nat.le_of_ble_eq_true rfl) (by decide : 0 + 1 ≤ 1) (by decide : 0 + 6 ≤ 6) (by decide : 0 + 1 ≤ 1) (by decide : 0 + 6 ≤ 6)
def f_RS_requireSolution (n : Nat) (sKept : Bool) : Option ((String × (Unit)) ⊕ (Unit)) :=
  if sKept = true then
    some (.inr ())
  else
    some (.inl ("java/lang/IllegalStateException", ()))
set_option maxHeartbeats 400000 in
set_option maxRecDepth 100000 in
theorem c_RS_requireSolution (l : Launch) (hl0 : l.stackTraces = false) {D : va_G} {K : Nat → ClassId} {T : auTab} {n : Nat} {xq : Nat} {xl : Nat} {mq : Nat} {cq : Nat} {iq : Nat} {sq : Nat} {sA : Nat} {sF : Nat} {sLe : Nat} {sMo : Nat} {sAl : Nat} {sRL : Nat} {sRM : Nat} {sLn : Nat} {sKL : Nat} {sKW : Nat} {fF : Nat → Nat} {fL : Nat → Nat} {fM : Nat → Nat} {xLang : Nat → Option Nat} {xCount : Int32} {sAssigned : Nat → Option Nat} {sLeast : Nat → Int32} {sMost : Nat → Int32} {sCount : Int32} {sAllowed : Nat → Int64} {sLengths : Nat → Int32} {sKept : Bool} {sKeptLengths : Nat → Int32} {sKeptWords : Nat → Int64} {gF : Nat → Nat → Int32} {gL : Nat → Nat → Int32} {gM : Nat → Nat → Int32}   {r : (String × (Unit)) ⊕ (Unit)} (sz : Nat) (hf : f_RS_requireSolution n sKept = some r) : vx_Met l y_RS_requireSolution w0_RS_requireSolution ({ frames := 6, cells := 1, slots := 6, locals := 82 }) (xPre D K T [.ref xq] ((rsW K xq xl mq cq iq sq xLang xCount) ++ (sgW K sq sA sF sLe sMo sAl sRL sRM sLn sKL sKW fF fL fM sAssigned sLeast sMost sCount sAllowed sLengths sKept sKeptLengths sKeptWords gF gL gM)) 0 (fun _ => none) sz) (xPost D K r (fun v (g : Unit) => none) (fun v g => ((rsW K xq xl mq cq iq sq xLang xCount) ++ (sgW K sq sA sF sLe sMo sAl sRL sRM sLn sKL sKW fF fL fM sAssigned sLeast sMost sCount sAllowed sLengths sKept sKeptLengths sKeptWords gF gL gM))) (va_A ((rsW K xq xl mq cq iq sq xLang xCount) ++ (sgW K sq sA sF sLe sMo sAl sRL sRM sLn sKL sKW fF fL fM sAssigned sLeast sMost sCount sAllowed sLengths sKept sKeptLengths sKeptWords gF gL gM)) sz)) (xExc D K r (fun u (g : Unit) => ((rsW K xq xl mq cq iq sq xLang xCount) ++ (sgW K sq sA sF sLe sMo sAl sRL sRM sLn sKL sKW fF fL fM sAssigned sLeast sMost sCount sAllowed sLengths sKept sKeptLengths sKeptWords gF gL gM))) (va_A ((rsW K xq xl mq cq iq sq xLang xCount) ++ (sgW K sq sA sF sLe sMo sAl sRL sRM sLn sKL sKW fF fL fM sAssigned sLeast sMost sCount sAllowed sLengths sKept sKeptLengths sKeptWords gF gL gM)) sz)) 1 6 (va_A ((rsW K xq xl mq cq iq sq xLang xCount) ++ (sgW K sq sA sF sLe sMo sAl sRL sRM sLn sKL sKW fF fL fM sAssigned sLeast sMost sCount sAllowed sLengths sKept sKeptLengths sKeptWords gF gL gM)) sz) := by
  unfold f_RS_requireSolution at hf
  refine vx_ofW (cc := b_RS_requireSolution) (maxL := 1) (ret := none) (by decide) rfl ?_
  intro p e s m args below meth c s₁ B hml htab hv
  obtain ⟨⟨rfl, hsz, hP, hK, hD0⟩, hX, hZ, hT0⟩ := hv
  subst hsz
  have hx := B.exec
  have hb := B.bytes
  have hts : ∀ w ∈ gW, w.before _ s = true := fun w hw => atoms_spec (ws := w0_RS_requireSolution) B.pre w (List.mem_cons_of_mem _ hw)
  have hown : s.vm.findClass "RegularSolver" = some m.cls := findClass_of_methodNamed B.named
  have hD := hD0.self (sz := s.heap.size)
  generalize hAe : va_A ((rsW K xq xl mq cq iq sq xLang xCount) ++ (sgW K sq sA sF sLe sMo sAl sRL sRM sLn sKL sKW fF fL fM sAssigned sLeast sMost sCount sAllowed sLengths sKept sKeptLengths sKeptWords gF gL gM)) s.heap.size = A at hD hZ hT0 ⊢
  have hA : ∀ q : Nat, s.heap.size ≤ q → A q := fun q h => by rw [← hAe]; exact Or.inr h
  have hS : va_S A s.heap s.heap [] := va_S.rf
  have hT : ∀ (q i : Nat), i < 0 → (fun _ => none) i = some q → ∀ (H : Heap) (locs : List Loc), va_S A s.heap H locs → va_P D vwCl (auT K T q) H := fun q i hi hq _ _ hS => ro_of (hT0 q i hi hq).1 (hT0 q i hi hq).2 hS
  have hTw : ∀ (q i : Nat), i < 0 → (fun _ => none) i = some q → gAw A (auT K T q) := fun q i hi hq => (hT0 q i hi hq).2
  have hl := lv_entry [.ref xq] (n := 1) (Nat.le_of_ble_eq_true rfl)
  rw [lg_entry_eq]
  generalize (lg_sl [.ref xq] ++ List.replicate (1 - (lg_sl [.ref xq]).length) Slot.unset).toArray = ls at hl ⊢
  refine x_gen (P := fun H => W p l e _ s m _ below meth c H [] 0 0 _ _) ?_
  intro H hHe
  rw [← hHe] at hP
  have hS : va_S A s.heap H [] := by rw [hHe]; exact hS
  refine lv_aload_n hx hb d_RS_requireSolution_0 rfl (lv_at hl 0 rfl) ?_
  refine va_get (D := D) (ci := 10) (v := .ref sq) (C := R_RS) (T := T_RS) (N := 6) hx hb hts in_RS hown hK hP 0 rfl rfl 5 (by decide) (hts _ fl_RS_43) (fun _ h9 => h9) rfl d_RS_requireSolution_1 ?_
  refine va_get (D := D) (ci := 9) (v := .int (bI sKept)) (C := R_Se) (T := T_Se) (N := 12) hx hb hts in_Se hown hK hP 2 rfl rfl 9 (by decide) (hts _ fl_RS_193) (fun _ h9 => h9) rfl d_RS_requireSolution_4 ?_
  refine bz_ne (tgt := 20) hx hb d_RS_requireSolution_7 (by decide) (fun c1 => ?_) (fun c1 => ?_)
  · rw [if_pos c1] at hf
    have hr := (Option.some.inj hf).symm
    refine W.widen (k := 1) (n := 6) (by decide) (by decide) ?_
    exact vx_ret (W.vret hx hb B.returns (fun t ht hW => ⟨_, hr, ⟨(), rfl, by rw [ht]; exact hP, va_K.moved hW.alike hK, hD⟩, hS.F ht⟩) hS.2.2 d_RS_requireSolution_20 (hlocks := B.notSynchronized))
  · rw [if_neg c1] at hf
    have hr := (Option.some.inj hf).symm
    exact g_throw (text := "no solution is kept") hx hb hl0 hown hts hZ (by decide) cl_RS_197 ini_IllegalStateException (by decide) za_IllegalStateException zb_IllegalStateException zc_IllegalStateException htab B.notSynchronized (by rw [hml]; exact hl.1) () hr hP hK hD hS d_RS_requireSolution_10 d_RS_requireSolution_13 d_RS_requireSolution_14 d_RS_requireSolution_16 d_RS_requireSolution_19 (Nat.le_of_ble_eq_true rfl) (Nat.le_of_ble_eq_true rfl) (by decide : 0 + 1 ≤ 1) (by decide : 0 + 6 ≤ 6) (by decide : 0 + 1 ≤ 1) (by decide : 0 + 6 ≤ 6)
def f_RS_requireIndex (n : Nat) (p0 : Int32) (p1 : Int32) : Option ((String × (Unit)) ⊕ (Unit)) :=
  if p0 < 0 then
    some (.inl ("java/lang/IndexOutOfBoundsException", ()))
  else
    if p0 < p1 then
      some (.inr ())
    else
      some (.inl ("java/lang/IndexOutOfBoundsException", ()))
set_option maxHeartbeats 400000 in
set_option maxRecDepth 100000 in
theorem c_RS_requireIndex (l : Launch) (hl0 : l.stackTraces = false) {D : va_G} {K : Nat → ClassId} {T : auTab} {n : Nat}   {p0 : Int32} {p1 : Int32}  {r : (String × (Unit)) ⊕ (Unit)} (sz : Nat) (hf : f_RS_requireIndex n p0 p1 = some r) : vx_Met l y_RS_requireIndex w0_RS_requireIndex ({ frames := 6, cells := 1, slots := 6, locals := 82 }) (xPre D K T [.int p0, .int p1] [] 0 (fun _ => none) sz) (xPost D K r (fun v (g : Unit) => none) (fun v g => []) (va_A [] sz)) (xExc D K r (fun u (g : Unit) => []) (va_A [] sz)) 1 6 (va_A [] sz) := by
  unfold f_RS_requireIndex at hf
  refine vx_ofW (cc := b_RS_requireIndex) (maxL := 2) (ret := none) (by decide) rfl ?_
  intro p e s m args below meth c s₁ B hml htab hv
  obtain ⟨⟨rfl, hsz, hP, hK, hD0⟩, hX, hZ, hT0⟩ := hv
  subst hsz
  have hx := B.exec
  have hb := B.bytes
  have hts : ∀ w ∈ gW, w.before _ s = true := fun w hw => atoms_spec (ws := w0_RS_requireIndex) B.pre w (List.mem_cons_of_mem _ hw)
  have hown : s.vm.findClass "RegularSolver" = some m.cls := findClass_of_methodNamed B.named
  have hD := hD0.self (sz := s.heap.size)
  generalize hAe : va_A [] s.heap.size = A at hD hZ hT0 ⊢
  have hA : ∀ q : Nat, s.heap.size ≤ q → A q := fun q h => by rw [← hAe]; exact Or.inr h
  have hS : va_S A s.heap s.heap [] := va_S.rf
  have hT : ∀ (q i : Nat), i < 0 → (fun _ => none) i = some q → ∀ (H : Heap) (locs : List Loc), va_S A s.heap H locs → va_P D vwCl (auT K T q) H := fun q i hi hq _ _ hS => ro_of (hT0 q i hi hq).1 (hT0 q i hi hq).2 hS
  have hTw : ∀ (q i : Nat), i < 0 → (fun _ => none) i = some q → gAw A (auT K T q) := fun q i hi hq => (hT0 q i hi hq).2
  have hl := lv_entry [.int p0, .int p1] (n := 2) (Nat.le_of_ble_eq_true rfl)
  rw [lg_entry_eq]
  generalize (lg_sl [.int p0, .int p1] ++ List.replicate (2 - (lg_sl [.int p0, .int p1]).length) Slot.unset).toArray = ls at hl ⊢
  refine x_gen (P := fun H => W p l e _ s m _ below meth c H [] 0 0 _ _) ?_
  intro H hHe
  rw [← hHe] at hP
  have hS : va_S A s.heap H [] := by rw [hHe]; exact hS
  refine lv_iload_n hx hb d_RS_requireIndex_0 rfl (lv_at hl 0 rfl) ?_
  refine lv_if_lt (tgt := 9) hx hb d_RS_requireIndex_1 (by decide) (fun c1 => ?_) (fun c1 => ?_)
  · rw [if_pos c1] at hf
    have hr := (Option.some.inj hf).symm
    exact g_throw (text := "no such state") hx hb hl0 hown hts hZ (by decide) cl_RS_164 ini_IndexOutOfBoundsException (by decide) za_IndexOutOfBoundsException zb_IndexOutOfBoundsException zc_IndexOutOfBoundsException htab B.notSynchronized (by rw [hml]; exact hl.1) () hr hP hK hD hS d_RS_requireIndex_9 d_RS_requireIndex_12 d_RS_requireIndex_13 d_RS_requireIndex_15 d_RS_requireIndex_18 (Nat.le_of_ble_eq_true rfl) (Nat.le_of_ble_eq_true rfl) (by decide : 0 + 1 ≤ 1) (by decide : 0 + 6 ≤ 6) (by decide : 0 + 1 ≤ 1) (by decide : 0 + 6 ≤ 6)
  · rw [if_neg c1] at hf
    refine lv_iload_n hx hb d_RS_requireIndex_4 rfl (lv_at hl 0 rfl) ?_
    refine lv_iload_n hx hb d_RS_requireIndex_5 rfl (lv_at hl 1 rfl) ?_
    refine lv_icmp_lt (tgt := 19) hx hb d_RS_requireIndex_6 (by decide) (fun c2 => ?_) (fun c2 => ?_)
    · rw [if_pos c2] at hf
      have hr := (Option.some.inj hf).symm
      refine W.widen (k := 1) (n := 6) (by decide) (by decide) ?_
      exact vx_ret (W.vret hx hb B.returns (fun t ht hW => ⟨_, hr, ⟨(), rfl, by rw [ht]; exact hP, va_K.moved hW.alike hK, hD⟩, hS.F ht⟩) hS.2.2 d_RS_requireIndex_19 (hlocks := B.notSynchronized))
    · rw [if_neg c2] at hf
      have hr := (Option.some.inj hf).symm
      exact g_throw (text := "no such state") hx hb hl0 hown hts hZ (by decide) cl_RS_164 ini_IndexOutOfBoundsException (by decide) za_IndexOutOfBoundsException zb_IndexOutOfBoundsException zc_IndexOutOfBoundsException htab B.notSynchronized (by rw [hml]; exact hl.1) () hr hP hK hD hS d_RS_requireIndex_9 d_RS_requireIndex_12 d_RS_requireIndex_13 d_RS_requireIndex_15 d_RS_requireIndex_18 (Nat.le_of_ble_eq_true rfl) (Nat.le_of_ble_eq_true rfl) (by decide : 0 + 1 ≤ 1) (by decide : 0 + 6 ≤ 6) (by decide : 0 + 1 ≤ 1) (by decide : 0 + 6 ≤ 6)
def f_RS_requireBetween (n : Nat) (p0 : Int32) (p1 : Int32) (p2 : Int32) : Option ((String × (Unit)) ⊕ (Unit)) :=
  if p0 < p1 then
    some (.inl ("java/lang/IllegalArgumentException", ()))
  else
    if p0 ≤ p2 then
      some (.inr ())
    else
      some (.inl ("java/lang/IllegalArgumentException", ()))
set_option maxHeartbeats 400000 in
set_option maxRecDepth 100000 in
theorem c_RS_requireBetween (l : Launch) (hl0 : l.stackTraces = false) {D : va_G} {K : Nat → ClassId} {T : auTab} {n : Nat}   {p0 : Int32} {p1 : Int32} {p2 : Int32}  {r : (String × (Unit)) ⊕ (Unit)} (sz : Nat) (hf : f_RS_requireBetween n p0 p1 p2 = some r) : vx_Met l y_RS_requireBetween w0_RS_requireBetween ({ frames := 6, cells := 1, slots := 6, locals := 82 }) (xPre D K T [.int p0, .int p1, .int p2] [] 0 (fun _ => none) sz) (xPost D K r (fun v (g : Unit) => none) (fun v g => []) (va_A [] sz)) (xExc D K r (fun u (g : Unit) => []) (va_A [] sz)) 1 6 (va_A [] sz) := by
  unfold f_RS_requireBetween at hf
  refine vx_ofW (cc := b_RS_requireBetween) (maxL := 3) (ret := none) (by decide) rfl ?_
  intro p e s m args below meth c s₁ B hml htab hv
  obtain ⟨⟨rfl, hsz, hP, hK, hD0⟩, hX, hZ, hT0⟩ := hv
  subst hsz
  have hx := B.exec
  have hb := B.bytes
  have hts : ∀ w ∈ gW, w.before _ s = true := fun w hw => atoms_spec (ws := w0_RS_requireBetween) B.pre w (List.mem_cons_of_mem _ hw)
  have hown : s.vm.findClass "RegularSolver" = some m.cls := findClass_of_methodNamed B.named
  have hD := hD0.self (sz := s.heap.size)
  generalize hAe : va_A [] s.heap.size = A at hD hZ hT0 ⊢
  have hA : ∀ q : Nat, s.heap.size ≤ q → A q := fun q h => by rw [← hAe]; exact Or.inr h
  have hS : va_S A s.heap s.heap [] := va_S.rf
  have hT : ∀ (q i : Nat), i < 0 → (fun _ => none) i = some q → ∀ (H : Heap) (locs : List Loc), va_S A s.heap H locs → va_P D vwCl (auT K T q) H := fun q i hi hq _ _ hS => ro_of (hT0 q i hi hq).1 (hT0 q i hi hq).2 hS
  have hTw : ∀ (q i : Nat), i < 0 → (fun _ => none) i = some q → gAw A (auT K T q) := fun q i hi hq => (hT0 q i hi hq).2
  have hl := lv_entry [.int p0, .int p1, .int p2] (n := 3) (Nat.le_of_ble_eq_true rfl)
  rw [lg_entry_eq]
  generalize (lg_sl [.int p0, .int p1, .int p2] ++ List.replicate (3 - (lg_sl [.int p0, .int p1, .int p2]).length) Slot.unset).toArray = ls at hl ⊢
  refine x_gen (P := fun H => W p l e _ s m _ below meth c H [] 0 0 _ _) ?_
  intro H hHe
  rw [← hHe] at hP
  have hS : va_S A s.heap H [] := by rw [hHe]; exact hS
  refine lv_iload_n hx hb d_RS_requireBetween_0 rfl (lv_at hl 0 rfl) ?_
  refine lv_iload_n hx hb d_RS_requireBetween_1 rfl (lv_at hl 1 rfl) ?_
  refine lv_icmp_lt (tgt := 10) hx hb d_RS_requireBetween_2 (by decide) (fun c1 => ?_) (fun c1 => ?_)
  · rw [if_pos c1] at hf
    have hr := (Option.some.inj hf).symm
    exact g_throw (text := "a number is out of its range") hx hb hl0 hown hts hZ (by decide) cl_RS_47 ini_IllegalArgumentException (by decide) za_IllegalArgumentException zb_IllegalArgumentException zc_IllegalArgumentException htab B.notSynchronized (by rw [hml]; exact hl.1) () hr hP hK hD hS d_RS_requireBetween_10 d_RS_requireBetween_13 d_RS_requireBetween_14 d_RS_requireBetween_16 d_RS_requireBetween_19 (Nat.le_of_ble_eq_true rfl) (Nat.le_of_ble_eq_true rfl) (by decide : 0 + 1 ≤ 1) (by decide : 0 + 6 ≤ 6) (by decide : 0 + 1 ≤ 1) (by decide : 0 + 6 ≤ 6)
  · rw [if_neg c1] at hf
    refine lv_iload_n hx hb d_RS_requireBetween_5 rfl (lv_at hl 0 rfl) ?_
    refine lv_iload_n hx hb d_RS_requireBetween_6 rfl (lv_at hl 2 rfl) ?_
    refine lv_icmp_le (tgt := 20) hx hb d_RS_requireBetween_7 (by decide) (fun c2 => ?_) (fun c2 => ?_)
    · rw [if_pos c2] at hf
      have hr := (Option.some.inj hf).symm
      refine W.widen (k := 1) (n := 6) (by decide) (by decide) ?_
      exact vx_ret (W.vret hx hb B.returns (fun t ht hW => ⟨_, hr, ⟨(), rfl, by rw [ht]; exact hP, va_K.moved hW.alike hK, hD⟩, hS.F ht⟩) hS.2.2 d_RS_requireBetween_20 (hlocks := B.notSynchronized))
    · rw [if_neg c2] at hf
      have hr := (Option.some.inj hf).symm
      exact g_throw (text := "a number is out of its range") hx hb hl0 hown hts hZ (by decide) cl_RS_47 ini_IllegalArgumentException (by decide) za_IllegalArgumentException zb_IllegalArgumentException zc_IllegalArgumentException htab B.notSynchronized (by rw [hml]; exact hl.1) () hr hP hK hD hS d_RS_requireBetween_10 d_RS_requireBetween_13 d_RS_requireBetween_14 d_RS_requireBetween_16 d_RS_requireBetween_19 (Nat.le_of_ble_eq_true rfl) (Nat.le_of_ble_eq_true rfl) (by decide : 0 + 1 ≤ 1) (by decide : 0 + 6 ≤ 6) (by decide : 0 + 1 ≤ 1) (by decide : 0 + 6 ≤ 6)
def f_RS_requireFactor (n : Nat) (p0 : Int32) : Option ((String × (Unit)) ⊕ (Unit)) :=
  (f_RS_requireBetween n p0 (-100) 100).bind fun u1 => u1.elim (fun x => some (.inl (x.1, ()))) fun y1 =>
  some (.inr ())
set_option maxHeartbeats 400000 in
set_option maxRecDepth 100000 in
theorem c_RS_requireFactor (l : Launch) (hl0 : l.stackTraces = false) {D : va_G} {K : Nat → ClassId} {T : auTab} {n : Nat}   {p0 : Int32}  {r : (String × (Unit)) ⊕ (Unit)} (sz : Nat) (hf : f_RS_requireFactor n p0 = some r) : vx_Met l y_RS_requireFactor w0_RS_requireFactor ({ frames := 7, cells := 1, slots := 6, locals := 104 }) (xPre D K T [.int p0] [] 0 (fun _ => none) sz) (xPost D K r (fun v (g : Unit) => none) (fun v g => []) (va_A [] sz)) (xExc D K r (fun u (g : Unit) => []) (va_A [] sz)) 1 6 (va_A [] sz) := by
  unfold f_RS_requireFactor at hf
  refine vx_ofW (cc := b_RS_requireFactor) (maxL := 1) (ret := none) (by decide) rfl ?_
  intro p e s m args below meth c s₁ B hml htab hv
  obtain ⟨⟨rfl, hsz, hP, hK, hD0⟩, hX, hZ, hT0⟩ := hv
  subst hsz
  have hx := B.exec
  have hb := B.bytes
  have hts : ∀ w ∈ gW, w.before _ s = true := fun w hw => atoms_spec (ws := w0_RS_requireFactor) B.pre w (List.mem_cons_of_mem _ hw)
  have hown : s.vm.findClass "RegularSolver" = some m.cls := findClass_of_methodNamed B.named
  have hD := hD0.self (sz := s.heap.size)
  generalize hAe : va_A [] s.heap.size = A at hD hZ hT0 ⊢
  have hA : ∀ q : Nat, s.heap.size ≤ q → A q := fun q h => by rw [← hAe]; exact Or.inr h
  have hS : va_S A s.heap s.heap [] := va_S.rf
  have hT : ∀ (q i : Nat), i < 0 → (fun _ => none) i = some q → ∀ (H : Heap) (locs : List Loc), va_S A s.heap H locs → va_P D vwCl (auT K T q) H := fun q i hi hq _ _ hS => ro_of (hT0 q i hi hq).1 (hT0 q i hi hq).2 hS
  have hTw : ∀ (q i : Nat), i < 0 → (fun _ => none) i = some q → gAw A (auT K T q) := fun q i hi hq => (hT0 q i hi hq).2
  have hl := lv_entry [.int p0] (n := 1) (Nat.le_of_ble_eq_true rfl)
  rw [lg_entry_eq]
  generalize (lg_sl [.int p0] ++ List.replicate (1 - (lg_sl [.int p0]).length) Slot.unset).toArray = ls at hl ⊢
  refine x_gen (P := fun H => W p l e _ s m _ below meth c H [] 0 0 _ _) ?_
  intro H hHe
  rw [← hHe] at hP
  have hS : va_S A s.heap H [] := by rw [hHe]; exact hS
  refine lv_iload_n hx hb d_RS_requireFactor_0 rfl (lv_at hl 0 rfl) ?_
  refine lv_bipush (v := -100) hx hb d_RS_requireFactor_1 (by decide) ?_
  refine lv_bipush (v := 100) hx hb d_RS_requireFactor_3 (by decide) ?_
  obtain ⟨u1, eu1, hf⟩ := obd hf
  refine x_call (vx_runS (As := [.int p0, .int (-100), .int 100]) (rest := []) ⟨hx, hb, hml, hown, hts⟩ (c_RS_requireBetween l hl0 H.size eu1) (gS 3 hts cd_RS_requireBetween ml_RS_119 st_RS_requireBetween ini_RS rfl rfl pd_RS_requireBetween ⟨Nat.le_of_ble_eq_true rfl, Nat.le_of_ble_eq_true rfl⟩) ⟨xPre_blind, xPre_of (T := fun _ => (0, 0, 0, 0, fun _ => 0, 0, fun _ => 0)) (asg := fun _ => none) va_P0 hK va_nil hS hA hX hZ xT0⟩ rfl rfl hl.1 rfl (lv_room (Nat.le_of_ble_eq_true rfl)) d_RS_requireFactor_5 ⟨(by decide : 0 + 1 ≤ 1), (by decide : 0 + 6 ≤ 6)⟩) va_nil hS hA (fun E x ex g2 ce q9 H1 locs hP1 hD1 hk1 hS1 hq1 hq2 hq3 => ?_) (fun y1 ev g2 H1 locs hP1 hD1 hk1 hS1 => ?_)
  · subst ex
    have hr := (Option.some.inj hf).symm
    obtain ⟨hP, hD⟩ : _ ∧ _ := ⟨x_keep0 hP hk1, hD⟩
    have hS := hS1
    generalize H1 = H at hP hS hq1 ⊢
    exact x_out htab B.notSynchronized hq1 hq2 hq3 () hr hP hK hD hS (by decide : 0 + 1 ≤ 1) (by decide : 0 + 6 ≤ 6)
  subst ev
  replace hf := oel hf
  obtain ⟨hP, hD⟩ : _ ∧ _ := ⟨x_keep0 hP hk1, hD⟩
  have hS := hS1
  generalize H1 = H at hP hS ⊢
  have hP : va_P D vwCl [] H := hP
  have hD : va_D A [] := hD
  have hr := (Option.some.inj hf).symm
  refine W.widen (k := 1) (n := 6) (by decide) (by decide) ?_
  exact vx_ret (W.vret hx hb B.returns (fun t ht hW => ⟨_, hr, ⟨(), rfl, by rw [ht]; exact hP, va_K.moved hW.alike hK, hD⟩, hS.F ht⟩) hS.2.2 d_RS_requireFactor_8 (hlocks := B.notSynchronized))
