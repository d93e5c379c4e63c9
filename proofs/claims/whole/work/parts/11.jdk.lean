abbrev auW (K : Nat → ClassId) (q : Nat) (an : Nat) (aa : Nat) (aStates : Int32) (aNl : Nat) (aNext : Nat → Int32) (aLast : Int64) (aAhead : Nat → Int64) : va_W := [(q, .inr (1, [.int aStates, .ref an, .long aLast, .ref aa])), (an, .inl (K 0, aNl, .inl aNext)), (aa, .inl (K 1, 64, .inr (.inl aAhead)))]
abbrev iaW (K : Nat → ClassId) (ia : Nat) (iN : Nat) (iF : Nat → Int32) : va_W := [(ia, .inl (K 0, iN, .inl iF))]
abbrev laW (K : Nat → ClassId) (la : Nat) (jN : Nat) (jF : Nat → Int64) : va_W := [(la, .inl (K 1, jN, .inr (.inl jF)))]
abbrev b_Ar_fillI : ByteArray := prog_24_method_103_code
def y_Ar_fillI : MethodName := ⟨"java/util/Arrays", "fill", "([II)V"⟩
abbrev w0_Ar_fillI : List Cond := Cond.code y_Ar_fillI b_Ar_fillI 4 none :: gW
theorem cd_Ar_fillI : Cond.code y_Ar_fillI b_Ar_fillI 4 none ∈ gW := gm 321 (by decide +kernel) (by decide +kernel)
theorem d_Ar_fillI_0 : decode b_Ar_fillI 0 = .ok (.iconst 0, 1) := by decide +kernel
theorem d_Ar_fillI_1 : decode b_Ar_fillI 1 = .ok (.istore_n 2, 1) := by decide +kernel
theorem d_Ar_fillI_2 : decode b_Ar_fillI 2 = .ok (.aload_n 0, 1) := by decide +kernel
theorem d_Ar_fillI_3 : decode b_Ar_fillI 3 = .ok (.arraylength, 1) := by decide +kernel
theorem d_Ar_fillI_4 : decode b_Ar_fillI 4 = .ok (.istore_n 3, 1) := by decide +kernel
theorem d_Ar_fillI_5 : decode b_Ar_fillI 5 = .ok (.iload_n 2, 1) := by decide +kernel
theorem d_Ar_fillI_6 : decode b_Ar_fillI 6 = .ok (.iload_n 3, 1) := by decide +kernel
theorem d_Ar_fillI_7 : decode b_Ar_fillI 7 = .ok (.if_icmp .ge 13, 3) := by decide +kernel
theorem d_Ar_fillI_10 : decode b_Ar_fillI 10 = .ok (.aload_n 0, 1) := by decide +kernel
theorem d_Ar_fillI_11 : decode b_Ar_fillI 11 = .ok (.iload_n 2, 1) := by decide +kernel
theorem d_Ar_fillI_12 : decode b_Ar_fillI 12 = .ok (.iload_n 1, 1) := by decide +kernel
theorem d_Ar_fillI_13 : decode b_Ar_fillI 13 = .ok (.iastore, 1) := by decide +kernel
theorem d_Ar_fillI_14 : decode b_Ar_fillI 14 = .ok (.iinc 2 1, 3) := by decide +kernel
theorem d_Ar_fillI_17 : decode b_Ar_fillI 17 = .ok (.goto (-12), 3) := by decide +kernel
theorem d_Ar_fillI_20 : decode b_Ar_fillI 20 = .ok (.return_, 1) := by decide +kernel
abbrev b_Ar_fillJ : ByteArray := prog_24_method_101_code
def y_Ar_fillJ : MethodName := ⟨"java/util/Arrays", "fill", "([JJ)V"⟩
abbrev w0_Ar_fillJ : List Cond := Cond.code y_Ar_fillJ b_Ar_fillJ 5 none :: gW
theorem cd_Ar_fillJ : Cond.code y_Ar_fillJ b_Ar_fillJ 5 none ∈ gW := gm 678 (by decide +kernel) (by decide +kernel)
theorem d_Ar_fillJ_0 : decode b_Ar_fillJ 0 = .ok (.iconst 0, 1) := by decide +kernel
theorem d_Ar_fillJ_1 : decode b_Ar_fillJ 1 = .ok (.istore_n 3, 1) := by decide +kernel
theorem d_Ar_fillJ_2 : decode b_Ar_fillJ 2 = .ok (.aload_n 0, 1) := by decide +kernel
theorem d_Ar_fillJ_3 : decode b_Ar_fillJ 3 = .ok (.arraylength, 1) := by decide +kernel
theorem d_Ar_fillJ_4 : decode b_Ar_fillJ 4 = .ok (.istore 4, 2) := by decide +kernel
theorem d_Ar_fillJ_6 : decode b_Ar_fillJ 6 = .ok (.iload_n 3, 1) := by decide +kernel
theorem d_Ar_fillJ_7 : decode b_Ar_fillJ 7 = .ok (.iload 4, 2) := by decide +kernel
theorem d_Ar_fillJ_9 : decode b_Ar_fillJ 9 = .ok (.if_icmp .ge 13, 3) := by decide +kernel
theorem d_Ar_fillJ_12 : decode b_Ar_fillJ 12 = .ok (.aload_n 0, 1) := by decide +kernel
theorem d_Ar_fillJ_13 : decode b_Ar_fillJ 13 = .ok (.iload_n 3, 1) := by decide +kernel
theorem d_Ar_fillJ_14 : decode b_Ar_fillJ 14 = .ok (.lload_n 1, 1) := by decide +kernel
theorem d_Ar_fillJ_15 : decode b_Ar_fillJ 15 = .ok (.lastore, 1) := by decide +kernel
theorem d_Ar_fillJ_16 : decode b_Ar_fillJ 16 = .ok (.iinc 3 1, 3) := by decide +kernel
theorem d_Ar_fillJ_19 : decode b_Ar_fillJ 19 = .ok (.goto (-13), 3) := by decide +kernel
theorem d_Ar_fillJ_22 : decode b_Ar_fillJ 22 = .ok (.return_, 1) := by decide +kernel
abbrev b_Ln_bitCount : ByteArray := prog_18_method_50_code
def y_Ln_bitCount : MethodName := ⟨"java/lang/Long", "bitCount", "(J)I"⟩
abbrev w0_Ln_bitCount : List Cond := Cond.code y_Ln_bitCount b_Ln_bitCount 2 (some .int) :: gW
theorem cd_Ln_bitCount : Cond.code y_Ln_bitCount b_Ln_bitCount 2 (some .int) ∈ gW := gm 590 (by decide +kernel) (by decide +kernel)
theorem d_Ln_bitCount_0 : decode b_Ln_bitCount 0 = .ok (.lload_n 0, 1) := by decide +kernel
theorem d_Ln_bitCount_1 : decode b_Ln_bitCount 1 = .ok (.lload_n 0, 1) := by decide +kernel
theorem d_Ln_bitCount_2 : decode b_Ln_bitCount 2 = .ok (.iconst 1, 1) := by decide +kernel
theorem d_Ln_bitCount_3 : decode b_Ln_bitCount 3 = .ok (.lushr, 1) := by decide +kernel
theorem d_Ln_bitCount_4 : decode b_Ln_bitCount 4 = .ok (.ldc2_w 314, 3) := by decide +kernel
theorem d_Ln_bitCount_7 : decode b_Ln_bitCount 7 = .ok (.land, 1) := by decide +kernel
theorem d_Ln_bitCount_8 : decode b_Ln_bitCount 8 = .ok (.lsub, 1) := by decide +kernel
theorem d_Ln_bitCount_9 : decode b_Ln_bitCount 9 = .ok (.lstore_n 0, 1) := by decide +kernel
theorem d_Ln_bitCount_10 : decode b_Ln_bitCount 10 = .ok (.lload_n 0, 1) := by decide +kernel
theorem d_Ln_bitCount_11 : decode b_Ln_bitCount 11 = .ok (.ldc2_w 316, 3) := by decide +kernel
theorem d_Ln_bitCount_14 : decode b_Ln_bitCount 14 = .ok (.land, 1) := by decide +kernel
theorem d_Ln_bitCount_15 : decode b_Ln_bitCount 15 = .ok (.lload_n 0, 1) := by decide +kernel
theorem d_Ln_bitCount_16 : decode b_Ln_bitCount 16 = .ok (.iconst 2, 1) := by decide +kernel
theorem d_Ln_bitCount_17 : decode b_Ln_bitCount 17 = .ok (.lushr, 1) := by decide +kernel
theorem d_Ln_bitCount_18 : decode b_Ln_bitCount 18 = .ok (.ldc2_w 316, 3) := by decide +kernel
theorem d_Ln_bitCount_21 : decode b_Ln_bitCount 21 = .ok (.land, 1) := by decide +kernel
theorem d_Ln_bitCount_22 : decode b_Ln_bitCount 22 = .ok (.ladd, 1) := by decide +kernel
theorem d_Ln_bitCount_23 : decode b_Ln_bitCount 23 = .ok (.lstore_n 0, 1) := by decide +kernel
theorem d_Ln_bitCount_24 : decode b_Ln_bitCount 24 = .ok (.lload_n 0, 1) := by decide +kernel
theorem d_Ln_bitCount_25 : decode b_Ln_bitCount 25 = .ok (.lload_n 0, 1) := by decide +kernel
theorem d_Ln_bitCount_26 : decode b_Ln_bitCount 26 = .ok (.iconst 4, 1) := by decide +kernel
theorem d_Ln_bitCount_27 : decode b_Ln_bitCount 27 = .ok (.lushr, 1) := by decide +kernel
theorem d_Ln_bitCount_28 : decode b_Ln_bitCount 28 = .ok (.ladd, 1) := by decide +kernel
theorem d_Ln_bitCount_29 : decode b_Ln_bitCount 29 = .ok (.ldc2_w 318, 3) := by decide +kernel
theorem d_Ln_bitCount_32 : decode b_Ln_bitCount 32 = .ok (.land, 1) := by decide +kernel
theorem d_Ln_bitCount_33 : decode b_Ln_bitCount 33 = .ok (.lstore_n 0, 1) := by decide +kernel
theorem d_Ln_bitCount_34 : decode b_Ln_bitCount 34 = .ok (.lload_n 0, 1) := by decide +kernel
theorem d_Ln_bitCount_35 : decode b_Ln_bitCount 35 = .ok (.lload_n 0, 1) := by decide +kernel
theorem d_Ln_bitCount_36 : decode b_Ln_bitCount 36 = .ok (.bipush 8, 2) := by decide +kernel
theorem d_Ln_bitCount_38 : decode b_Ln_bitCount 38 = .ok (.lushr, 1) := by decide +kernel
theorem d_Ln_bitCount_39 : decode b_Ln_bitCount 39 = .ok (.ladd, 1) := by decide +kernel
theorem d_Ln_bitCount_40 : decode b_Ln_bitCount 40 = .ok (.lstore_n 0, 1) := by decide +kernel
theorem d_Ln_bitCount_41 : decode b_Ln_bitCount 41 = .ok (.lload_n 0, 1) := by decide +kernel
theorem d_Ln_bitCount_42 : decode b_Ln_bitCount 42 = .ok (.lload_n 0, 1) := by decide +kernel
theorem d_Ln_bitCount_43 : decode b_Ln_bitCount 43 = .ok (.bipush 16, 2) := by decide +kernel
theorem d_Ln_bitCount_45 : decode b_Ln_bitCount 45 = .ok (.lushr, 1) := by decide +kernel
theorem d_Ln_bitCount_46 : decode b_Ln_bitCount 46 = .ok (.ladd, 1) := by decide +kernel
theorem d_Ln_bitCount_47 : decode b_Ln_bitCount 47 = .ok (.lstore_n 0, 1) := by decide +kernel
theorem d_Ln_bitCount_48 : decode b_Ln_bitCount 48 = .ok (.lload_n 0, 1) := by decide +kernel
theorem d_Ln_bitCount_49 : decode b_Ln_bitCount 49 = .ok (.lload_n 0, 1) := by decide +kernel
theorem d_Ln_bitCount_50 : decode b_Ln_bitCount 50 = .ok (.bipush 32, 2) := by decide +kernel
theorem d_Ln_bitCount_52 : decode b_Ln_bitCount 52 = .ok (.lushr, 1) := by decide +kernel
theorem d_Ln_bitCount_53 : decode b_Ln_bitCount 53 = .ok (.ladd, 1) := by decide +kernel
theorem d_Ln_bitCount_54 : decode b_Ln_bitCount 54 = .ok (.lstore_n 0, 1) := by decide +kernel
theorem d_Ln_bitCount_55 : decode b_Ln_bitCount 55 = .ok (.lload_n 0, 1) := by decide +kernel
theorem d_Ln_bitCount_56 : decode b_Ln_bitCount 56 = .ok (.l2i, 1) := by decide +kernel
theorem d_Ln_bitCount_57 : decode b_Ln_bitCount 57 = .ok (.bipush 127, 2) := by decide +kernel
theorem d_Ln_bitCount_59 : decode b_Ln_bitCount 59 = .ok (.iand, 1) := by decide +kernel
theorem d_Ln_bitCount_60 : decode b_Ln_bitCount 60 = .ok (.ireturn, 1) := by decide +kernel
abbrev b_Mt_floorDiv_J : ByteArray := prog_19_method_49_code
def y_Mt_floorDiv_J : MethodName := ⟨"java/lang/Math", "floorDiv", "(JJ)J"⟩
abbrev w0_Mt_floorDiv_J : List Cond := Cond.code y_Mt_floorDiv_J b_Mt_floorDiv_J 6 (some .long) :: gW
theorem cd_Mt_floorDiv_J : Cond.code y_Mt_floorDiv_J b_Mt_floorDiv_J 6 (some .long) ∈ gW := gm 784 (by decide +kernel) (by decide +kernel)
theorem d_Mt_floorDiv_J_0 : decode b_Mt_floorDiv_J 0 = .ok (.lload_n 0, 1) := by decide +kernel
theorem d_Mt_floorDiv_J_1 : decode b_Mt_floorDiv_J 1 = .ok (.lload_n 2, 1) := by decide +kernel
theorem d_Mt_floorDiv_J_2 : decode b_Mt_floorDiv_J 2 = .ok (.ldiv, 1) := by decide +kernel
theorem d_Mt_floorDiv_J_3 : decode b_Mt_floorDiv_J 3 = .ok (.lstore 4, 2) := by decide +kernel
theorem d_Mt_floorDiv_J_5 : decode b_Mt_floorDiv_J 5 = .ok (.lload_n 0, 1) := by decide +kernel
theorem d_Mt_floorDiv_J_6 : decode b_Mt_floorDiv_J 6 = .ok (.lload_n 2, 1) := by decide +kernel
theorem d_Mt_floorDiv_J_7 : decode b_Mt_floorDiv_J 7 = .ok (.lxor, 1) := by decide +kernel
theorem d_Mt_floorDiv_J_8 : decode b_Mt_floorDiv_J 8 = .ok (.lconst 0, 1) := by decide +kernel
theorem d_Mt_floorDiv_J_9 : decode b_Mt_floorDiv_J 9 = .ok (.lcmp, 1) := by decide +kernel
theorem d_Mt_floorDiv_J_10 : decode b_Mt_floorDiv_J 10 = .ok (.ifCond .ge 17, 3) := by decide +kernel
theorem d_Mt_floorDiv_J_13 : decode b_Mt_floorDiv_J 13 = .ok (.lload 4, 2) := by decide +kernel
theorem d_Mt_floorDiv_J_15 : decode b_Mt_floorDiv_J 15 = .ok (.lload_n 2, 1) := by decide +kernel
theorem d_Mt_floorDiv_J_16 : decode b_Mt_floorDiv_J 16 = .ok (.lmul, 1) := by decide +kernel
theorem d_Mt_floorDiv_J_17 : decode b_Mt_floorDiv_J 17 = .ok (.lload_n 0, 1) := by decide +kernel
theorem d_Mt_floorDiv_J_18 : decode b_Mt_floorDiv_J 18 = .ok (.lcmp, 1) := by decide +kernel
theorem d_Mt_floorDiv_J_19 : decode b_Mt_floorDiv_J 19 = .ok (.ifCond .eq 8, 3) := by decide +kernel
theorem d_Mt_floorDiv_J_22 : decode b_Mt_floorDiv_J 22 = .ok (.lload 4, 2) := by decide +kernel
theorem d_Mt_floorDiv_J_24 : decode b_Mt_floorDiv_J 24 = .ok (.lconst 1, 1) := by decide +kernel
theorem d_Mt_floorDiv_J_25 : decode b_Mt_floorDiv_J 25 = .ok (.lsub, 1) := by decide +kernel
theorem d_Mt_floorDiv_J_26 : decode b_Mt_floorDiv_J 26 = .ok (.lreturn, 1) := by decide +kernel
theorem d_Mt_floorDiv_J_27 : decode b_Mt_floorDiv_J 27 = .ok (.lload 4, 2) := by decide +kernel
theorem d_Mt_floorDiv_J_29 : decode b_Mt_floorDiv_J 29 = .ok (.lreturn, 1) := by decide +kernel
theorem pd_Ar_fillI : y_Ar_fillI.cls ≠ "java/lang/invoke/MethodHandle" ∧ y_Ar_fillI.cls ≠ "java/lang/invoke/VarHandle" ∧ (parseMethodDescriptor y_Ar_fillI.desc).map (fun d => d.parameters.length) = some 2 := by decide +kernel
theorem pd_Ar_fillJ : y_Ar_fillJ.cls ≠ "java/lang/invoke/MethodHandle" ∧ y_Ar_fillJ.cls ≠ "java/lang/invoke/VarHandle" ∧ (parseMethodDescriptor y_Ar_fillJ.desc).map (fun d => d.parameters.length) = some 2 := by decide +kernel
theorem pd_Ln_bitCount : y_Ln_bitCount.cls ≠ "java/lang/invoke/MethodHandle" ∧ y_Ln_bitCount.cls ≠ "java/lang/invoke/VarHandle" ∧ (parseMethodDescriptor y_Ln_bitCount.desc).map (fun d => d.parameters.length) = some 1 := by decide +kernel
theorem pd_Mt_floorDiv_J : y_Mt_floorDiv_J.cls ≠ "java/lang/invoke/MethodHandle" ∧ y_Mt_floorDiv_J.cls ≠ "java/lang/invoke/VarHandle" ∧ (parseMethodDescriptor y_Mt_floorDiv_J.desc).map (fun d => d.parameters.length) = some 2 := by decide +kernel
theorem kl_Ln_314 : (Cond.constantLong "java/lang/Long" 314 6148914691236517205) ∈ gW := gm 591 (by decide +kernel) (by decide +kernel)
theorem kl_Ln_316 : (Cond.constantLong "java/lang/Long" 316 3689348814741910323) ∈ gW := gm 592 (by decide +kernel) (by decide +kernel)
theorem kl_Ln_318 : (Cond.constantLong "java/lang/Long" 318 1085102592571150095) ∈ gW := gm 593 (by decide +kernel) (by decide +kernel)
section
variable {p : Program} {l : Launch} {e : Env} {R : Room} {s : State} {m : MethodId} {args : Array Value} {below : List Frame} {meth : Method} {c : Code} {H : Heap} {locs : List Loc} {cells slots : Nat} {Q : State → Prop} {A : Nat → Prop} {H0 : Heap}
variable {n : Nat} {D : va_G} {K : Nat → ClassId} {ia : Nat} {iN : Nat} {iF : Nat → Int32}
def f_Ar_fillI_5 (n : Nat) (v3 : Int32) (v1 : Int32) (iN : Nat) : Nat → Int32 → (Nat → Int32) → Option (Int32 × (Nat → Int32))
  | 0, _, _ => none
  | k + 1, v2, iF =>
    if v3 ≤ v2 then
      some (v2, iF)
    else
      ogd (gin v2 iN) <|
      f_Ar_fillI_5 n v3 v1 iN k (v2 + 1) (upd iF v2.toNatClampNeg v1)
set_option maxHeartbeats 4000000 in
set_option maxRecDepth 100000 in
theorem w_Ar_fillI_5  {v3 : Int32} {v1 : Int32} (hx : p.tables.exec = Jvm.exec) (hb : c.code = b_Ar_fillI) (hml : c.maxLocals = 4) (hts : ∀ w ∈ gW, w.before args s = true) (hown : s.vm.findClass "java/util/Arrays" = some m.cls) (hK : va_K D vwCl (tG K) s) (hRf : 0 ≤ R.frames) (hRl : 0 ≤ R.locals) (hRc : cells ≤ R.cells) (hRs : slots ≤ R.slots) (hA : ∀ q, H0.size ≤ q → A q)  {out : Int32 × (Nat → Int32)} (Kx : ∀ (u : Int32 × (Nat → Int32)), out = u → ∀ (ls : Array Slot) (H : Heap) (locs : List Loc), va_P D vwCl (iaW K ia iN u.2) H → va_D A (iaW K ia iN u.2) → va_S A H0 H locs → lv_has ls 4 [] → W p l e R s m args below meth c H locs cells slots Q (F0 m 20 ls [])) :
    ∀ (k : Nat) (v2 : Int32) (iF : Nat → Int32), f_Ar_fillI_5 n v3 v1 iN k v2 iF = some out → ∀ (ls : Array Slot) (H : Heap) (locs : List Loc), va_P D vwCl (iaW K ia iN iF) H → va_D A (iaW K ia iN iF) → va_S A H0 H locs → lv_has ls 4 [(3, .int v3), (2, .int v2), (0, .ref ia), (1, .int v1)] → W p l e R s m args below meth c H locs cells slots Q (F0 m 5 ls []) := by
  intro k
  induction k with
  | zero => intro _ _ hf; exact nomatch (show none = some out from hf)
  | succ k ih =>
    intro v2 iF hf ls H locs hP hD hS hl
    rw [f_Ar_fillI_5] at hf
    refine lv_iload_n hx hb d_Ar_fillI_5 rfl (lv_at hl 1 rfl) ?_
    refine lv_iload_n hx hb d_Ar_fillI_6 rfl (lv_at hl 0 rfl) ?_
    refine lv_icmp_ge (tgt := 20) hx hb d_Ar_fillI_7 (by decide) (fun c3 => ?_) (fun c3 => ?_)
    · rw [if_pos c3] at hf
      exact Kx _ (Option.some.inj hf).symm _ _ _ hP hD hS (show lv_has ls 4 [] from lv_sub hl [] rfl)
    · rw [if_neg c3] at hf
      refine lv_aload_n hx hb d_Ar_fillI_10 rfl (lv_at hl 2 rfl) ?_
      refine lv_iload_n hx hb d_Ar_fillI_11 rfl (lv_at hl 1 rfl) ?_
      refine lv_iload_n hx hb d_Ar_fillI_12 rfl (lv_at hl 3 rfl) ?_
      obtain ⟨g4, hf⟩ := ogi hf
      refine va_iast hx hb hK hP hD hS 0 0 rfl rfl (gin_in g4) d_Ar_fillI_13 (fun H locs hP hD hS => ?_)
      have hP : va_P D vwCl (iaW K ia iN (upd iF v2.toNatClampNeg v1)) H := hP
      have hD : va_D A (iaW K ia iN (upd iF v2.toNatClampNeg v1)) := hD
      refine lv_iinc (v := v2 + 1) (lv' := [(2, .int (v2 + 1)), (3, .int v3), (0, .ref ia), (1, .int v1)]) hx hb d_Ar_fillI_14 hl (k := 1) rfl (by first | rfl | (congr 1)) (by decide) rfl (fun ls hl => ?_)
      refine lv_goto (tgt := 5) hx hb d_Ar_fillI_17 (by decide) ?_
      exact ih _ _ hf _ _ _ hP hD hS (show lv_has ls 4 [(3, .int v3), (2, .int (v2 + 1)), (0, .ref ia), (1, .int v1)] from lv_sub hl [1, 0, 2, 3] rfl)
def f_Ar_fillI (n : Nat) (p1 : Int32) (iN : Nat) (iF : Nat → Int32) : Option ((Nat → Int32)) :=
  (f_Ar_fillI_5 n (nI iN) p1 iN n 0 iF).bind fun u5 =>
  some u5.2
set_option maxHeartbeats 4000000 in
set_option maxRecDepth 100000 in
theorem w_Ar_fillI  {p1 : Int32}  (hx : p.tables.exec = Jvm.exec) (hb : c.code = b_Ar_fillI) (hml : c.maxLocals = 4) (hts : ∀ w ∈ gW, w.before args s = true) (hown : s.vm.findClass "java/util/Arrays" = some m.cls) (hK : va_K D vwCl (tG K) s) (hRf : 0 ≤ R.frames) (hRl : 0 ≤ R.locals) (hRc : cells ≤ R.cells) (hRs : slots ≤ R.slots) (hA : ∀ q, H0.size ≤ q → A q) {out : (Nat → Int32)} (Kr : ∀ (r : (Nat → Int32)), out = r → ∀ (pc : Nat) (ls : Array Slot) (H : Heap) (locs : List Loc), decode b_Ar_fillI pc = .ok (.return_, 1) → va_P D vwCl (iaW K ia iN r) H → va_D A (iaW K ia iN r) → va_S A H0 H locs → W p l e R s m args below meth c H locs cells slots Q (F0 m pc ls [])) (hf : f_Ar_fillI n p1 iN iF = some out) (ls : Array Slot) (hP : va_P D vwCl (iaW K ia iN iF) H) (hD : va_D A (iaW K ia iN iF)) (hS : va_S A H0 H locs) (hl : lv_has ls 4 [(0, .ref ia), (1, .int p1)]) : W p l e R s m args below meth c H locs cells slots Q (F0 m 0 ls []) := by
  unfold f_Ar_fillI at hf
  refine lv_iconst (v := 0) hx hb d_Ar_fillI_0 (by decide) ?_
  refine lv_istore_n (lv' := [(2, .int 0), (0, .ref ia), (1, .int p1)]) hx hb d_Ar_fillI_1 rfl hl (by decide) rfl (fun ls hl => ?_)
  refine lv_aload_n hx hb d_Ar_fillI_2 rfl (lv_at hl 1 rfl) ?_
  refine va_alen hx hb hK hP 0 0 rfl rfl (v := nI iN) rfl d_Ar_fillI_3 ?_
  refine lv_istore_n (lv' := [(3, .int (nI iN)), (2, .int 0), (0, .ref ia), (1, .int p1)]) hx hb d_Ar_fillI_4 rfl hl (by decide) rfl (fun ls hl => ?_)
  obtain ⟨u5, eu5, hf⟩ := obd hf
  refine w_Ar_fillI_5 hx hb hml hts hown hK hRf hRl hRc hRs hA  (fun u5q eu ls H locs hP hD hS hl => ?_) _ _ _ eu5 _ _ _ hP hD hS (show lv_has ls 4 [(3, .int (nI iN)), (2, .int 0), (0, .ref ia), (1, .int p1)] from lv_sub hl [0, 1, 2, 3] rfl)
  subst eu
  exact Kr _ (Option.some.inj hf).symm _ _ _ _ d_Ar_fillI_20 hP hD hS
set_option maxHeartbeats 4000000 in
set_option maxRecDepth 100000 in
theorem c_Ar_fillI (l : Launch)  {p1 : Int32}  {r : (Nat → Int32)} (sz : Nat) (hf : f_Ar_fillI n p1 iN iF = some r) : Met l y_Ar_fillI w0_Ar_fillI ({ frames := 0, cells := 0, slots := 0, locals := 0 }) (wPre D K [.ref ia, .int p1] (iaW K ia iN iF) sz) (wPost D K none (iaW K ia iN r) (va_A (iaW K ia iN iF) sz)) 0 0 (va_A (iaW K ia iN iF) sz) := by
  refine Met.ofW (cc := b_Ar_fillI) (maxL := 4) (ret := none) (by decide) rfl ?_
  intro p e s m args below meth c s₁ B hml hv
  obtain ⟨rfl, hsz, hP, hK, hD0⟩ := hv
  subst hsz
  have hl := lv_entry [.ref ia, .int p1] (n := 4) (Nat.le_of_ble_eq_true rfl)
  rw [lg_entry_eq]
  generalize (lg_sl [.ref ia, .int p1] ++ List.replicate (4 - (lg_sl [.ref ia, .int p1]).length) Slot.unset).toArray = ls at hl ⊢
  refine w_Ar_fillI (A := va_A (iaW K ia iN iF) s.heap.size) (H0 := s.heap) B.exec B.bytes hml (fun w hw => atoms_spec (ws := w0_Ar_fillI) B.pre w (List.mem_cons_of_mem _ hw)) (findClass_of_methodNamed B.named) hK (Nat.le_refl _) (Nat.le_refl _) (Nat.zero_le _) (Nat.zero_le _) (fun q h => Or.inr h) (fun r er pc ls H locs hd hP hD hS => ?_) hf ls hP (hD0.self (sz := s.heap.size)) va_S.rf hl
  subst er
  exact W.vret B.exec B.bytes B.returns (fun t ht hW => ⟨⟨rfl, by rw [ht]; exact hP, va_K.moved hW.alike hK, hD⟩, hS.F ht⟩) hS.2.2 hd (hlocks := B.notSynchronized)
end
section
variable {p : Program} {l : Launch} {e : Env} {R : Room} {s : State} {m : MethodId} {args : Array Value} {below : List Frame} {meth : Method} {c : Code} {H : Heap} {locs : List Loc} {cells slots : Nat} {Q : State → Prop} {A : Nat → Prop} {H0 : Heap}
variable {n : Nat} {D : va_G} {K : Nat → ClassId} {la : Nat} {jN : Nat} {jF : Nat → Int64}
def f_Ar_fillJ_6 (n : Nat) (v4 : Int32) (v1 : Int64) (jN : Nat) : Nat → Int32 → (Nat → Int64) → Option (Int32 × (Nat → Int64))
  | 0, _, _ => none
  | k + 1, v3, jF =>
    if v4 ≤ v3 then
      some (v3, jF)
    else
      ogd (gin v3 jN) <|
      f_Ar_fillJ_6 n v4 v1 jN k (v3 + 1) (vp_updL jF v3.toNatClampNeg v1)
set_option maxHeartbeats 4000000 in
set_option maxRecDepth 100000 in
theorem w_Ar_fillJ_6  {v4 : Int32} {v1 : Int64} (hx : p.tables.exec = Jvm.exec) (hb : c.code = b_Ar_fillJ) (hml : c.maxLocals = 5) (hts : ∀ w ∈ gW, w.before args s = true) (hown : s.vm.findClass "java/util/Arrays" = some m.cls) (hK : va_K D vwCl (tG K) s) (hRf : 0 ≤ R.frames) (hRl : 0 ≤ R.locals) (hRc : cells ≤ R.cells) (hRs : slots ≤ R.slots) (hA : ∀ q, H0.size ≤ q → A q)  {out : Int32 × (Nat → Int64)} (Kx : ∀ (u : Int32 × (Nat → Int64)), out = u → ∀ (ls : Array Slot) (H : Heap) (locs : List Loc), va_P D vwCl (laW K la jN u.2) H → va_D A (laW K la jN u.2) → va_S A H0 H locs → lv_has ls 5 [] → W p l e R s m args below meth c H locs cells slots Q (F0 m 22 ls [])) :
    ∀ (k : Nat) (v3 : Int32) (jF : Nat → Int64), f_Ar_fillJ_6 n v4 v1 jN k v3 jF = some out → ∀ (ls : Array Slot) (H : Heap) (locs : List Loc), va_P D vwCl (laW K la jN jF) H → va_D A (laW K la jN jF) → va_S A H0 H locs → lv_has ls 5 [(4, .int v4), (3, .int v3), (0, .ref la), (1, .long v1)] → W p l e R s m args below meth c H locs cells slots Q (F0 m 6 ls []) := by
  intro k
  induction k with
  | zero => intro _ _ hf; exact nomatch (show none = some out from hf)
  | succ k ih =>
    intro v3 jF hf ls H locs hP hD hS hl
    rw [f_Ar_fillJ_6] at hf
    refine lv_iload_n hx hb d_Ar_fillJ_6 rfl (lv_at hl 1 rfl) ?_
    refine lv_iload hx hb d_Ar_fillJ_7 (lv_at hl 0 rfl) ?_
    refine lv_icmp_ge (tgt := 22) hx hb d_Ar_fillJ_9 (by decide) (fun c3 => ?_) (fun c3 => ?_)
    · rw [if_pos c3] at hf
      exact Kx _ (Option.some.inj hf).symm _ _ _ hP hD hS (show lv_has ls 5 [] from lv_sub hl [] rfl)
    · rw [if_neg c3] at hf
      refine lv_aload_n hx hb d_Ar_fillJ_12 rfl (lv_at hl 2 rfl) ?_
      refine lv_iload_n hx hb d_Ar_fillJ_13 rfl (lv_at hl 1 rfl) ?_
      refine lv_lload_n hx hb d_Ar_fillJ_14 rfl (lv_at hl 3 rfl) ?_
      obtain ⟨g4, hf⟩ := ogi hf
      refine va_last hx hb hK hP hD hS 0 1 rfl rfl (gin_in g4) d_Ar_fillJ_15 (fun H locs hP hD hS => ?_)
      have hP : va_P D vwCl (laW K la jN (vp_updL jF v3.toNatClampNeg v1)) H := hP
      have hD : va_D A (laW K la jN (vp_updL jF v3.toNatClampNeg v1)) := hD
      refine lv_iinc (v := v3 + 1) (lv' := [(3, .int (v3 + 1)), (4, .int v4), (0, .ref la), (1, .long v1)]) hx hb d_Ar_fillJ_16 hl (k := 1) rfl (by first | rfl | (congr 1)) (by decide) rfl (fun ls hl => ?_)
      refine lv_goto (tgt := 6) hx hb d_Ar_fillJ_19 (by decide) ?_
      exact ih _ _ hf _ _ _ hP hD hS (show lv_has ls 5 [(4, .int v4), (3, .int (v3 + 1)), (0, .ref la), (1, .long v1)] from lv_sub hl [1, 0, 2, 3] rfl)
def f_Ar_fillJ (n : Nat) (p1 : Int64) (jN : Nat) (jF : Nat → Int64) : Option ((Nat → Int64)) :=
  (f_Ar_fillJ_6 n (nI jN) p1 jN n 0 jF).bind fun u5 =>
  some u5.2
set_option maxHeartbeats 4000000 in
set_option maxRecDepth 100000 in
theorem w_Ar_fillJ  {p1 : Int64}  (hx : p.tables.exec = Jvm.exec) (hb : c.code = b_Ar_fillJ) (hml : c.maxLocals = 5) (hts : ∀ w ∈ gW, w.before args s = true) (hown : s.vm.findClass "java/util/Arrays" = some m.cls) (hK : va_K D vwCl (tG K) s) (hRf : 0 ≤ R.frames) (hRl : 0 ≤ R.locals) (hRc : cells ≤ R.cells) (hRs : slots ≤ R.slots) (hA : ∀ q, H0.size ≤ q → A q) {out : (Nat → Int64)} (Kr : ∀ (r : (Nat → Int64)), out = r → ∀ (pc : Nat) (ls : Array Slot) (H : Heap) (locs : List Loc), decode b_Ar_fillJ pc = .ok (.return_, 1) → va_P D vwCl (laW K la jN r) H → va_D A (laW K la jN r) → va_S A H0 H locs → W p l e R s m args below meth c H locs cells slots Q (F0 m pc ls [])) (hf : f_Ar_fillJ n p1 jN jF = some out) (ls : Array Slot) (hP : va_P D vwCl (laW K la jN jF) H) (hD : va_D A (laW K la jN jF)) (hS : va_S A H0 H locs) (hl : lv_has ls 5 [(0, .ref la), (1, .long p1)]) : W p l e R s m args below meth c H locs cells slots Q (F0 m 0 ls []) := by
  unfold f_Ar_fillJ at hf
  refine lv_iconst (v := 0) hx hb d_Ar_fillJ_0 (by decide) ?_
  refine lv_istore_n (lv' := [(3, .int 0), (0, .ref la), (1, .long p1)]) hx hb d_Ar_fillJ_1 rfl hl (by decide) rfl (fun ls hl => ?_)
  refine lv_aload_n hx hb d_Ar_fillJ_2 rfl (lv_at hl 1 rfl) ?_
  refine va_alen hx hb hK hP 0 1 rfl rfl (v := nI jN) rfl d_Ar_fillJ_3 ?_
  refine lv_istore (lv' := [(4, .int (nI jN)), (3, .int 0), (0, .ref la), (1, .long p1)]) hx hb d_Ar_fillJ_4 hl (by decide) rfl (fun ls hl => ?_)
  obtain ⟨u5, eu5, hf⟩ := obd hf
  refine w_Ar_fillJ_6 hx hb hml hts hown hK hRf hRl hRc hRs hA  (fun u5q eu ls H locs hP hD hS hl => ?_) _ _ _ eu5 _ _ _ hP hD hS (show lv_has ls 5 [(4, .int (nI jN)), (3, .int 0), (0, .ref la), (1, .long p1)] from lv_sub hl [0, 1, 2, 3] rfl)
  subst eu
  exact Kr _ (Option.some.inj hf).symm _ _ _ _ d_Ar_fillJ_22 hP hD hS
set_option maxHeartbeats 4000000 in
set_option maxRecDepth 100000 in
theorem c_Ar_fillJ (l : Launch)  {p1 : Int64}  {r : (Nat → Int64)} (sz : Nat) (hf : f_Ar_fillJ n p1 jN jF = some r) : Met l y_Ar_fillJ w0_Ar_fillJ ({ frames := 0, cells := 0, slots := 0, locals := 0 }) (wPre D K [.ref la, .long p1] (laW K la jN jF) sz) (wPost D K none (laW K la jN r) (va_A (laW K la jN jF) sz)) 0 0 (va_A (laW K la jN jF) sz) := by
  refine Met.ofW (cc := b_Ar_fillJ) (maxL := 5) (ret := none) (by decide) rfl ?_
  intro p e s m args below meth c s₁ B hml hv
  obtain ⟨rfl, hsz, hP, hK, hD0⟩ := hv
  subst hsz
  have hl := lv_entry [.ref la, .long p1] (n := 5) (Nat.le_of_ble_eq_true rfl)
  rw [lg_entry_eq]
  generalize (lg_sl [.ref la, .long p1] ++ List.replicate (5 - (lg_sl [.ref la, .long p1]).length) Slot.unset).toArray = ls at hl ⊢
  refine w_Ar_fillJ (A := va_A (laW K la jN jF) s.heap.size) (H0 := s.heap) B.exec B.bytes hml (fun w hw => atoms_spec (ws := w0_Ar_fillJ) B.pre w (List.mem_cons_of_mem _ hw)) (findClass_of_methodNamed B.named) hK (Nat.le_refl _) (Nat.le_refl _) (Nat.zero_le _) (Nat.zero_le _) (fun q h => Or.inr h) (fun r er pc ls H locs hd hP hD hS => ?_) hf ls hP (hD0.self (sz := s.heap.size)) va_S.rf hl
  subst er
  exact W.vret B.exec B.bytes B.returns (fun t ht hW => ⟨⟨rfl, by rw [ht]; exact hP, va_K.moved hW.alike hK, hD⟩, hS.F ht⟩) hS.2.2 hd (hlocks := B.notSynchronized)
end
section
variable {p : Program} {l : Launch} {e : Env} {R : Room} {s : State} {m : MethodId} {args : Array Value} {below : List Frame} {meth : Method} {c : Code} {H : Heap} {locs : List Loc} {cells slots : Nat} {Q : State → Prop} {A : Nat → Prop} {H0 : Heap}
variable {n : Nat} {D : va_G} {K : Nat → ClassId}  
def f_Ln_bitCount (n : Nat) (p0 : Int64) : Option (Int32) :=
  (some (p0 - ((lushr p0 1) &&& 6148914691236517205))).bind fun u1 =>
  (some ((u1 &&& 3689348814741910323) + ((lushr u1 2) &&& 3689348814741910323))).bind fun u2 =>
  (some ((u2 + (lushr u2 4)) &&& 1085102592571150095)).bind fun u3 =>
  (some (u3 + (lushr u3 8))).bind fun u4 =>
  (some (u4 + (lushr u4 16))).bind fun u5 =>
  (some (u5 + (lushr u5 32))).bind fun u6 =>
  some (u6.toInt32 &&& 127)
set_option maxHeartbeats 4000000 in
set_option maxRecDepth 100000 in
theorem w_Ln_bitCount  {p0 : Int64}  (hx : p.tables.exec = Jvm.exec) (hb : c.code = b_Ln_bitCount) (hml : c.maxLocals = 2) (hts : ∀ w ∈ gW, w.before args s = true) (hown : s.vm.findClass "java/lang/Long" = some m.cls) (hK : va_K D vwCl (tG K) s) (hRf : 0 ≤ R.frames) (hRl : 0 ≤ R.locals) (hRc : cells ≤ R.cells) (hRs : slots ≤ R.slots)  {out : Int32} (Kr : ∀ (r : Int32), out = r → ∀ (pc : Nat) (ls : Array Slot), decode b_Ln_bitCount pc = .ok (.ireturn, 1) → W p l e R s m args below meth c H locs cells slots Q (F0 m pc ls [.int r])) (hf : f_Ln_bitCount n p0 = some out) (ls : Array Slot) (hl : lv_has ls 2 [(0, .long p0)]) : W p l e R s m args below meth c H locs cells slots Q (F0 m 0 ls []) := by
  unfold f_Ln_bitCount at hf
  refine lv_lload_n hx hb d_Ln_bitCount_0 rfl (lv_at hl 0 rfl) ?_
  refine lv_lload_n hx hb d_Ln_bitCount_1 rfl (lv_at hl 0 rfl) ?_
  refine lv_iconst (v := 1) hx hb d_Ln_bitCount_2 (by decide) ?_
  refine lv_lushr (v := lushr p0 1) hx hb d_Ln_bitCount_3 rfl ?_
  refine lv_ldc2 (v := 6148914691236517205) hx hb hown (hts _ kl_Ln_314) d_Ln_bitCount_4 ?_
  refine lv_land hx hb d_Ln_bitCount_7 ?_
  refine lv_lsub hx hb d_Ln_bitCount_8 ?_
  obtain ⟨u1, eu1, hf⟩ := obd hf
  rw [Option.some.inj eu1]
  refine lv_lstore_n (lv' := [(0, .long u1)]) hx hb d_Ln_bitCount_9 rfl hl (by decide) rfl (fun ls hl => ?_)
  refine lv_lload_n hx hb d_Ln_bitCount_10 rfl (lv_at hl 0 rfl) ?_
  refine lv_ldc2 (v := 3689348814741910323) hx hb hown (hts _ kl_Ln_316) d_Ln_bitCount_11 ?_
  refine lv_land hx hb d_Ln_bitCount_14 ?_
  refine lv_lload_n hx hb d_Ln_bitCount_15 rfl (lv_at hl 0 rfl) ?_
  refine lv_iconst (v := 2) hx hb d_Ln_bitCount_16 (by decide) ?_
  refine lv_lushr (v := lushr u1 2) hx hb d_Ln_bitCount_17 rfl ?_
  refine lv_ldc2 (v := 3689348814741910323) hx hb hown (hts _ kl_Ln_316) d_Ln_bitCount_18 ?_
  refine lv_land hx hb d_Ln_bitCount_21 ?_
  refine lv_ladd hx hb d_Ln_bitCount_22 ?_
  obtain ⟨u2, eu2, hf⟩ := obd hf
  rw [Option.some.inj eu2]
  refine lv_lstore_n (lv' := [(0, .long u2)]) hx hb d_Ln_bitCount_23 rfl hl (by decide) rfl (fun ls hl => ?_)
  refine lv_lload_n hx hb d_Ln_bitCount_24 rfl (lv_at hl 0 rfl) ?_
  refine lv_lload_n hx hb d_Ln_bitCount_25 rfl (lv_at hl 0 rfl) ?_
  refine lv_iconst (v := 4) hx hb d_Ln_bitCount_26 (by decide) ?_
  refine lv_lushr (v := lushr u2 4) hx hb d_Ln_bitCount_27 rfl ?_
  refine lv_ladd hx hb d_Ln_bitCount_28 ?_
  refine lv_ldc2 (v := 1085102592571150095) hx hb hown (hts _ kl_Ln_318) d_Ln_bitCount_29 ?_
  refine lv_land hx hb d_Ln_bitCount_32 ?_
  obtain ⟨u3, eu3, hf⟩ := obd hf
  rw [Option.some.inj eu3]
  refine lv_lstore_n (lv' := [(0, .long u3)]) hx hb d_Ln_bitCount_33 rfl hl (by decide) rfl (fun ls hl => ?_)
  refine lv_lload_n hx hb d_Ln_bitCount_34 rfl (lv_at hl 0 rfl) ?_
  refine lv_lload_n hx hb d_Ln_bitCount_35 rfl (lv_at hl 0 rfl) ?_
  refine lv_bipush (v := 8) hx hb d_Ln_bitCount_36 (by decide) ?_
  refine lv_lushr (v := lushr u3 8) hx hb d_Ln_bitCount_38 rfl ?_
  refine lv_ladd hx hb d_Ln_bitCount_39 ?_
  obtain ⟨u4, eu4, hf⟩ := obd hf
  rw [Option.some.inj eu4]
  refine lv_lstore_n (lv' := [(0, .long u4)]) hx hb d_Ln_bitCount_40 rfl hl (by decide) rfl (fun ls hl => ?_)
  refine lv_lload_n hx hb d_Ln_bitCount_41 rfl (lv_at hl 0 rfl) ?_
  refine lv_lload_n hx hb d_Ln_bitCount_42 rfl (lv_at hl 0 rfl) ?_
  refine lv_bipush (v := 16) hx hb d_Ln_bitCount_43 (by decide) ?_
  refine lv_lushr (v := lushr u4 16) hx hb d_Ln_bitCount_45 rfl ?_
  refine lv_ladd hx hb d_Ln_bitCount_46 ?_
  obtain ⟨u5, eu5, hf⟩ := obd hf
  rw [Option.some.inj eu5]
  refine lv_lstore_n (lv' := [(0, .long u5)]) hx hb d_Ln_bitCount_47 rfl hl (by decide) rfl (fun ls hl => ?_)
  refine lv_lload_n hx hb d_Ln_bitCount_48 rfl (lv_at hl 0 rfl) ?_
  refine lv_lload_n hx hb d_Ln_bitCount_49 rfl (lv_at hl 0 rfl) ?_
  refine lv_bipush (v := 32) hx hb d_Ln_bitCount_50 (by decide) ?_
  refine lv_lushr (v := lushr u5 32) hx hb d_Ln_bitCount_52 rfl ?_
  refine lv_ladd hx hb d_Ln_bitCount_53 ?_
  obtain ⟨u6, eu6, hf⟩ := obd hf
  rw [Option.some.inj eu6]
  refine lv_lstore_n (lv' := [(0, .long u6)]) hx hb d_Ln_bitCount_54 rfl hl (by decide) rfl (fun ls hl => ?_)
  refine lv_lload_n hx hb d_Ln_bitCount_55 rfl (lv_at hl 0 rfl) ?_
  refine lv_l2i (v := u6.toInt32) hx hb d_Ln_bitCount_56 rfl ?_
  refine lv_bipush (v := 127) hx hb d_Ln_bitCount_57 (by decide) ?_
  refine lv_iand hx hb d_Ln_bitCount_59 ?_
  exact Kr _ (Option.some.inj hf).symm _ _ d_Ln_bitCount_60
set_option maxHeartbeats 4000000 in
set_option maxRecDepth 100000 in
theorem c_Ln_bitCount (l : Launch)  {p0 : Int64}  {r : Int32} (hf : f_Ln_bitCount n p0 = some r) : Met l y_Ln_bitCount w0_Ln_bitCount ({ frames := 0, cells := 0, slots := 0, locals := 0 }) (pPre D K [.long p0] ([])) (pPost (some (.int r))) 0 0 (fun _ => False) := by
  refine Met.ofW (cc := b_Ln_bitCount) (maxL := 2) (ret := (some .int)) (by decide) rfl ?_
  intro p e s m args below meth c s₁ B hml hv
  obtain ⟨rfl, hP, hK⟩ := hv
  have hl := lv_entry [.long p0] (n := 2) (Nat.le_of_ble_eq_true rfl)
  rw [lg_entry_eq]
  generalize (lg_sl [.long p0] ++ List.replicate (2 - (lg_sl [.long p0]).length) Slot.unset).toArray = ls at hl ⊢
  refine w_Ln_bitCount B.exec B.bytes hml (fun w hw => atoms_spec (ws := w0_Ln_bitCount) B.pre w (List.mem_cons_of_mem _ hw)) (findClass_of_methodNamed B.named) hK (Nat.le_refl _) (Nat.le_refl _) (Nat.zero_le _) (Nat.zero_le _)  (fun r er pc ls hd => ?_) hf ls hl
  subst er
  exact W.iret B.exec B.bytes B.returns (fun t ht hW => ⟨rfl, ht⟩) (fun q h => by cases h) hd (hlocks := B.notSynchronized)
end
section
variable {p : Program} {l : Launch} {e : Env} {R : Room} {s : State} {m : MethodId} {args : Array Value} {below : List Frame} {meth : Method} {c : Code} {H : Heap} {locs : List Loc} {cells slots : Nat} {Q : State → Prop} {A : Nat → Prop} {H0 : Heap}
variable {n : Nat} {D : va_G} {K : Nat → ClassId}  
def f_Mt_floorDiv_J (n : Nat) (p0 : Int64) (p1 : Int64) : Option (Int64) :=
  ogd (decide (¬ p1 = 0)) <|
  if 0 ≤ (p0 ^^^ p1) then
    some (p0 / p1)
  else
    if ((p0 / p1) * p1) = p0 then
      some (p0 / p1)
    else
      some ((p0 / p1) - 1)
set_option maxHeartbeats 4000000 in
set_option maxRecDepth 100000 in
theorem w_Mt_floorDiv_J  {p0 : Int64} {p1 : Int64}  (hx : p.tables.exec = Jvm.exec) (hb : c.code = b_Mt_floorDiv_J) (hml : c.maxLocals = 6) (hts : ∀ w ∈ gW, w.before args s = true) (hown : s.vm.findClass "java/lang/Math" = some m.cls) (hK : va_K D vwCl (tG K) s) (hRf : 0 ≤ R.frames) (hRl : 0 ≤ R.locals) (hRc : cells ≤ R.cells) (hRs : slots ≤ R.slots)  {out : Int64} (Kr : ∀ (r : Int64), out = r → ∀ (pc : Nat) (ls : Array Slot), decode b_Mt_floorDiv_J pc = .ok (.lreturn, 1) → W p l e R s m args below meth c H locs cells slots Q (F0 m pc ls [.long r])) (hf : f_Mt_floorDiv_J n p0 p1 = some out) (ls : Array Slot) (hl : lv_has ls 6 [(0, .long p0), (2, .long p1)]) : W p l e R s m args below meth c H locs cells slots Q (F0 m 0 ls []) := by
  unfold f_Mt_floorDiv_J at hf
  refine lv_lload_n hx hb d_Mt_floorDiv_J_0 rfl (lv_at hl 0 rfl) ?_
  refine lv_lload_n hx hb d_Mt_floorDiv_J_1 rfl (lv_at hl 1 rfl) ?_
  obtain ⟨g1, hf⟩ := ogi hf
  refine lv_ldiv hx hb d_Mt_floorDiv_J_2 (of_decide_eq_true g1) ?_
  refine lv_lstore (lv' := [(4, .long (p0 / p1)), (0, .long p0), (2, .long p1)]) hx hb d_Mt_floorDiv_J_3 hl (by decide) rfl (fun ls hl => ?_)
  refine lv_lload_n hx hb d_Mt_floorDiv_J_5 rfl (lv_at hl 1 rfl) ?_
  refine lv_lload_n hx hb d_Mt_floorDiv_J_6 rfl (lv_at hl 2 rfl) ?_
  refine lv_lxor hx hb d_Mt_floorDiv_J_7 ?_
  refine lv_lconst (v := 0) hx hb d_Mt_floorDiv_J_8 (by decide) ?_
  refine W.lcmp hx hb d_Mt_floorDiv_J_9 ?_
  refine lc_ge (tgt := 27) hx hb d_Mt_floorDiv_J_10 (by decide) (fun c2 => ?_) (fun c2 => ?_)
  · rw [if_pos c2] at hf
    refine lv_lload hx hb d_Mt_floorDiv_J_27 (lv_at hl 0 rfl) ?_
    exact Kr _ (Option.some.inj hf).symm _ _ d_Mt_floorDiv_J_29
  · rw [if_neg c2] at hf
    refine lv_lload hx hb d_Mt_floorDiv_J_13 (lv_at hl 0 rfl) ?_
    refine lv_lload_n hx hb d_Mt_floorDiv_J_15 rfl (lv_at hl 2 rfl) ?_
    refine lv_lmul hx hb d_Mt_floorDiv_J_16 ?_
    refine lv_lload_n hx hb d_Mt_floorDiv_J_17 rfl (lv_at hl 1 rfl) ?_
    refine W.lcmp hx hb d_Mt_floorDiv_J_18 ?_
    refine lc_eq (tgt := 27) hx hb d_Mt_floorDiv_J_19 (by decide) (fun c3 => ?_) (fun c3 => ?_)
    · rw [if_pos c3] at hf
      refine lv_lload hx hb d_Mt_floorDiv_J_27 (lv_at hl 0 rfl) ?_
      exact Kr _ (Option.some.inj hf).symm _ _ d_Mt_floorDiv_J_29
    · rw [if_neg c3] at hf
      refine lv_lload hx hb d_Mt_floorDiv_J_22 (lv_at hl 0 rfl) ?_
      refine lv_lconst (v := 1) hx hb d_Mt_floorDiv_J_24 (by decide) ?_
      refine lv_lsub hx hb d_Mt_floorDiv_J_25 ?_
      exact Kr _ (Option.some.inj hf).symm _ _ d_Mt_floorDiv_J_26
set_option maxHeartbeats 4000000 in
set_option maxRecDepth 100000 in
theorem c_Mt_floorDiv_J (l : Launch)  {p0 : Int64} {p1 : Int64}  {r : Int64} (hf : f_Mt_floorDiv_J n p0 p1 = some r) : Met l y_Mt_floorDiv_J w0_Mt_floorDiv_J ({ frames := 0, cells := 0, slots := 0, locals := 0 }) (pPre D K [.long p0, .long p1] ([])) (pPost (some (.long r))) 0 0 (fun _ => False) := by
  refine va_MetF (cc := b_Mt_floorDiv_J) (maxL := 6) (ret := (some .long)) (by decide +kernel) rfl ?_
  intro p e s m args below meth c s₁ B hml hv
  obtain ⟨rfl, hP, hK⟩ := hv
  have hl := lv_entry [.long p0, .long p1] (n := 6) (Nat.le_of_ble_eq_true rfl)
  rw [lg_entry_eq]
  generalize (lg_sl [.long p0, .long p1] ++ List.replicate (6 - (lg_sl [.long p0, .long p1]).length) Slot.unset).toArray = ls at hl ⊢
  refine w_Mt_floorDiv_J B.exec B.bytes hml (fun w hw => atoms_spec (ws := w0_Mt_floorDiv_J) B.pre w (List.mem_cons_of_mem _ hw)) (findClass_of_methodNamed B.named) hK (Nat.le_refl _) (Nat.le_refl _) (Nat.zero_le _) (Nat.zero_le _)  (fun r er pc ls hd => ?_) hf ls hl
  subst er
  exact W.lret B.exec B.bytes B.returns (fun t ht hW => ⟨rfl, ht⟩) (fun q h => by cases h) hd (hlocks := B.notSynchronized)
end
