abbrev b_Mk_joined : ByteArray := prog_7_method_12_code
def y_Mk_joined : MethodName := ⟨"RegularSolver$Maker", "joined", "(LRegularSolver$Way;)LRegularSolver$Automaton;"⟩
abbrev w0_Mk_joined : List Cond := Cond.code y_Mk_joined b_Mk_joined 8 (some (.object "RegularSolver$Automaton")) :: gW
theorem cd_Mk_joined : Cond.code y_Mk_joined b_Mk_joined 8 (some (.object "RegularSolver$Automaton")) ∈ gW := gm 432 (by decide +kernel) (by decide +kernel)
theorem d_Mk_joined_0 : decode b_Mk_joined 0 = .ok (.iconst 4, 1) := by decide +kernel
theorem d_Mk_joined_1 : decode b_Mk_joined 1 = .ok (.aload_n 0, 1) := by decide +kernel
theorem d_Mk_joined_2 : decode b_Mk_joined 2 = .ok (.getfield 44, 3) := by decide +kernel
theorem d_Mk_joined_5 : decode b_Mk_joined 5 = .ok (.imul, 1) := by decide +kernel
theorem d_Mk_joined_6 : decode b_Mk_joined 6 = .ok (.newarray .int, 2) := by decide +kernel
theorem d_Mk_joined_8 : decode b_Mk_joined 8 = .ok (.astore_n 2, 1) := by decide +kernel
theorem d_Mk_joined_9 : decode b_Mk_joined 9 = .ok (.lconst 0, 1) := by decide +kernel
theorem d_Mk_joined_10 : decode b_Mk_joined 10 = .ok (.lstore_n 3, 1) := by decide +kernel
theorem d_Mk_joined_11 : decode b_Mk_joined 11 = .ok (.iconst 0, 1) := by decide +kernel
theorem d_Mk_joined_12 : decode b_Mk_joined 12 = .ok (.istore 5, 2) := by decide +kernel
theorem d_Mk_joined_14 : decode b_Mk_joined 14 = .ok (.iload 5, 2) := by decide +kernel
theorem d_Mk_joined_16 : decode b_Mk_joined 16 = .ok (.aload_n 0, 1) := by decide +kernel
theorem d_Mk_joined_17 : decode b_Mk_joined 17 = .ok (.getfield 44, 3) := by decide +kernel
theorem d_Mk_joined_20 : decode b_Mk_joined 20 = .ok (.if_icmp .ge 87, 3) := by decide +kernel
theorem d_Mk_joined_23 : decode b_Mk_joined 23 = .ok (.aload_n 0, 1) := by decide +kernel
theorem d_Mk_joined_24 : decode b_Mk_joined 24 = .ok (.getfield 38, 3) := by decide +kernel
theorem d_Mk_joined_27 : decode b_Mk_joined 27 = .ok (.iload 5, 2) := by decide +kernel
theorem d_Mk_joined_29 : decode b_Mk_joined 29 = .ok (.iaload, 1) := by decide +kernel
theorem d_Mk_joined_30 : decode b_Mk_joined 30 = .ok (.istore 6, 2) := by decide +kernel
theorem d_Mk_joined_32 : decode b_Mk_joined 32 = .ok (.iconst 0, 1) := by decide +kernel
theorem d_Mk_joined_33 : decode b_Mk_joined 33 = .ok (.istore 7, 2) := by decide +kernel
theorem d_Mk_joined_35 : decode b_Mk_joined 35 = .ok (.iload 7, 2) := by decide +kernel
theorem d_Mk_joined_37 : decode b_Mk_joined 37 = .ok (.iconst 4, 1) := by decide +kernel
theorem d_Mk_joined_38 : decode b_Mk_joined 38 = .ok (.if_icmp .ge 35, 3) := by decide +kernel
theorem d_Mk_joined_41 : decode b_Mk_joined 41 = .ok (.aload_n 2, 1) := by decide +kernel
theorem d_Mk_joined_42 : decode b_Mk_joined 42 = .ok (.iconst 4, 1) := by decide +kernel
theorem d_Mk_joined_43 : decode b_Mk_joined 43 = .ok (.iload 5, 2) := by decide +kernel
theorem d_Mk_joined_45 : decode b_Mk_joined 45 = .ok (.imul, 1) := by decide +kernel
theorem d_Mk_joined_46 : decode b_Mk_joined 46 = .ok (.iload 7, 2) := by decide +kernel
theorem d_Mk_joined_48 : decode b_Mk_joined 48 = .ok (.iadd, 1) := by decide +kernel
theorem d_Mk_joined_49 : decode b_Mk_joined 49 = .ok (.aload_n 0, 1) := by decide +kernel
theorem d_Mk_joined_50 : decode b_Mk_joined 50 = .ok (.getfield 29, 3) := by decide +kernel
theorem d_Mk_joined_53 : decode b_Mk_joined 53 = .ok (.aload_n 0, 1) := by decide +kernel
theorem d_Mk_joined_54 : decode b_Mk_joined 54 = .ok (.getfield 19, 3) := by decide +kernel
theorem d_Mk_joined_57 : decode b_Mk_joined 57 = .ok (.iconst 4, 1) := by decide +kernel
theorem d_Mk_joined_58 : decode b_Mk_joined 58 = .ok (.iload 6, 2) := by decide +kernel
theorem d_Mk_joined_60 : decode b_Mk_joined 60 = .ok (.imul, 1) := by decide +kernel
theorem d_Mk_joined_61 : decode b_Mk_joined 61 = .ok (.iload 7, 2) := by decide +kernel
theorem d_Mk_joined_63 : decode b_Mk_joined 63 = .ok (.iadd, 1) := by decide +kernel
theorem d_Mk_joined_64 : decode b_Mk_joined 64 = .ok (.iaload, 1) := by decide +kernel
theorem d_Mk_joined_65 : decode b_Mk_joined 65 = .ok (.iaload, 1) := by decide +kernel
theorem d_Mk_joined_66 : decode b_Mk_joined 66 = .ok (.iastore, 1) := by decide +kernel
theorem d_Mk_joined_67 : decode b_Mk_joined 67 = .ok (.iinc 7 1, 3) := by decide +kernel
theorem d_Mk_joined_70 : decode b_Mk_joined 70 = .ok (.goto (-35), 3) := by decide +kernel
theorem d_Mk_joined_73 : decode b_Mk_joined 73 = .ok (.aload_n 1, 1) := by decide +kernel
theorem d_Mk_joined_74 : decode b_Mk_joined 74 = .ok (.aload_n 0, 1) := by decide +kernel
theorem d_Mk_joined_75 : decode b_Mk_joined 75 = .ok (.getfield 11, 3) := by decide +kernel
theorem d_Mk_joined_78 : decode b_Mk_joined 78 = .ok (.iload 6, 2) := by decide +kernel
theorem d_Mk_joined_80 : decode b_Mk_joined 80 = .ok (.iaload, 1) := by decide +kernel
theorem d_Mk_joined_81 : decode b_Mk_joined 81 = .ok (.aload_n 0, 1) := by decide +kernel
theorem d_Mk_joined_82 : decode b_Mk_joined 82 = .ok (.getfield 15, 3) := by decide +kernel
theorem d_Mk_joined_85 : decode b_Mk_joined 85 = .ok (.iload 6, 2) := by decide +kernel
theorem d_Mk_joined_87 : decode b_Mk_joined 87 = .ok (.laload, 1) := by decide +kernel
theorem d_Mk_joined_88 : decode b_Mk_joined 88 = .ok (.invokevirtual 95, 3) := by decide +kernel
theorem d_Mk_joined_91 : decode b_Mk_joined 91 = .ok (.ifCond .eq 10, 3) := by decide +kernel
theorem d_Mk_joined_94 : decode b_Mk_joined 94 = .ok (.lload_n 3, 1) := by decide +kernel
theorem d_Mk_joined_95 : decode b_Mk_joined 95 = .ok (.lconst 1, 1) := by decide +kernel
theorem d_Mk_joined_96 : decode b_Mk_joined 96 = .ok (.iload 5, 2) := by decide +kernel
theorem d_Mk_joined_98 : decode b_Mk_joined 98 = .ok (.lshl, 1) := by decide +kernel
theorem d_Mk_joined_99 : decode b_Mk_joined 99 = .ok (.lor, 1) := by decide +kernel
theorem d_Mk_joined_100 : decode b_Mk_joined 100 = .ok (.lstore_n 3, 1) := by decide +kernel
theorem d_Mk_joined_101 : decode b_Mk_joined 101 = .ok (.iinc 5 1, 3) := by decide +kernel
theorem d_Mk_joined_104 : decode b_Mk_joined 104 = .ok (.goto (-90), 3) := by decide +kernel
theorem d_Mk_joined_107 : decode b_Mk_joined 107 = .ok (.new 115, 3) := by decide +kernel
theorem d_Mk_joined_110 : decode b_Mk_joined 110 = .ok (.dup, 1) := by decide +kernel
theorem d_Mk_joined_111 : decode b_Mk_joined 111 = .ok (.aload_n 0, 1) := by decide +kernel
theorem d_Mk_joined_112 : decode b_Mk_joined 112 = .ok (.getfield 44, 3) := by decide +kernel
theorem d_Mk_joined_115 : decode b_Mk_joined 115 = .ok (.aload_n 2, 1) := by decide +kernel
theorem d_Mk_joined_116 : decode b_Mk_joined 116 = .ok (.lload_n 3, 1) := by decide +kernel
theorem d_Mk_joined_117 : decode b_Mk_joined 117 = .ok (.invokespecial 117, 3) := by decide +kernel
theorem d_Mk_joined_120 : decode b_Mk_joined 120 = .ok (.areturn, 1) := by decide +kernel
theorem pd_Mk_joined : y_Mk_joined.cls ≠ "java/lang/invoke/MethodHandle" ∧ y_Mk_joined.cls ≠ "java/lang/invoke/VarHandle" ∧ (parseMethodDescriptor y_Mk_joined.desc).map (fun d => d.parameters.length) = some 1 := by decide +kernel
section
variable {p : Program} {l : Launch} {e : Env} {R : Room} {s : State} {m : MethodId} {args : Array Value} {below : List Frame} {meth : Method} {c : Code} {H : Heap} {locs : List Loc} {cells slots : Nat} {Q : State → Prop} {A : Nat → Prop} {H0 : Heap}
variable {n : Nat} {D : va_G} {K : Nat → ClassId} {mq : Nat} {m0 : Nat} {m1 : Nat} {m2 : Nat} {m3 : Nat} {m5 : Nat} {m6 : Nat} {m7 : Nat} {m8 : Nat} {m9 : Nat} {wq : Nat} {iaN : Nat} {kHeads : Nat → Int32} {kTails : Nat → Int64} {kNext : Nat → Int32} {kSlots : Nat → Int32} {kReached : Int32} {kClassOf : Nat → Int32} {kFinerOf : Nat → Int32} {kMarkOf : Nat → Int32} {kFirstOf : Nat → Int32} {kMarkSlots : Nat → Int32} {kClasses : Int32} {wHead : Int32} {wTail : Int64} {bSet : Int32} {bEnd : Int32} {iNN : Nat} {iFN : Nat → Int32}
def f_Mk_joined_Br_35 (n : Nat) (v6 : Int32) (v5 : Int32) (kNext : Nat → Int32) (kClassOf : Nat → Int32) (iNN : Nat) : Nat → Int32 → (Nat → Int32) → Option (Int32 × (Nat → Int32))
  | 0, _, _ => none
  | k + 1, v7, iFN =>
    if 4 ≤ v7 then
      some (v7, iFN)
    else
      ogd (gin ((4 * v6) + v7) 3200) <|
      ogd (gin (kNext ((4 * v6) + v7).toNatClampNeg) 800) <|
      ogd (gin ((4 * v5) + v7) iNN) <|
      f_Mk_joined_Br_35 n v6 v5 kNext kClassOf iNN k (v7 + 1) (upd iFN ((4 * v5) + v7).toNatClampNeg (kClassOf (kNext ((4 * v6) + v7).toNatClampNeg).toNatClampNeg))
set_option maxHeartbeats 4000000 in
set_option maxRecDepth 100000 in
theorem w_Mk_joined_Br_35  {v6 : Int32} {v5 : Int32} {v3 : Int64} (hx : p.tables.exec = Jvm.exec) (hb : c.code = b_Mk_joined) (hml : c.maxLocals = 8) (hts : ∀ w ∈ gW, w.before args s = true) (hown : s.vm.findClass "RegularSolver$Maker" = some m.cls) (hK : va_K D vwCl (tG K) s) (hX : gX s) (hRf : 1 ≤ R.frames) (hRl : 23 ≤ R.locals) (hRc : cells ≤ R.cells) (hRs : slots ≤ R.slots) (hA : ∀ q, H0.size ≤ q → A q)  {out : Int32 × (Nat → Int32)} (Kx : ∀ (u : Int32 × (Nat → Int32)), out = u → ∀ (m5 : Nat) (m6 : Nat), ∀ (ls : Array Slot) (H : Heap) (locs : List Loc), va_P D vwCl ((mkW K mq m0 m1 m2 m3 m5 m6 m7 m8 m9 kHeads kTails kNext kSlots kReached kClassOf kFinerOf kMarkOf kFirstOf kMarkSlots kClasses) ++ (brW K wq wHead wTail bSet bEnd) ++ (iaW K iaN iNN u.2)) H → va_D A ((mkW K mq m0 m1 m2 m3 m5 m6 m7 m8 m9 kHeads kTails kNext kSlots kReached kClassOf kFinerOf kMarkOf kFirstOf kMarkSlots kClasses) ++ (brW K wq wHead wTail bSet bEnd) ++ (iaW K iaN iNN u.2)) → va_S A H0 H locs → lv_has ls 8 [(6, .int v6), (5, .int v5), (3, .long v3), (2, .ref iaN), (0, .ref mq), (1, .ref wq)] → W p l e R s m args below meth c H locs cells slots Q (F0 m 73 ls [])) :
    ∀ (k : Nat) (v7 : Int32) (iFN : Nat → Int32), f_Mk_joined_Br_35 n v6 v5 kNext kClassOf iNN k v7 iFN = some out → ∀ (m5 : Nat) (m6 : Nat), ∀ (ls : Array Slot) (H : Heap) (locs : List Loc), va_P D vwCl ((mkW K mq m0 m1 m2 m3 m5 m6 m7 m8 m9 kHeads kTails kNext kSlots kReached kClassOf kFinerOf kMarkOf kFirstOf kMarkSlots kClasses) ++ (brW K wq wHead wTail bSet bEnd) ++ (iaW K iaN iNN iFN)) H → va_D A ((mkW K mq m0 m1 m2 m3 m5 m6 m7 m8 m9 kHeads kTails kNext kSlots kReached kClassOf kFinerOf kMarkOf kFirstOf kMarkSlots kClasses) ++ (brW K wq wHead wTail bSet bEnd) ++ (iaW K iaN iNN iFN)) → va_S A H0 H locs → lv_has ls 8 [(7, .int v7), (6, .int v6), (5, .int v5), (3, .long v3), (2, .ref iaN), (0, .ref mq), (1, .ref wq)] → W p l e R s m args below meth c H locs cells slots Q (F0 m 35 ls []) := by
  intro k
  induction k with
  | zero => intro _ _ hf; exact nomatch (show none = some out from hf)
  | succ k ih =>
    intro v7 iFN hf m5 m6 ls H locs hP hD hS hl
    rw [f_Mk_joined_Br_35] at hf
    refine lv_iload hx hb d_Mk_joined_35 (lv_at hl 0 rfl) ?_
    refine lv_iconst (v := 4) hx hb d_Mk_joined_37 (by decide) ?_
    refine lv_icmp_ge (tgt := 73) hx hb d_Mk_joined_38 (by decide) (fun c14 => ?_) (fun c14 => ?_)
    · rw [if_pos c14] at hf
      exact Kx _ (Option.some.inj hf).symm _ _ _ _ _ hP hD hS (show lv_has ls 8 [(6, .int v6), (5, .int v5), (3, .long v3), (2, .ref iaN), (0, .ref mq), (1, .ref wq)] from lv_sub hl [1, 2, 3, 4, 5, 6] rfl)
    · rw [if_neg c14] at hf
      refine lv_aload_n hx hb d_Mk_joined_41 rfl (lv_at hl 4 rfl) ?_
      refine lv_iconst (v := 4) hx hb d_Mk_joined_42 (by decide) ?_
      refine lv_iload hx hb d_Mk_joined_43 (lv_at hl 2 rfl) ?_
      refine lv_imul hx hb d_Mk_joined_45 ?_
      refine lv_iload hx hb d_Mk_joined_46 (lv_at hl 0 rfl) ?_
      refine lv_iadd hx hb d_Mk_joined_48 ?_
      refine lv_aload_n hx hb d_Mk_joined_49 rfl (lv_at hl 5 rfl) ?_
      refine va_get (D := D) (ci := 6) (v := .ref m5) (C := R_Mk) (T := T_Mk) (N := 11) hx hb hts in_Mk hown hK hP 0 rfl rfl 5 (by decide) (hts _ fl_Mk_29) (fun _ h9 => h9) rfl d_Mk_joined_50 ?_
      refine lv_aload_n hx hb d_Mk_joined_53 rfl (lv_at hl 5 rfl) ?_
      refine va_get (D := D) (ci := 6) (v := .ref m2) (C := R_Mk) (T := T_Mk) (N := 11) hx hb hts in_Mk hown hK hP 0 rfl rfl 2 (by decide) (hts _ fl_Mk_19) (fun _ h9 => h9) rfl d_Mk_joined_54 ?_
      refine lv_iconst (v := 4) hx hb d_Mk_joined_57 (by decide) ?_
      refine lv_iload hx hb d_Mk_joined_58 (lv_at hl 1 rfl) ?_
      refine lv_imul hx hb d_Mk_joined_60 ?_
      refine lv_iload hx hb d_Mk_joined_61 (lv_at hl 0 rfl) ?_
      refine lv_iadd hx hb d_Mk_joined_63 ?_
      obtain ⟨g15, hf⟩ := ogi hf
      refine va_iald hx hb hK hP 3 0 rfl rfl (gin_in g15) d_Mk_joined_64 ?_
      obtain ⟨g16, hf⟩ := ogi hf
      refine va_iald hx hb hK hP 5 0 rfl rfl (gin_in g16) d_Mk_joined_65 ?_
      obtain ⟨g17, hf⟩ := ogi hf
      refine va_iast hx hb hK hP hD hS 11 0 rfl rfl (gin_in g17) d_Mk_joined_66 (fun H locs hP hD hS => ?_)
      have hP : va_P D vwCl ((mkW K mq m0 m1 m2 m3 m5 m6 m7 m8 m9 kHeads kTails kNext kSlots kReached kClassOf kFinerOf kMarkOf kFirstOf kMarkSlots kClasses) ++ (brW K wq wHead wTail bSet bEnd) ++ (iaW K iaN iNN (upd iFN ((4 * v5) + v7).toNatClampNeg (kClassOf (kNext ((4 * v6) + v7).toNatClampNeg).toNatClampNeg)))) H := hP
      have hD : va_D A ((mkW K mq m0 m1 m2 m3 m5 m6 m7 m8 m9 kHeads kTails kNext kSlots kReached kClassOf kFinerOf kMarkOf kFirstOf kMarkSlots kClasses) ++ (brW K wq wHead wTail bSet bEnd) ++ (iaW K iaN iNN (upd iFN ((4 * v5) + v7).toNatClampNeg (kClassOf (kNext ((4 * v6) + v7).toNatClampNeg).toNatClampNeg)))) := hD
      refine lv_iinc (v := v7 + 1) (lv' := [(7, .int (v7 + 1)), (6, .int v6), (5, .int v5), (3, .long v3), (2, .ref iaN), (0, .ref mq), (1, .ref wq)]) hx hb d_Mk_joined_67 hl (k := 0) rfl (by first | rfl | (congr 1)) (by decide) rfl (fun ls hl => ?_)
      refine lv_goto (tgt := 35) hx hb d_Mk_joined_70 (by decide) ?_
      exact ih _ _ hf _ _ _ _ _ hP hD hS (show lv_has ls 8 [(7, .int (v7 + 1)), (6, .int v6), (5, .int v5), (3, .long v3), (2, .ref iaN), (0, .ref mq), (1, .ref wq)] from lv_sub hl [0, 1, 2, 3, 4, 5, 6] rfl)
def f_Mk_joined_Br_14 (n : Nat) (kHeads : Nat → Int32) (kTails : Nat → Int64) (kNext : Nat → Int32) (kClassOf : Nat → Int32) (kFirstOf : Nat → Int32) (kClasses : Int32) (bEnd : Int32) (iNN : Nat) : Nat → Int32 → Int64 → (Nat → Int32) → Option (Int32 × Int64 × (Nat → Int32))
  | 0, _, _, _ => none
  | k + 1, v5, v3, iFN =>
    if kClasses ≤ v5 then
      some (v5, v3, iFN)
    else
      ogd (gin v5 64) <|
      (f_Mk_joined_Br_35 n (kFirstOf v5.toNatClampNeg) v5 kNext kClassOf iNN n 0 iFN).bind fun u18 =>
      ogd (gin (kFirstOf v5.toNatClampNeg) 800) <|
      ogd (gin (kFirstOf v5.toNatClampNeg) 800) <|
      (f_Br_endsAt n (kHeads (kFirstOf v5.toNatClampNeg).toNatClampNeg) (kTails (kFirstOf v5.toNatClampNeg).toNatClampNeg) bEnd).bind fun u21 =>
      if u21 = true then
        f_Mk_joined_Br_14 n kHeads kTails kNext kClassOf kFirstOf kClasses bEnd iNN k (v5 + 1) (v3 ||| (lshl 1 v5)) u18.2
      else
        f_Mk_joined_Br_14 n kHeads kTails kNext kClassOf kFirstOf kClasses bEnd iNN k (v5 + 1) v3 u18.2
set_option maxHeartbeats 4000000 in
set_option maxRecDepth 100000 in
theorem w_Mk_joined_Br_14   (hx : p.tables.exec = Jvm.exec) (hb : c.code = b_Mk_joined) (hml : c.maxLocals = 8) (hts : ∀ w ∈ gW, w.before args s = true) (hown : s.vm.findClass "RegularSolver$Maker" = some m.cls) (hK : va_K D vwCl (tG K) s) (hX : gX s) (hRf : 1 ≤ R.frames) (hRl : 23 ≤ R.locals) (hRc : cells ≤ R.cells) (hRs : slots ≤ R.slots) (hA : ∀ q, H0.size ≤ q → A q)  {out : Int32 × Int64 × (Nat → Int32)} (Kx : ∀ (u : Int32 × Int64 × (Nat → Int32)), out = u → ∀ (m5 : Nat) (m6 : Nat), ∀ (ls : Array Slot) (H : Heap) (locs : List Loc), va_P D vwCl ((mkW K mq m0 m1 m2 m3 m5 m6 m7 m8 m9 kHeads kTails kNext kSlots kReached kClassOf kFinerOf kMarkOf kFirstOf kMarkSlots kClasses) ++ (brW K wq wHead wTail bSet bEnd) ++ (iaW K iaN iNN u.2.2)) H → va_D A ((mkW K mq m0 m1 m2 m3 m5 m6 m7 m8 m9 kHeads kTails kNext kSlots kReached kClassOf kFinerOf kMarkOf kFirstOf kMarkSlots kClasses) ++ (brW K wq wHead wTail bSet bEnd) ++ (iaW K iaN iNN u.2.2)) → va_S A H0 H locs → lv_has ls 8 [(3, .long u.2.1), (2, .ref iaN), (0, .ref mq)] → W p l e R s m args below meth c H locs cells slots Q (F0 m 107 ls [])) :
    ∀ (k : Nat) (v5 : Int32) (v3 : Int64) (iFN : Nat → Int32), f_Mk_joined_Br_14 n kHeads kTails kNext kClassOf kFirstOf kClasses bEnd iNN k v5 v3 iFN = some out → ∀ (m5 : Nat) (m6 : Nat), ∀ (ls : Array Slot) (H : Heap) (locs : List Loc), va_P D vwCl ((mkW K mq m0 m1 m2 m3 m5 m6 m7 m8 m9 kHeads kTails kNext kSlots kReached kClassOf kFinerOf kMarkOf kFirstOf kMarkSlots kClasses) ++ (brW K wq wHead wTail bSet bEnd) ++ (iaW K iaN iNN iFN)) H → va_D A ((mkW K mq m0 m1 m2 m3 m5 m6 m7 m8 m9 kHeads kTails kNext kSlots kReached kClassOf kFinerOf kMarkOf kFirstOf kMarkSlots kClasses) ++ (brW K wq wHead wTail bSet bEnd) ++ (iaW K iaN iNN iFN)) → va_S A H0 H locs → lv_has ls 8 [(5, .int v5), (3, .long v3), (2, .ref iaN), (0, .ref mq), (1, .ref wq)] → W p l e R s m args below meth c H locs cells slots Q (F0 m 14 ls []) := by
  intro k
  induction k with
  | zero => intro _ _ _ hf; exact nomatch (show none = some out from hf)
  | succ k ih =>
    intro v5 v3 iFN hf m5 m6 ls H locs hP hD hS hl
    rw [f_Mk_joined_Br_14] at hf
    refine lv_iload hx hb d_Mk_joined_14 (lv_at hl 0 rfl) ?_
    refine lv_aload_n hx hb d_Mk_joined_16 rfl (lv_at hl 3 rfl) ?_
    refine va_get (D := D) (ci := 6) (v := .int kClasses) (C := R_Mk) (T := T_Mk) (N := 11) hx hb hts in_Mk hown hK hP 0 rfl rfl 10 (by decide) (hts _ fl_Mk_44) (fun _ h9 => h9) rfl d_Mk_joined_17 ?_
    refine lv_icmp_ge (tgt := 107) hx hb d_Mk_joined_20 (by decide) (fun c12 => ?_) (fun c12 => ?_)
    · rw [if_pos c12] at hf
      exact Kx _ (Option.some.inj hf).symm _ _ _ _ _ hP hD hS (show lv_has ls 8 [(3, .long v3), (2, .ref iaN), (0, .ref mq)] from lv_sub hl [1, 2, 3] rfl)
    · rw [if_neg c12] at hf
      refine lv_aload_n hx hb d_Mk_joined_23 rfl (lv_at hl 3 rfl) ?_
      refine va_get (D := D) (ci := 6) (v := .ref m8) (C := R_Mk) (T := T_Mk) (N := 11) hx hb hts in_Mk hown hK hP 0 rfl rfl 8 (by decide) (hts _ fl_Mk_38) (fun _ h9 => h9) rfl d_Mk_joined_24 ?_
      refine lv_iload hx hb d_Mk_joined_27 (lv_at hl 0 rfl) ?_
      obtain ⟨g13, hf⟩ := ogi hf
      refine va_iald hx hb hK hP 8 0 rfl rfl (gin_in g13) d_Mk_joined_29 ?_
      refine lv_istore (lv' := [(6, .int (kFirstOf v5.toNatClampNeg)), (5, .int v5), (3, .long v3), (2, .ref iaN), (0, .ref mq), (1, .ref wq)]) hx hb d_Mk_joined_30 hl (by decide) rfl (fun ls hl => ?_)
      refine lv_iconst (v := 0) hx hb d_Mk_joined_32 (by decide) ?_
      refine lv_istore (lv' := [(7, .int 0), (6, .int (kFirstOf v5.toNatClampNeg)), (5, .int v5), (3, .long v3), (2, .ref iaN), (0, .ref mq), (1, .ref wq)]) hx hb d_Mk_joined_33 hl (by decide) rfl (fun ls hl => ?_)
      obtain ⟨u18, eu18, hf⟩ := obd hf
      refine w_Mk_joined_Br_35 hx hb hml hts hown hK hX hRf hRl hRc hRs hA  (fun u18q eu m5 m6 ls H locs hP hD hS hl => ?_) _ _ _ eu18 _ _ _ _ _ hP hD hS (show lv_has ls 8 [(7, .int 0), (6, .int (kFirstOf v5.toNatClampNeg)), (5, .int v5), (3, .long v3), (2, .ref iaN), (0, .ref mq), (1, .ref wq)] from lv_sub hl [0, 1, 2, 3, 4, 5, 6] rfl)
      subst eu
      refine lv_aload_n hx hb d_Mk_joined_73 rfl (lv_at hl 5 rfl) ?_
      refine lv_aload_n hx hb d_Mk_joined_74 rfl (lv_at hl 4 rfl) ?_
      refine va_get (D := D) (ci := 6) (v := .ref m0) (C := R_Mk) (T := T_Mk) (N := 11) hx hb hts in_Mk hown hK hP 0 rfl rfl 0 (by decide) (hts _ fl_Mk_11) (fun _ h9 => h9) rfl d_Mk_joined_75 ?_
      refine lv_iload hx hb d_Mk_joined_78 (lv_at hl 0 rfl) ?_
      obtain ⟨g19, hf⟩ := ogi hf
      refine va_iald hx hb hK hP 1 0 rfl rfl (gin_in g19) d_Mk_joined_80 ?_
      refine lv_aload_n hx hb d_Mk_joined_81 rfl (lv_at hl 4 rfl) ?_
      refine va_get (D := D) (ci := 6) (v := .ref m1) (C := R_Mk) (T := T_Mk) (N := 11) hx hb hts in_Mk hown hK hP 0 rfl rfl 1 (by decide) (hts _ fl_Mk_15) (fun _ h9 => h9) rfl d_Mk_joined_82 ?_
      refine lv_iload hx hb d_Mk_joined_85 (lv_at hl 0 rfl) ?_
      obtain ⟨g20, hf⟩ := ogi hf
      refine va_lald hx hb hK hP 2 1 rfl rfl (gin_in g20) d_Mk_joined_87 ?_
      obtain ⟨u21, eu21, hf⟩ := obd hf
      refine p_call (va_Run.run (va_runU (As := [.int (kHeads (kFirstOf v5.toNatClampNeg).toNatClampNeg), .long (kTails (kFirstOf v5.toNatClampNeg).toNatClampNeg)]) (rest := []) ⟨hx, hb, hml, hown, hts⟩ (c_Br_endsAt l eu21) (gA (owner := "RegularSolver$Way") 2 hts hX cd_Br_endsAt ml_Mk_95 im_Br_endsAt sm_endsAt sa_Br_endsAt ini_Br (by decide +kernel) rfl rfl (by decide +kernel) ⟨Nat.le_trans (Nat.le_of_ble_eq_true rfl) hRf, Nat.le_trans (Nat.le_of_ble_eq_true rfl) hRl⟩) ⟨pPre_blind, va_recv hK (vaR (vaL hP)) (ci := 2) (q0 := 0) rfl rfl, pPre_of (vaR (vaL hP)) hK⟩ rfl rfl hl.1 rfl (lv_room (Nat.le_of_ble_eq_true rfl)) d_Mk_joined_88 ⟨hRc, hRs⟩)) ?_
      refine bz_eq (tgt := 101) hx hb d_Mk_joined_91 (by decide) (fun c22 => ?_) (fun c22 => ?_)
      · rw [if_neg c22] at hf
        refine lv_iinc (v := v5 + 1) (lv' := [(5, .int (v5 + 1)), (6, .int (kFirstOf v5.toNatClampNeg)), (3, .long v3), (2, .ref iaN), (0, .ref mq), (1, .ref wq)]) hx hb d_Mk_joined_101 hl (k := 1) rfl (by first | rfl | (congr 1)) (by decide) rfl (fun ls hl => ?_)
        refine lv_goto (tgt := 14) hx hb d_Mk_joined_104 (by decide) ?_
        exact ih _ _ _ hf _ _ _ _ _ hP hD hS (show lv_has ls 8 [(5, .int (v5 + 1)), (3, .long v3), (2, .ref iaN), (0, .ref mq), (1, .ref wq)] from lv_sub hl [0, 2, 3, 4, 5] rfl)
      · rw [if_pos c22] at hf
        refine lv_lload_n hx hb d_Mk_joined_94 rfl (lv_at hl 2 rfl) ?_
        refine lv_lconst (v := 1) hx hb d_Mk_joined_95 (by decide) ?_
        refine lv_iload hx hb d_Mk_joined_96 (lv_at hl 1 rfl) ?_
        refine lv_lshl (v := lshl 1 v5) hx hb d_Mk_joined_98 rfl ?_
        refine lv_lor hx hb d_Mk_joined_99 ?_
        refine lv_lstore_n (lv' := [(3, .long (v3 ||| (lshl 1 v5))), (6, .int (kFirstOf v5.toNatClampNeg)), (5, .int v5), (2, .ref iaN), (0, .ref mq), (1, .ref wq)]) hx hb d_Mk_joined_100 rfl hl (by decide) rfl (fun ls hl => ?_)
        refine lv_iinc (v := v5 + 1) (lv' := [(5, .int (v5 + 1)), (3, .long (v3 ||| (lshl 1 v5))), (6, .int (kFirstOf v5.toNatClampNeg)), (2, .ref iaN), (0, .ref mq), (1, .ref wq)]) hx hb d_Mk_joined_101 hl (k := 2) rfl (by first | rfl | (congr 1)) (by decide) rfl (fun ls hl => ?_)
        refine lv_goto (tgt := 14) hx hb d_Mk_joined_104 (by decide) ?_
        exact ih _ _ _ hf _ _ _ _ _ hP hD hS (show lv_has ls 8 [(5, .int (v5 + 1)), (3, .long (v3 ||| (lshl 1 v5))), (2, .ref iaN), (0, .ref mq), (1, .ref wq)] from lv_sub hl [0, 1, 3, 4, 5] rfl)
def f_Mk_joined_Br (n : Nat) (kHeads : Nat → Int32) (kTails : Nat → Int64) (kNext : Nat → Int32) (kClassOf : Nat → Int32) (kFirstOf : Nat → Int32) (kClasses : Int32) (bEnd : Int32) (iNN : Nat) (iFN : Nat → Int32) : Option (Int64 × (Nat → Int32)) :=
  (f_Mk_joined_Br_14 n kHeads kTails kNext kClassOf kFirstOf kClasses bEnd iNN n 0 0 iFN).bind fun u23 =>
  some (u23.2.1, u23.2.2)
set_option maxHeartbeats 4000000 in
set_option maxRecDepth 100000 in
theorem w_Mk_joined_Br  (hx : p.tables.exec = Jvm.exec) (hb : c.code = b_Mk_joined) (hml : c.maxLocals = 8) (hts : ∀ w ∈ gW, w.before args s = true) (hown : s.vm.findClass "RegularSolver$Maker" = some m.cls) (hK : va_K D vwCl (tG K) s) (hX : gX s) (hRf : 1 ≤ R.frames) (hRl : 23 ≤ R.locals) (hRc : cells ≤ R.cells) (hRs : slots ≤ R.slots) (hA : ∀ q, H0.size ≤ q → A q) {out : Int64 × (Nat → Int32)} (Kx : ∀ (u : Int64 × (Nat → Int32)), out = u → ∀ (m5 : Nat) (m6 : Nat), ∀ (ls : Array Slot) (H : Heap) (locs : List Loc), va_P D vwCl ((mkW K mq m0 m1 m2 m3 m5 m6 m7 m8 m9 kHeads kTails kNext kSlots kReached kClassOf kFinerOf kMarkOf kFirstOf kMarkSlots kClasses) ++ (brW K wq wHead wTail bSet bEnd) ++ (iaW K iaN iNN u.2)) H → va_D A ((mkW K mq m0 m1 m2 m3 m5 m6 m7 m8 m9 kHeads kTails kNext kSlots kReached kClassOf kFinerOf kMarkOf kFirstOf kMarkSlots kClasses) ++ (brW K wq wHead wTail bSet bEnd) ++ (iaW K iaN iNN u.2)) → va_S A H0 H locs → lv_has ls 8 [(0, .ref mq), (2, .ref iaN), (3, .long u.1)] → W p l e R s m args below meth c H locs cells slots Q (F0 m 107 ls [])) (hf : f_Mk_joined_Br n kHeads kTails kNext kClassOf kFirstOf kClasses bEnd iNN iFN = some out) (ls : Array Slot) (hP : va_P D vwCl ((mkW K mq m0 m1 m2 m3 m5 m6 m7 m8 m9 kHeads kTails kNext kSlots kReached kClassOf kFinerOf kMarkOf kFirstOf kMarkSlots kClasses) ++ (brW K wq wHead wTail bSet bEnd) ++ (iaW K iaN iNN iFN)) H) (hD : va_D A ((mkW K mq m0 m1 m2 m3 m5 m6 m7 m8 m9 kHeads kTails kNext kSlots kReached kClassOf kFinerOf kMarkOf kFirstOf kMarkSlots kClasses) ++ (brW K wq wHead wTail bSet bEnd) ++ (iaW K iaN iNN iFN))) (hS : va_S A H0 H locs) (hl : lv_has ls 8 [(0, .ref mq), (1, .ref wq)]) : W p l e R s m args below meth c H locs cells slots Q (F0 m 8 ls [.ref iaN]) := by
  unfold f_Mk_joined_Br at hf
  refine lv_astore_n (lv' := [(2, .ref iaN), (0, .ref mq), (1, .ref wq)]) hx hb d_Mk_joined_8 rfl hl (by decide) rfl (fun ls hl => ?_)
  refine lv_lconst (v := 0) hx hb d_Mk_joined_9 (by decide) ?_
  refine lv_lstore_n (lv' := [(3, .long 0), (2, .ref iaN), (0, .ref mq), (1, .ref wq)]) hx hb d_Mk_joined_10 rfl hl (by decide) rfl (fun ls hl => ?_)
  refine lv_iconst (v := 0) hx hb d_Mk_joined_11 (by decide) ?_
  refine lv_istore (lv' := [(5, .int 0), (3, .long 0), (2, .ref iaN), (0, .ref mq), (1, .ref wq)]) hx hb d_Mk_joined_12 hl (by decide) rfl (fun ls hl => ?_)
  obtain ⟨u23, eu23, hf⟩ := obd hf
  refine w_Mk_joined_Br_14 hx hb hml hts hown hK hX hRf hRl hRc hRs hA  (fun u23q eu m5 m6 ls H locs hP hD hS hl => ?_) _ _ _ _ eu23 _ _ _ _ _ hP hD hS (show lv_has ls 8 [(5, .int 0), (3, .long 0), (2, .ref iaN), (0, .ref mq), (1, .ref wq)] from lv_sub hl [0, 1, 2, 3, 4] rfl)
  subst eu
  exact Kx _ (Option.some.inj hf).symm _ _ _ _ _ hP hD hS (show lv_has ls 8 [(0, .ref mq), (2, .ref iaN), (3, .long u23.2.1)] from lv_sub hl [2, 1, 0] rfl)
end
section
variable {p : Program} {l : Launch} {e : Env} {R : Room} {s : State} {m : MethodId} {args : Array Value} {below : List Frame} {meth : Method} {c : Code} {H : Heap} {locs : List Loc} {cells slots : Nat} {Q : State → Prop} {A : Nat → Prop} {H0 : Heap}
variable {n : Nat} {D : va_G} {K : Nat → ClassId} {mq : Nat} {m0 : Nat} {m1 : Nat} {m2 : Nat} {m3 : Nat} {m5 : Nat} {m6 : Nat} {m7 : Nat} {m8 : Nat} {m9 : Nat} {wq : Nat} {q1 : Nat} {q2 : Nat} {iaN : Nat} {an1 : Nat} {aa1 : Nat} {an2 : Nat} {aa2 : Nat} {kHeads : Nat → Int32} {kTails : Nat → Int64} {kNext : Nat → Int32} {kSlots : Nat → Int32} {kReached : Int32} {kClassOf : Nat → Int32} {kFinerOf : Nat → Int32} {kMarkOf : Nat → Int32} {kFirstOf : Nat → Int32} {kMarkSlots : Nat → Int32} {kClasses : Int32} {wHead : Int32} {wTail : Int64} {iNN : Nat} {iFN : Nat → Int32} {aStates1 : Int32} {aNl1 : Nat} {aNext1 : Nat → Int32} {aLast1 : Int64} {aAhead1 : Nat → Int64} {aStates2 : Int32} {aNl2 : Nat} {aNext2 : Nat → Int32} {aLast2 : Int64} {aAhead2 : Nat → Int64}
def f_Mk_joined_Ch_35 (n : Nat) (v6 : Int32) (v5 : Int32) (kNext : Nat → Int32) (kClassOf : Nat → Int32) (iNN : Nat) : Nat → Int32 → (Nat → Int32) → Option (Int32 × (Nat → Int32))
  | 0, _, _ => none
  | k + 1, v7, iFN =>
    if 4 ≤ v7 then
      some (v7, iFN)
    else
      ogd (gin ((4 * v6) + v7) 3200) <|
      ogd (gin (kNext ((4 * v6) + v7).toNatClampNeg) 800) <|
      ogd (gin ((4 * v5) + v7) iNN) <|
      f_Mk_joined_Ch_35 n v6 v5 kNext kClassOf iNN k (v7 + 1) (upd iFN ((4 * v5) + v7).toNatClampNeg (kClassOf (kNext ((4 * v6) + v7).toNatClampNeg).toNatClampNeg))
set_option maxHeartbeats 4000000 in
set_option maxRecDepth 100000 in
theorem w_Mk_joined_Ch_35  {v6 : Int32} {v5 : Int32} {v3 : Int64} (hx : p.tables.exec = Jvm.exec) (hb : c.code = b_Mk_joined) (hml : c.maxLocals = 8) (hts : ∀ w ∈ gW, w.before args s = true) (hown : s.vm.findClass "RegularSolver$Maker" = some m.cls) (hK : va_K D vwCl (tG K) s) (hX : gX s) (hO1 : ∀ (H : Heap) (locs : List Loc), va_S A H0 H locs → va_P D vwCl (auW K q1 an1 aa1 aStates1 aNl1 aNext1 aLast1 aAhead1) H) (hw1 : gAw A (auW K q1 an1 aa1 aStates1 aNl1 aNext1 aLast1 aAhead1)) (hO2 : ∀ (H : Heap) (locs : List Loc), va_S A H0 H locs → va_P D vwCl (auW K q2 an2 aa2 aStates2 aNl2 aNext2 aLast2 aAhead2) H) (hw2 : gAw A (auW K q2 an2 aa2 aStates2 aNl2 aNext2 aLast2 aAhead2)) (hRf : 2 ≤ R.frames) (hRl : 45 ≤ R.locals) (hRc : cells ≤ R.cells) (hRs : slots ≤ R.slots) (hA : ∀ q, H0.size ≤ q → A q)  {out : Int32 × (Nat → Int32)} (Kx : ∀ (u : Int32 × (Nat → Int32)), out = u → ∀ (m5 : Nat) (m6 : Nat), ∀ (ls : Array Slot) (H : Heap) (locs : List Loc), va_P D vwCl ((mkW K mq m0 m1 m2 m3 m5 m6 m7 m8 m9 kHeads kTails kNext kSlots kReached kClassOf kFinerOf kMarkOf kFirstOf kMarkSlots kClasses) ++ (chW K wq q1 q2 wHead wTail) ++ (iaW K iaN iNN u.2)) H → va_D A ((mkW K mq m0 m1 m2 m3 m5 m6 m7 m8 m9 kHeads kTails kNext kSlots kReached kClassOf kFinerOf kMarkOf kFirstOf kMarkSlots kClasses) ++ (chW K wq q1 q2 wHead wTail) ++ (iaW K iaN iNN u.2)) → va_S A H0 H locs → lv_has ls 8 [(6, .int v6), (5, .int v5), (3, .long v3), (2, .ref iaN), (0, .ref mq), (1, .ref wq)] → W p l e R s m args below meth c H locs cells slots Q (F0 m 73 ls [])) :
    ∀ (k : Nat) (v7 : Int32) (iFN : Nat → Int32), f_Mk_joined_Ch_35 n v6 v5 kNext kClassOf iNN k v7 iFN = some out → ∀ (m5 : Nat) (m6 : Nat), ∀ (ls : Array Slot) (H : Heap) (locs : List Loc), va_P D vwCl ((mkW K mq m0 m1 m2 m3 m5 m6 m7 m8 m9 kHeads kTails kNext kSlots kReached kClassOf kFinerOf kMarkOf kFirstOf kMarkSlots kClasses) ++ (chW K wq q1 q2 wHead wTail) ++ (iaW K iaN iNN iFN)) H → va_D A ((mkW K mq m0 m1 m2 m3 m5 m6 m7 m8 m9 kHeads kTails kNext kSlots kReached kClassOf kFinerOf kMarkOf kFirstOf kMarkSlots kClasses) ++ (chW K wq q1 q2 wHead wTail) ++ (iaW K iaN iNN iFN)) → va_S A H0 H locs → lv_has ls 8 [(7, .int v7), (6, .int v6), (5, .int v5), (3, .long v3), (2, .ref iaN), (0, .ref mq), (1, .ref wq)] → W p l e R s m args below meth c H locs cells slots Q (F0 m 35 ls []) := by
  intro k
  induction k with
  | zero => intro _ _ hf; exact nomatch (show none = some out from hf)
  | succ k ih =>
    intro v7 iFN hf m5 m6 ls H locs hP hD hS hl
    rw [f_Mk_joined_Ch_35] at hf
    refine lv_iload hx hb d_Mk_joined_35 (lv_at hl 0 rfl) ?_
    refine lv_iconst (v := 4) hx hb d_Mk_joined_37 (by decide) ?_
    refine lv_icmp_ge (tgt := 73) hx hb d_Mk_joined_38 (by decide) (fun c14 => ?_) (fun c14 => ?_)
    · rw [if_pos c14] at hf
      exact Kx _ (Option.some.inj hf).symm _ _ _ _ _ hP hD hS (show lv_has ls 8 [(6, .int v6), (5, .int v5), (3, .long v3), (2, .ref iaN), (0, .ref mq), (1, .ref wq)] from lv_sub hl [1, 2, 3, 4, 5, 6] rfl)
    · rw [if_neg c14] at hf
      refine lv_aload_n hx hb d_Mk_joined_41 rfl (lv_at hl 4 rfl) ?_
      refine lv_iconst (v := 4) hx hb d_Mk_joined_42 (by decide) ?_
      refine lv_iload hx hb d_Mk_joined_43 (lv_at hl 2 rfl) ?_
      refine lv_imul hx hb d_Mk_joined_45 ?_
      refine lv_iload hx hb d_Mk_joined_46 (lv_at hl 0 rfl) ?_
      refine lv_iadd hx hb d_Mk_joined_48 ?_
      refine lv_aload_n hx hb d_Mk_joined_49 rfl (lv_at hl 5 rfl) ?_
      refine va_get (D := D) (ci := 6) (v := .ref m5) (C := R_Mk) (T := T_Mk) (N := 11) hx hb hts in_Mk hown hK hP 0 rfl rfl 5 (by decide) (hts _ fl_Mk_29) (fun _ h9 => h9) rfl d_Mk_joined_50 ?_
      refine lv_aload_n hx hb d_Mk_joined_53 rfl (lv_at hl 5 rfl) ?_
      refine va_get (D := D) (ci := 6) (v := .ref m2) (C := R_Mk) (T := T_Mk) (N := 11) hx hb hts in_Mk hown hK hP 0 rfl rfl 2 (by decide) (hts _ fl_Mk_19) (fun _ h9 => h9) rfl d_Mk_joined_54 ?_
      refine lv_iconst (v := 4) hx hb d_Mk_joined_57 (by decide) ?_
      refine lv_iload hx hb d_Mk_joined_58 (lv_at hl 1 rfl) ?_
      refine lv_imul hx hb d_Mk_joined_60 ?_
      refine lv_iload hx hb d_Mk_joined_61 (lv_at hl 0 rfl) ?_
      refine lv_iadd hx hb d_Mk_joined_63 ?_
      obtain ⟨g15, hf⟩ := ogi hf
      refine va_iald hx hb hK hP 3 0 rfl rfl (gin_in g15) d_Mk_joined_64 ?_
      obtain ⟨g16, hf⟩ := ogi hf
      refine va_iald hx hb hK hP 5 0 rfl rfl (gin_in g16) d_Mk_joined_65 ?_
      obtain ⟨g17, hf⟩ := ogi hf
      refine va_iast hx hb hK hP hD hS 11 0 rfl rfl (gin_in g17) d_Mk_joined_66 (fun H locs hP hD hS => ?_)
      have hP : va_P D vwCl ((mkW K mq m0 m1 m2 m3 m5 m6 m7 m8 m9 kHeads kTails kNext kSlots kReached kClassOf kFinerOf kMarkOf kFirstOf kMarkSlots kClasses) ++ (chW K wq q1 q2 wHead wTail) ++ (iaW K iaN iNN (upd iFN ((4 * v5) + v7).toNatClampNeg (kClassOf (kNext ((4 * v6) + v7).toNatClampNeg).toNatClampNeg)))) H := hP
      have hD : va_D A ((mkW K mq m0 m1 m2 m3 m5 m6 m7 m8 m9 kHeads kTails kNext kSlots kReached kClassOf kFinerOf kMarkOf kFirstOf kMarkSlots kClasses) ++ (chW K wq q1 q2 wHead wTail) ++ (iaW K iaN iNN (upd iFN ((4 * v5) + v7).toNatClampNeg (kClassOf (kNext ((4 * v6) + v7).toNatClampNeg).toNatClampNeg)))) := hD
      refine lv_iinc (v := v7 + 1) (lv' := [(7, .int (v7 + 1)), (6, .int v6), (5, .int v5), (3, .long v3), (2, .ref iaN), (0, .ref mq), (1, .ref wq)]) hx hb d_Mk_joined_67 hl (k := 0) rfl (by first | rfl | (congr 1)) (by decide) rfl (fun ls hl => ?_)
      refine lv_goto (tgt := 35) hx hb d_Mk_joined_70 (by decide) ?_
      exact ih _ _ hf _ _ _ _ _ hP hD hS (show lv_has ls 8 [(7, .int (v7 + 1)), (6, .int v6), (5, .int v5), (3, .long v3), (2, .ref iaN), (0, .ref mq), (1, .ref wq)] from lv_sub hl [0, 1, 2, 3, 4, 5, 6] rfl)
def f_Mk_joined_Ch_14 (n : Nat) (kHeads : Nat → Int32) (kTails : Nat → Int64) (kNext : Nat → Int32) (kClassOf : Nat → Int32) (kFirstOf : Nat → Int32) (kClasses : Int32) (iNN : Nat) (aLast2 : Int64) : Nat → Int32 → Int64 → (Nat → Int32) → Option (Int32 × Int64 × (Nat → Int32))
  | 0, _, _, _ => none
  | k + 1, v5, v3, iFN =>
    if kClasses ≤ v5 then
      some (v5, v3, iFN)
    else
      ogd (gin v5 64) <|
      (f_Mk_joined_Ch_35 n (kFirstOf v5.toNatClampNeg) v5 kNext kClassOf iNN n 0 iFN).bind fun u18 =>
      ogd (gin (kFirstOf v5.toNatClampNeg) 800) <|
      ogd (gin (kFirstOf v5.toNatClampNeg) 800) <|
      (f_Ch_endsAt n (kHeads (kFirstOf v5.toNatClampNeg).toNatClampNeg) (kTails (kFirstOf v5.toNatClampNeg).toNatClampNeg) aLast2).bind fun u21 =>
      if u21 = true then
        f_Mk_joined_Ch_14 n kHeads kTails kNext kClassOf kFirstOf kClasses iNN aLast2 k (v5 + 1) (v3 ||| (lshl 1 v5)) u18.2
      else
        f_Mk_joined_Ch_14 n kHeads kTails kNext kClassOf kFirstOf kClasses iNN aLast2 k (v5 + 1) v3 u18.2
set_option maxHeartbeats 4000000 in
set_option maxRecDepth 100000 in
theorem w_Mk_joined_Ch_14   (hx : p.tables.exec = Jvm.exec) (hb : c.code = b_Mk_joined) (hml : c.maxLocals = 8) (hts : ∀ w ∈ gW, w.before args s = true) (hown : s.vm.findClass "RegularSolver$Maker" = some m.cls) (hK : va_K D vwCl (tG K) s) (hX : gX s) (hO1 : ∀ (H : Heap) (locs : List Loc), va_S A H0 H locs → va_P D vwCl (auW K q1 an1 aa1 aStates1 aNl1 aNext1 aLast1 aAhead1) H) (hw1 : gAw A (auW K q1 an1 aa1 aStates1 aNl1 aNext1 aLast1 aAhead1)) (hO2 : ∀ (H : Heap) (locs : List Loc), va_S A H0 H locs → va_P D vwCl (auW K q2 an2 aa2 aStates2 aNl2 aNext2 aLast2 aAhead2) H) (hw2 : gAw A (auW K q2 an2 aa2 aStates2 aNl2 aNext2 aLast2 aAhead2)) (hRf : 2 ≤ R.frames) (hRl : 45 ≤ R.locals) (hRc : cells ≤ R.cells) (hRs : slots ≤ R.slots) (hA : ∀ q, H0.size ≤ q → A q)  {out : Int32 × Int64 × (Nat → Int32)} (Kx : ∀ (u : Int32 × Int64 × (Nat → Int32)), out = u → ∀ (m5 : Nat) (m6 : Nat), ∀ (ls : Array Slot) (H : Heap) (locs : List Loc), va_P D vwCl ((mkW K mq m0 m1 m2 m3 m5 m6 m7 m8 m9 kHeads kTails kNext kSlots kReached kClassOf kFinerOf kMarkOf kFirstOf kMarkSlots kClasses) ++ (chW K wq q1 q2 wHead wTail) ++ (iaW K iaN iNN u.2.2)) H → va_D A ((mkW K mq m0 m1 m2 m3 m5 m6 m7 m8 m9 kHeads kTails kNext kSlots kReached kClassOf kFinerOf kMarkOf kFirstOf kMarkSlots kClasses) ++ (chW K wq q1 q2 wHead wTail) ++ (iaW K iaN iNN u.2.2)) → va_S A H0 H locs → lv_has ls 8 [(3, .long u.2.1), (2, .ref iaN), (0, .ref mq)] → W p l e R s m args below meth c H locs cells slots Q (F0 m 107 ls [])) :
    ∀ (k : Nat) (v5 : Int32) (v3 : Int64) (iFN : Nat → Int32), f_Mk_joined_Ch_14 n kHeads kTails kNext kClassOf kFirstOf kClasses iNN aLast2 k v5 v3 iFN = some out → ∀ (m5 : Nat) (m6 : Nat), ∀ (ls : Array Slot) (H : Heap) (locs : List Loc), va_P D vwCl ((mkW K mq m0 m1 m2 m3 m5 m6 m7 m8 m9 kHeads kTails kNext kSlots kReached kClassOf kFinerOf kMarkOf kFirstOf kMarkSlots kClasses) ++ (chW K wq q1 q2 wHead wTail) ++ (iaW K iaN iNN iFN)) H → va_D A ((mkW K mq m0 m1 m2 m3 m5 m6 m7 m8 m9 kHeads kTails kNext kSlots kReached kClassOf kFinerOf kMarkOf kFirstOf kMarkSlots kClasses) ++ (chW K wq q1 q2 wHead wTail) ++ (iaW K iaN iNN iFN)) → va_S A H0 H locs → lv_has ls 8 [(5, .int v5), (3, .long v3), (2, .ref iaN), (0, .ref mq), (1, .ref wq)] → W p l e R s m args below meth c H locs cells slots Q (F0 m 14 ls []) := by
  intro k
  induction k with
  | zero => intro _ _ _ hf; exact nomatch (show none = some out from hf)
  | succ k ih =>
    intro v5 v3 iFN hf m5 m6 ls H locs hP hD hS hl
    rw [f_Mk_joined_Ch_14] at hf
    refine lv_iload hx hb d_Mk_joined_14 (lv_at hl 0 rfl) ?_
    refine lv_aload_n hx hb d_Mk_joined_16 rfl (lv_at hl 3 rfl) ?_
    refine va_get (D := D) (ci := 6) (v := .int kClasses) (C := R_Mk) (T := T_Mk) (N := 11) hx hb hts in_Mk hown hK hP 0 rfl rfl 10 (by decide) (hts _ fl_Mk_44) (fun _ h9 => h9) rfl d_Mk_joined_17 ?_
    refine lv_icmp_ge (tgt := 107) hx hb d_Mk_joined_20 (by decide) (fun c12 => ?_) (fun c12 => ?_)
    · rw [if_pos c12] at hf
      exact Kx _ (Option.some.inj hf).symm _ _ _ _ _ hP hD hS (show lv_has ls 8 [(3, .long v3), (2, .ref iaN), (0, .ref mq)] from lv_sub hl [1, 2, 3] rfl)
    · rw [if_neg c12] at hf
      refine lv_aload_n hx hb d_Mk_joined_23 rfl (lv_at hl 3 rfl) ?_
      refine va_get (D := D) (ci := 6) (v := .ref m8) (C := R_Mk) (T := T_Mk) (N := 11) hx hb hts in_Mk hown hK hP 0 rfl rfl 8 (by decide) (hts _ fl_Mk_38) (fun _ h9 => h9) rfl d_Mk_joined_24 ?_
      refine lv_iload hx hb d_Mk_joined_27 (lv_at hl 0 rfl) ?_
      obtain ⟨g13, hf⟩ := ogi hf
      refine va_iald hx hb hK hP 8 0 rfl rfl (gin_in g13) d_Mk_joined_29 ?_
      refine lv_istore (lv' := [(6, .int (kFirstOf v5.toNatClampNeg)), (5, .int v5), (3, .long v3), (2, .ref iaN), (0, .ref mq), (1, .ref wq)]) hx hb d_Mk_joined_30 hl (by decide) rfl (fun ls hl => ?_)
      refine lv_iconst (v := 0) hx hb d_Mk_joined_32 (by decide) ?_
      refine lv_istore (lv' := [(7, .int 0), (6, .int (kFirstOf v5.toNatClampNeg)), (5, .int v5), (3, .long v3), (2, .ref iaN), (0, .ref mq), (1, .ref wq)]) hx hb d_Mk_joined_33 hl (by decide) rfl (fun ls hl => ?_)
      obtain ⟨u18, eu18, hf⟩ := obd hf
      refine w_Mk_joined_Ch_35 hx hb hml hts hown hK hX hO1 hw1 hO2 hw2 hRf hRl hRc hRs hA  (fun u18q eu m5 m6 ls H locs hP hD hS hl => ?_) _ _ _ eu18 _ _ _ _ _ hP hD hS (show lv_has ls 8 [(7, .int 0), (6, .int (kFirstOf v5.toNatClampNeg)), (5, .int v5), (3, .long v3), (2, .ref iaN), (0, .ref mq), (1, .ref wq)] from lv_sub hl [0, 1, 2, 3, 4, 5, 6] rfl)
      subst eu
      refine lv_aload_n hx hb d_Mk_joined_73 rfl (lv_at hl 5 rfl) ?_
      refine lv_aload_n hx hb d_Mk_joined_74 rfl (lv_at hl 4 rfl) ?_
      refine va_get (D := D) (ci := 6) (v := .ref m0) (C := R_Mk) (T := T_Mk) (N := 11) hx hb hts in_Mk hown hK hP 0 rfl rfl 0 (by decide) (hts _ fl_Mk_11) (fun _ h9 => h9) rfl d_Mk_joined_75 ?_
      refine lv_iload hx hb d_Mk_joined_78 (lv_at hl 0 rfl) ?_
      obtain ⟨g19, hf⟩ := ogi hf
      refine va_iald hx hb hK hP 1 0 rfl rfl (gin_in g19) d_Mk_joined_80 ?_
      refine lv_aload_n hx hb d_Mk_joined_81 rfl (lv_at hl 4 rfl) ?_
      refine va_get (D := D) (ci := 6) (v := .ref m1) (C := R_Mk) (T := T_Mk) (N := 11) hx hb hts in_Mk hown hK hP 0 rfl rfl 1 (by decide) (hts _ fl_Mk_15) (fun _ h9 => h9) rfl d_Mk_joined_82 ?_
      refine lv_iload hx hb d_Mk_joined_85 (lv_at hl 0 rfl) ?_
      obtain ⟨g20, hf⟩ := ogi hf
      refine va_lald hx hb hK hP 2 1 rfl rfl (gin_in g20) d_Mk_joined_87 ?_
      obtain ⟨u21, eu21, hf⟩ := obd hf
      refine p_call (va_Run.run (va_runU (As := [.int (kHeads (kFirstOf v5.toNatClampNeg).toNatClampNeg), .long (kTails (kFirstOf v5.toNatClampNeg).toNatClampNeg)]) (rest := []) ⟨hx, hb, hml, hown, hts⟩ (c_Ch_endsAt l eu21) (gA (owner := "RegularSolver$Way") 2 hts hX cd_Ch_endsAt ml_Mk_95 im_Ch_endsAt sm_endsAt sa_Ch_endsAt ini_Ch (by decide +kernel) rfl rfl (by decide +kernel) ⟨Nat.le_trans (Nat.le_of_ble_eq_true rfl) hRf, Nat.le_trans (Nat.le_of_ble_eq_true rfl) hRl⟩) ⟨pPre_blind, va_recv hK (vaR (vaL hP)) (ci := 3) (q0 := 0) rfl rfl, pPre_of (va_P.app (va_P.app (vaR (vaL hP)) (hO1 _ _ hS)) (hO2 _ _ hS)) hK⟩ rfl rfl hl.1 rfl (lv_room (Nat.le_of_ble_eq_true rfl)) d_Mk_joined_88 ⟨hRc, hRs⟩)) ?_
      refine bz_eq (tgt := 101) hx hb d_Mk_joined_91 (by decide) (fun c22 => ?_) (fun c22 => ?_)
      · rw [if_neg c22] at hf
        refine lv_iinc (v := v5 + 1) (lv' := [(5, .int (v5 + 1)), (6, .int (kFirstOf v5.toNatClampNeg)), (3, .long v3), (2, .ref iaN), (0, .ref mq), (1, .ref wq)]) hx hb d_Mk_joined_101 hl (k := 1) rfl (by first | rfl | (congr 1)) (by decide) rfl (fun ls hl => ?_)
        refine lv_goto (tgt := 14) hx hb d_Mk_joined_104 (by decide) ?_
        exact ih _ _ _ hf _ _ _ _ _ hP hD hS (show lv_has ls 8 [(5, .int (v5 + 1)), (3, .long v3), (2, .ref iaN), (0, .ref mq), (1, .ref wq)] from lv_sub hl [0, 2, 3, 4, 5] rfl)
      · rw [if_pos c22] at hf
        refine lv_lload_n hx hb d_Mk_joined_94 rfl (lv_at hl 2 rfl) ?_
        refine lv_lconst (v := 1) hx hb d_Mk_joined_95 (by decide) ?_
        refine lv_iload hx hb d_Mk_joined_96 (lv_at hl 1 rfl) ?_
        refine lv_lshl (v := lshl 1 v5) hx hb d_Mk_joined_98 rfl ?_
        refine lv_lor hx hb d_Mk_joined_99 ?_
        refine lv_lstore_n (lv' := [(3, .long (v3 ||| (lshl 1 v5))), (6, .int (kFirstOf v5.toNatClampNeg)), (5, .int v5), (2, .ref iaN), (0, .ref mq), (1, .ref wq)]) hx hb d_Mk_joined_100 rfl hl (by decide) rfl (fun ls hl => ?_)
        refine lv_iinc (v := v5 + 1) (lv' := [(5, .int (v5 + 1)), (3, .long (v3 ||| (lshl 1 v5))), (6, .int (kFirstOf v5.toNatClampNeg)), (2, .ref iaN), (0, .ref mq), (1, .ref wq)]) hx hb d_Mk_joined_101 hl (k := 2) rfl (by first | rfl | (congr 1)) (by decide) rfl (fun ls hl => ?_)
        refine lv_goto (tgt := 14) hx hb d_Mk_joined_104 (by decide) ?_
        exact ih _ _ _ hf _ _ _ _ _ hP hD hS (show lv_has ls 8 [(5, .int (v5 + 1)), (3, .long (v3 ||| (lshl 1 v5))), (2, .ref iaN), (0, .ref mq), (1, .ref wq)] from lv_sub hl [0, 1, 3, 4, 5] rfl)
def f_Mk_joined_Ch (n : Nat) (kHeads : Nat → Int32) (kTails : Nat → Int64) (kNext : Nat → Int32) (kClassOf : Nat → Int32) (kFirstOf : Nat → Int32) (kClasses : Int32) (iNN : Nat) (iFN : Nat → Int32) (aLast2 : Int64) : Option (Int64 × (Nat → Int32)) :=
  (f_Mk_joined_Ch_14 n kHeads kTails kNext kClassOf kFirstOf kClasses iNN aLast2 n 0 0 iFN).bind fun u23 =>
  some (u23.2.1, u23.2.2)
set_option maxHeartbeats 4000000 in
set_option maxRecDepth 100000 in
theorem w_Mk_joined_Ch  (hx : p.tables.exec = Jvm.exec) (hb : c.code = b_Mk_joined) (hml : c.maxLocals = 8) (hts : ∀ w ∈ gW, w.before args s = true) (hown : s.vm.findClass "RegularSolver$Maker" = some m.cls) (hK : va_K D vwCl (tG K) s) (hX : gX s) (hO1 : ∀ (H : Heap) (locs : List Loc), va_S A H0 H locs → va_P D vwCl (auW K q1 an1 aa1 aStates1 aNl1 aNext1 aLast1 aAhead1) H) (hw1 : gAw A (auW K q1 an1 aa1 aStates1 aNl1 aNext1 aLast1 aAhead1)) (hO2 : ∀ (H : Heap) (locs : List Loc), va_S A H0 H locs → va_P D vwCl (auW K q2 an2 aa2 aStates2 aNl2 aNext2 aLast2 aAhead2) H) (hw2 : gAw A (auW K q2 an2 aa2 aStates2 aNl2 aNext2 aLast2 aAhead2)) (hRf : 2 ≤ R.frames) (hRl : 45 ≤ R.locals) (hRc : cells ≤ R.cells) (hRs : slots ≤ R.slots) (hA : ∀ q, H0.size ≤ q → A q) {out : Int64 × (Nat → Int32)} (Kx : ∀ (u : Int64 × (Nat → Int32)), out = u → ∀ (m5 : Nat) (m6 : Nat), ∀ (ls : Array Slot) (H : Heap) (locs : List Loc), va_P D vwCl ((mkW K mq m0 m1 m2 m3 m5 m6 m7 m8 m9 kHeads kTails kNext kSlots kReached kClassOf kFinerOf kMarkOf kFirstOf kMarkSlots kClasses) ++ (chW K wq q1 q2 wHead wTail) ++ (iaW K iaN iNN u.2)) H → va_D A ((mkW K mq m0 m1 m2 m3 m5 m6 m7 m8 m9 kHeads kTails kNext kSlots kReached kClassOf kFinerOf kMarkOf kFirstOf kMarkSlots kClasses) ++ (chW K wq q1 q2 wHead wTail) ++ (iaW K iaN iNN u.2)) → va_S A H0 H locs → lv_has ls 8 [(0, .ref mq), (2, .ref iaN), (3, .long u.1)] → W p l e R s m args below meth c H locs cells slots Q (F0 m 107 ls [])) (hf : f_Mk_joined_Ch n kHeads kTails kNext kClassOf kFirstOf kClasses iNN iFN aLast2 = some out) (ls : Array Slot) (hP : va_P D vwCl ((mkW K mq m0 m1 m2 m3 m5 m6 m7 m8 m9 kHeads kTails kNext kSlots kReached kClassOf kFinerOf kMarkOf kFirstOf kMarkSlots kClasses) ++ (chW K wq q1 q2 wHead wTail) ++ (iaW K iaN iNN iFN)) H) (hD : va_D A ((mkW K mq m0 m1 m2 m3 m5 m6 m7 m8 m9 kHeads kTails kNext kSlots kReached kClassOf kFinerOf kMarkOf kFirstOf kMarkSlots kClasses) ++ (chW K wq q1 q2 wHead wTail) ++ (iaW K iaN iNN iFN))) (hS : va_S A H0 H locs) (hl : lv_has ls 8 [(0, .ref mq), (1, .ref wq)]) : W p l e R s m args below meth c H locs cells slots Q (F0 m 8 ls [.ref iaN]) := by
  unfold f_Mk_joined_Ch at hf
  refine lv_astore_n (lv' := [(2, .ref iaN), (0, .ref mq), (1, .ref wq)]) hx hb d_Mk_joined_8 rfl hl (by decide) rfl (fun ls hl => ?_)
  refine lv_lconst (v := 0) hx hb d_Mk_joined_9 (by decide) ?_
  refine lv_lstore_n (lv' := [(3, .long 0), (2, .ref iaN), (0, .ref mq), (1, .ref wq)]) hx hb d_Mk_joined_10 rfl hl (by decide) rfl (fun ls hl => ?_)
  refine lv_iconst (v := 0) hx hb d_Mk_joined_11 (by decide) ?_
  refine lv_istore (lv' := [(5, .int 0), (3, .long 0), (2, .ref iaN), (0, .ref mq), (1, .ref wq)]) hx hb d_Mk_joined_12 hl (by decide) rfl (fun ls hl => ?_)
  obtain ⟨u23, eu23, hf⟩ := obd hf
  refine w_Mk_joined_Ch_14 hx hb hml hts hown hK hX hO1 hw1 hO2 hw2 hRf hRl hRc hRs hA  (fun u23q eu m5 m6 ls H locs hP hD hS hl => ?_) _ _ _ _ eu23 _ _ _ _ _ hP hD hS (show lv_has ls 8 [(5, .int 0), (3, .long 0), (2, .ref iaN), (0, .ref mq), (1, .ref wq)] from lv_sub hl [0, 1, 2, 3, 4] rfl)
  subst eu
  exact Kx _ (Option.some.inj hf).symm _ _ _ _ _ hP hD hS (show lv_has ls 8 [(0, .ref mq), (2, .ref iaN), (3, .long u23.2.1)] from lv_sub hl [2, 1, 0] rfl)
end
section
variable {p : Program} {l : Launch} {e : Env} {R : Room} {s : State} {m : MethodId} {args : Array Value} {below : List Frame} {meth : Method} {c : Code} {H : Heap} {locs : List Loc} {cells slots : Nat} {Q : State → Prop} {A : Nat → Prop} {H0 : Heap}
variable {n : Nat} {D : va_G} {K : Nat → ClassId} {mq : Nat} {m0 : Nat} {m1 : Nat} {m2 : Nat} {m3 : Nat} {m5 : Nat} {m6 : Nat} {m7 : Nat} {m8 : Nat} {m9 : Nat} {wq : Nat} {q1 : Nat} {q2 : Nat} {iaN : Nat} {an1 : Nat} {aa1 : Nat} {an2 : Nat} {aa2 : Nat} {kHeads : Nat → Int32} {kTails : Nat → Int64} {kNext : Nat → Int32} {kSlots : Nat → Int32} {kReached : Int32} {kClassOf : Nat → Int32} {kFinerOf : Nat → Int32} {kMarkOf : Nat → Int32} {kFirstOf : Nat → Int32} {kMarkSlots : Nat → Int32} {kClasses : Int32} {wHead : Int32} {wTail : Int64} {pBoth : Bool} {iNN : Nat} {iFN : Nat → Int32} {aStates1 : Int32} {aNl1 : Nat} {aNext1 : Nat → Int32} {aLast1 : Int64} {aAhead1 : Nat → Int64} {aStates2 : Int32} {aNl2 : Nat} {aNext2 : Nat → Int32} {aLast2 : Int64} {aAhead2 : Nat → Int64}
def f_Mk_joined_Pa_35 (n : Nat) (v6 : Int32) (v5 : Int32) (kNext : Nat → Int32) (kClassOf : Nat → Int32) (iNN : Nat) : Nat → Int32 → (Nat → Int32) → Option (Int32 × (Nat → Int32))
  | 0, _, _ => none
  | k + 1, v7, iFN =>
    if 4 ≤ v7 then
      some (v7, iFN)
    else
      ogd (gin ((4 * v6) + v7) 3200) <|
      ogd (gin (kNext ((4 * v6) + v7).toNatClampNeg) 800) <|
      ogd (gin ((4 * v5) + v7) iNN) <|
      f_Mk_joined_Pa_35 n v6 v5 kNext kClassOf iNN k (v7 + 1) (upd iFN ((4 * v5) + v7).toNatClampNeg (kClassOf (kNext ((4 * v6) + v7).toNatClampNeg).toNatClampNeg))
set_option maxHeartbeats 4000000 in
set_option maxRecDepth 100000 in
theorem w_Mk_joined_Pa_35  {v6 : Int32} {v5 : Int32} {v3 : Int64} (hx : p.tables.exec = Jvm.exec) (hb : c.code = b_Mk_joined) (hml : c.maxLocals = 8) (hts : ∀ w ∈ gW, w.before args s = true) (hown : s.vm.findClass "RegularSolver$Maker" = some m.cls) (hK : va_K D vwCl (tG K) s) (hX : gX s) (hO1 : ∀ (H : Heap) (locs : List Loc), va_S A H0 H locs → va_P D vwCl (auW K q1 an1 aa1 aStates1 aNl1 aNext1 aLast1 aAhead1) H) (hw1 : gAw A (auW K q1 an1 aa1 aStates1 aNl1 aNext1 aLast1 aAhead1)) (hO2 : ∀ (H : Heap) (locs : List Loc), va_S A H0 H locs → va_P D vwCl (auW K q2 an2 aa2 aStates2 aNl2 aNext2 aLast2 aAhead2) H) (hw2 : gAw A (auW K q2 an2 aa2 aStates2 aNl2 aNext2 aLast2 aAhead2)) (hRf : 2 ≤ R.frames) (hRl : 46 ≤ R.locals) (hRc : cells ≤ R.cells) (hRs : slots ≤ R.slots) (hA : ∀ q, H0.size ≤ q → A q)  {out : Int32 × (Nat → Int32)} (Kx : ∀ (u : Int32 × (Nat → Int32)), out = u → ∀ (m5 : Nat) (m6 : Nat), ∀ (ls : Array Slot) (H : Heap) (locs : List Loc), va_P D vwCl ((mkW K mq m0 m1 m2 m3 m5 m6 m7 m8 m9 kHeads kTails kNext kSlots kReached kClassOf kFinerOf kMarkOf kFirstOf kMarkSlots kClasses) ++ (paW K wq q1 q2 wHead wTail pBoth) ++ (iaW K iaN iNN u.2)) H → va_D A ((mkW K mq m0 m1 m2 m3 m5 m6 m7 m8 m9 kHeads kTails kNext kSlots kReached kClassOf kFinerOf kMarkOf kFirstOf kMarkSlots kClasses) ++ (paW K wq q1 q2 wHead wTail pBoth) ++ (iaW K iaN iNN u.2)) → va_S A H0 H locs → lv_has ls 8 [(6, .int v6), (5, .int v5), (3, .long v3), (2, .ref iaN), (0, .ref mq), (1, .ref wq)] → W p l e R s m args below meth c H locs cells slots Q (F0 m 73 ls [])) :
    ∀ (k : Nat) (v7 : Int32) (iFN : Nat → Int32), f_Mk_joined_Pa_35 n v6 v5 kNext kClassOf iNN k v7 iFN = some out → ∀ (m5 : Nat) (m6 : Nat), ∀ (ls : Array Slot) (H : Heap) (locs : List Loc), va_P D vwCl ((mkW K mq m0 m1 m2 m3 m5 m6 m7 m8 m9 kHeads kTails kNext kSlots kReached kClassOf kFinerOf kMarkOf kFirstOf kMarkSlots kClasses) ++ (paW K wq q1 q2 wHead wTail pBoth) ++ (iaW K iaN iNN iFN)) H → va_D A ((mkW K mq m0 m1 m2 m3 m5 m6 m7 m8 m9 kHeads kTails kNext kSlots kReached kClassOf kFinerOf kMarkOf kFirstOf kMarkSlots kClasses) ++ (paW K wq q1 q2 wHead wTail pBoth) ++ (iaW K iaN iNN iFN)) → va_S A H0 H locs → lv_has ls 8 [(7, .int v7), (6, .int v6), (5, .int v5), (3, .long v3), (2, .ref iaN), (0, .ref mq), (1, .ref wq)] → W p l e R s m args below meth c H locs cells slots Q (F0 m 35 ls []) := by
  intro k
  induction k with
  | zero => intro _ _ hf; exact nomatch (show none = some out from hf)
  | succ k ih =>
    intro v7 iFN hf m5 m6 ls H locs hP hD hS hl
    rw [f_Mk_joined_Pa_35] at hf
    refine lv_iload hx hb d_Mk_joined_35 (lv_at hl 0 rfl) ?_
    refine lv_iconst (v := 4) hx hb d_Mk_joined_37 (by decide) ?_
    refine lv_icmp_ge (tgt := 73) hx hb d_Mk_joined_38 (by decide) (fun c14 => ?_) (fun c14 => ?_)
    · rw [if_pos c14] at hf
      exact Kx _ (Option.some.inj hf).symm _ _ _ _ _ hP hD hS (show lv_has ls 8 [(6, .int v6), (5, .int v5), (3, .long v3), (2, .ref iaN), (0, .ref mq), (1, .ref wq)] from lv_sub hl [1, 2, 3, 4, 5, 6] rfl)
    · rw [if_neg c14] at hf
      refine lv_aload_n hx hb d_Mk_joined_41 rfl (lv_at hl 4 rfl) ?_
      refine lv_iconst (v := 4) hx hb d_Mk_joined_42 (by decide) ?_
      refine lv_iload hx hb d_Mk_joined_43 (lv_at hl 2 rfl) ?_
      refine lv_imul hx hb d_Mk_joined_45 ?_
      refine lv_iload hx hb d_Mk_joined_46 (lv_at hl 0 rfl) ?_
      refine lv_iadd hx hb d_Mk_joined_48 ?_
      refine lv_aload_n hx hb d_Mk_joined_49 rfl (lv_at hl 5 rfl) ?_
      refine va_get (D := D) (ci := 6) (v := .ref m5) (C := R_Mk) (T := T_Mk) (N := 11) hx hb hts in_Mk hown hK hP 0 rfl rfl 5 (by decide) (hts _ fl_Mk_29) (fun _ h9 => h9) rfl d_Mk_joined_50 ?_
      refine lv_aload_n hx hb d_Mk_joined_53 rfl (lv_at hl 5 rfl) ?_
      refine va_get (D := D) (ci := 6) (v := .ref m2) (C := R_Mk) (T := T_Mk) (N := 11) hx hb hts in_Mk hown hK hP 0 rfl rfl 2 (by decide) (hts _ fl_Mk_19) (fun _ h9 => h9) rfl d_Mk_joined_54 ?_
      refine lv_iconst (v := 4) hx hb d_Mk_joined_57 (by decide) ?_
      refine lv_iload hx hb d_Mk_joined_58 (lv_at hl 1 rfl) ?_
      refine lv_imul hx hb d_Mk_joined_60 ?_
      refine lv_iload hx hb d_Mk_joined_61 (lv_at hl 0 rfl) ?_
      refine lv_iadd hx hb d_Mk_joined_63 ?_
      obtain ⟨g15, hf⟩ := ogi hf
      refine va_iald hx hb hK hP 3 0 rfl rfl (gin_in g15) d_Mk_joined_64 ?_
      obtain ⟨g16, hf⟩ := ogi hf
      refine va_iald hx hb hK hP 5 0 rfl rfl (gin_in g16) d_Mk_joined_65 ?_
      obtain ⟨g17, hf⟩ := ogi hf
      refine va_iast hx hb hK hP hD hS 11 0 rfl rfl (gin_in g17) d_Mk_joined_66 (fun H locs hP hD hS => ?_)
      have hP : va_P D vwCl ((mkW K mq m0 m1 m2 m3 m5 m6 m7 m8 m9 kHeads kTails kNext kSlots kReached kClassOf kFinerOf kMarkOf kFirstOf kMarkSlots kClasses) ++ (paW K wq q1 q2 wHead wTail pBoth) ++ (iaW K iaN iNN (upd iFN ((4 * v5) + v7).toNatClampNeg (kClassOf (kNext ((4 * v6) + v7).toNatClampNeg).toNatClampNeg)))) H := hP
      have hD : va_D A ((mkW K mq m0 m1 m2 m3 m5 m6 m7 m8 m9 kHeads kTails kNext kSlots kReached kClassOf kFinerOf kMarkOf kFirstOf kMarkSlots kClasses) ++ (paW K wq q1 q2 wHead wTail pBoth) ++ (iaW K iaN iNN (upd iFN ((4 * v5) + v7).toNatClampNeg (kClassOf (kNext ((4 * v6) + v7).toNatClampNeg).toNatClampNeg)))) := hD
      refine lv_iinc (v := v7 + 1) (lv' := [(7, .int (v7 + 1)), (6, .int v6), (5, .int v5), (3, .long v3), (2, .ref iaN), (0, .ref mq), (1, .ref wq)]) hx hb d_Mk_joined_67 hl (k := 0) rfl (by first | rfl | (congr 1)) (by decide) rfl (fun ls hl => ?_)
      refine lv_goto (tgt := 35) hx hb d_Mk_joined_70 (by decide) ?_
      exact ih _ _ hf _ _ _ _ _ hP hD hS (show lv_has ls 8 [(7, .int (v7 + 1)), (6, .int v6), (5, .int v5), (3, .long v3), (2, .ref iaN), (0, .ref mq), (1, .ref wq)] from lv_sub hl [0, 1, 2, 3, 4, 5, 6] rfl)
def f_Mk_joined_Pa_14 (n : Nat) (kHeads : Nat → Int32) (kTails : Nat → Int64) (kNext : Nat → Int32) (kClassOf : Nat → Int32) (kFirstOf : Nat → Int32) (kClasses : Int32) (pBoth : Bool) (iNN : Nat) (aLast1 : Int64) (aLast2 : Int64) : Nat → Int32 → Int64 → (Nat → Int32) → Option (Int32 × Int64 × (Nat → Int32))
  | 0, _, _, _ => none
  | k + 1, v5, v3, iFN =>
    if kClasses ≤ v5 then
      some (v5, v3, iFN)
    else
      ogd (gin v5 64) <|
      (f_Mk_joined_Pa_35 n (kFirstOf v5.toNatClampNeg) v5 kNext kClassOf iNN n 0 iFN).bind fun u18 =>
      ogd (gin (kFirstOf v5.toNatClampNeg) 800) <|
      ogd (gin (kFirstOf v5.toNatClampNeg) 800) <|
      (f_Pa_endsAt n (kHeads (kFirstOf v5.toNatClampNeg).toNatClampNeg) (kTails (kFirstOf v5.toNatClampNeg).toNatClampNeg) pBoth aLast1 aLast2).bind fun u21 =>
      if u21 = true then
        f_Mk_joined_Pa_14 n kHeads kTails kNext kClassOf kFirstOf kClasses pBoth iNN aLast1 aLast2 k (v5 + 1) (v3 ||| (lshl 1 v5)) u18.2
      else
        f_Mk_joined_Pa_14 n kHeads kTails kNext kClassOf kFirstOf kClasses pBoth iNN aLast1 aLast2 k (v5 + 1) v3 u18.2
set_option maxHeartbeats 4000000 in
set_option maxRecDepth 100000 in
theorem w_Mk_joined_Pa_14   (hx : p.tables.exec = Jvm.exec) (hb : c.code = b_Mk_joined) (hml : c.maxLocals = 8) (hts : ∀ w ∈ gW, w.before args s = true) (hown : s.vm.findClass "RegularSolver$Maker" = some m.cls) (hK : va_K D vwCl (tG K) s) (hX : gX s) (hO1 : ∀ (H : Heap) (locs : List Loc), va_S A H0 H locs → va_P D vwCl (auW K q1 an1 aa1 aStates1 aNl1 aNext1 aLast1 aAhead1) H) (hw1 : gAw A (auW K q1 an1 aa1 aStates1 aNl1 aNext1 aLast1 aAhead1)) (hO2 : ∀ (H : Heap) (locs : List Loc), va_S A H0 H locs → va_P D vwCl (auW K q2 an2 aa2 aStates2 aNl2 aNext2 aLast2 aAhead2) H) (hw2 : gAw A (auW K q2 an2 aa2 aStates2 aNl2 aNext2 aLast2 aAhead2)) (hRf : 2 ≤ R.frames) (hRl : 46 ≤ R.locals) (hRc : cells ≤ R.cells) (hRs : slots ≤ R.slots) (hA : ∀ q, H0.size ≤ q → A q)  {out : Int32 × Int64 × (Nat → Int32)} (Kx : ∀ (u : Int32 × Int64 × (Nat → Int32)), out = u → ∀ (m5 : Nat) (m6 : Nat), ∀ (ls : Array Slot) (H : Heap) (locs : List Loc), va_P D vwCl ((mkW K mq m0 m1 m2 m3 m5 m6 m7 m8 m9 kHeads kTails kNext kSlots kReached kClassOf kFinerOf kMarkOf kFirstOf kMarkSlots kClasses) ++ (paW K wq q1 q2 wHead wTail pBoth) ++ (iaW K iaN iNN u.2.2)) H → va_D A ((mkW K mq m0 m1 m2 m3 m5 m6 m7 m8 m9 kHeads kTails kNext kSlots kReached kClassOf kFinerOf kMarkOf kFirstOf kMarkSlots kClasses) ++ (paW K wq q1 q2 wHead wTail pBoth) ++ (iaW K iaN iNN u.2.2)) → va_S A H0 H locs → lv_has ls 8 [(3, .long u.2.1), (2, .ref iaN), (0, .ref mq)] → W p l e R s m args below meth c H locs cells slots Q (F0 m 107 ls [])) :
    ∀ (k : Nat) (v5 : Int32) (v3 : Int64) (iFN : Nat → Int32), f_Mk_joined_Pa_14 n kHeads kTails kNext kClassOf kFirstOf kClasses pBoth iNN aLast1 aLast2 k v5 v3 iFN = some out → ∀ (m5 : Nat) (m6 : Nat), ∀ (ls : Array Slot) (H : Heap) (locs : List Loc), va_P D vwCl ((mkW K mq m0 m1 m2 m3 m5 m6 m7 m8 m9 kHeads kTails kNext kSlots kReached kClassOf kFinerOf kMarkOf kFirstOf kMarkSlots kClasses) ++ (paW K wq q1 q2 wHead wTail pBoth) ++ (iaW K iaN iNN iFN)) H → va_D A ((mkW K mq m0 m1 m2 m3 m5 m6 m7 m8 m9 kHeads kTails kNext kSlots kReached kClassOf kFinerOf kMarkOf kFirstOf kMarkSlots kClasses) ++ (paW K wq q1 q2 wHead wTail pBoth) ++ (iaW K iaN iNN iFN)) → va_S A H0 H locs → lv_has ls 8 [(5, .int v5), (3, .long v3), (2, .ref iaN), (0, .ref mq), (1, .ref wq)] → W p l e R s m args below meth c H locs cells slots Q (F0 m 14 ls []) := by
  intro k
  induction k with
  | zero => intro _ _ _ hf; exact nomatch (show none = some out from hf)
  | succ k ih =>
    intro v5 v3 iFN hf m5 m6 ls H locs hP hD hS hl
    rw [f_Mk_joined_Pa_14] at hf
    refine lv_iload hx hb d_Mk_joined_14 (lv_at hl 0 rfl) ?_
    refine lv_aload_n hx hb d_Mk_joined_16 rfl (lv_at hl 3 rfl) ?_
    refine va_get (D := D) (ci := 6) (v := .int kClasses) (C := R_Mk) (T := T_Mk) (N := 11) hx hb hts in_Mk hown hK hP 0 rfl rfl 10 (by decide) (hts _ fl_Mk_44) (fun _ h9 => h9) rfl d_Mk_joined_17 ?_
    refine lv_icmp_ge (tgt := 107) hx hb d_Mk_joined_20 (by decide) (fun c12 => ?_) (fun c12 => ?_)
    · rw [if_pos c12] at hf
      exact Kx _ (Option.some.inj hf).symm _ _ _ _ _ hP hD hS (show lv_has ls 8 [(3, .long v3), (2, .ref iaN), (0, .ref mq)] from lv_sub hl [1, 2, 3] rfl)
    · rw [if_neg c12] at hf
      refine lv_aload_n hx hb d_Mk_joined_23 rfl (lv_at hl 3 rfl) ?_
      refine va_get (D := D) (ci := 6) (v := .ref m8) (C := R_Mk) (T := T_Mk) (N := 11) hx hb hts in_Mk hown hK hP 0 rfl rfl 8 (by decide) (hts _ fl_Mk_38) (fun _ h9 => h9) rfl d_Mk_joined_24 ?_
      refine lv_iload hx hb d_Mk_joined_27 (lv_at hl 0 rfl) ?_
      obtain ⟨g13, hf⟩ := ogi hf
      refine va_iald hx hb hK hP 8 0 rfl rfl (gin_in g13) d_Mk_joined_29 ?_
      refine lv_istore (lv' := [(6, .int (kFirstOf v5.toNatClampNeg)), (5, .int v5), (3, .long v3), (2, .ref iaN), (0, .ref mq), (1, .ref wq)]) hx hb d_Mk_joined_30 hl (by decide) rfl (fun ls hl => ?_)
      refine lv_iconst (v := 0) hx hb d_Mk_joined_32 (by decide) ?_
      refine lv_istore (lv' := [(7, .int 0), (6, .int (kFirstOf v5.toNatClampNeg)), (5, .int v5), (3, .long v3), (2, .ref iaN), (0, .ref mq), (1, .ref wq)]) hx hb d_Mk_joined_33 hl (by decide) rfl (fun ls hl => ?_)
      obtain ⟨u18, eu18, hf⟩ := obd hf
      refine w_Mk_joined_Pa_35 hx hb hml hts hown hK hX hO1 hw1 hO2 hw2 hRf hRl hRc hRs hA  (fun u18q eu m5 m6 ls H locs hP hD hS hl => ?_) _ _ _ eu18 _ _ _ _ _ hP hD hS (show lv_has ls 8 [(7, .int 0), (6, .int (kFirstOf v5.toNatClampNeg)), (5, .int v5), (3, .long v3), (2, .ref iaN), (0, .ref mq), (1, .ref wq)] from lv_sub hl [0, 1, 2, 3, 4, 5, 6] rfl)
      subst eu
      refine lv_aload_n hx hb d_Mk_joined_73 rfl (lv_at hl 5 rfl) ?_
      refine lv_aload_n hx hb d_Mk_joined_74 rfl (lv_at hl 4 rfl) ?_
      refine va_get (D := D) (ci := 6) (v := .ref m0) (C := R_Mk) (T := T_Mk) (N := 11) hx hb hts in_Mk hown hK hP 0 rfl rfl 0 (by decide) (hts _ fl_Mk_11) (fun _ h9 => h9) rfl d_Mk_joined_75 ?_
      refine lv_iload hx hb d_Mk_joined_78 (lv_at hl 0 rfl) ?_
      obtain ⟨g19, hf⟩ := ogi hf
      refine va_iald hx hb hK hP 1 0 rfl rfl (gin_in g19) d_Mk_joined_80 ?_
      refine lv_aload_n hx hb d_Mk_joined_81 rfl (lv_at hl 4 rfl) ?_
      refine va_get (D := D) (ci := 6) (v := .ref m1) (C := R_Mk) (T := T_Mk) (N := 11) hx hb hts in_Mk hown hK hP 0 rfl rfl 1 (by decide) (hts _ fl_Mk_15) (fun _ h9 => h9) rfl d_Mk_joined_82 ?_
      refine lv_iload hx hb d_Mk_joined_85 (lv_at hl 0 rfl) ?_
      obtain ⟨g20, hf⟩ := ogi hf
      refine va_lald hx hb hK hP 2 1 rfl rfl (gin_in g20) d_Mk_joined_87 ?_
      obtain ⟨u21, eu21, hf⟩ := obd hf
      refine p_call (va_Run.run (va_runU (As := [.int (kHeads (kFirstOf v5.toNatClampNeg).toNatClampNeg), .long (kTails (kFirstOf v5.toNatClampNeg).toNatClampNeg)]) (rest := []) ⟨hx, hb, hml, hown, hts⟩ (c_Pa_endsAt l eu21) (gA (owner := "RegularSolver$Way") 2 hts hX cd_Pa_endsAt ml_Mk_95 im_Pa_endsAt sm_endsAt sa_Pa_endsAt ini_Pa (by decide +kernel) rfl rfl (by decide +kernel) ⟨Nat.le_trans (Nat.le_of_ble_eq_true rfl) hRf, Nat.le_trans (Nat.le_of_ble_eq_true rfl) hRl⟩) ⟨pPre_blind, va_recv hK (vaR (vaL hP)) (ci := 4) (q0 := 0) rfl rfl, pPre_of (va_P.app (va_P.app (vaR (vaL hP)) (hO1 _ _ hS)) (hO2 _ _ hS)) hK⟩ rfl rfl hl.1 rfl (lv_room (Nat.le_of_ble_eq_true rfl)) d_Mk_joined_88 ⟨hRc, hRs⟩)) ?_
      refine bz_eq (tgt := 101) hx hb d_Mk_joined_91 (by decide) (fun c22 => ?_) (fun c22 => ?_)
      · rw [if_neg c22] at hf
        refine lv_iinc (v := v5 + 1) (lv' := [(5, .int (v5 + 1)), (6, .int (kFirstOf v5.toNatClampNeg)), (3, .long v3), (2, .ref iaN), (0, .ref mq), (1, .ref wq)]) hx hb d_Mk_joined_101 hl (k := 1) rfl (by first | rfl | (congr 1)) (by decide) rfl (fun ls hl => ?_)
        refine lv_goto (tgt := 14) hx hb d_Mk_joined_104 (by decide) ?_
        exact ih _ _ _ hf _ _ _ _ _ hP hD hS (show lv_has ls 8 [(5, .int (v5 + 1)), (3, .long v3), (2, .ref iaN), (0, .ref mq), (1, .ref wq)] from lv_sub hl [0, 2, 3, 4, 5] rfl)
      · rw [if_pos c22] at hf
        refine lv_lload_n hx hb d_Mk_joined_94 rfl (lv_at hl 2 rfl) ?_
        refine lv_lconst (v := 1) hx hb d_Mk_joined_95 (by decide) ?_
        refine lv_iload hx hb d_Mk_joined_96 (lv_at hl 1 rfl) ?_
        refine lv_lshl (v := lshl 1 v5) hx hb d_Mk_joined_98 rfl ?_
        refine lv_lor hx hb d_Mk_joined_99 ?_
        refine lv_lstore_n (lv' := [(3, .long (v3 ||| (lshl 1 v5))), (6, .int (kFirstOf v5.toNatClampNeg)), (5, .int v5), (2, .ref iaN), (0, .ref mq), (1, .ref wq)]) hx hb d_Mk_joined_100 rfl hl (by decide) rfl (fun ls hl => ?_)
        refine lv_iinc (v := v5 + 1) (lv' := [(5, .int (v5 + 1)), (3, .long (v3 ||| (lshl 1 v5))), (6, .int (kFirstOf v5.toNatClampNeg)), (2, .ref iaN), (0, .ref mq), (1, .ref wq)]) hx hb d_Mk_joined_101 hl (k := 2) rfl (by first | rfl | (congr 1)) (by decide) rfl (fun ls hl => ?_)
        refine lv_goto (tgt := 14) hx hb d_Mk_joined_104 (by decide) ?_
        exact ih _ _ _ hf _ _ _ _ _ hP hD hS (show lv_has ls 8 [(5, .int (v5 + 1)), (3, .long (v3 ||| (lshl 1 v5))), (2, .ref iaN), (0, .ref mq), (1, .ref wq)] from lv_sub hl [0, 1, 3, 4, 5] rfl)
def f_Mk_joined_Pa (n : Nat) (kHeads : Nat → Int32) (kTails : Nat → Int64) (kNext : Nat → Int32) (kClassOf : Nat → Int32) (kFirstOf : Nat → Int32) (kClasses : Int32) (pBoth : Bool) (iNN : Nat) (iFN : Nat → Int32) (aLast1 : Int64) (aLast2 : Int64) : Option (Int64 × (Nat → Int32)) :=
  (f_Mk_joined_Pa_14 n kHeads kTails kNext kClassOf kFirstOf kClasses pBoth iNN aLast1 aLast2 n 0 0 iFN).bind fun u23 =>
  some (u23.2.1, u23.2.2)
set_option maxHeartbeats 4000000 in
set_option maxRecDepth 100000 in
theorem w_Mk_joined_Pa  (hx : p.tables.exec = Jvm.exec) (hb : c.code = b_Mk_joined) (hml : c.maxLocals = 8) (hts : ∀ w ∈ gW, w.before args s = true) (hown : s.vm.findClass "RegularSolver$Maker" = some m.cls) (hK : va_K D vwCl (tG K) s) (hX : gX s) (hO1 : ∀ (H : Heap) (locs : List Loc), va_S A H0 H locs → va_P D vwCl (auW K q1 an1 aa1 aStates1 aNl1 aNext1 aLast1 aAhead1) H) (hw1 : gAw A (auW K q1 an1 aa1 aStates1 aNl1 aNext1 aLast1 aAhead1)) (hO2 : ∀ (H : Heap) (locs : List Loc), va_S A H0 H locs → va_P D vwCl (auW K q2 an2 aa2 aStates2 aNl2 aNext2 aLast2 aAhead2) H) (hw2 : gAw A (auW K q2 an2 aa2 aStates2 aNl2 aNext2 aLast2 aAhead2)) (hRf : 2 ≤ R.frames) (hRl : 46 ≤ R.locals) (hRc : cells ≤ R.cells) (hRs : slots ≤ R.slots) (hA : ∀ q, H0.size ≤ q → A q) {out : Int64 × (Nat → Int32)} (Kx : ∀ (u : Int64 × (Nat → Int32)), out = u → ∀ (m5 : Nat) (m6 : Nat), ∀ (ls : Array Slot) (H : Heap) (locs : List Loc), va_P D vwCl ((mkW K mq m0 m1 m2 m3 m5 m6 m7 m8 m9 kHeads kTails kNext kSlots kReached kClassOf kFinerOf kMarkOf kFirstOf kMarkSlots kClasses) ++ (paW K wq q1 q2 wHead wTail pBoth) ++ (iaW K iaN iNN u.2)) H → va_D A ((mkW K mq m0 m1 m2 m3 m5 m6 m7 m8 m9 kHeads kTails kNext kSlots kReached kClassOf kFinerOf kMarkOf kFirstOf kMarkSlots kClasses) ++ (paW K wq q1 q2 wHead wTail pBoth) ++ (iaW K iaN iNN u.2)) → va_S A H0 H locs → lv_has ls 8 [(0, .ref mq), (2, .ref iaN), (3, .long u.1)] → W p l e R s m args below meth c H locs cells slots Q (F0 m 107 ls [])) (hf : f_Mk_joined_Pa n kHeads kTails kNext kClassOf kFirstOf kClasses pBoth iNN iFN aLast1 aLast2 = some out) (ls : Array Slot) (hP : va_P D vwCl ((mkW K mq m0 m1 m2 m3 m5 m6 m7 m8 m9 kHeads kTails kNext kSlots kReached kClassOf kFinerOf kMarkOf kFirstOf kMarkSlots kClasses) ++ (paW K wq q1 q2 wHead wTail pBoth) ++ (iaW K iaN iNN iFN)) H) (hD : va_D A ((mkW K mq m0 m1 m2 m3 m5 m6 m7 m8 m9 kHeads kTails kNext kSlots kReached kClassOf kFinerOf kMarkOf kFirstOf kMarkSlots kClasses) ++ (paW K wq q1 q2 wHead wTail pBoth) ++ (iaW K iaN iNN iFN))) (hS : va_S A H0 H locs) (hl : lv_has ls 8 [(0, .ref mq), (1, .ref wq)]) : W p l e R s m args below meth c H locs cells slots Q (F0 m 8 ls [.ref iaN]) := by
  unfold f_Mk_joined_Pa at hf
  refine lv_astore_n (lv' := [(2, .ref iaN), (0, .ref mq), (1, .ref wq)]) hx hb d_Mk_joined_8 rfl hl (by decide) rfl (fun ls hl => ?_)
  refine lv_lconst (v := 0) hx hb d_Mk_joined_9 (by decide) ?_
  refine lv_lstore_n (lv' := [(3, .long 0), (2, .ref iaN), (0, .ref mq), (1, .ref wq)]) hx hb d_Mk_joined_10 rfl hl (by decide) rfl (fun ls hl => ?_)
  refine lv_iconst (v := 0) hx hb d_Mk_joined_11 (by decide) ?_
  refine lv_istore (lv' := [(5, .int 0), (3, .long 0), (2, .ref iaN), (0, .ref mq), (1, .ref wq)]) hx hb d_Mk_joined_12 hl (by decide) rfl (fun ls hl => ?_)
  obtain ⟨u23, eu23, hf⟩ := obd hf
  refine w_Mk_joined_Pa_14 hx hb hml hts hown hK hX hO1 hw1 hO2 hw2 hRf hRl hRc hRs hA  (fun u23q eu m5 m6 ls H locs hP hD hS hl => ?_) _ _ _ _ eu23 _ _ _ _ _ hP hD hS (show lv_has ls 8 [(5, .int 0), (3, .long 0), (2, .ref iaN), (0, .ref mq), (1, .ref wq)] from lv_sub hl [0, 1, 2, 3, 4] rfl)
  subst eu
  exact Kx _ (Option.some.inj hf).symm _ _ _ _ _ hP hD hS (show lv_has ls 8 [(0, .ref mq), (2, .ref iaN), (3, .long u23.2.1)] from lv_sub hl [2, 1, 0] rfl)
end
section
variable {p : Program} {l : Launch} {e : Env} {R : Room} {s : State} {m : MethodId} {args : Array Value} {below : List Frame} {meth : Method} {c : Code} {H : Heap} {locs : List Loc} {cells slots : Nat} {Q : State → Prop} {A : Nat → Prop} {H0 : Heap}
variable {n : Nat} {D : va_G} {K : Nat → ClassId} {mq : Nat} {m0 : Nat} {m1 : Nat} {m2 : Nat} {m3 : Nat} {m5 : Nat} {m6 : Nat} {m7 : Nat} {m8 : Nat} {m9 : Nat} {wq : Nat} {q1 : Nat} {iaN : Nat} {an1 : Nat} {aa1 : Nat} {kHeads : Nat → Int32} {kTails : Nat → Int64} {kNext : Nat → Int32} {kSlots : Nat → Int32} {kReached : Int32} {kClassOf : Nat → Int32} {kFinerOf : Nat → Int32} {kMarkOf : Nat → Int32} {kFirstOf : Nat → Int32} {kMarkSlots : Nat → Int32} {kClasses : Int32} {wHead : Int32} {wTail : Int64} {iNN : Nat} {iFN : Nat → Int32} {aStates1 : Int32} {aNl1 : Nat} {aNext1 : Nat → Int32} {aLast1 : Int64} {aAhead1 : Nat → Int64}
def f_Mk_joined_Re_35 (n : Nat) (v6 : Int32) (v5 : Int32) (kNext : Nat → Int32) (kClassOf : Nat → Int32) (iNN : Nat) : Nat → Int32 → (Nat → Int32) → Option (Int32 × (Nat → Int32))
  | 0, _, _ => none
  | k + 1, v7, iFN =>
    if 4 ≤ v7 then
      some (v7, iFN)
    else
      ogd (gin ((4 * v6) + v7) 3200) <|
      ogd (gin (kNext ((4 * v6) + v7).toNatClampNeg) 800) <|
      ogd (gin ((4 * v5) + v7) iNN) <|
      f_Mk_joined_Re_35 n v6 v5 kNext kClassOf iNN k (v7 + 1) (upd iFN ((4 * v5) + v7).toNatClampNeg (kClassOf (kNext ((4 * v6) + v7).toNatClampNeg).toNatClampNeg))
set_option maxHeartbeats 4000000 in
set_option maxRecDepth 100000 in
theorem w_Mk_joined_Re_35  {v6 : Int32} {v5 : Int32} {v3 : Int64} (hx : p.tables.exec = Jvm.exec) (hb : c.code = b_Mk_joined) (hml : c.maxLocals = 8) (hts : ∀ w ∈ gW, w.before args s = true) (hown : s.vm.findClass "RegularSolver$Maker" = some m.cls) (hK : va_K D vwCl (tG K) s) (hX : gX s) (hO1 : ∀ (H : Heap) (locs : List Loc), va_S A H0 H locs → va_P D vwCl (auW K q1 an1 aa1 aStates1 aNl1 aNext1 aLast1 aAhead1) H) (hw1 : gAw A (auW K q1 an1 aa1 aStates1 aNl1 aNext1 aLast1 aAhead1)) (hRf : 2 ≤ R.frames) (hRl : 45 ≤ R.locals) (hRc : cells ≤ R.cells) (hRs : slots ≤ R.slots) (hA : ∀ q, H0.size ≤ q → A q)  {out : Int32 × (Nat → Int32)} (Kx : ∀ (u : Int32 × (Nat → Int32)), out = u → ∀ (m5 : Nat) (m6 : Nat), ∀ (ls : Array Slot) (H : Heap) (locs : List Loc), va_P D vwCl ((mkW K mq m0 m1 m2 m3 m5 m6 m7 m8 m9 kHeads kTails kNext kSlots kReached kClassOf kFinerOf kMarkOf kFirstOf kMarkSlots kClasses) ++ (reW K wq q1 wHead wTail) ++ (iaW K iaN iNN u.2)) H → va_D A ((mkW K mq m0 m1 m2 m3 m5 m6 m7 m8 m9 kHeads kTails kNext kSlots kReached kClassOf kFinerOf kMarkOf kFirstOf kMarkSlots kClasses) ++ (reW K wq q1 wHead wTail) ++ (iaW K iaN iNN u.2)) → va_S A H0 H locs → lv_has ls 8 [(6, .int v6), (5, .int v5), (3, .long v3), (2, .ref iaN), (0, .ref mq), (1, .ref wq)] → W p l e R s m args below meth c H locs cells slots Q (F0 m 73 ls [])) :
    ∀ (k : Nat) (v7 : Int32) (iFN : Nat → Int32), f_Mk_joined_Re_35 n v6 v5 kNext kClassOf iNN k v7 iFN = some out → ∀ (m5 : Nat) (m6 : Nat), ∀ (ls : Array Slot) (H : Heap) (locs : List Loc), va_P D vwCl ((mkW K mq m0 m1 m2 m3 m5 m6 m7 m8 m9 kHeads kTails kNext kSlots kReached kClassOf kFinerOf kMarkOf kFirstOf kMarkSlots kClasses) ++ (reW K wq q1 wHead wTail) ++ (iaW K iaN iNN iFN)) H → va_D A ((mkW K mq m0 m1 m2 m3 m5 m6 m7 m8 m9 kHeads kTails kNext kSlots kReached kClassOf kFinerOf kMarkOf kFirstOf kMarkSlots kClasses) ++ (reW K wq q1 wHead wTail) ++ (iaW K iaN iNN iFN)) → va_S A H0 H locs → lv_has ls 8 [(7, .int v7), (6, .int v6), (5, .int v5), (3, .long v3), (2, .ref iaN), (0, .ref mq), (1, .ref wq)] → W p l e R s m args below meth c H locs cells slots Q (F0 m 35 ls []) := by
  intro k
  induction k with
  | zero => intro _ _ hf; exact nomatch (show none = some out from hf)
  | succ k ih =>
    intro v7 iFN hf m5 m6 ls H locs hP hD hS hl
    rw [f_Mk_joined_Re_35] at hf
    refine lv_iload hx hb d_Mk_joined_35 (lv_at hl 0 rfl) ?_
    refine lv_iconst (v := 4) hx hb d_Mk_joined_37 (by decide) ?_
    refine lv_icmp_ge (tgt := 73) hx hb d_Mk_joined_38 (by decide) (fun c14 => ?_) (fun c14 => ?_)
    · rw [if_pos c14] at hf
      exact Kx _ (Option.some.inj hf).symm _ _ _ _ _ hP hD hS (show lv_has ls 8 [(6, .int v6), (5, .int v5), (3, .long v3), (2, .ref iaN), (0, .ref mq), (1, .ref wq)] from lv_sub hl [1, 2, 3, 4, 5, 6] rfl)
    · rw [if_neg c14] at hf
      refine lv_aload_n hx hb d_Mk_joined_41 rfl (lv_at hl 4 rfl) ?_
      refine lv_iconst (v := 4) hx hb d_Mk_joined_42 (by decide) ?_
      refine lv_iload hx hb d_Mk_joined_43 (lv_at hl 2 rfl) ?_
      refine lv_imul hx hb d_Mk_joined_45 ?_
      refine lv_iload hx hb d_Mk_joined_46 (lv_at hl 0 rfl) ?_
      refine lv_iadd hx hb d_Mk_joined_48 ?_
      refine lv_aload_n hx hb d_Mk_joined_49 rfl (lv_at hl 5 rfl) ?_
      refine va_get (D := D) (ci := 6) (v := .ref m5) (C := R_Mk) (T := T_Mk) (N := 11) hx hb hts in_Mk hown hK hP 0 rfl rfl 5 (by decide) (hts _ fl_Mk_29) (fun _ h9 => h9) rfl d_Mk_joined_50 ?_
      refine lv_aload_n hx hb d_Mk_joined_53 rfl (lv_at hl 5 rfl) ?_
      refine va_get (D := D) (ci := 6) (v := .ref m2) (C := R_Mk) (T := T_Mk) (N := 11) hx hb hts in_Mk hown hK hP 0 rfl rfl 2 (by decide) (hts _ fl_Mk_19) (fun _ h9 => h9) rfl d_Mk_joined_54 ?_
      refine lv_iconst (v := 4) hx hb d_Mk_joined_57 (by decide) ?_
      refine lv_iload hx hb d_Mk_joined_58 (lv_at hl 1 rfl) ?_
      refine lv_imul hx hb d_Mk_joined_60 ?_
      refine lv_iload hx hb d_Mk_joined_61 (lv_at hl 0 rfl) ?_
      refine lv_iadd hx hb d_Mk_joined_63 ?_
      obtain ⟨g15, hf⟩ := ogi hf
      refine va_iald hx hb hK hP 3 0 rfl rfl (gin_in g15) d_Mk_joined_64 ?_
      obtain ⟨g16, hf⟩ := ogi hf
      refine va_iald hx hb hK hP 5 0 rfl rfl (gin_in g16) d_Mk_joined_65 ?_
      obtain ⟨g17, hf⟩ := ogi hf
      refine va_iast hx hb hK hP hD hS 11 0 rfl rfl (gin_in g17) d_Mk_joined_66 (fun H locs hP hD hS => ?_)
      have hP : va_P D vwCl ((mkW K mq m0 m1 m2 m3 m5 m6 m7 m8 m9 kHeads kTails kNext kSlots kReached kClassOf kFinerOf kMarkOf kFirstOf kMarkSlots kClasses) ++ (reW K wq q1 wHead wTail) ++ (iaW K iaN iNN (upd iFN ((4 * v5) + v7).toNatClampNeg (kClassOf (kNext ((4 * v6) + v7).toNatClampNeg).toNatClampNeg)))) H := hP
      have hD : va_D A ((mkW K mq m0 m1 m2 m3 m5 m6 m7 m8 m9 kHeads kTails kNext kSlots kReached kClassOf kFinerOf kMarkOf kFirstOf kMarkSlots kClasses) ++ (reW K wq q1 wHead wTail) ++ (iaW K iaN iNN (upd iFN ((4 * v5) + v7).toNatClampNeg (kClassOf (kNext ((4 * v6) + v7).toNatClampNeg).toNatClampNeg)))) := hD
      refine lv_iinc (v := v7 + 1) (lv' := [(7, .int (v7 + 1)), (6, .int v6), (5, .int v5), (3, .long v3), (2, .ref iaN), (0, .ref mq), (1, .ref wq)]) hx hb d_Mk_joined_67 hl (k := 0) rfl (by first | rfl | (congr 1)) (by decide) rfl (fun ls hl => ?_)
      refine lv_goto (tgt := 35) hx hb d_Mk_joined_70 (by decide) ?_
      exact ih _ _ hf _ _ _ _ _ hP hD hS (show lv_has ls 8 [(7, .int (v7 + 1)), (6, .int v6), (5, .int v5), (3, .long v3), (2, .ref iaN), (0, .ref mq), (1, .ref wq)] from lv_sub hl [0, 1, 2, 3, 4, 5, 6] rfl)
def f_Mk_joined_Re_14 (n : Nat) (kHeads : Nat → Int32) (kTails : Nat → Int64) (kNext : Nat → Int32) (kClassOf : Nat → Int32) (kFirstOf : Nat → Int32) (kClasses : Int32) (iNN : Nat) (aLast1 : Int64) : Nat → Int32 → Int64 → (Nat → Int32) → Option (Int32 × Int64 × (Nat → Int32))
  | 0, _, _, _ => none
  | k + 1, v5, v3, iFN =>
    if kClasses ≤ v5 then
      some (v5, v3, iFN)
    else
      ogd (gin v5 64) <|
      (f_Mk_joined_Re_35 n (kFirstOf v5.toNatClampNeg) v5 kNext kClassOf iNN n 0 iFN).bind fun u18 =>
      ogd (gin (kFirstOf v5.toNatClampNeg) 800) <|
      ogd (gin (kFirstOf v5.toNatClampNeg) 800) <|
      (f_Re_endsAt n (kHeads (kFirstOf v5.toNatClampNeg).toNatClampNeg) (kTails (kFirstOf v5.toNatClampNeg).toNatClampNeg) aLast1).bind fun u21 =>
      if u21 = true then
        f_Mk_joined_Re_14 n kHeads kTails kNext kClassOf kFirstOf kClasses iNN aLast1 k (v5 + 1) (v3 ||| (lshl 1 v5)) u18.2
      else
        f_Mk_joined_Re_14 n kHeads kTails kNext kClassOf kFirstOf kClasses iNN aLast1 k (v5 + 1) v3 u18.2
set_option maxHeartbeats 4000000 in
set_option maxRecDepth 100000 in
theorem w_Mk_joined_Re_14   (hx : p.tables.exec = Jvm.exec) (hb : c.code = b_Mk_joined) (hml : c.maxLocals = 8) (hts : ∀ w ∈ gW, w.before args s = true) (hown : s.vm.findClass "RegularSolver$Maker" = some m.cls) (hK : va_K D vwCl (tG K) s) (hX : gX s) (hO1 : ∀ (H : Heap) (locs : List Loc), va_S A H0 H locs → va_P D vwCl (auW K q1 an1 aa1 aStates1 aNl1 aNext1 aLast1 aAhead1) H) (hw1 : gAw A (auW K q1 an1 aa1 aStates1 aNl1 aNext1 aLast1 aAhead1)) (hRf : 2 ≤ R.frames) (hRl : 45 ≤ R.locals) (hRc : cells ≤ R.cells) (hRs : slots ≤ R.slots) (hA : ∀ q, H0.size ≤ q → A q)  {out : Int32 × Int64 × (Nat → Int32)} (Kx : ∀ (u : Int32 × Int64 × (Nat → Int32)), out = u → ∀ (m5 : Nat) (m6 : Nat), ∀ (ls : Array Slot) (H : Heap) (locs : List Loc), va_P D vwCl ((mkW K mq m0 m1 m2 m3 m5 m6 m7 m8 m9 kHeads kTails kNext kSlots kReached kClassOf kFinerOf kMarkOf kFirstOf kMarkSlots kClasses) ++ (reW K wq q1 wHead wTail) ++ (iaW K iaN iNN u.2.2)) H → va_D A ((mkW K mq m0 m1 m2 m3 m5 m6 m7 m8 m9 kHeads kTails kNext kSlots kReached kClassOf kFinerOf kMarkOf kFirstOf kMarkSlots kClasses) ++ (reW K wq q1 wHead wTail) ++ (iaW K iaN iNN u.2.2)) → va_S A H0 H locs → lv_has ls 8 [(3, .long u.2.1), (2, .ref iaN), (0, .ref mq)] → W p l e R s m args below meth c H locs cells slots Q (F0 m 107 ls [])) :
    ∀ (k : Nat) (v5 : Int32) (v3 : Int64) (iFN : Nat → Int32), f_Mk_joined_Re_14 n kHeads kTails kNext kClassOf kFirstOf kClasses iNN aLast1 k v5 v3 iFN = some out → ∀ (m5 : Nat) (m6 : Nat), ∀ (ls : Array Slot) (H : Heap) (locs : List Loc), va_P D vwCl ((mkW K mq m0 m1 m2 m3 m5 m6 m7 m8 m9 kHeads kTails kNext kSlots kReached kClassOf kFinerOf kMarkOf kFirstOf kMarkSlots kClasses) ++ (reW K wq q1 wHead wTail) ++ (iaW K iaN iNN iFN)) H → va_D A ((mkW K mq m0 m1 m2 m3 m5 m6 m7 m8 m9 kHeads kTails kNext kSlots kReached kClassOf kFinerOf kMarkOf kFirstOf kMarkSlots kClasses) ++ (reW K wq q1 wHead wTail) ++ (iaW K iaN iNN iFN)) → va_S A H0 H locs → lv_has ls 8 [(5, .int v5), (3, .long v3), (2, .ref iaN), (0, .ref mq), (1, .ref wq)] → W p l e R s m args below meth c H locs cells slots Q (F0 m 14 ls []) := by
  intro k
  induction k with
  | zero => intro _ _ _ hf; exact nomatch (show none = some out from hf)
  | succ k ih =>
    intro v5 v3 iFN hf m5 m6 ls H locs hP hD hS hl
    rw [f_Mk_joined_Re_14] at hf
    refine lv_iload hx hb d_Mk_joined_14 (lv_at hl 0 rfl) ?_
    refine lv_aload_n hx hb d_Mk_joined_16 rfl (lv_at hl 3 rfl) ?_
    refine va_get (D := D) (ci := 6) (v := .int kClasses) (C := R_Mk) (T := T_Mk) (N := 11) hx hb hts in_Mk hown hK hP 0 rfl rfl 10 (by decide) (hts _ fl_Mk_44) (fun _ h9 => h9) rfl d_Mk_joined_17 ?_
    refine lv_icmp_ge (tgt := 107) hx hb d_Mk_joined_20 (by decide) (fun c12 => ?_) (fun c12 => ?_)
    · rw [if_pos c12] at hf
      exact Kx _ (Option.some.inj hf).symm _ _ _ _ _ hP hD hS (show lv_has ls 8 [(3, .long v3), (2, .ref iaN), (0, .ref mq)] from lv_sub hl [1, 2, 3] rfl)
    · rw [if_neg c12] at hf
      refine lv_aload_n hx hb d_Mk_joined_23 rfl (lv_at hl 3 rfl) ?_
      refine va_get (D := D) (ci := 6) (v := .ref m8) (C := R_Mk) (T := T_Mk) (N := 11) hx hb hts in_Mk hown hK hP 0 rfl rfl 8 (by decide) (hts _ fl_Mk_38) (fun _ h9 => h9) rfl d_Mk_joined_24 ?_
      refine lv_iload hx hb d_Mk_joined_27 (lv_at hl 0 rfl) ?_
      obtain ⟨g13, hf⟩ := ogi hf
      refine va_iald hx hb hK hP 8 0 rfl rfl (gin_in g13) d_Mk_joined_29 ?_
      refine lv_istore (lv' := [(6, .int (kFirstOf v5.toNatClampNeg)), (5, .int v5), (3, .long v3), (2, .ref iaN), (0, .ref mq), (1, .ref wq)]) hx hb d_Mk_joined_30 hl (by decide) rfl (fun ls hl => ?_)
      refine lv_iconst (v := 0) hx hb d_Mk_joined_32 (by decide) ?_
      refine lv_istore (lv' := [(7, .int 0), (6, .int (kFirstOf v5.toNatClampNeg)), (5, .int v5), (3, .long v3), (2, .ref iaN), (0, .ref mq), (1, .ref wq)]) hx hb d_Mk_joined_33 hl (by decide) rfl (fun ls hl => ?_)
      obtain ⟨u18, eu18, hf⟩ := obd hf
      refine w_Mk_joined_Re_35 hx hb hml hts hown hK hX hO1 hw1 hRf hRl hRc hRs hA  (fun u18q eu m5 m6 ls H locs hP hD hS hl => ?_) _ _ _ eu18 _ _ _ _ _ hP hD hS (show lv_has ls 8 [(7, .int 0), (6, .int (kFirstOf v5.toNatClampNeg)), (5, .int v5), (3, .long v3), (2, .ref iaN), (0, .ref mq), (1, .ref wq)] from lv_sub hl [0, 1, 2, 3, 4, 5, 6] rfl)
      subst eu
      refine lv_aload_n hx hb d_Mk_joined_73 rfl (lv_at hl 5 rfl) ?_
      refine lv_aload_n hx hb d_Mk_joined_74 rfl (lv_at hl 4 rfl) ?_
      refine va_get (D := D) (ci := 6) (v := .ref m0) (C := R_Mk) (T := T_Mk) (N := 11) hx hb hts in_Mk hown hK hP 0 rfl rfl 0 (by decide) (hts _ fl_Mk_11) (fun _ h9 => h9) rfl d_Mk_joined_75 ?_
      refine lv_iload hx hb d_Mk_joined_78 (lv_at hl 0 rfl) ?_
      obtain ⟨g19, hf⟩ := ogi hf
      refine va_iald hx hb hK hP 1 0 rfl rfl (gin_in g19) d_Mk_joined_80 ?_
      refine lv_aload_n hx hb d_Mk_joined_81 rfl (lv_at hl 4 rfl) ?_
      refine va_get (D := D) (ci := 6) (v := .ref m1) (C := R_Mk) (T := T_Mk) (N := 11) hx hb hts in_Mk hown hK hP 0 rfl rfl 1 (by decide) (hts _ fl_Mk_15) (fun _ h9 => h9) rfl d_Mk_joined_82 ?_
      refine lv_iload hx hb d_Mk_joined_85 (lv_at hl 0 rfl) ?_
      obtain ⟨g20, hf⟩ := ogi hf
      refine va_lald hx hb hK hP 2 1 rfl rfl (gin_in g20) d_Mk_joined_87 ?_
      obtain ⟨u21, eu21, hf⟩ := obd hf
      refine p_call (va_Run.run (va_runU (As := [.int (kHeads (kFirstOf v5.toNatClampNeg).toNatClampNeg), .long (kTails (kFirstOf v5.toNatClampNeg).toNatClampNeg)]) (rest := []) ⟨hx, hb, hml, hown, hts⟩ (c_Re_endsAt l eu21) (gA (owner := "RegularSolver$Way") 2 hts hX cd_Re_endsAt ml_Mk_95 im_Re_endsAt sm_endsAt sa_Re_endsAt ini_Re (by decide +kernel) rfl rfl (by decide +kernel) ⟨Nat.le_trans (Nat.le_of_ble_eq_true rfl) hRf, Nat.le_trans (Nat.le_of_ble_eq_true rfl) hRl⟩) ⟨pPre_blind, va_recv hK (vaR (vaL hP)) (ci := 5) (q0 := 0) rfl rfl, pPre_of (va_P.app (vaR (vaL hP)) (hO1 _ _ hS)) hK⟩ rfl rfl hl.1 rfl (lv_room (Nat.le_of_ble_eq_true rfl)) d_Mk_joined_88 ⟨hRc, hRs⟩)) ?_
      refine bz_eq (tgt := 101) hx hb d_Mk_joined_91 (by decide) (fun c22 => ?_) (fun c22 => ?_)
      · rw [if_neg c22] at hf
        refine lv_iinc (v := v5 + 1) (lv' := [(5, .int (v5 + 1)), (6, .int (kFirstOf v5.toNatClampNeg)), (3, .long v3), (2, .ref iaN), (0, .ref mq), (1, .ref wq)]) hx hb d_Mk_joined_101 hl (k := 1) rfl (by first | rfl | (congr 1)) (by decide) rfl (fun ls hl => ?_)
        refine lv_goto (tgt := 14) hx hb d_Mk_joined_104 (by decide) ?_
        exact ih _ _ _ hf _ _ _ _ _ hP hD hS (show lv_has ls 8 [(5, .int (v5 + 1)), (3, .long v3), (2, .ref iaN), (0, .ref mq), (1, .ref wq)] from lv_sub hl [0, 2, 3, 4, 5] rfl)
      · rw [if_pos c22] at hf
        refine lv_lload_n hx hb d_Mk_joined_94 rfl (lv_at hl 2 rfl) ?_
        refine lv_lconst (v := 1) hx hb d_Mk_joined_95 (by decide) ?_
        refine lv_iload hx hb d_Mk_joined_96 (lv_at hl 1 rfl) ?_
        refine lv_lshl (v := lshl 1 v5) hx hb d_Mk_joined_98 rfl ?_
        refine lv_lor hx hb d_Mk_joined_99 ?_
        refine lv_lstore_n (lv' := [(3, .long (v3 ||| (lshl 1 v5))), (6, .int (kFirstOf v5.toNatClampNeg)), (5, .int v5), (2, .ref iaN), (0, .ref mq), (1, .ref wq)]) hx hb d_Mk_joined_100 rfl hl (by decide) rfl (fun ls hl => ?_)
        refine lv_iinc (v := v5 + 1) (lv' := [(5, .int (v5 + 1)), (3, .long (v3 ||| (lshl 1 v5))), (6, .int (kFirstOf v5.toNatClampNeg)), (2, .ref iaN), (0, .ref mq), (1, .ref wq)]) hx hb d_Mk_joined_101 hl (k := 2) rfl (by first | rfl | (congr 1)) (by decide) rfl (fun ls hl => ?_)
        refine lv_goto (tgt := 14) hx hb d_Mk_joined_104 (by decide) ?_
        exact ih _ _ _ hf _ _ _ _ _ hP hD hS (show lv_has ls 8 [(5, .int (v5 + 1)), (3, .long (v3 ||| (lshl 1 v5))), (2, .ref iaN), (0, .ref mq), (1, .ref wq)] from lv_sub hl [0, 1, 3, 4, 5] rfl)
def f_Mk_joined_Re (n : Nat) (kHeads : Nat → Int32) (kTails : Nat → Int64) (kNext : Nat → Int32) (kClassOf : Nat → Int32) (kFirstOf : Nat → Int32) (kClasses : Int32) (iNN : Nat) (iFN : Nat → Int32) (aLast1 : Int64) : Option (Int64 × (Nat → Int32)) :=
  (f_Mk_joined_Re_14 n kHeads kTails kNext kClassOf kFirstOf kClasses iNN aLast1 n 0 0 iFN).bind fun u23 =>
  some (u23.2.1, u23.2.2)
set_option maxHeartbeats 4000000 in
set_option maxRecDepth 100000 in
theorem w_Mk_joined_Re  (hx : p.tables.exec = Jvm.exec) (hb : c.code = b_Mk_joined) (hml : c.maxLocals = 8) (hts : ∀ w ∈ gW, w.before args s = true) (hown : s.vm.findClass "RegularSolver$Maker" = some m.cls) (hK : va_K D vwCl (tG K) s) (hX : gX s) (hO1 : ∀ (H : Heap) (locs : List Loc), va_S A H0 H locs → va_P D vwCl (auW K q1 an1 aa1 aStates1 aNl1 aNext1 aLast1 aAhead1) H) (hw1 : gAw A (auW K q1 an1 aa1 aStates1 aNl1 aNext1 aLast1 aAhead1)) (hRf : 2 ≤ R.frames) (hRl : 45 ≤ R.locals) (hRc : cells ≤ R.cells) (hRs : slots ≤ R.slots) (hA : ∀ q, H0.size ≤ q → A q) {out : Int64 × (Nat → Int32)} (Kx : ∀ (u : Int64 × (Nat → Int32)), out = u → ∀ (m5 : Nat) (m6 : Nat), ∀ (ls : Array Slot) (H : Heap) (locs : List Loc), va_P D vwCl ((mkW K mq m0 m1 m2 m3 m5 m6 m7 m8 m9 kHeads kTails kNext kSlots kReached kClassOf kFinerOf kMarkOf kFirstOf kMarkSlots kClasses) ++ (reW K wq q1 wHead wTail) ++ (iaW K iaN iNN u.2)) H → va_D A ((mkW K mq m0 m1 m2 m3 m5 m6 m7 m8 m9 kHeads kTails kNext kSlots kReached kClassOf kFinerOf kMarkOf kFirstOf kMarkSlots kClasses) ++ (reW K wq q1 wHead wTail) ++ (iaW K iaN iNN u.2)) → va_S A H0 H locs → lv_has ls 8 [(0, .ref mq), (2, .ref iaN), (3, .long u.1)] → W p l e R s m args below meth c H locs cells slots Q (F0 m 107 ls [])) (hf : f_Mk_joined_Re n kHeads kTails kNext kClassOf kFirstOf kClasses iNN iFN aLast1 = some out) (ls : Array Slot) (hP : va_P D vwCl ((mkW K mq m0 m1 m2 m3 m5 m6 m7 m8 m9 kHeads kTails kNext kSlots kReached kClassOf kFinerOf kMarkOf kFirstOf kMarkSlots kClasses) ++ (reW K wq q1 wHead wTail) ++ (iaW K iaN iNN iFN)) H) (hD : va_D A ((mkW K mq m0 m1 m2 m3 m5 m6 m7 m8 m9 kHeads kTails kNext kSlots kReached kClassOf kFinerOf kMarkOf kFirstOf kMarkSlots kClasses) ++ (reW K wq q1 wHead wTail) ++ (iaW K iaN iNN iFN))) (hS : va_S A H0 H locs) (hl : lv_has ls 8 [(0, .ref mq), (1, .ref wq)]) : W p l e R s m args below meth c H locs cells slots Q (F0 m 8 ls [.ref iaN]) := by
  unfold f_Mk_joined_Re at hf
  refine lv_astore_n (lv' := [(2, .ref iaN), (0, .ref mq), (1, .ref wq)]) hx hb d_Mk_joined_8 rfl hl (by decide) rfl (fun ls hl => ?_)
  refine lv_lconst (v := 0) hx hb d_Mk_joined_9 (by decide) ?_
  refine lv_lstore_n (lv' := [(3, .long 0), (2, .ref iaN), (0, .ref mq), (1, .ref wq)]) hx hb d_Mk_joined_10 rfl hl (by decide) rfl (fun ls hl => ?_)
  refine lv_iconst (v := 0) hx hb d_Mk_joined_11 (by decide) ?_
  refine lv_istore (lv' := [(5, .int 0), (3, .long 0), (2, .ref iaN), (0, .ref mq), (1, .ref wq)]) hx hb d_Mk_joined_12 hl (by decide) rfl (fun ls hl => ?_)
  obtain ⟨u23, eu23, hf⟩ := obd hf
  refine w_Mk_joined_Re_14 hx hb hml hts hown hK hX hO1 hw1 hRf hRl hRc hRs hA  (fun u23q eu m5 m6 ls H locs hP hD hS hl => ?_) _ _ _ _ eu23 _ _ _ _ _ hP hD hS (show lv_has ls 8 [(5, .int 0), (3, .long 0), (2, .ref iaN), (0, .ref mq), (1, .ref wq)] from lv_sub hl [0, 1, 2, 3, 4] rfl)
  subst eu
  exact Kx _ (Option.some.inj hf).symm _ _ _ _ _ hP hD hS (show lv_has ls 8 [(0, .ref mq), (2, .ref iaN), (3, .long u23.2.1)] from lv_sub hl [2, 1, 0] rfl)
end
