abbrev b_Mk_follow : ByteArray := prog_7_method_3_code
def y_Mk_follow : MethodName := ⟨"RegularSolver$Maker", "follow", "(LRegularSolver$Way;)Z"⟩
abbrev w0_Mk_follow : List Cond := Cond.code y_Mk_follow b_Mk_follow 5 (some .boolean) :: gW
theorem cd_Mk_follow : Cond.code y_Mk_follow b_Mk_follow 5 (some .boolean) ∈ gW := gm 318 (by decide +kernel) (by decide +kernel)
theorem d_Mk_follow_0 : decode b_Mk_follow 0 = .ok (.aload_n 0, 1) := by decide +kernel
theorem d_Mk_follow_1 : decode b_Mk_follow 1 = .ok (.getfield 22, 3) := by decide +kernel
theorem d_Mk_follow_4 : decode b_Mk_follow 4 = .ok (.iconst (-1), 1) := by decide +kernel
theorem d_Mk_follow_5 : decode b_Mk_follow 5 = .ok (.invokestatic 63, 3) := by decide +kernel
theorem d_Mk_follow_8 : decode b_Mk_follow 8 = .ok (.aload_n 0, 1) := by decide +kernel
theorem d_Mk_follow_9 : decode b_Mk_follow 9 = .ok (.iconst 0, 1) := by decide +kernel
theorem d_Mk_follow_10 : decode b_Mk_follow 10 = .ok (.putfield 25, 3) := by decide +kernel
theorem d_Mk_follow_13 : decode b_Mk_follow 13 = .ok (.aload_n 1, 1) := by decide +kernel
theorem d_Mk_follow_14 : decode b_Mk_follow 14 = .ok (.invokevirtual 69, 3) := by decide +kernel
theorem d_Mk_follow_17 : decode b_Mk_follow 17 = .ok (.aload_n 0, 1) := by decide +kernel
theorem d_Mk_follow_18 : decode b_Mk_follow 18 = .ok (.aload_n 1, 1) := by decide +kernel
theorem d_Mk_follow_19 : decode b_Mk_follow 19 = .ok (.getfield 74, 3) := by decide +kernel
theorem d_Mk_follow_22 : decode b_Mk_follow 22 = .ok (.aload_n 1, 1) := by decide +kernel
theorem d_Mk_follow_23 : decode b_Mk_follow 23 = .ok (.getfield 77, 3) := by decide +kernel
theorem d_Mk_follow_26 : decode b_Mk_follow 26 = .ok (.invokevirtual 81, 3) := by decide +kernel
theorem d_Mk_follow_29 : decode b_Mk_follow 29 = .ok (.pop, 1) := by decide +kernel
theorem d_Mk_follow_30 : decode b_Mk_follow 30 = .ok (.iconst 0, 1) := by decide +kernel
theorem d_Mk_follow_31 : decode b_Mk_follow 31 = .ok (.istore_n 2, 1) := by decide +kernel
theorem d_Mk_follow_32 : decode b_Mk_follow 32 = .ok (.iload_n 2, 1) := by decide +kernel
theorem d_Mk_follow_33 : decode b_Mk_follow 33 = .ok (.sipush 800, 3) := by decide +kernel
theorem d_Mk_follow_36 : decode b_Mk_follow 36 = .ok (.if_icmp .ge 81, 3) := by decide +kernel
theorem d_Mk_follow_39 : decode b_Mk_follow 39 = .ok (.iload_n 2, 1) := by decide +kernel
theorem d_Mk_follow_40 : decode b_Mk_follow 40 = .ok (.aload_n 0, 1) := by decide +kernel
theorem d_Mk_follow_41 : decode b_Mk_follow 41 = .ok (.getfield 25, 3) := by decide +kernel
theorem d_Mk_follow_44 : decode b_Mk_follow 44 = .ok (.if_icmp .ge 73, 3) := by decide +kernel
theorem d_Mk_follow_47 : decode b_Mk_follow 47 = .ok (.iconst 0, 1) := by decide +kernel
theorem d_Mk_follow_48 : decode b_Mk_follow 48 = .ok (.istore_n 3, 1) := by decide +kernel
theorem d_Mk_follow_49 : decode b_Mk_follow 49 = .ok (.iload_n 3, 1) := by decide +kernel
theorem d_Mk_follow_50 : decode b_Mk_follow 50 = .ok (.iconst 4, 1) := by decide +kernel
theorem d_Mk_follow_51 : decode b_Mk_follow 51 = .ok (.if_icmp .ge 60, 3) := by decide +kernel
theorem d_Mk_follow_54 : decode b_Mk_follow 54 = .ok (.aload_n 1, 1) := by decide +kernel
theorem d_Mk_follow_55 : decode b_Mk_follow 55 = .ok (.aload_n 0, 1) := by decide +kernel
theorem d_Mk_follow_56 : decode b_Mk_follow 56 = .ok (.getfield 11, 3) := by decide +kernel
theorem d_Mk_follow_59 : decode b_Mk_follow 59 = .ok (.iload_n 2, 1) := by decide +kernel
theorem d_Mk_follow_60 : decode b_Mk_follow 60 = .ok (.iaload, 1) := by decide +kernel
theorem d_Mk_follow_61 : decode b_Mk_follow 61 = .ok (.aload_n 0, 1) := by decide +kernel
theorem d_Mk_follow_62 : decode b_Mk_follow 62 = .ok (.getfield 15, 3) := by decide +kernel
theorem d_Mk_follow_65 : decode b_Mk_follow 65 = .ok (.iload_n 2, 1) := by decide +kernel
theorem d_Mk_follow_66 : decode b_Mk_follow 66 = .ok (.laload, 1) := by decide +kernel
theorem d_Mk_follow_67 : decode b_Mk_follow 67 = .ok (.iload_n 3, 1) := by decide +kernel
theorem d_Mk_follow_68 : decode b_Mk_follow 68 = .ok (.invokevirtual 85, 3) := by decide +kernel
theorem d_Mk_follow_71 : decode b_Mk_follow 71 = .ok (.aload_n 0, 1) := by decide +kernel
theorem d_Mk_follow_72 : decode b_Mk_follow 72 = .ok (.aload_n 1, 1) := by decide +kernel
theorem d_Mk_follow_73 : decode b_Mk_follow 73 = .ok (.getfield 74, 3) := by decide +kernel
theorem d_Mk_follow_76 : decode b_Mk_follow 76 = .ok (.aload_n 1, 1) := by decide +kernel
theorem d_Mk_follow_77 : decode b_Mk_follow 77 = .ok (.getfield 77, 3) := by decide +kernel
theorem d_Mk_follow_80 : decode b_Mk_follow 80 = .ok (.invokevirtual 81, 3) := by decide +kernel
theorem d_Mk_follow_83 : decode b_Mk_follow 83 = .ok (.istore 4, 2) := by decide +kernel
theorem d_Mk_follow_85 : decode b_Mk_follow 85 = .ok (.iload 4, 2) := by decide +kernel
theorem d_Mk_follow_87 : decode b_Mk_follow 87 = .ok (.iconst (-1), 1) := by decide +kernel
theorem d_Mk_follow_88 : decode b_Mk_follow 88 = .ok (.if_icmp .ne 5, 3) := by decide +kernel
theorem d_Mk_follow_91 : decode b_Mk_follow 91 = .ok (.iconst 0, 1) := by decide +kernel
theorem d_Mk_follow_92 : decode b_Mk_follow 92 = .ok (.ireturn, 1) := by decide +kernel
theorem d_Mk_follow_93 : decode b_Mk_follow 93 = .ok (.aload_n 0, 1) := by decide +kernel
theorem d_Mk_follow_94 : decode b_Mk_follow 94 = .ok (.getfield 19, 3) := by decide +kernel
theorem d_Mk_follow_97 : decode b_Mk_follow 97 = .ok (.iconst 4, 1) := by decide +kernel
theorem d_Mk_follow_98 : decode b_Mk_follow 98 = .ok (.iload_n 2, 1) := by decide +kernel
theorem d_Mk_follow_99 : decode b_Mk_follow 99 = .ok (.imul, 1) := by decide +kernel
theorem d_Mk_follow_100 : decode b_Mk_follow 100 = .ok (.iload_n 3, 1) := by decide +kernel
theorem d_Mk_follow_101 : decode b_Mk_follow 101 = .ok (.iadd, 1) := by decide +kernel
theorem d_Mk_follow_102 : decode b_Mk_follow 102 = .ok (.iload 4, 2) := by decide +kernel
theorem d_Mk_follow_104 : decode b_Mk_follow 104 = .ok (.iastore, 1) := by decide +kernel
theorem d_Mk_follow_105 : decode b_Mk_follow 105 = .ok (.iinc 3 1, 3) := by decide +kernel
theorem d_Mk_follow_108 : decode b_Mk_follow 108 = .ok (.goto (-59), 3) := by decide +kernel
theorem d_Mk_follow_111 : decode b_Mk_follow 111 = .ok (.iinc 2 1, 3) := by decide +kernel
theorem d_Mk_follow_114 : decode b_Mk_follow 114 = .ok (.goto (-82), 3) := by decide +kernel
theorem d_Mk_follow_117 : decode b_Mk_follow 117 = .ok (.iconst 1, 1) := by decide +kernel
theorem d_Mk_follow_118 : decode b_Mk_follow 118 = .ok (.ireturn, 1) := by decide +kernel
abbrev b_Mk_splitByEnd : ByteArray := prog_7_method_6_code
def y_Mk_splitByEnd : MethodName := ⟨"RegularSolver$Maker", "splitByEnd", "(LRegularSolver$Way;)V"⟩
abbrev w0_Mk_splitByEnd : List Cond := Cond.code y_Mk_splitByEnd b_Mk_splitByEnd 3 none :: gW
theorem cd_Mk_splitByEnd : Cond.code y_Mk_splitByEnd b_Mk_splitByEnd 3 none ∈ gW := gm 392 (by decide +kernel) (by decide +kernel)
theorem d_Mk_splitByEnd_0 : decode b_Mk_splitByEnd 0 = .ok (.aload_n 0, 1) := by decide +kernel
theorem d_Mk_splitByEnd_1 : decode b_Mk_splitByEnd 1 = .ok (.iconst 1, 1) := by decide +kernel
theorem d_Mk_splitByEnd_2 : decode b_Mk_splitByEnd 2 = .ok (.putfield 44, 3) := by decide +kernel
theorem d_Mk_splitByEnd_5 : decode b_Mk_splitByEnd 5 = .ok (.iconst 0, 1) := by decide +kernel
theorem d_Mk_splitByEnd_6 : decode b_Mk_splitByEnd 6 = .ok (.istore_n 2, 1) := by decide +kernel
theorem d_Mk_splitByEnd_7 : decode b_Mk_splitByEnd 7 = .ok (.iload_n 2, 1) := by decide +kernel
theorem d_Mk_splitByEnd_8 : decode b_Mk_splitByEnd 8 = .ok (.aload_n 0, 1) := by decide +kernel
theorem d_Mk_splitByEnd_9 : decode b_Mk_splitByEnd 9 = .ok (.getfield 25, 3) := by decide +kernel
theorem d_Mk_splitByEnd_12 : decode b_Mk_splitByEnd 12 = .ok (.if_icmp .ge 59, 3) := by decide +kernel
theorem d_Mk_splitByEnd_15 : decode b_Mk_splitByEnd 15 = .ok (.aload_n 0, 1) := by decide +kernel
theorem d_Mk_splitByEnd_16 : decode b_Mk_splitByEnd 16 = .ok (.getfield 29, 3) := by decide +kernel
theorem d_Mk_splitByEnd_19 : decode b_Mk_splitByEnd 19 = .ok (.iload_n 2, 1) := by decide +kernel
theorem d_Mk_splitByEnd_20 : decode b_Mk_splitByEnd 20 = .ok (.aload_n 1, 1) := by decide +kernel
theorem d_Mk_splitByEnd_21 : decode b_Mk_splitByEnd 21 = .ok (.aload_n 0, 1) := by decide +kernel
theorem d_Mk_splitByEnd_22 : decode b_Mk_splitByEnd 22 = .ok (.getfield 11, 3) := by decide +kernel
theorem d_Mk_splitByEnd_25 : decode b_Mk_splitByEnd 25 = .ok (.iload_n 2, 1) := by decide +kernel
theorem d_Mk_splitByEnd_26 : decode b_Mk_splitByEnd 26 = .ok (.iaload, 1) := by decide +kernel
theorem d_Mk_splitByEnd_27 : decode b_Mk_splitByEnd 27 = .ok (.aload_n 0, 1) := by decide +kernel
theorem d_Mk_splitByEnd_28 : decode b_Mk_splitByEnd 28 = .ok (.getfield 15, 3) := by decide +kernel
theorem d_Mk_splitByEnd_31 : decode b_Mk_splitByEnd 31 = .ok (.iload_n 2, 1) := by decide +kernel
theorem d_Mk_splitByEnd_32 : decode b_Mk_splitByEnd 32 = .ok (.laload, 1) := by decide +kernel
theorem d_Mk_splitByEnd_33 : decode b_Mk_splitByEnd 33 = .ok (.invokevirtual 95, 3) := by decide +kernel
theorem d_Mk_splitByEnd_36 : decode b_Mk_splitByEnd 36 = .ok (.ifCond .eq 7, 3) := by decide +kernel
theorem d_Mk_splitByEnd_39 : decode b_Mk_splitByEnd 39 = .ok (.iconst 1, 1) := by decide +kernel
theorem d_Mk_splitByEnd_40 : decode b_Mk_splitByEnd 40 = .ok (.goto 4, 3) := by decide +kernel
theorem d_Mk_splitByEnd_43 : decode b_Mk_splitByEnd 43 = .ok (.iconst 0, 1) := by decide +kernel
theorem d_Mk_splitByEnd_44 : decode b_Mk_splitByEnd 44 = .ok (.iastore, 1) := by decide +kernel
theorem d_Mk_splitByEnd_45 : decode b_Mk_splitByEnd 45 = .ok (.aload_n 0, 1) := by decide +kernel
theorem d_Mk_splitByEnd_46 : decode b_Mk_splitByEnd 46 = .ok (.getfield 29, 3) := by decide +kernel
theorem d_Mk_splitByEnd_49 : decode b_Mk_splitByEnd 49 = .ok (.iload_n 2, 1) := by decide +kernel
theorem d_Mk_splitByEnd_50 : decode b_Mk_splitByEnd 50 = .ok (.iaload, 1) := by decide +kernel
theorem d_Mk_splitByEnd_51 : decode b_Mk_splitByEnd 51 = .ok (.aload_n 0, 1) := by decide +kernel
theorem d_Mk_splitByEnd_52 : decode b_Mk_splitByEnd 52 = .ok (.getfield 29, 3) := by decide +kernel
theorem d_Mk_splitByEnd_55 : decode b_Mk_splitByEnd 55 = .ok (.iconst 0, 1) := by decide +kernel
theorem d_Mk_splitByEnd_56 : decode b_Mk_splitByEnd 56 = .ok (.iaload, 1) := by decide +kernel
theorem d_Mk_splitByEnd_57 : decode b_Mk_splitByEnd 57 = .ok (.if_icmp .eq 8, 3) := by decide +kernel
theorem d_Mk_splitByEnd_60 : decode b_Mk_splitByEnd 60 = .ok (.aload_n 0, 1) := by decide +kernel
theorem d_Mk_splitByEnd_61 : decode b_Mk_splitByEnd 61 = .ok (.iconst 2, 1) := by decide +kernel
theorem d_Mk_splitByEnd_62 : decode b_Mk_splitByEnd 62 = .ok (.putfield 44, 3) := by decide +kernel
theorem d_Mk_splitByEnd_65 : decode b_Mk_splitByEnd 65 = .ok (.iinc 2 1, 3) := by decide +kernel
theorem d_Mk_splitByEnd_68 : decode b_Mk_splitByEnd 68 = .ok (.goto (-61), 3) := by decide +kernel
theorem d_Mk_splitByEnd_71 : decode b_Mk_splitByEnd 71 = .ok (.return_, 1) := by decide +kernel
theorem pd_Mk_follow : y_Mk_follow.cls ≠ "java/lang/invoke/MethodHandle" ∧ y_Mk_follow.cls ≠ "java/lang/invoke/VarHandle" ∧ (parseMethodDescriptor y_Mk_follow.desc).map (fun d => d.parameters.length) = some 1 := by decide +kernel
theorem pd_Mk_splitByEnd : y_Mk_splitByEnd.cls ≠ "java/lang/invoke/MethodHandle" ∧ y_Mk_splitByEnd.cls ≠ "java/lang/invoke/VarHandle" ∧ (parseMethodDescriptor y_Mk_splitByEnd.desc).map (fun d => d.parameters.length) = some 1 := by decide +kernel
theorem ml_Mk_69 : (Cond.methodLink "RegularSolver$Maker" 69 ({ cls := "RegularSolver$Way", name := "begin", desc := "()V" } : MethodName)) ∈ gW := gm 322 (by decide +kernel) (by decide +kernel)
theorem ini_Br : (Cond.initialized "RegularSolver$Brief") ∈ gW := gm 13 (by decide +kernel) (by decide +kernel)
theorem im_Br_begin : (Cond.instanceMethod ({ cls := "RegularSolver$Brief", name := "begin", desc := "()V" } : MethodName)) ∈ gW := gm 326 (by decide +kernel) (by decide +kernel)
theorem sm_begin : (Cond.sameMethod "RegularSolver$Way" "RegularSolver$Way" "begin" "()V") ∈ gW := gm 324 (by decide +kernel) (by decide +kernel)
theorem sa_Br_begin : (Cond.selects "RegularSolver$Brief" ({ cls := "RegularSolver$Way", name := "begin", desc := "()V" } : MethodName) ({ cls := "RegularSolver$Brief", name := "begin", desc := "()V" } : MethodName)) ∈ gW := gm 325 (by decide +kernel) (by decide +kernel)
theorem fl_Mk_74 : (Cond.fieldLink "RegularSolver$Maker" 74 "RegularSolver$Way" "head" "I") ∈ gW := gm 293 (by decide +kernel) (by decide +kernel)
theorem fl_Mk_77 : (Cond.fieldLink "RegularSolver$Maker" 77 "RegularSolver$Way" "tail" "J") ∈ gW := gm 301 (by decide +kernel) (by decide +kernel)
theorem ml_Mk_81 : (Cond.methodLink "RegularSolver$Maker" 81 ({ cls := "RegularSolver$Maker", name := "numberOf", desc := "(IJ)I" } : MethodName)) ∈ gW := gm 346 (by decide +kernel) (by decide +kernel)
theorem im_Mk_numberOf : (Cond.instanceMethod ({ cls := "RegularSolver$Maker", name := "numberOf", desc := "(IJ)I" } : MethodName)) ∈ gW := gm 348 (by decide +kernel) (by decide +kernel)
theorem se_Mk_numberOf : (Cond.selects "RegularSolver$Maker" ({ cls := "RegularSolver$Maker", name := "numberOf", desc := "(IJ)I" } : MethodName) ({ cls := "RegularSolver$Maker", name := "numberOf", desc := "(IJ)I" } : MethodName)) ∈ gW := gs (by decide +kernel) (by decide +kernel)
theorem ml_Mk_85 : (Cond.methodLink "RegularSolver$Maker" 85 ({ cls := "RegularSolver$Way", name := "go", desc := "(IJI)V" } : MethodName)) ∈ gW := gm 355 (by decide +kernel) (by decide +kernel)
theorem im_Br_go : (Cond.instanceMethod ({ cls := "RegularSolver$Brief", name := "go", desc := "(IJI)V" } : MethodName)) ∈ gW := gm 359 (by decide +kernel) (by decide +kernel)
theorem sm_go : (Cond.sameMethod "RegularSolver$Way" "RegularSolver$Way" "go" "(IJI)V") ∈ gW := gm 357 (by decide +kernel) (by decide +kernel)
theorem sa_Br_go : (Cond.selects "RegularSolver$Brief" ({ cls := "RegularSolver$Way", name := "go", desc := "(IJI)V" } : MethodName) ({ cls := "RegularSolver$Brief", name := "go", desc := "(IJI)V" } : MethodName)) ∈ gW := gm 358 (by decide +kernel) (by decide +kernel)
theorem ml_Mk_95 : (Cond.methodLink "RegularSolver$Maker" 95 ({ cls := "RegularSolver$Way", name := "endsAt", desc := "(IJ)Z" } : MethodName)) ∈ gW := gm 393 (by decide +kernel) (by decide +kernel)
theorem im_Br_endsAt : (Cond.instanceMethod ({ cls := "RegularSolver$Brief", name := "endsAt", desc := "(IJ)Z" } : MethodName)) ∈ gW := gm 397 (by decide +kernel) (by decide +kernel)
theorem sm_endsAt : (Cond.sameMethod "RegularSolver$Way" "RegularSolver$Way" "endsAt" "(IJ)Z") ∈ gW := gm 395 (by decide +kernel) (by decide +kernel)
theorem sa_Br_endsAt : (Cond.selects "RegularSolver$Brief" ({ cls := "RegularSolver$Way", name := "endsAt", desc := "(IJ)Z" } : MethodName) ({ cls := "RegularSolver$Brief", name := "endsAt", desc := "(IJ)Z" } : MethodName)) ∈ gW := gm 396 (by decide +kernel) (by decide +kernel)
section
variable {p : Program} {l : Launch} {e : Env} {R : Room} {s : State} {m : MethodId} {args : Array Value} {below : List Frame} {meth : Method} {c : Code} {H : Heap} {locs : List Loc} {cells slots : Nat} {Q : State → Prop} {A : Nat → Prop} {H0 : Heap}
variable {n : Nat} {D : va_G} {K : Nat → ClassId} {mq : Nat} {m0 : Nat} {m1 : Nat} {m2 : Nat} {m3 : Nat} {m5 : Nat} {m6 : Nat} {m7 : Nat} {m8 : Nat} {m9 : Nat} {wq : Nat} {kHeads : Nat → Int32} {kTails : Nat → Int64} {kNext : Nat → Int32} {kSlots : Nat → Int32} {kReached : Int32} {kClassOf : Nat → Int32} {kFinerOf : Nat → Int32} {kMarkOf : Nat → Int32} {kFirstOf : Nat → Int32} {kMarkSlots : Nat → Int32} {kClasses : Int32} {wHead : Int32} {wTail : Int64} {bSet : Int32} {bEnd : Int32}
def f_Mk_follow_Br_49 (n : Nat) (v2 : Int32) (wTail : Int64) (bSet : Int32) : Nat → Int32 → (Nat → Int32) → (Nat → Int64) → (Nat → Int32) → (Nat → Int32) → Int32 → Int32 → Option ((Bool × (Nat → Int32) × (Nat → Int64) × (Nat → Int32) × (Nat → Int32) × Int32 × Int32) ⊕ (Int32 × (Nat → Int32) × (Nat → Int64) × (Nat → Int32) × (Nat → Int32) × Int32 × Int32))
  | 0, _, _, _, _, _, _, _ => none
  | k + 1, v3, kHeads, kTails, kNext, kSlots, kReached, wHead =>
    if 4 ≤ v3 then
      some (.inr (v3, kHeads, kTails, kNext, kSlots, kReached, wHead))
    else
      ogd (gin v2 800) <|
      ogd (gin v2 800) <|
      (f_Br_go n (kHeads v2.toNatClampNeg) (kTails v2.toNatClampNeg) v3 bSet).bind fun u24 =>
      (f_Mk_numberOf n u24 wTail kHeads kTails kSlots kReached).bind fun u26 =>
      if u26.1 = (-1) then
        some (.inl (false, u26.2.1, u26.2.2.1, kNext, u26.2.2.2.1, u26.2.2.2.2, u24))
      else
        ogd (gin ((4 * v2) + v3) 3200) <|
        f_Mk_follow_Br_49 n v2 wTail bSet k (v3 + 1) u26.2.1 u26.2.2.1 (upd kNext ((4 * v2) + v3).toNatClampNeg u26.1) u26.2.2.2.1 u26.2.2.2.2 u24
set_option maxHeartbeats 4000000 in
set_option maxRecDepth 100000 in
theorem w_Mk_follow_Br_49  {v2 : Int32} (hx : p.tables.exec = Jvm.exec) (hb : c.code = b_Mk_follow) (hml : c.maxLocals = 5) (hts : ∀ w ∈ gW, w.before args s = true) (hown : s.vm.findClass "RegularSolver$Maker" = some m.cls) (hK : va_K D vwCl (tG K) s) (hX : gX s) (hRf : 2 ≤ R.frames) (hRl : 50 ≤ R.locals) (hRc : cells ≤ R.cells) (hRs : slots ≤ R.slots) (hA : ∀ q, H0.size ≤ q → A q)  {out : (Bool × (Nat → Int32) × (Nat → Int64) × (Nat → Int32) × (Nat → Int32) × Int32 × Int32) ⊕ (Int32 × (Nat → Int32) × (Nat → Int64) × (Nat → Int32) × (Nat → Int32) × Int32 × Int32)} (Kr : ∀ (r : Bool × (Nat → Int32) × (Nat → Int64) × (Nat → Int32) × (Nat → Int32) × Int32 × Int32), out = .inl r → ∀ (m5 : Nat) (m6 : Nat), ∀ (pc : Nat) (ls : Array Slot) (H : Heap) (locs : List Loc), decode b_Mk_follow pc = .ok (.ireturn, 1) → va_P D vwCl ((mkW K mq m0 m1 m2 m3 m5 m6 m7 m8 m9 r.2.1 r.2.2.1 r.2.2.2.1 r.2.2.2.2.1 r.2.2.2.2.2.1 kClassOf kFinerOf kMarkOf kFirstOf kMarkSlots kClasses) ++ (brW K wq r.2.2.2.2.2.2 wTail bSet bEnd)) H → va_D A ((mkW K mq m0 m1 m2 m3 m5 m6 m7 m8 m9 r.2.1 r.2.2.1 r.2.2.2.1 r.2.2.2.2.1 r.2.2.2.2.2.1 kClassOf kFinerOf kMarkOf kFirstOf kMarkSlots kClasses) ++ (brW K wq r.2.2.2.2.2.2 wTail bSet bEnd)) → va_S A H0 H locs → W p l e R s m args below meth c H locs cells slots Q (F0 m pc ls [.int (bI r.1)])) (Kx : ∀ (u : Int32 × (Nat → Int32) × (Nat → Int64) × (Nat → Int32) × (Nat → Int32) × Int32 × Int32), out = .inr u → ∀ (m5 : Nat) (m6 : Nat), ∀ (ls : Array Slot) (H : Heap) (locs : List Loc), va_P D vwCl ((mkW K mq m0 m1 m2 m3 m5 m6 m7 m8 m9 u.2.1 u.2.2.1 u.2.2.2.1 u.2.2.2.2.1 u.2.2.2.2.2.1 kClassOf kFinerOf kMarkOf kFirstOf kMarkSlots kClasses) ++ (brW K wq u.2.2.2.2.2.2 wTail bSet bEnd)) H → va_D A ((mkW K mq m0 m1 m2 m3 m5 m6 m7 m8 m9 u.2.1 u.2.2.1 u.2.2.2.1 u.2.2.2.2.1 u.2.2.2.2.2.1 kClassOf kFinerOf kMarkOf kFirstOf kMarkSlots kClasses) ++ (brW K wq u.2.2.2.2.2.2 wTail bSet bEnd)) → va_S A H0 H locs → lv_has ls 5 [(2, .int v2), (0, .ref mq), (1, .ref wq)] → W p l e R s m args below meth c H locs cells slots Q (F0 m 111 ls [])) :
    ∀ (k : Nat) (v3 : Int32) (kHeads : Nat → Int32) (kTails : Nat → Int64) (kNext : Nat → Int32) (kSlots : Nat → Int32) (kReached : Int32) (wHead : Int32), f_Mk_follow_Br_49 n v2 wTail bSet k v3 kHeads kTails kNext kSlots kReached wHead = some out → ∀ (m5 : Nat) (m6 : Nat), ∀ (ls : Array Slot) (H : Heap) (locs : List Loc), va_P D vwCl ((mkW K mq m0 m1 m2 m3 m5 m6 m7 m8 m9 kHeads kTails kNext kSlots kReached kClassOf kFinerOf kMarkOf kFirstOf kMarkSlots kClasses) ++ (brW K wq wHead wTail bSet bEnd)) H → va_D A ((mkW K mq m0 m1 m2 m3 m5 m6 m7 m8 m9 kHeads kTails kNext kSlots kReached kClassOf kFinerOf kMarkOf kFirstOf kMarkSlots kClasses) ++ (brW K wq wHead wTail bSet bEnd)) → va_S A H0 H locs → lv_has ls 5 [(3, .int v3), (2, .int v2), (0, .ref mq), (1, .ref wq)] → W p l e R s m args below meth c H locs cells slots Q (F0 m 49 ls []) := by
  intro k
  induction k with
  | zero => intro _ _ _ _ _ _ _ hf; exact nomatch (show none = some out from hf)
  | succ k ih =>
    intro v3 kHeads kTails kNext kSlots kReached wHead hf m5 m6 ls H locs hP hD hS hl
    rw [f_Mk_follow_Br_49] at hf
    refine lv_iload_n hx hb d_Mk_follow_49 rfl (lv_at hl 0 rfl) ?_
    refine lv_iconst (v := 4) hx hb d_Mk_follow_50 (by decide) ?_
    refine lv_icmp_ge (tgt := 111) hx hb d_Mk_follow_51 (by decide) (fun c21 => ?_) (fun c21 => ?_)
    · rw [if_pos c21] at hf
      exact Kx _ (Option.some.inj hf).symm _ _ _ _ _ hP hD hS (show lv_has ls 5 [(2, .int v2), (0, .ref mq), (1, .ref wq)] from lv_sub hl [1, 2, 3] rfl)
    · rw [if_neg c21] at hf
      refine lv_aload_n hx hb d_Mk_follow_54 rfl (lv_at hl 3 rfl) ?_
      refine lv_aload_n hx hb d_Mk_follow_55 rfl (lv_at hl 2 rfl) ?_
      refine va_get (D := D) (ci := 6) (v := .ref m0) (C := R_Mk) (T := T_Mk) (N := 11) hx hb hts in_Mk hown hK hP 0 rfl rfl 0 (by decide) (hts _ fl_Mk_11) (fun _ h9 => h9) rfl d_Mk_follow_56 ?_
      refine lv_iload_n hx hb d_Mk_follow_59 rfl (lv_at hl 1 rfl) ?_
      obtain ⟨g22, hf⟩ := ogi hf
      refine va_iald hx hb hK hP 1 0 rfl rfl (gin_in g22) d_Mk_follow_60 ?_
      refine lv_aload_n hx hb d_Mk_follow_61 rfl (lv_at hl 2 rfl) ?_
      refine va_get (D := D) (ci := 6) (v := .ref m1) (C := R_Mk) (T := T_Mk) (N := 11) hx hb hts in_Mk hown hK hP 0 rfl rfl 1 (by decide) (hts _ fl_Mk_15) (fun _ h9 => h9) rfl d_Mk_follow_62 ?_
      refine lv_iload_n hx hb d_Mk_follow_65 rfl (lv_at hl 1 rfl) ?_
      obtain ⟨g23, hf⟩ := ogi hf
      refine va_lald hx hb hK hP 2 1 rfl rfl (gin_in g23) d_Mk_follow_66 ?_
      refine lv_iload_n hx hb d_Mk_follow_67 rfl (lv_at hl 0 rfl) ?_
      obtain ⟨u24, eu24, hf⟩ := obd hf
      refine w_callA (va_runU (As := [.int (kHeads v2.toNatClampNeg), .long (kTails v2.toNatClampNeg), .int v3]) (rest := []) ⟨hx, hb, hml, hown, hts⟩ (Met_G (c_Br_go l H.size eu24)) (gA (owner := "RegularSolver$Way") 3 hts hX cd_Br_go ml_Mk_85 im_Br_go sm_go sa_Br_go ini_Br (by decide +kernel) rfl rfl (by decide +kernel) ⟨Nat.le_trans (Nat.le_of_ble_eq_true rfl) hRf, Nat.le_trans (Nat.le_of_ble_eq_true rfl) hRl⟩) ⟨wPre_blind, va_recv hK (vaR hP) (ci := 2) (q0 := 0) rfl rfl, wPre_of (vaR hP) hK (vdR hD)⟩ rfl rfl hl.1 rfl (lv_room (Nat.le_of_ble_eq_true rfl)) d_Mk_follow_68 ⟨hRc, hRs⟩) (vdR hD) hS hA (fun g25 H1 locs hP1 hD1 hk1 hS1 => ?_)
      obtain ⟨hP, hD⟩ := va_keepL hP hD (va_sub (vdR hD) hS hA) hk1 hP1 hD1
      have hS := hS1
      generalize H1 = H at hP hS ⊢
      have hP : va_P D vwCl ((mkW K mq m0 m1 m2 m3 m5 m6 m7 m8 m9 kHeads kTails kNext kSlots kReached kClassOf kFinerOf kMarkOf kFirstOf kMarkSlots kClasses) ++ (brW K wq u24 wTail bSet bEnd)) H := hP
      have hD : va_D A ((mkW K mq m0 m1 m2 m3 m5 m6 m7 m8 m9 kHeads kTails kNext kSlots kReached kClassOf kFinerOf kMarkOf kFirstOf kMarkSlots kClasses) ++ (brW K wq u24 wTail bSet bEnd)) := hD
      refine lv_aload_n hx hb d_Mk_follow_71 rfl (lv_at hl 2 rfl) ?_
      refine lv_aload_n hx hb d_Mk_follow_72 rfl (lv_at hl 3 rfl) ?_
      refine va_get (D := D) (ci := 2) (v := .int u24) (C := R_Br) (T := T_Br) (N := 4) hx hb hts in_Br hown hK hP 10 rfl rfl 0 (by decide) (hts _ fl_Mk_74) (fun _ h9 => h9) rfl d_Mk_follow_73 ?_
      refine lv_aload_n hx hb d_Mk_follow_76 rfl (lv_at hl 3 rfl) ?_
      refine va_get (D := D) (ci := 2) (v := .long wTail) (C := R_Br) (T := T_Br) (N := 4) hx hb hts in_Br hown hK hP 10 rfl rfl 1 (by decide) (hts _ fl_Mk_77) (fun _ h9 => h9) rfl d_Mk_follow_77 ?_
      obtain ⟨u26, eu26, hf⟩ := obd hf
      refine w_callA (va_runV (As := [.int u24, .long wTail]) (rest := []) ⟨hx, hb, hml, hown, hts⟩ (c_Mk_numberOf l H.size eu26) (gV 2 hts cd_Mk_numberOf ml_Mk_81 im_Mk_numberOf se_Mk_numberOf ini_Mk rfl rfl pd_Mk_numberOf ⟨Nat.le_trans (Nat.le_of_ble_eq_true rfl) hRf, Nat.le_trans (Nat.le_of_ble_eq_true rfl) hRl⟩) ⟨wPre_blind, va_recv hK (vaL hP) (ci := 6) (q0 := 0) rfl rfl, wPre_of (vaL hP) hK (vdL hD)⟩ rfl rfl hl.1 rfl (lv_room (Nat.le_of_ble_eq_true rfl)) d_Mk_follow_80 ⟨hRc, hRs⟩) (vdL hD) hS hA (fun g27 H1 locs hP1 hD1 hk1 hS1 => ?_)
      obtain ⟨hP, hD⟩ := va_keepR hP hD (va_sub (vdL hD) hS hA) hk1 hP1 hD1
      have hS := hS1
      generalize H1 = H at hP hS ⊢
      have hP : va_P D vwCl ((mkW K mq m0 m1 m2 m3 g27.1 g27.2 m7 m8 m9 u26.2.1 u26.2.2.1 kNext u26.2.2.2.1 u26.2.2.2.2 kClassOf kFinerOf kMarkOf kFirstOf kMarkSlots kClasses) ++ (brW K wq u24 wTail bSet bEnd)) H := hP
      have hD : va_D A ((mkW K mq m0 m1 m2 m3 g27.1 g27.2 m7 m8 m9 u26.2.1 u26.2.2.1 kNext u26.2.2.2.1 u26.2.2.2.2 kClassOf kFinerOf kMarkOf kFirstOf kMarkSlots kClasses) ++ (brW K wq u24 wTail bSet bEnd)) := hD
      refine lv_istore (lv' := [(4, .int u26.1), (3, .int v3), (2, .int v2), (0, .ref mq), (1, .ref wq)]) hx hb d_Mk_follow_83 hl (by decide) rfl (fun ls hl => ?_)
      refine lv_iload hx hb d_Mk_follow_85 (lv_at hl 0 rfl) ?_
      refine lv_iconst (v := -1) hx hb d_Mk_follow_87 (by decide) ?_
      refine lv_icmp_ne (tgt := 93) hx hb d_Mk_follow_88 (by decide) (fun c28 => ?_) (fun c28 => ?_)
      · rw [if_neg c28] at hf
        refine lv_aload_n hx hb d_Mk_follow_93 rfl (lv_at hl 3 rfl) ?_
        refine va_get (D := D) (ci := 6) (v := .ref m2) (C := R_Mk) (T := T_Mk) (N := 11) hx hb hts in_Mk hown hK hP 0 rfl rfl 2 (by decide) (hts _ fl_Mk_19) (fun _ h9 => h9) rfl d_Mk_follow_94 ?_
        refine lv_iconst (v := 4) hx hb d_Mk_follow_97 (by decide) ?_
        refine lv_iload_n hx hb d_Mk_follow_98 rfl (lv_at hl 2 rfl) ?_
        refine lv_imul hx hb d_Mk_follow_99 ?_
        refine lv_iload_n hx hb d_Mk_follow_100 rfl (lv_at hl 1 rfl) ?_
        refine lv_iadd hx hb d_Mk_follow_101 ?_
        refine lv_iload hx hb d_Mk_follow_102 (lv_at hl 0 rfl) ?_
        obtain ⟨g29, hf⟩ := ogi hf
        refine va_iast hx hb hK hP hD hS 3 0 rfl rfl (gin_in g29) d_Mk_follow_104 (fun H locs hP hD hS => ?_)
        have hP : va_P D vwCl ((mkW K mq m0 m1 m2 m3 g27.1 g27.2 m7 m8 m9 u26.2.1 u26.2.2.1 (upd kNext ((4 * v2) + v3).toNatClampNeg u26.1) u26.2.2.2.1 u26.2.2.2.2 kClassOf kFinerOf kMarkOf kFirstOf kMarkSlots kClasses) ++ (brW K wq u24 wTail bSet bEnd)) H := hP
        have hD : va_D A ((mkW K mq m0 m1 m2 m3 g27.1 g27.2 m7 m8 m9 u26.2.1 u26.2.2.1 (upd kNext ((4 * v2) + v3).toNatClampNeg u26.1) u26.2.2.2.1 u26.2.2.2.2 kClassOf kFinerOf kMarkOf kFirstOf kMarkSlots kClasses) ++ (brW K wq u24 wTail bSet bEnd)) := hD
        refine lv_iinc (v := v3 + 1) (lv' := [(3, .int (v3 + 1)), (4, .int u26.1), (2, .int v2), (0, .ref mq), (1, .ref wq)]) hx hb d_Mk_follow_105 hl (k := 1) rfl (by first | rfl | (congr 1)) (by decide) rfl (fun ls hl => ?_)
        refine lv_goto (tgt := 49) hx hb d_Mk_follow_108 (by decide) ?_
        exact ih _ _ _ _ _ _ _ hf _ _ _ _ _ hP hD hS (show lv_has ls 5 [(3, .int (v3 + 1)), (2, .int v2), (0, .ref mq), (1, .ref wq)] from lv_sub hl [0, 2, 3, 4] rfl)
      · rw [if_pos c28] at hf
        refine lv_iconst (v := 0) hx hb d_Mk_follow_91 (by decide) ?_
        exact Kr _ (Option.some.inj hf).symm _ _ _ _ _ _ d_Mk_follow_92 hP hD hS
def f_Mk_follow_Br_32 (n : Nat) (wTail : Int64) (bSet : Int32) : Nat → Int32 → (Nat → Int32) → (Nat → Int64) → (Nat → Int32) → (Nat → Int32) → Int32 → Int32 → Option ((Bool × (Nat → Int32) × (Nat → Int64) × (Nat → Int32) × (Nat → Int32) × Int32 × Int32) ⊕ (Int32 × (Nat → Int32) × (Nat → Int64) × (Nat → Int32) × (Nat → Int32) × Int32 × Int32))
  | 0, _, _, _, _, _, _, _ => none
  | k + 1, v2, kHeads, kTails, kNext, kSlots, kReached, wHead =>
    if 800 ≤ v2 then
      some (.inr (v2, kHeads, kTails, kNext, kSlots, kReached, wHead))
    else
      if kReached ≤ v2 then
        some (.inr (v2, kHeads, kTails, kNext, kSlots, kReached, wHead))
      else
        (f_Mk_follow_Br_49 n v2 wTail bSet n 0 kHeads kTails kNext kSlots kReached wHead).bind fun u30 => u30.elim (fun r => some (.inl r)) fun x30 =>
        f_Mk_follow_Br_32 n wTail bSet k (v2 + 1) x30.2.1 x30.2.2.1 x30.2.2.2.1 x30.2.2.2.2.1 x30.2.2.2.2.2.1 x30.2.2.2.2.2.2
set_option maxHeartbeats 4000000 in
set_option maxRecDepth 100000 in
theorem w_Mk_follow_Br_32   (hx : p.tables.exec = Jvm.exec) (hb : c.code = b_Mk_follow) (hml : c.maxLocals = 5) (hts : ∀ w ∈ gW, w.before args s = true) (hown : s.vm.findClass "RegularSolver$Maker" = some m.cls) (hK : va_K D vwCl (tG K) s) (hX : gX s) (hRf : 2 ≤ R.frames) (hRl : 50 ≤ R.locals) (hRc : cells ≤ R.cells) (hRs : slots ≤ R.slots) (hA : ∀ q, H0.size ≤ q → A q)  {out : (Bool × (Nat → Int32) × (Nat → Int64) × (Nat → Int32) × (Nat → Int32) × Int32 × Int32) ⊕ (Int32 × (Nat → Int32) × (Nat → Int64) × (Nat → Int32) × (Nat → Int32) × Int32 × Int32)} (Kr : ∀ (r : Bool × (Nat → Int32) × (Nat → Int64) × (Nat → Int32) × (Nat → Int32) × Int32 × Int32), out = .inl r → ∀ (m5 : Nat) (m6 : Nat), ∀ (pc : Nat) (ls : Array Slot) (H : Heap) (locs : List Loc), decode b_Mk_follow pc = .ok (.ireturn, 1) → va_P D vwCl ((mkW K mq m0 m1 m2 m3 m5 m6 m7 m8 m9 r.2.1 r.2.2.1 r.2.2.2.1 r.2.2.2.2.1 r.2.2.2.2.2.1 kClassOf kFinerOf kMarkOf kFirstOf kMarkSlots kClasses) ++ (brW K wq r.2.2.2.2.2.2 wTail bSet bEnd)) H → va_D A ((mkW K mq m0 m1 m2 m3 m5 m6 m7 m8 m9 r.2.1 r.2.2.1 r.2.2.2.1 r.2.2.2.2.1 r.2.2.2.2.2.1 kClassOf kFinerOf kMarkOf kFirstOf kMarkSlots kClasses) ++ (brW K wq r.2.2.2.2.2.2 wTail bSet bEnd)) → va_S A H0 H locs → W p l e R s m args below meth c H locs cells slots Q (F0 m pc ls [.int (bI r.1)])) (Kx : ∀ (u : Int32 × (Nat → Int32) × (Nat → Int64) × (Nat → Int32) × (Nat → Int32) × Int32 × Int32), out = .inr u → ∀ (m5 : Nat) (m6 : Nat), ∀ (ls : Array Slot) (H : Heap) (locs : List Loc), va_P D vwCl ((mkW K mq m0 m1 m2 m3 m5 m6 m7 m8 m9 u.2.1 u.2.2.1 u.2.2.2.1 u.2.2.2.2.1 u.2.2.2.2.2.1 kClassOf kFinerOf kMarkOf kFirstOf kMarkSlots kClasses) ++ (brW K wq u.2.2.2.2.2.2 wTail bSet bEnd)) H → va_D A ((mkW K mq m0 m1 m2 m3 m5 m6 m7 m8 m9 u.2.1 u.2.2.1 u.2.2.2.1 u.2.2.2.2.1 u.2.2.2.2.2.1 kClassOf kFinerOf kMarkOf kFirstOf kMarkSlots kClasses) ++ (brW K wq u.2.2.2.2.2.2 wTail bSet bEnd)) → va_S A H0 H locs → lv_has ls 5 [] → W p l e R s m args below meth c H locs cells slots Q (F0 m 117 ls [])) :
    ∀ (k : Nat) (v2 : Int32) (kHeads : Nat → Int32) (kTails : Nat → Int64) (kNext : Nat → Int32) (kSlots : Nat → Int32) (kReached : Int32) (wHead : Int32), f_Mk_follow_Br_32 n wTail bSet k v2 kHeads kTails kNext kSlots kReached wHead = some out → ∀ (m5 : Nat) (m6 : Nat), ∀ (ls : Array Slot) (H : Heap) (locs : List Loc), va_P D vwCl ((mkW K mq m0 m1 m2 m3 m5 m6 m7 m8 m9 kHeads kTails kNext kSlots kReached kClassOf kFinerOf kMarkOf kFirstOf kMarkSlots kClasses) ++ (brW K wq wHead wTail bSet bEnd)) H → va_D A ((mkW K mq m0 m1 m2 m3 m5 m6 m7 m8 m9 kHeads kTails kNext kSlots kReached kClassOf kFinerOf kMarkOf kFirstOf kMarkSlots kClasses) ++ (brW K wq wHead wTail bSet bEnd)) → va_S A H0 H locs → lv_has ls 5 [(2, .int v2), (0, .ref mq), (1, .ref wq)] → W p l e R s m args below meth c H locs cells slots Q (F0 m 32 ls []) := by
  intro k
  induction k with
  | zero => intro _ _ _ _ _ _ _ hf; exact nomatch (show none = some out from hf)
  | succ k ih =>
    intro v2 kHeads kTails kNext kSlots kReached wHead hf m5 m6 ls H locs hP hD hS hl
    rw [f_Mk_follow_Br_32] at hf
    refine lv_iload_n hx hb d_Mk_follow_32 rfl (lv_at hl 0 rfl) ?_
    refine lv_sipush (v := 800) hx hb d_Mk_follow_33 (by decide) ?_
    refine lv_icmp_ge (tgt := 117) hx hb d_Mk_follow_36 (by decide) (fun c19 => ?_) (fun c19 => ?_)
    · rw [if_pos c19] at hf
      exact Kx _ (Option.some.inj hf).symm _ _ _ _ _ hP hD hS (show lv_has ls 5 [] from lv_sub hl [] rfl)
    · rw [if_neg c19] at hf
      refine lv_iload_n hx hb d_Mk_follow_39 rfl (lv_at hl 0 rfl) ?_
      refine lv_aload_n hx hb d_Mk_follow_40 rfl (lv_at hl 1 rfl) ?_
      refine va_get (D := D) (ci := 6) (v := .int kReached) (C := R_Mk) (T := T_Mk) (N := 11) hx hb hts in_Mk hown hK hP 0 rfl rfl 4 (by decide) (hts _ fl_Mk_25) (fun _ h9 => h9) rfl d_Mk_follow_41 ?_
      refine lv_icmp_ge (tgt := 117) hx hb d_Mk_follow_44 (by decide) (fun c20 => ?_) (fun c20 => ?_)
      · rw [if_pos c20] at hf
        exact Kx _ (Option.some.inj hf).symm _ _ _ _ _ hP hD hS (show lv_has ls 5 [] from lv_sub hl [] rfl)
      · rw [if_neg c20] at hf
        refine lv_iconst (v := 0) hx hb d_Mk_follow_47 (by decide) ?_
        refine lv_istore_n (lv' := [(3, .int 0), (2, .int v2), (0, .ref mq), (1, .ref wq)]) hx hb d_Mk_follow_48 rfl hl (by decide) rfl (fun ls hl => ?_)
        obtain ⟨u30, eu30, hf⟩ := obd hf
        refine w_Mk_follow_Br_49 hx hb hml hts hown hK hX hRf hRl hRc hRs hA (fun r er m5 m6 pc ls H locs hd hP hD hS => Kr r (by subst er; exact (Option.some.inj hf).symm) m5 m6 pc ls H locs hd hP hD hS) (fun x30 eu m5 m6 ls H locs hP hD hS hl => ?_) _ _ _ _ _ _ _ _ eu30 _ _ _ _ _ hP hD hS (show lv_has ls 5 [(3, .int 0), (2, .int v2), (0, .ref mq), (1, .ref wq)] from lv_sub hl [0, 1, 2, 3] rfl)
        subst eu
        replace hf := oel hf
        refine lv_iinc (v := v2 + 1) (lv' := [(2, .int (v2 + 1)), (0, .ref mq), (1, .ref wq)]) hx hb d_Mk_follow_111 hl (k := 0) rfl (by first | rfl | (congr 1)) (by decide) rfl (fun ls hl => ?_)
        refine lv_goto (tgt := 32) hx hb d_Mk_follow_114 (by decide) ?_
        exact ih _ _ _ _ _ _ _ hf _ _ _ _ _ hP hD hS (show lv_has ls 5 [(2, .int (v2 + 1)), (0, .ref mq), (1, .ref wq)] from lv_sub hl [0, 1, 2] rfl)
def f_Mk_follow_Br (n : Nat) (kHeads : Nat → Int32) (kTails : Nat → Int64) (kNext : Nat → Int32) (kSlots : Nat → Int32) (wTail : Int64) (bSet : Int32) : Option (Bool × (Nat → Int32) × (Nat → Int64) × (Nat → Int32) × (Nat → Int32) × Int32 × Int32) :=
  (f_Ar_fillI n (-1) 2048 kSlots).bind fun u1 =>
  (f_Br_begin n).bind fun u3 =>
  (f_Mk_numberOf n u3 wTail kHeads kTails u1 0).bind fun u5 =>
  (f_Mk_follow_Br_32 n wTail bSet n 0 u5.2.1 u5.2.2.1 kNext u5.2.2.2.1 u5.2.2.2.2 u3).bind fun u31 => u31.elim (fun r => some r) fun x31 =>
  some (true, x31.2.1, x31.2.2.1, x31.2.2.2.1, x31.2.2.2.2.1, x31.2.2.2.2.2.1, x31.2.2.2.2.2.2)
set_option maxHeartbeats 4000000 in
set_option maxRecDepth 100000 in
theorem w_Mk_follow_Br    (hx : p.tables.exec = Jvm.exec) (hb : c.code = b_Mk_follow) (hml : c.maxLocals = 5) (hts : ∀ w ∈ gW, w.before args s = true) (hown : s.vm.findClass "RegularSolver$Maker" = some m.cls) (hK : va_K D vwCl (tG K) s) (hX : gX s) (hRf : 2 ≤ R.frames) (hRl : 50 ≤ R.locals) (hRc : cells ≤ R.cells) (hRs : slots ≤ R.slots) (hA : ∀ q, H0.size ≤ q → A q) {out : Bool × (Nat → Int32) × (Nat → Int64) × (Nat → Int32) × (Nat → Int32) × Int32 × Int32} (Kr : ∀ (r : Bool × (Nat → Int32) × (Nat → Int64) × (Nat → Int32) × (Nat → Int32) × Int32 × Int32), out = r → ∀ (m5 : Nat) (m6 : Nat), ∀ (pc : Nat) (ls : Array Slot) (H : Heap) (locs : List Loc), decode b_Mk_follow pc = .ok (.ireturn, 1) → va_P D vwCl ((mkW K mq m0 m1 m2 m3 m5 m6 m7 m8 m9 r.2.1 r.2.2.1 r.2.2.2.1 r.2.2.2.2.1 r.2.2.2.2.2.1 kClassOf kFinerOf kMarkOf kFirstOf kMarkSlots kClasses) ++ (brW K wq r.2.2.2.2.2.2 wTail bSet bEnd)) H → va_D A ((mkW K mq m0 m1 m2 m3 m5 m6 m7 m8 m9 r.2.1 r.2.2.1 r.2.2.2.1 r.2.2.2.2.1 r.2.2.2.2.2.1 kClassOf kFinerOf kMarkOf kFirstOf kMarkSlots kClasses) ++ (brW K wq r.2.2.2.2.2.2 wTail bSet bEnd)) → va_S A H0 H locs → W p l e R s m args below meth c H locs cells slots Q (F0 m pc ls [.int (bI r.1)])) (hf : f_Mk_follow_Br n kHeads kTails kNext kSlots wTail bSet = some out) (ls : Array Slot) (hP : va_P D vwCl ((mkW K mq m0 m1 m2 m3 m5 m6 m7 m8 m9 kHeads kTails kNext kSlots kReached kClassOf kFinerOf kMarkOf kFirstOf kMarkSlots kClasses) ++ (brW K wq wHead wTail bSet bEnd)) H) (hD : va_D A ((mkW K mq m0 m1 m2 m3 m5 m6 m7 m8 m9 kHeads kTails kNext kSlots kReached kClassOf kFinerOf kMarkOf kFirstOf kMarkSlots kClasses) ++ (brW K wq wHead wTail bSet bEnd))) (hS : va_S A H0 H locs) (hl : lv_has ls 5 [(0, .ref mq), (1, .ref wq)]) : W p l e R s m args below meth c H locs cells slots Q (F0 m 0 ls []) := by
  unfold f_Mk_follow_Br at hf
  refine lv_aload_n hx hb d_Mk_follow_0 rfl (lv_at hl 0 rfl) ?_
  refine va_get (D := D) (ci := 6) (v := .ref m3) (C := R_Mk) (T := T_Mk) (N := 11) hx hb hts in_Mk hown hK hP 0 rfl rfl 3 (by decide) (hts _ fl_Mk_22) (fun _ h9 => h9) rfl d_Mk_follow_1 ?_
  refine lv_iconst (v := -1) hx hb d_Mk_follow_4 (by decide) ?_
  obtain ⟨u1, eu1, hf⟩ := obd hf
  refine w_callA (va_runS (As := [.ref m3, .int (-1)]) (rest := []) ⟨hx, hb, hml, hown, hts⟩ (Met_G (c_Ar_fillI l H.size eu1)) (gS 2 hts cd_Ar_fillI ml_Mk_63 st_Ar_fillI ini_Ar rfl rfl pd_Ar_fillI ⟨Nat.le_trans (Nat.le_of_ble_eq_true rfl) hRf, Nat.le_trans (Nat.le_of_ble_eq_true rfl) hRl⟩) ⟨wPre_blind, wPre_of (vaC hP 4 rfl) hK (vdC hD 4 rfl)⟩ rfl rfl hl.1 rfl (lv_room (Nat.le_of_ble_eq_true rfl)) d_Mk_follow_5 ⟨hRc, hRs⟩) (vdC hD 4 rfl) hS hA (fun g2 H1 locs hP1 hD1 hk1 hS1 => ?_)
  obtain ⟨hP, hD⟩ := va_keepC 4 rfl hP hD hk1 hP1
  have hS := hS1
  generalize H1 = H at hP hS ⊢
  have hP : va_P D vwCl ((mkW K mq m0 m1 m2 m3 m5 m6 m7 m8 m9 kHeads kTails kNext u1 kReached kClassOf kFinerOf kMarkOf kFirstOf kMarkSlots kClasses) ++ (brW K wq wHead wTail bSet bEnd)) H := hP
  have hD : va_D A ((mkW K mq m0 m1 m2 m3 m5 m6 m7 m8 m9 kHeads kTails kNext u1 kReached kClassOf kFinerOf kMarkOf kFirstOf kMarkSlots kClasses) ++ (brW K wq wHead wTail bSet bEnd)) := hD
  refine lv_aload_n hx hb d_Mk_follow_8 rfl (lv_at hl 0 rfl) ?_
  refine lv_iconst (v := 0) hx hb d_Mk_follow_9 (by decide) ?_
  refine va_put (D := D) (ci := 6) (v := .int 0) (ty := .int) (C := R_Mk) (T := T_Mk) (N := 11) hx hb hts in_Mk t_Mk t_Mk_ok n_Mk hown hK hP hD hS 0 rfl rfl 4 (by decide) (hts _ fl_Mk_25) (fun _ h9 => h9) rfl (by decide +kernel) rfl rfl (Nat.le_of_ble_eq_true rfl) d_Mk_follow_10 (fun H locs hP hD hS => ?_)
  have hP : va_P D vwCl ((mkW K mq m0 m1 m2 m3 m5 m6 m7 m8 m9 kHeads kTails kNext u1 0 kClassOf kFinerOf kMarkOf kFirstOf kMarkSlots kClasses) ++ (brW K wq wHead wTail bSet bEnd)) H := hP
  have hD : va_D A ((mkW K mq m0 m1 m2 m3 m5 m6 m7 m8 m9 kHeads kTails kNext u1 0 kClassOf kFinerOf kMarkOf kFirstOf kMarkSlots kClasses) ++ (brW K wq wHead wTail bSet bEnd)) := hD
  refine lv_aload_n hx hb d_Mk_follow_13 rfl (lv_at hl 1 rfl) ?_
  obtain ⟨u3, eu3, hf⟩ := obd hf
  refine w_callA (va_runU (As := []) (rest := []) ⟨hx, hb, hml, hown, hts⟩ (Met_G (c_Br_begin l H.size eu3)) (gA (owner := "RegularSolver$Way") 0 hts hX cd_Br_begin ml_Mk_69 im_Br_begin sm_begin sa_Br_begin ini_Br (by decide +kernel) rfl rfl (by decide +kernel) ⟨Nat.le_trans (Nat.le_of_ble_eq_true rfl) hRf, Nat.le_trans (Nat.le_of_ble_eq_true rfl) hRl⟩) ⟨wPre_blind, va_recv hK (vaR hP) (ci := 2) (q0 := 0) rfl rfl, wPre_of (vaR hP) hK (vdR hD)⟩ rfl rfl hl.1 rfl (lv_room (Nat.le_of_ble_eq_true rfl)) d_Mk_follow_14 ⟨hRc, hRs⟩) (vdR hD) hS hA (fun g4 H1 locs hP1 hD1 hk1 hS1 => ?_)
  obtain ⟨hP, hD⟩ := va_keepL hP hD (va_sub (vdR hD) hS hA) hk1 hP1 hD1
  have hS := hS1
  generalize H1 = H at hP hS ⊢
  have hP : va_P D vwCl ((mkW K mq m0 m1 m2 m3 m5 m6 m7 m8 m9 kHeads kTails kNext u1 0 kClassOf kFinerOf kMarkOf kFirstOf kMarkSlots kClasses) ++ (brW K wq u3 wTail bSet bEnd)) H := hP
  have hD : va_D A ((mkW K mq m0 m1 m2 m3 m5 m6 m7 m8 m9 kHeads kTails kNext u1 0 kClassOf kFinerOf kMarkOf kFirstOf kMarkSlots kClasses) ++ (brW K wq u3 wTail bSet bEnd)) := hD
  refine lv_aload_n hx hb d_Mk_follow_17 rfl (lv_at hl 0 rfl) ?_
  refine lv_aload_n hx hb d_Mk_follow_18 rfl (lv_at hl 1 rfl) ?_
  refine va_get (D := D) (ci := 2) (v := .int u3) (C := R_Br) (T := T_Br) (N := 4) hx hb hts in_Br hown hK hP 10 rfl rfl 0 (by decide) (hts _ fl_Mk_74) (fun _ h9 => h9) rfl d_Mk_follow_19 ?_
  refine lv_aload_n hx hb d_Mk_follow_22 rfl (lv_at hl 1 rfl) ?_
  refine va_get (D := D) (ci := 2) (v := .long wTail) (C := R_Br) (T := T_Br) (N := 4) hx hb hts in_Br hown hK hP 10 rfl rfl 1 (by decide) (hts _ fl_Mk_77) (fun _ h9 => h9) rfl d_Mk_follow_23 ?_
  obtain ⟨u5, eu5, hf⟩ := obd hf
  refine w_callA (va_runV (As := [.int u3, .long wTail]) (rest := []) ⟨hx, hb, hml, hown, hts⟩ (c_Mk_numberOf l H.size eu5) (gV 2 hts cd_Mk_numberOf ml_Mk_81 im_Mk_numberOf se_Mk_numberOf ini_Mk rfl rfl pd_Mk_numberOf ⟨Nat.le_trans (Nat.le_of_ble_eq_true rfl) hRf, Nat.le_trans (Nat.le_of_ble_eq_true rfl) hRl⟩) ⟨wPre_blind, va_recv hK (vaL hP) (ci := 6) (q0 := 0) rfl rfl, wPre_of (vaL hP) hK (vdL hD)⟩ rfl rfl hl.1 rfl (lv_room (Nat.le_of_ble_eq_true rfl)) d_Mk_follow_26 ⟨hRc, hRs⟩) (vdL hD) hS hA (fun g6 H1 locs hP1 hD1 hk1 hS1 => ?_)
  obtain ⟨hP, hD⟩ := va_keepR hP hD (va_sub (vdL hD) hS hA) hk1 hP1 hD1
  have hS := hS1
  generalize H1 = H at hP hS ⊢
  have hP : va_P D vwCl ((mkW K mq m0 m1 m2 m3 g6.1 g6.2 m7 m8 m9 u5.2.1 u5.2.2.1 kNext u5.2.2.2.1 u5.2.2.2.2 kClassOf kFinerOf kMarkOf kFirstOf kMarkSlots kClasses) ++ (brW K wq u3 wTail bSet bEnd)) H := hP
  have hD : va_D A ((mkW K mq m0 m1 m2 m3 g6.1 g6.2 m7 m8 m9 u5.2.1 u5.2.2.1 kNext u5.2.2.2.1 u5.2.2.2.2 kClassOf kFinerOf kMarkOf kFirstOf kMarkSlots kClasses) ++ (brW K wq u3 wTail bSet bEnd)) := hD
  refine lv_pop hx hb d_Mk_follow_29 rfl ?_
  refine lv_iconst (v := 0) hx hb d_Mk_follow_30 (by decide) ?_
  refine lv_istore_n (lv' := [(2, .int 0), (0, .ref mq), (1, .ref wq)]) hx hb d_Mk_follow_31 rfl hl (by decide) rfl (fun ls hl => ?_)
  obtain ⟨u31, eu31, hf⟩ := obd hf
  refine w_Mk_follow_Br_32 hx hb hml hts hown hK hX hRf hRl hRc hRs hA (fun r er m5 m6 pc ls H locs hd hP hD hS => Kr r (by subst er; exact (Option.some.inj hf).symm) m5 m6 pc ls H locs hd hP hD hS) (fun x31 eu m5 m6 ls H locs hP hD hS hl => ?_) _ _ _ _ _ _ _ _ eu31 _ _ _ _ _ hP hD hS (show lv_has ls 5 [(2, .int 0), (0, .ref mq), (1, .ref wq)] from lv_sub hl [0, 1, 2] rfl)
  subst eu
  replace hf := oel hf
  refine lv_iconst (v := 1) hx hb d_Mk_follow_117 (by decide) ?_
  exact Kr _ (Option.some.inj hf).symm _ _ _ _ _ _ d_Mk_follow_118 hP hD hS
set_option maxHeartbeats 4000000 in
set_option maxRecDepth 100000 in
theorem c_Mk_follow_Br (l : Launch)    {r : Bool × (Nat → Int32) × (Nat → Int64) × (Nat → Int32) × (Nat → Int32) × Int32 × Int32} (sz : Nat) (hf : f_Mk_follow_Br n kHeads kTails kNext kSlots wTail bSet = some r) : Met l y_Mk_follow w0_Mk_follow ({ frames := 2, cells := 0, slots := 0, locals := 50 }) (withX (wPre D K [.ref mq, .ref wq] ((mkW K mq m0 m1 m2 m3 m5 m6 m7 m8 m9 kHeads kTails kNext kSlots kReached kClassOf kFinerOf kMarkOf kFirstOf kMarkSlots kClasses) ++ (brW K wq wHead wTail bSet bEnd)) sz)) (wPostG D K (fun _ : Nat × Nat => (some (.int (bI r.1)))) (fun g => ((mkW K mq m0 m1 m2 m3 g.1 g.2 m7 m8 m9 r.2.1 r.2.2.1 r.2.2.2.1 r.2.2.2.2.1 r.2.2.2.2.2.1 kClassOf kFinerOf kMarkOf kFirstOf kMarkSlots kClasses) ++ (brW K wq r.2.2.2.2.2.2 wTail bSet bEnd))) (va_A ((mkW K mq m0 m1 m2 m3 m5 m6 m7 m8 m9 kHeads kTails kNext kSlots kReached kClassOf kFinerOf kMarkOf kFirstOf kMarkSlots kClasses) ++ (brW K wq wHead wTail bSet bEnd)) sz)) 0 0 (va_A ((mkW K mq m0 m1 m2 m3 m5 m6 m7 m8 m9 kHeads kTails kNext kSlots kReached kClassOf kFinerOf kMarkOf kFirstOf kMarkSlots kClasses) ++ (brW K wq wHead wTail bSet bEnd)) sz) := by
  refine Met.ofW (cc := b_Mk_follow) (maxL := 5) (ret := (some .boolean)) (by decide) rfl ?_
  intro p e s m args below meth c s₁ B hml hv
  obtain ⟨hv, hX⟩ := hv
  obtain ⟨rfl, hsz, hP, hK, hD0⟩ := hv
  subst hsz
  have hl := lv_entry [.ref mq, .ref wq] (n := 5) (Nat.le_of_ble_eq_true rfl)
  rw [lg_entry_eq]
  generalize (lg_sl [.ref mq, .ref wq] ++ List.replicate (5 - (lg_sl [.ref mq, .ref wq]).length) Slot.unset).toArray = ls at hl ⊢
  refine w_Mk_follow_Br (A := va_A ((mkW K mq m0 m1 m2 m3 m5 m6 m7 m8 m9 kHeads kTails kNext kSlots kReached kClassOf kFinerOf kMarkOf kFirstOf kMarkSlots kClasses) ++ (brW K wq wHead wTail bSet bEnd)) s.heap.size) (H0 := s.heap) B.exec B.bytes hml (fun w hw => atoms_spec (ws := w0_Mk_follow) B.pre w (List.mem_cons_of_mem _ hw)) (findClass_of_methodNamed B.named) hK hX (Nat.le_refl _) (Nat.le_refl _) (Nat.zero_le _) (Nat.zero_le _) (fun q h => Or.inr h) (fun r er m5 m6 pc ls H locs hd hP hD hS => ?_) hf ls hP (hD0.self (sz := s.heap.size)) va_S.rf hl
  subst er
  exact W.zret B.exec B.bytes B.returns (bI_nar _) (fun t ht hW => ⟨⟨(m5, m6), rfl, by rw [ht]; exact hP, va_K.moved hW.alike hK, hD⟩, hS.F ht⟩) hS.2.2 hd (hlocks := B.notSynchronized)
end
section
variable {p : Program} {l : Launch} {e : Env} {R : Room} {s : State} {m : MethodId} {args : Array Value} {below : List Frame} {meth : Method} {c : Code} {H : Heap} {locs : List Loc} {cells slots : Nat} {Q : State → Prop} {A : Nat → Prop} {H0 : Heap}
variable {n : Nat} {D : va_G} {K : Nat → ClassId} {mq : Nat} {m0 : Nat} {m1 : Nat} {m2 : Nat} {m3 : Nat} {m5 : Nat} {m6 : Nat} {m7 : Nat} {m8 : Nat} {m9 : Nat} {wq : Nat} {kHeads : Nat → Int32} {kTails : Nat → Int64} {kNext : Nat → Int32} {kSlots : Nat → Int32} {kReached : Int32} {kClassOf : Nat → Int32} {kFinerOf : Nat → Int32} {kMarkOf : Nat → Int32} {kFirstOf : Nat → Int32} {kMarkSlots : Nat → Int32} {kClasses : Int32} {wHead : Int32} {wTail : Int64} {bSet : Int32} {bEnd : Int32}
def f_Mk_splitByEnd_Br_7 (n : Nat) (kHeads : Nat → Int32) (kTails : Nat → Int64) (kReached : Int32) (bEnd : Int32) : Nat → Int32 → (Nat → Int32) → Int32 → Option (Int32 × (Nat → Int32) × Int32)
  | 0, _, _, _ => none
  | k + 1, v2, kClassOf, kClasses =>
    if kReached ≤ v2 then
      some (v2, kClassOf, kClasses)
    else
      ogd (gin v2 800) <|
      ogd (gin v2 800) <|
      (f_Br_endsAt n (kHeads v2.toNatClampNeg) (kTails v2.toNatClampNeg) bEnd).bind fun u17 =>
      if u17 = true then
        ogd (gin v2 800) <|
        ogd (gin v2 800) <|
        ogd (gin 0 800) <|
        if ((upd kClassOf v2.toNatClampNeg 1) v2.toNatClampNeg) = ((upd kClassOf v2.toNatClampNeg 1) (0 : Int32).toNatClampNeg) then
          f_Mk_splitByEnd_Br_7 n kHeads kTails kReached bEnd k (v2 + 1) (upd kClassOf v2.toNatClampNeg 1) kClasses
        else
          f_Mk_splitByEnd_Br_7 n kHeads kTails kReached bEnd k (v2 + 1) (upd kClassOf v2.toNatClampNeg 1) 2
      else
        ogd (gin v2 800) <|
        ogd (gin v2 800) <|
        ogd (gin 0 800) <|
        if ((upd kClassOf v2.toNatClampNeg 0) v2.toNatClampNeg) = ((upd kClassOf v2.toNatClampNeg 0) (0 : Int32).toNatClampNeg) then
          f_Mk_splitByEnd_Br_7 n kHeads kTails kReached bEnd k (v2 + 1) (upd kClassOf v2.toNatClampNeg 0) kClasses
        else
          f_Mk_splitByEnd_Br_7 n kHeads kTails kReached bEnd k (v2 + 1) (upd kClassOf v2.toNatClampNeg 0) 2
set_option maxHeartbeats 4000000 in
set_option maxRecDepth 100000 in
theorem w_Mk_splitByEnd_Br_7   (hx : p.tables.exec = Jvm.exec) (hb : c.code = b_Mk_splitByEnd) (hml : c.maxLocals = 3) (hts : ∀ w ∈ gW, w.before args s = true) (hown : s.vm.findClass "RegularSolver$Maker" = some m.cls) (hK : va_K D vwCl (tG K) s) (hX : gX s) (hRf : 1 ≤ R.frames) (hRl : 23 ≤ R.locals) (hRc : cells ≤ R.cells) (hRs : slots ≤ R.slots) (hA : ∀ q, H0.size ≤ q → A q)  {out : Int32 × (Nat → Int32) × Int32} (Kx : ∀ (u : Int32 × (Nat → Int32) × Int32), out = u → ∀ (m5 : Nat) (m6 : Nat), ∀ (ls : Array Slot) (H : Heap) (locs : List Loc), va_P D vwCl ((mkW K mq m0 m1 m2 m3 m5 m6 m7 m8 m9 kHeads kTails kNext kSlots kReached u.2.1 kFinerOf kMarkOf kFirstOf kMarkSlots u.2.2) ++ (brW K wq wHead wTail bSet bEnd)) H → va_D A ((mkW K mq m0 m1 m2 m3 m5 m6 m7 m8 m9 kHeads kTails kNext kSlots kReached u.2.1 kFinerOf kMarkOf kFirstOf kMarkSlots u.2.2) ++ (brW K wq wHead wTail bSet bEnd)) → va_S A H0 H locs → lv_has ls 3 [] → W p l e R s m args below meth c H locs cells slots Q (F0 m 71 ls [])) :
    ∀ (k : Nat) (v2 : Int32) (kClassOf : Nat → Int32) (kClasses : Int32), f_Mk_splitByEnd_Br_7 n kHeads kTails kReached bEnd k v2 kClassOf kClasses = some out → ∀ (m5 : Nat) (m6 : Nat), ∀ (ls : Array Slot) (H : Heap) (locs : List Loc), va_P D vwCl ((mkW K mq m0 m1 m2 m3 m5 m6 m7 m8 m9 kHeads kTails kNext kSlots kReached kClassOf kFinerOf kMarkOf kFirstOf kMarkSlots kClasses) ++ (brW K wq wHead wTail bSet bEnd)) H → va_D A ((mkW K mq m0 m1 m2 m3 m5 m6 m7 m8 m9 kHeads kTails kNext kSlots kReached kClassOf kFinerOf kMarkOf kFirstOf kMarkSlots kClasses) ++ (brW K wq wHead wTail bSet bEnd)) → va_S A H0 H locs → lv_has ls 3 [(2, .int v2), (0, .ref mq), (1, .ref wq)] → W p l e R s m args below meth c H locs cells slots Q (F0 m 7 ls []) := by
  intro k
  induction k with
  | zero => intro _ _ _ hf; exact nomatch (show none = some out from hf)
  | succ k ih =>
    intro v2 kClassOf kClasses hf m5 m6 ls H locs hP hD hS hl
    rw [f_Mk_splitByEnd_Br_7] at hf
    refine lv_iload_n hx hb d_Mk_splitByEnd_7 rfl (lv_at hl 0 rfl) ?_
    refine lv_aload_n hx hb d_Mk_splitByEnd_8 rfl (lv_at hl 1 rfl) ?_
    refine va_get (D := D) (ci := 6) (v := .int kReached) (C := R_Mk) (T := T_Mk) (N := 11) hx hb hts in_Mk hown hK hP 0 rfl rfl 4 (by decide) (hts _ fl_Mk_25) (fun _ h9 => h9) rfl d_Mk_splitByEnd_9 ?_
    refine lv_icmp_ge (tgt := 71) hx hb d_Mk_splitByEnd_12 (by decide) (fun c14 => ?_) (fun c14 => ?_)
    · rw [if_pos c14] at hf
      exact Kx _ (Option.some.inj hf).symm _ _ _ _ _ hP hD hS (show lv_has ls 3 [] from lv_sub hl [] rfl)
    · rw [if_neg c14] at hf
      refine lv_aload_n hx hb d_Mk_splitByEnd_15 rfl (lv_at hl 1 rfl) ?_
      refine va_get (D := D) (ci := 6) (v := .ref m5) (C := R_Mk) (T := T_Mk) (N := 11) hx hb hts in_Mk hown hK hP 0 rfl rfl 5 (by decide) (hts _ fl_Mk_29) (fun _ h9 => h9) rfl d_Mk_splitByEnd_16 ?_
      refine lv_iload_n hx hb d_Mk_splitByEnd_19 rfl (lv_at hl 0 rfl) ?_
      refine lv_aload_n hx hb d_Mk_splitByEnd_20 rfl (lv_at hl 2 rfl) ?_
      refine lv_aload_n hx hb d_Mk_splitByEnd_21 rfl (lv_at hl 1 rfl) ?_
      refine va_get (D := D) (ci := 6) (v := .ref m0) (C := R_Mk) (T := T_Mk) (N := 11) hx hb hts in_Mk hown hK hP 0 rfl rfl 0 (by decide) (hts _ fl_Mk_11) (fun _ h9 => h9) rfl d_Mk_splitByEnd_22 ?_
      refine lv_iload_n hx hb d_Mk_splitByEnd_25 rfl (lv_at hl 0 rfl) ?_
      obtain ⟨g15, hf⟩ := ogi hf
      refine va_iald hx hb hK hP 1 0 rfl rfl (gin_in g15) d_Mk_splitByEnd_26 ?_
      refine lv_aload_n hx hb d_Mk_splitByEnd_27 rfl (lv_at hl 1 rfl) ?_
      refine va_get (D := D) (ci := 6) (v := .ref m1) (C := R_Mk) (T := T_Mk) (N := 11) hx hb hts in_Mk hown hK hP 0 rfl rfl 1 (by decide) (hts _ fl_Mk_15) (fun _ h9 => h9) rfl d_Mk_splitByEnd_28 ?_
      refine lv_iload_n hx hb d_Mk_splitByEnd_31 rfl (lv_at hl 0 rfl) ?_
      obtain ⟨g16, hf⟩ := ogi hf
      refine va_lald hx hb hK hP 2 1 rfl rfl (gin_in g16) d_Mk_splitByEnd_32 ?_
      obtain ⟨u17, eu17, hf⟩ := obd hf
      refine p_call (va_Run.run (va_runU (As := [.int (kHeads v2.toNatClampNeg), .long (kTails v2.toNatClampNeg)]) (rest := [.int v2, .ref m5]) ⟨hx, hb, hml, hown, hts⟩ (c_Br_endsAt l eu17) (gA (owner := "RegularSolver$Way") 2 hts hX cd_Br_endsAt ml_Mk_95 im_Br_endsAt sm_endsAt sa_Br_endsAt ini_Br (by decide +kernel) rfl rfl (by decide +kernel) ⟨Nat.le_trans (Nat.le_of_ble_eq_true rfl) hRf, Nat.le_trans (Nat.le_of_ble_eq_true rfl) hRl⟩) ⟨pPre_blind, va_recv hK (vaR hP) (ci := 2) (q0 := 0) rfl rfl, pPre_of (vaR hP) hK⟩ rfl rfl hl.1 rfl (lv_room (Nat.le_of_ble_eq_true rfl)) d_Mk_splitByEnd_33 ⟨hRc, hRs⟩)) ?_
      refine bz_eq (tgt := 43) hx hb d_Mk_splitByEnd_36 (by decide) (fun c18 => ?_) (fun c18 => ?_)
      · rw [if_neg c18] at hf
        refine lv_iconst (v := 0) hx hb d_Mk_splitByEnd_43 (by decide) ?_
        obtain ⟨g19, hf⟩ := ogi hf
        refine va_iast hx hb hK hP hD hS 5 0 rfl rfl (gin_in g19) d_Mk_splitByEnd_44 (fun H locs hP hD hS => ?_)
        have hP : va_P D vwCl ((mkW K mq m0 m1 m2 m3 m5 m6 m7 m8 m9 kHeads kTails kNext kSlots kReached (upd kClassOf v2.toNatClampNeg 0) kFinerOf kMarkOf kFirstOf kMarkSlots kClasses) ++ (brW K wq wHead wTail bSet bEnd)) H := hP
        have hD : va_D A ((mkW K mq m0 m1 m2 m3 m5 m6 m7 m8 m9 kHeads kTails kNext kSlots kReached (upd kClassOf v2.toNatClampNeg 0) kFinerOf kMarkOf kFirstOf kMarkSlots kClasses) ++ (brW K wq wHead wTail bSet bEnd)) := hD
        refine lv_aload_n hx hb d_Mk_splitByEnd_45 rfl (lv_at hl 1 rfl) ?_
        refine va_get (D := D) (ci := 6) (v := .ref m5) (C := R_Mk) (T := T_Mk) (N := 11) hx hb hts in_Mk hown hK hP 0 rfl rfl 5 (by decide) (hts _ fl_Mk_29) (fun _ h9 => h9) rfl d_Mk_splitByEnd_46 ?_
        refine lv_iload_n hx hb d_Mk_splitByEnd_49 rfl (lv_at hl 0 rfl) ?_
        obtain ⟨g20, hf⟩ := ogi hf
        refine va_iald hx hb hK hP 5 0 rfl rfl (gin_in g20) d_Mk_splitByEnd_50 ?_
        refine lv_aload_n hx hb d_Mk_splitByEnd_51 rfl (lv_at hl 1 rfl) ?_
        refine va_get (D := D) (ci := 6) (v := .ref m5) (C := R_Mk) (T := T_Mk) (N := 11) hx hb hts in_Mk hown hK hP 0 rfl rfl 5 (by decide) (hts _ fl_Mk_29) (fun _ h9 => h9) rfl d_Mk_splitByEnd_52 ?_
        refine lv_iconst (v := 0) hx hb d_Mk_splitByEnd_55 (by decide) ?_
        obtain ⟨g21, hf⟩ := ogi hf
        refine va_iald hx hb hK hP 5 0 rfl rfl (gin_in g21) d_Mk_splitByEnd_56 ?_
        refine lv_icmp_eq (tgt := 65) hx hb d_Mk_splitByEnd_57 (by decide) (fun c22 => ?_) (fun c22 => ?_)
        · rw [if_pos c22] at hf
          refine lv_iinc (v := v2 + 1) (lv' := [(2, .int (v2 + 1)), (0, .ref mq), (1, .ref wq)]) hx hb d_Mk_splitByEnd_65 hl (k := 0) rfl (by first | rfl | (congr 1)) (by decide) rfl (fun ls hl => ?_)
          refine lv_goto (tgt := 7) hx hb d_Mk_splitByEnd_68 (by decide) ?_
          exact ih _ _ _ hf _ _ _ _ _ hP hD hS (show lv_has ls 3 [(2, .int (v2 + 1)), (0, .ref mq), (1, .ref wq)] from lv_sub hl [0, 1, 2] rfl)
        · rw [if_neg c22] at hf
          refine lv_aload_n hx hb d_Mk_splitByEnd_60 rfl (lv_at hl 1 rfl) ?_
          refine lv_iconst (v := 2) hx hb d_Mk_splitByEnd_61 (by decide) ?_
          refine va_put (D := D) (ci := 6) (v := .int 2) (ty := .int) (C := R_Mk) (T := T_Mk) (N := 11) hx hb hts in_Mk t_Mk t_Mk_ok n_Mk hown hK hP hD hS 0 rfl rfl 10 (by decide) (hts _ fl_Mk_44) (fun _ h9 => h9) rfl (by decide +kernel) rfl rfl (Nat.le_of_ble_eq_true rfl) d_Mk_splitByEnd_62 (fun H locs hP hD hS => ?_)
          have hP : va_P D vwCl ((mkW K mq m0 m1 m2 m3 m5 m6 m7 m8 m9 kHeads kTails kNext kSlots kReached (upd kClassOf v2.toNatClampNeg 0) kFinerOf kMarkOf kFirstOf kMarkSlots 2) ++ (brW K wq wHead wTail bSet bEnd)) H := hP
          have hD : va_D A ((mkW K mq m0 m1 m2 m3 m5 m6 m7 m8 m9 kHeads kTails kNext kSlots kReached (upd kClassOf v2.toNatClampNeg 0) kFinerOf kMarkOf kFirstOf kMarkSlots 2) ++ (brW K wq wHead wTail bSet bEnd)) := hD
          refine lv_iinc (v := v2 + 1) (lv' := [(2, .int (v2 + 1)), (0, .ref mq), (1, .ref wq)]) hx hb d_Mk_splitByEnd_65 hl (k := 0) rfl (by first | rfl | (congr 1)) (by decide) rfl (fun ls hl => ?_)
          refine lv_goto (tgt := 7) hx hb d_Mk_splitByEnd_68 (by decide) ?_
          exact ih _ _ _ hf _ _ _ _ _ hP hD hS (show lv_has ls 3 [(2, .int (v2 + 1)), (0, .ref mq), (1, .ref wq)] from lv_sub hl [0, 1, 2] rfl)
      · rw [if_pos c18] at hf
        refine lv_iconst (v := 1) hx hb d_Mk_splitByEnd_39 (by decide) ?_
        refine lv_goto (tgt := 44) hx hb d_Mk_splitByEnd_40 (by decide) ?_
        obtain ⟨g23, hf⟩ := ogi hf
        refine va_iast hx hb hK hP hD hS 5 0 rfl rfl (gin_in g23) d_Mk_splitByEnd_44 (fun H locs hP hD hS => ?_)
        have hP : va_P D vwCl ((mkW K mq m0 m1 m2 m3 m5 m6 m7 m8 m9 kHeads kTails kNext kSlots kReached (upd kClassOf v2.toNatClampNeg 1) kFinerOf kMarkOf kFirstOf kMarkSlots kClasses) ++ (brW K wq wHead wTail bSet bEnd)) H := hP
        have hD : va_D A ((mkW K mq m0 m1 m2 m3 m5 m6 m7 m8 m9 kHeads kTails kNext kSlots kReached (upd kClassOf v2.toNatClampNeg 1) kFinerOf kMarkOf kFirstOf kMarkSlots kClasses) ++ (brW K wq wHead wTail bSet bEnd)) := hD
        refine lv_aload_n hx hb d_Mk_splitByEnd_45 rfl (lv_at hl 1 rfl) ?_
        refine va_get (D := D) (ci := 6) (v := .ref m5) (C := R_Mk) (T := T_Mk) (N := 11) hx hb hts in_Mk hown hK hP 0 rfl rfl 5 (by decide) (hts _ fl_Mk_29) (fun _ h9 => h9) rfl d_Mk_splitByEnd_46 ?_
        refine lv_iload_n hx hb d_Mk_splitByEnd_49 rfl (lv_at hl 0 rfl) ?_
        obtain ⟨g24, hf⟩ := ogi hf
        refine va_iald hx hb hK hP 5 0 rfl rfl (gin_in g24) d_Mk_splitByEnd_50 ?_
        refine lv_aload_n hx hb d_Mk_splitByEnd_51 rfl (lv_at hl 1 rfl) ?_
        refine va_get (D := D) (ci := 6) (v := .ref m5) (C := R_Mk) (T := T_Mk) (N := 11) hx hb hts in_Mk hown hK hP 0 rfl rfl 5 (by decide) (hts _ fl_Mk_29) (fun _ h9 => h9) rfl d_Mk_splitByEnd_52 ?_
        refine lv_iconst (v := 0) hx hb d_Mk_splitByEnd_55 (by decide) ?_
        obtain ⟨g25, hf⟩ := ogi hf
        refine va_iald hx hb hK hP 5 0 rfl rfl (gin_in g25) d_Mk_splitByEnd_56 ?_
        refine lv_icmp_eq (tgt := 65) hx hb d_Mk_splitByEnd_57 (by decide) (fun c26 => ?_) (fun c26 => ?_)
        · rw [if_pos c26] at hf
          refine lv_iinc (v := v2 + 1) (lv' := [(2, .int (v2 + 1)), (0, .ref mq), (1, .ref wq)]) hx hb d_Mk_splitByEnd_65 hl (k := 0) rfl (by first | rfl | (congr 1)) (by decide) rfl (fun ls hl => ?_)
          refine lv_goto (tgt := 7) hx hb d_Mk_splitByEnd_68 (by decide) ?_
          exact ih _ _ _ hf _ _ _ _ _ hP hD hS (show lv_has ls 3 [(2, .int (v2 + 1)), (0, .ref mq), (1, .ref wq)] from lv_sub hl [0, 1, 2] rfl)
        · rw [if_neg c26] at hf
          refine lv_aload_n hx hb d_Mk_splitByEnd_60 rfl (lv_at hl 1 rfl) ?_
          refine lv_iconst (v := 2) hx hb d_Mk_splitByEnd_61 (by decide) ?_
          refine va_put (D := D) (ci := 6) (v := .int 2) (ty := .int) (C := R_Mk) (T := T_Mk) (N := 11) hx hb hts in_Mk t_Mk t_Mk_ok n_Mk hown hK hP hD hS 0 rfl rfl 10 (by decide) (hts _ fl_Mk_44) (fun _ h9 => h9) rfl (by decide +kernel) rfl rfl (Nat.le_of_ble_eq_true rfl) d_Mk_splitByEnd_62 (fun H locs hP hD hS => ?_)
          have hP : va_P D vwCl ((mkW K mq m0 m1 m2 m3 m5 m6 m7 m8 m9 kHeads kTails kNext kSlots kReached (upd kClassOf v2.toNatClampNeg 1) kFinerOf kMarkOf kFirstOf kMarkSlots 2) ++ (brW K wq wHead wTail bSet bEnd)) H := hP
          have hD : va_D A ((mkW K mq m0 m1 m2 m3 m5 m6 m7 m8 m9 kHeads kTails kNext kSlots kReached (upd kClassOf v2.toNatClampNeg 1) kFinerOf kMarkOf kFirstOf kMarkSlots 2) ++ (brW K wq wHead wTail bSet bEnd)) := hD
          refine lv_iinc (v := v2 + 1) (lv' := [(2, .int (v2 + 1)), (0, .ref mq), (1, .ref wq)]) hx hb d_Mk_splitByEnd_65 hl (k := 0) rfl (by first | rfl | (congr 1)) (by decide) rfl (fun ls hl => ?_)
          refine lv_goto (tgt := 7) hx hb d_Mk_splitByEnd_68 (by decide) ?_
          exact ih _ _ _ hf _ _ _ _ _ hP hD hS (show lv_has ls 3 [(2, .int (v2 + 1)), (0, .ref mq), (1, .ref wq)] from lv_sub hl [0, 1, 2] rfl)
def f_Mk_splitByEnd_Br (n : Nat) (kHeads : Nat → Int32) (kTails : Nat → Int64) (kReached : Int32) (kClassOf : Nat → Int32) (bEnd : Int32) : Option ((Nat → Int32) × Int32) :=
  (f_Mk_splitByEnd_Br_7 n kHeads kTails kReached bEnd n 0 kClassOf 1).bind fun u27 =>
  some (u27.2.1, u27.2.2)
set_option maxHeartbeats 4000000 in
set_option maxRecDepth 100000 in
theorem w_Mk_splitByEnd_Br    (hx : p.tables.exec = Jvm.exec) (hb : c.code = b_Mk_splitByEnd) (hml : c.maxLocals = 3) (hts : ∀ w ∈ gW, w.before args s = true) (hown : s.vm.findClass "RegularSolver$Maker" = some m.cls) (hK : va_K D vwCl (tG K) s) (hX : gX s) (hRf : 1 ≤ R.frames) (hRl : 23 ≤ R.locals) (hRc : cells ≤ R.cells) (hRs : slots ≤ R.slots) (hA : ∀ q, H0.size ≤ q → A q) {out : (Nat → Int32) × Int32} (Kr : ∀ (r : (Nat → Int32) × Int32), out = r → ∀ (m5 : Nat) (m6 : Nat), ∀ (pc : Nat) (ls : Array Slot) (H : Heap) (locs : List Loc), decode b_Mk_splitByEnd pc = .ok (.return_, 1) → va_P D vwCl ((mkW K mq m0 m1 m2 m3 m5 m6 m7 m8 m9 kHeads kTails kNext kSlots kReached r.1 kFinerOf kMarkOf kFirstOf kMarkSlots r.2) ++ (brW K wq wHead wTail bSet bEnd)) H → va_D A ((mkW K mq m0 m1 m2 m3 m5 m6 m7 m8 m9 kHeads kTails kNext kSlots kReached r.1 kFinerOf kMarkOf kFirstOf kMarkSlots r.2) ++ (brW K wq wHead wTail bSet bEnd)) → va_S A H0 H locs → W p l e R s m args below meth c H locs cells slots Q (F0 m pc ls [])) (hf : f_Mk_splitByEnd_Br n kHeads kTails kReached kClassOf bEnd = some out) (ls : Array Slot) (hP : va_P D vwCl ((mkW K mq m0 m1 m2 m3 m5 m6 m7 m8 m9 kHeads kTails kNext kSlots kReached kClassOf kFinerOf kMarkOf kFirstOf kMarkSlots kClasses) ++ (brW K wq wHead wTail bSet bEnd)) H) (hD : va_D A ((mkW K mq m0 m1 m2 m3 m5 m6 m7 m8 m9 kHeads kTails kNext kSlots kReached kClassOf kFinerOf kMarkOf kFirstOf kMarkSlots kClasses) ++ (brW K wq wHead wTail bSet bEnd))) (hS : va_S A H0 H locs) (hl : lv_has ls 3 [(0, .ref mq), (1, .ref wq)]) : W p l e R s m args below meth c H locs cells slots Q (F0 m 0 ls []) := by
  unfold f_Mk_splitByEnd_Br at hf
  refine lv_aload_n hx hb d_Mk_splitByEnd_0 rfl (lv_at hl 0 rfl) ?_
  refine lv_iconst (v := 1) hx hb d_Mk_splitByEnd_1 (by decide) ?_
  refine va_put (D := D) (ci := 6) (v := .int 1) (ty := .int) (C := R_Mk) (T := T_Mk) (N := 11) hx hb hts in_Mk t_Mk t_Mk_ok n_Mk hown hK hP hD hS 0 rfl rfl 10 (by decide) (hts _ fl_Mk_44) (fun _ h9 => h9) rfl (by decide +kernel) rfl rfl (Nat.le_of_ble_eq_true rfl) d_Mk_splitByEnd_2 (fun H locs hP hD hS => ?_)
  have hP : va_P D vwCl ((mkW K mq m0 m1 m2 m3 m5 m6 m7 m8 m9 kHeads kTails kNext kSlots kReached kClassOf kFinerOf kMarkOf kFirstOf kMarkSlots 1) ++ (brW K wq wHead wTail bSet bEnd)) H := hP
  have hD : va_D A ((mkW K mq m0 m1 m2 m3 m5 m6 m7 m8 m9 kHeads kTails kNext kSlots kReached kClassOf kFinerOf kMarkOf kFirstOf kMarkSlots 1) ++ (brW K wq wHead wTail bSet bEnd)) := hD
  refine lv_iconst (v := 0) hx hb d_Mk_splitByEnd_5 (by decide) ?_
  refine lv_istore_n (lv' := [(2, .int 0), (0, .ref mq), (1, .ref wq)]) hx hb d_Mk_splitByEnd_6 rfl hl (by decide) rfl (fun ls hl => ?_)
  obtain ⟨u27, eu27, hf⟩ := obd hf
  refine w_Mk_splitByEnd_Br_7 hx hb hml hts hown hK hX hRf hRl hRc hRs hA  (fun u27q eu m5 m6 ls H locs hP hD hS hl => ?_) _ _ _ _ eu27 _ _ _ _ _ hP hD hS (show lv_has ls 3 [(2, .int 0), (0, .ref mq), (1, .ref wq)] from lv_sub hl [0, 1, 2] rfl)
  subst eu
  exact Kr _ (Option.some.inj hf).symm _ _ _ _ _ _ d_Mk_splitByEnd_71 hP hD hS
set_option maxHeartbeats 4000000 in
set_option maxRecDepth 100000 in
theorem c_Mk_splitByEnd_Br (l : Launch)    {r : (Nat → Int32) × Int32} (sz : Nat) (hf : f_Mk_splitByEnd_Br n kHeads kTails kReached kClassOf bEnd = some r) : Met l y_Mk_splitByEnd w0_Mk_splitByEnd ({ frames := 1, cells := 0, slots := 0, locals := 23 }) (withX (wPre D K [.ref mq, .ref wq] ((mkW K mq m0 m1 m2 m3 m5 m6 m7 m8 m9 kHeads kTails kNext kSlots kReached kClassOf kFinerOf kMarkOf kFirstOf kMarkSlots kClasses) ++ (brW K wq wHead wTail bSet bEnd)) sz)) (wPostG D K (fun _ : Nat × Nat => none) (fun g => ((mkW K mq m0 m1 m2 m3 g.1 g.2 m7 m8 m9 kHeads kTails kNext kSlots kReached r.1 kFinerOf kMarkOf kFirstOf kMarkSlots r.2) ++ (brW K wq wHead wTail bSet bEnd))) (va_A ((mkW K mq m0 m1 m2 m3 m5 m6 m7 m8 m9 kHeads kTails kNext kSlots kReached kClassOf kFinerOf kMarkOf kFirstOf kMarkSlots kClasses) ++ (brW K wq wHead wTail bSet bEnd)) sz)) 0 0 (va_A ((mkW K mq m0 m1 m2 m3 m5 m6 m7 m8 m9 kHeads kTails kNext kSlots kReached kClassOf kFinerOf kMarkOf kFirstOf kMarkSlots kClasses) ++ (brW K wq wHead wTail bSet bEnd)) sz) := by
  refine Met.ofW (cc := b_Mk_splitByEnd) (maxL := 3) (ret := none) (by decide) rfl ?_
  intro p e s m args below meth c s₁ B hml hv
  obtain ⟨hv, hX⟩ := hv
  obtain ⟨rfl, hsz, hP, hK, hD0⟩ := hv
  subst hsz
  have hl := lv_entry [.ref mq, .ref wq] (n := 3) (Nat.le_of_ble_eq_true rfl)
  rw [lg_entry_eq]
  generalize (lg_sl [.ref mq, .ref wq] ++ List.replicate (3 - (lg_sl [.ref mq, .ref wq]).length) Slot.unset).toArray = ls at hl ⊢
  refine w_Mk_splitByEnd_Br (A := va_A ((mkW K mq m0 m1 m2 m3 m5 m6 m7 m8 m9 kHeads kTails kNext kSlots kReached kClassOf kFinerOf kMarkOf kFirstOf kMarkSlots kClasses) ++ (brW K wq wHead wTail bSet bEnd)) s.heap.size) (H0 := s.heap) B.exec B.bytes hml (fun w hw => atoms_spec (ws := w0_Mk_splitByEnd) B.pre w (List.mem_cons_of_mem _ hw)) (findClass_of_methodNamed B.named) hK hX (Nat.le_refl _) (Nat.le_refl _) (Nat.zero_le _) (Nat.zero_le _) (fun q h => Or.inr h) (fun r er m5 m6 pc ls H locs hd hP hD hS => ?_) hf ls hP (hD0.self (sz := s.heap.size)) va_S.rf hl
  subst er
  exact W.vret B.exec B.bytes B.returns (fun t ht hW => ⟨⟨(m5, m6), rfl, by rw [ht]; exact hP, va_K.moved hW.alike hK, hD⟩, hS.F ht⟩) hS.2.2 hd (hlocks := B.notSynchronized)
end
