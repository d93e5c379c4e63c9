/-- an automaton that was made, or none: states, last, next, ahead -/
abbrev auP : Type := Int32 × Int64 × (Nat → Int32) × (Nat → Int64)
def auV (o : Option auP) (q : Nat) : Value := match o with
  | none => .null
  | some _ => .ref q
def auO (K : Nat → ClassId) (o : Option auP) (q an aa : Nat) : va_W := match o with
  | none => []
  | some v => auW K q an aa v.1 (4 * v.1).toNatClampNeg v.2.2.1 v.2.1 v.2.2.2
theorem oqN {α β : Type} {w : Option β} {a : Option α} {y : α} (h : oq w a (fun _ => none) = some y) : w = none ∧ a = some y := by
  cases w with
  | none => exact ⟨rfl, h⟩
  | some q => exact nomatch h

abbrev b_Mk_make : ByteArray := prog_7_method_2_code
def y_Mk_make : MethodName := ⟨"RegularSolver$Maker", "make", "(LRegularSolver$Way;)LRegularSolver$Automaton;"⟩
abbrev w0_Mk_make : List Cond := Cond.code y_Mk_make b_Mk_make 2 (some (.object "RegularSolver$Automaton")) :: gW
theorem cd_Mk_make : Cond.code y_Mk_make b_Mk_make 2 (some (.object "RegularSolver$Automaton")) ∈ gW := gm 314 (by decide +kernel) (by decide +kernel)
theorem d_Mk_make_0 : decode b_Mk_make 0 = .ok (.aload_n 0, 1) := by decide +kernel
theorem d_Mk_make_1 : decode b_Mk_make 1 = .ok (.aload_n 1, 1) := by decide +kernel
theorem d_Mk_make_2 : decode b_Mk_make 2 = .ok (.invokevirtual 47, 3) := by decide +kernel
theorem d_Mk_make_5 : decode b_Mk_make 5 = .ok (.ifCond .ne 5, 3) := by decide +kernel
theorem d_Mk_make_8 : decode b_Mk_make 8 = .ok (.aconst_null, 1) := by decide +kernel
theorem d_Mk_make_9 : decode b_Mk_make 9 = .ok (.areturn, 1) := by decide +kernel
theorem d_Mk_make_10 : decode b_Mk_make 10 = .ok (.aload_n 0, 1) := by decide +kernel
theorem d_Mk_make_11 : decode b_Mk_make 11 = .ok (.aload_n 1, 1) := by decide +kernel
theorem d_Mk_make_12 : decode b_Mk_make 12 = .ok (.invokevirtual 51, 3) := by decide +kernel
theorem d_Mk_make_15 : decode b_Mk_make 15 = .ok (.aload_n 0, 1) := by decide +kernel
theorem d_Mk_make_16 : decode b_Mk_make 16 = .ok (.invokevirtual 55, 3) := by decide +kernel
theorem d_Mk_make_19 : decode b_Mk_make 19 = .ok (.ifCond .ne 5, 3) := by decide +kernel
theorem d_Mk_make_22 : decode b_Mk_make 22 = .ok (.aconst_null, 1) := by decide +kernel
theorem d_Mk_make_23 : decode b_Mk_make 23 = .ok (.areturn, 1) := by decide +kernel
theorem d_Mk_make_24 : decode b_Mk_make 24 = .ok (.aload_n 0, 1) := by decide +kernel
theorem d_Mk_make_25 : decode b_Mk_make 25 = .ok (.aload_n 1, 1) := by decide +kernel
theorem d_Mk_make_26 : decode b_Mk_make 26 = .ok (.invokevirtual 59, 3) := by decide +kernel
theorem d_Mk_make_29 : decode b_Mk_make 29 = .ok (.areturn, 1) := by decide +kernel
theorem pd_Mk_make : y_Mk_make.cls ≠ "java/lang/invoke/MethodHandle" ∧ y_Mk_make.cls ≠ "java/lang/invoke/VarHandle" ∧ (parseMethodDescriptor y_Mk_make.desc).map (fun d => d.parameters.length) = some 1 := by decide +kernel
theorem ml_Mk_47 : (Cond.methodLink "RegularSolver$Maker" 47 ({ cls := "RegularSolver$Maker", name := "follow", desc := "(LRegularSolver$Way;)Z" } : MethodName)) ∈ gW := gm 315 (by decide +kernel) (by decide +kernel)
theorem im_Mk_follow : (Cond.instanceMethod ({ cls := "RegularSolver$Maker", name := "follow", desc := "(LRegularSolver$Way;)Z" } : MethodName)) ∈ gW := gm 317 (by decide +kernel) (by decide +kernel)
theorem se_Mk_follow : (Cond.selects "RegularSolver$Maker" ({ cls := "RegularSolver$Maker", name := "follow", desc := "(LRegularSolver$Way;)Z" } : MethodName) ({ cls := "RegularSolver$Maker", name := "follow", desc := "(LRegularSolver$Way;)Z" } : MethodName)) ∈ gW := gs (by decide +kernel) (by decide +kernel)
theorem ml_Mk_51 : (Cond.methodLink "RegularSolver$Maker" 51 ({ cls := "RegularSolver$Maker", name := "splitByEnd", desc := "(LRegularSolver$Way;)V" } : MethodName)) ∈ gW := gm 389 (by decide +kernel) (by decide +kernel)
theorem im_Mk_splitByEnd : (Cond.instanceMethod ({ cls := "RegularSolver$Maker", name := "splitByEnd", desc := "(LRegularSolver$Way;)V" } : MethodName)) ∈ gW := gm 391 (by decide +kernel) (by decide +kernel)
theorem se_Mk_splitByEnd : (Cond.selects "RegularSolver$Maker" ({ cls := "RegularSolver$Maker", name := "splitByEnd", desc := "(LRegularSolver$Way;)V" } : MethodName) ({ cls := "RegularSolver$Maker", name := "splitByEnd", desc := "(LRegularSolver$Way;)V" } : MethodName)) ∈ gW := gs (by decide +kernel) (by decide +kernel)
theorem ml_Mk_55 : (Cond.methodLink "RegularSolver$Maker" 55 ({ cls := "RegularSolver$Maker", name := "splitToTheEnd", desc := "()Z" } : MethodName)) ∈ gW := gm 408 (by decide +kernel) (by decide +kernel)
theorem im_Mk_splitToTheEnd : (Cond.instanceMethod ({ cls := "RegularSolver$Maker", name := "splitToTheEnd", desc := "()Z" } : MethodName)) ∈ gW := gm 410 (by decide +kernel) (by decide +kernel)
theorem se_Mk_splitToTheEnd : (Cond.selects "RegularSolver$Maker" ({ cls := "RegularSolver$Maker", name := "splitToTheEnd", desc := "()Z" } : MethodName) ({ cls := "RegularSolver$Maker", name := "splitToTheEnd", desc := "()Z" } : MethodName)) ∈ gW := gs (by decide +kernel) (by decide +kernel)
theorem ml_Mk_59 : (Cond.methodLink "RegularSolver$Maker" 59 ({ cls := "RegularSolver$Maker", name := "joined", desc := "(LRegularSolver$Way;)LRegularSolver$Automaton;" } : MethodName)) ∈ gW := gm 429 (by decide +kernel) (by decide +kernel)
theorem im_Mk_joined : (Cond.instanceMethod ({ cls := "RegularSolver$Maker", name := "joined", desc := "(LRegularSolver$Way;)LRegularSolver$Automaton;" } : MethodName)) ∈ gW := gm 431 (by decide +kernel) (by decide +kernel)
theorem se_Mk_joined : (Cond.selects "RegularSolver$Maker" ({ cls := "RegularSolver$Maker", name := "joined", desc := "(LRegularSolver$Way;)LRegularSolver$Automaton;" } : MethodName) ({ cls := "RegularSolver$Maker", name := "joined", desc := "(LRegularSolver$Way;)LRegularSolver$Automaton;" } : MethodName)) ∈ gW := gs (by decide +kernel) (by decide +kernel)
section
variable {p : Program} {l : Launch} {e : Env} {R : Room} {s : State} {m : MethodId} {args : Array Value} {below : List Frame} {meth : Method} {c : Code} {H : Heap} {locs : List Loc} {cells slots : Nat} {Q : State → Prop} {A : Nat → Prop} {H0 : Heap}
variable {n : Nat} {D : va_G} {K : Nat → ClassId} {mq : Nat} {m0 : Nat} {m1 : Nat} {m2 : Nat} {m3 : Nat} {m5 : Nat} {m6 : Nat} {m7 : Nat} {m8 : Nat} {m9 : Nat} {wq : Nat} {kHeads : Nat → Int32} {kTails : Nat → Int64} {kNext : Nat → Int32} {kSlots : Nat → Int32} {kReached : Int32} {kClassOf : Nat → Int32} {kFinerOf : Nat → Int32} {kMarkOf : Nat → Int32} {kFirstOf : Nat → Int32} {kMarkSlots : Nat → Int32} {kClasses : Int32} {wHead : Int32} {wTail : Int64} {bSet : Int32} {bEnd : Int32}
def f_Mk_make_Br (n : Nat) (kHeads : Nat → Int32) (kTails : Nat → Int64) (kNext : Nat → Int32) (kSlots : Nat → Int32) (kClassOf : Nat → Int32) (kFinerOf : Nat → Int32) (kMarkOf : Nat → Int32) (kFirstOf : Nat → Int32) (kMarkSlots : Nat → Int32) (kClasses : Int32) (wTail : Int64) (bSet : Int32) (bEnd : Int32) : Option ((Option Nat × (Nat → Int32) × (Nat → Int64) × (Nat → Int32) × (Nat → Int32) × Int32 × (Nat → Int32) × (Nat → Int32) × (Nat → Int32) × (Nat → Int32) × (Nat → Int32) × Int32 × Int32) ⊕ ((Nat → Int32) × (Nat → Int64) × (Nat → Int32) × (Nat → Int32) × Int32 × (Nat → Int32) × (Nat → Int32) × (Nat → Int32) × (Nat → Int32) × (Nat → Int32) × Int32 × Int32)) :=
  (f_Mk_follow_Br n kHeads kTails kNext kSlots wTail bSet).bind fun u1 =>
  if u1.1 = true then
    (f_Mk_splitByEnd_Br n u1.2.1 u1.2.2.1 u1.2.2.2.2.2.1 kClassOf bEnd).bind fun u4 =>
    (f_Mk_splitToTheEnd n u1.2.2.2.1 u1.2.2.2.2.2.1 u4.1 kFinerOf kMarkOf kFirstOf kMarkSlots u4.2).bind fun u6 =>
    if u6.1 = true then
      some (.inr (u1.2.1, u1.2.2.1, u1.2.2.2.1, u1.2.2.2.2.1, u1.2.2.2.2.2.1, u6.2.1, u6.2.2.1, u6.2.2.2.1, u6.2.2.2.2.1, u6.2.2.2.2.2.1, u6.2.2.2.2.2.2, u1.2.2.2.2.2.2))
    else
      some (.inl (none, u1.2.1, u1.2.2.1, u1.2.2.2.1, u1.2.2.2.2.1, u1.2.2.2.2.2.1, u6.2.1, u6.2.2.1, u6.2.2.2.1, u6.2.2.2.2.1, u6.2.2.2.2.2.1, u6.2.2.2.2.2.2, u1.2.2.2.2.2.2))
  else
    some (.inl (none, u1.2.1, u1.2.2.1, u1.2.2.2.1, u1.2.2.2.2.1, u1.2.2.2.2.2.1, kClassOf, kFinerOf, kMarkOf, kFirstOf, kMarkSlots, kClasses, u1.2.2.2.2.2.2))
set_option maxHeartbeats 4000000 in
set_option maxRecDepth 100000 in
theorem w_Mk_make_Br  (hx : p.tables.exec = Jvm.exec) (hb : c.code = b_Mk_make) (hml : c.maxLocals = 2) (hts : ∀ w ∈ gW, w.before args s = true) (hown : s.vm.findClass "RegularSolver$Maker" = some m.cls) (hK : va_K D vwCl (tG K) s) (hX : gX s) (hRf : 4 ≤ R.frames) (hRl : 92 ≤ R.locals) (hRc : cells ≤ R.cells) (hRs : slots ≤ R.slots) (hA : ∀ q, H0.size ≤ q → A q) {out : (Option Nat × (Nat → Int32) × (Nat → Int64) × (Nat → Int32) × (Nat → Int32) × Int32 × (Nat → Int32) × (Nat → Int32) × (Nat → Int32) × (Nat → Int32) × (Nat → Int32) × Int32 × Int32) ⊕ ((Nat → Int32) × (Nat → Int64) × (Nat → Int32) × (Nat → Int32) × Int32 × (Nat → Int32) × (Nat → Int32) × (Nat → Int32) × (Nat → Int32) × (Nat → Int32) × Int32 × Int32)} (Kr : ∀ (r : Option Nat × (Nat → Int32) × (Nat → Int64) × (Nat → Int32) × (Nat → Int32) × Int32 × (Nat → Int32) × (Nat → Int32) × (Nat → Int32) × (Nat → Int32) × (Nat → Int32) × Int32 × Int32), out = .inl r → ∀ (m5 : Nat) (m6 : Nat), ∀ (pc : Nat) (ls : Array Slot) (H : Heap) (locs : List Loc), decode b_Mk_make pc = .ok (.areturn, 1) → va_P D vwCl ((mkW K mq m0 m1 m2 m3 m5 m6 m7 m8 m9 r.2.1 r.2.2.1 r.2.2.2.1 r.2.2.2.2.1 r.2.2.2.2.2.1 r.2.2.2.2.2.2.1 r.2.2.2.2.2.2.2.1 r.2.2.2.2.2.2.2.2.1 r.2.2.2.2.2.2.2.2.2.1 r.2.2.2.2.2.2.2.2.2.2.1 r.2.2.2.2.2.2.2.2.2.2.2.1) ++ (brW K wq r.2.2.2.2.2.2.2.2.2.2.2.2 wTail bSet bEnd)) H → va_D A ((mkW K mq m0 m1 m2 m3 m5 m6 m7 m8 m9 r.2.1 r.2.2.1 r.2.2.2.1 r.2.2.2.2.1 r.2.2.2.2.2.1 r.2.2.2.2.2.2.1 r.2.2.2.2.2.2.2.1 r.2.2.2.2.2.2.2.2.1 r.2.2.2.2.2.2.2.2.2.1 r.2.2.2.2.2.2.2.2.2.2.1 r.2.2.2.2.2.2.2.2.2.2.2.1) ++ (brW K wq r.2.2.2.2.2.2.2.2.2.2.2.2 wTail bSet bEnd)) → va_S A H0 H locs → W p l e R s m args below meth c H locs cells slots Q (F0 m pc ls [va_rf r.1])) (Kx : ∀ (u : (Nat → Int32) × (Nat → Int64) × (Nat → Int32) × (Nat → Int32) × Int32 × (Nat → Int32) × (Nat → Int32) × (Nat → Int32) × (Nat → Int32) × (Nat → Int32) × Int32 × Int32), out = .inr u → ∀ (m5 : Nat) (m6 : Nat), ∀ (ls : Array Slot) (H : Heap) (locs : List Loc), va_P D vwCl ((mkW K mq m0 m1 m2 m3 m5 m6 m7 m8 m9 u.1 u.2.1 u.2.2.1 u.2.2.2.1 u.2.2.2.2.1 u.2.2.2.2.2.1 u.2.2.2.2.2.2.1 u.2.2.2.2.2.2.2.1 u.2.2.2.2.2.2.2.2.1 u.2.2.2.2.2.2.2.2.2.1 u.2.2.2.2.2.2.2.2.2.2.1) ++ (brW K wq u.2.2.2.2.2.2.2.2.2.2.2 wTail bSet bEnd)) H → va_D A ((mkW K mq m0 m1 m2 m3 m5 m6 m7 m8 m9 u.1 u.2.1 u.2.2.1 u.2.2.2.1 u.2.2.2.2.1 u.2.2.2.2.2.1 u.2.2.2.2.2.2.1 u.2.2.2.2.2.2.2.1 u.2.2.2.2.2.2.2.2.1 u.2.2.2.2.2.2.2.2.2.1 u.2.2.2.2.2.2.2.2.2.2.1) ++ (brW K wq u.2.2.2.2.2.2.2.2.2.2.2 wTail bSet bEnd)) → va_S A H0 H locs → lv_has ls 2 [(0, .ref mq), (1, .ref wq)] → W p l e R s m args below meth c H locs cells slots Q (F0 m 24 ls [])) (hf : f_Mk_make_Br n kHeads kTails kNext kSlots kClassOf kFinerOf kMarkOf kFirstOf kMarkSlots kClasses wTail bSet bEnd = some out) (ls : Array Slot) (hP : va_P D vwCl ((mkW K mq m0 m1 m2 m3 m5 m6 m7 m8 m9 kHeads kTails kNext kSlots kReached kClassOf kFinerOf kMarkOf kFirstOf kMarkSlots kClasses) ++ (brW K wq wHead wTail bSet bEnd)) H) (hD : va_D A ((mkW K mq m0 m1 m2 m3 m5 m6 m7 m8 m9 kHeads kTails kNext kSlots kReached kClassOf kFinerOf kMarkOf kFirstOf kMarkSlots kClasses) ++ (brW K wq wHead wTail bSet bEnd))) (hS : va_S A H0 H locs) (hl : lv_has ls 2 [(0, .ref mq), (1, .ref wq)]) : W p l e R s m args below meth c H locs cells slots Q (F0 m 0 ls []) := by
  unfold f_Mk_make_Br at hf
  refine lv_aload_n hx hb d_Mk_make_0 rfl (lv_at hl 0 rfl) ?_
  refine lv_aload_n hx hb d_Mk_make_1 rfl (lv_at hl 1 rfl) ?_
  obtain ⟨u1, eu1, hf⟩ := obd hf
  refine w_callA (va_runV (As := [.ref wq]) (rest := []) ⟨hx, hb, hml, hown, hts⟩ (c_Mk_follow_Br l H.size eu1) (gV 1 hts cd_Mk_follow ml_Mk_47 im_Mk_follow se_Mk_follow ini_Mk rfl rfl pd_Mk_follow ⟨Nat.le_trans (Nat.le_of_ble_eq_true rfl) hRf, Nat.le_trans (Nat.le_of_ble_eq_true rfl) hRl⟩) ⟨(withX_blind wPre_blind), va_recv hK (vaL hP) (ci := 6) (q0 := 0) rfl rfl, withX_of (wPre_of hP hK hD) hX⟩ rfl rfl hl.1 rfl (lv_room (Nat.le_of_ble_eq_true rfl)) d_Mk_make_2 ⟨hRc, hRs⟩) hD hS hA (fun g2 H1 locs hP1 hD1 hk1 hS1 => ?_)
  obtain ⟨hP, hD⟩ : _ ∧ _ := ⟨hP1, hD1.weaken (fun _ q _ h => va_sub hD hS hA q.1 h)⟩
  have hS := hS1
  generalize H1 = H at hP hS ⊢
  have hP : va_P D vwCl ((mkW K mq m0 m1 m2 m3 g2.1 g2.2 m7 m8 m9 u1.2.1 u1.2.2.1 u1.2.2.2.1 u1.2.2.2.2.1 u1.2.2.2.2.2.1 kClassOf kFinerOf kMarkOf kFirstOf kMarkSlots kClasses) ++ (brW K wq u1.2.2.2.2.2.2 wTail bSet bEnd)) H := hP
  have hD : va_D A ((mkW K mq m0 m1 m2 m3 g2.1 g2.2 m7 m8 m9 u1.2.1 u1.2.2.1 u1.2.2.2.1 u1.2.2.2.2.1 u1.2.2.2.2.2.1 kClassOf kFinerOf kMarkOf kFirstOf kMarkSlots kClasses) ++ (brW K wq u1.2.2.2.2.2.2 wTail bSet bEnd)) := hD
  refine bz_ne (tgt := 10) hx hb d_Mk_make_5 (by decide) (fun c3 => ?_) (fun c3 => ?_)
  · rw [if_pos c3] at hf
    refine lv_aload_n hx hb d_Mk_make_10 rfl (lv_at hl 0 rfl) ?_
    refine lv_aload_n hx hb d_Mk_make_11 rfl (lv_at hl 1 rfl) ?_
    obtain ⟨u4, eu4, hf⟩ := obd hf
    refine w_callA (va_runV (As := [.ref wq]) (rest := []) ⟨hx, hb, hml, hown, hts⟩ (c_Mk_splitByEnd_Br l H.size eu4) (gV 1 hts cd_Mk_splitByEnd ml_Mk_51 im_Mk_splitByEnd se_Mk_splitByEnd ini_Mk rfl rfl pd_Mk_splitByEnd ⟨Nat.le_trans (Nat.le_of_ble_eq_true rfl) hRf, Nat.le_trans (Nat.le_of_ble_eq_true rfl) hRl⟩) ⟨(withX_blind wPre_blind), va_recv hK (vaL hP) (ci := 6) (q0 := 0) rfl rfl, withX_of (wPre_of hP hK hD) hX⟩ rfl rfl hl.1 rfl (lv_room (Nat.le_of_ble_eq_true rfl)) d_Mk_make_12 ⟨hRc, hRs⟩) hD hS hA (fun g5 H1 locs hP1 hD1 hk1 hS1 => ?_)
    obtain ⟨hP, hD⟩ : _ ∧ _ := ⟨hP1, hD1.weaken (fun _ q _ h => va_sub hD hS hA q.1 h)⟩
    have hS := hS1
    generalize H1 = H at hP hS ⊢
    have hP : va_P D vwCl ((mkW K mq m0 m1 m2 m3 g5.1 g5.2 m7 m8 m9 u1.2.1 u1.2.2.1 u1.2.2.2.1 u1.2.2.2.2.1 u1.2.2.2.2.2.1 u4.1 kFinerOf kMarkOf kFirstOf kMarkSlots u4.2) ++ (brW K wq u1.2.2.2.2.2.2 wTail bSet bEnd)) H := hP
    have hD : va_D A ((mkW K mq m0 m1 m2 m3 g5.1 g5.2 m7 m8 m9 u1.2.1 u1.2.2.1 u1.2.2.2.1 u1.2.2.2.2.1 u1.2.2.2.2.2.1 u4.1 kFinerOf kMarkOf kFirstOf kMarkSlots u4.2) ++ (brW K wq u1.2.2.2.2.2.2 wTail bSet bEnd)) := hD
    refine lv_aload_n hx hb d_Mk_make_15 rfl (lv_at hl 0 rfl) ?_
    obtain ⟨u6, eu6, hf⟩ := obd hf
    refine w_callA (va_runV (As := []) (rest := []) ⟨hx, hb, hml, hown, hts⟩ (c_Mk_splitToTheEnd l H.size eu6) (gV 0 hts cd_Mk_splitToTheEnd ml_Mk_55 im_Mk_splitToTheEnd se_Mk_splitToTheEnd ini_Mk rfl rfl pd_Mk_splitToTheEnd ⟨Nat.le_trans (Nat.le_of_ble_eq_true rfl) hRf, Nat.le_trans (Nat.le_of_ble_eq_true rfl) hRl⟩) ⟨wPre_blind, va_recv hK (vaL hP) (ci := 6) (q0 := 0) rfl rfl, wPre_of (vaL hP) hK (vdL hD)⟩ rfl rfl hl.1 rfl (lv_room (Nat.le_of_ble_eq_true rfl)) d_Mk_make_16 ⟨hRc, hRs⟩) (vdL hD) hS hA (fun g7 H1 locs hP1 hD1 hk1 hS1 => ?_)
    obtain ⟨hP, hD⟩ := va_keepR hP hD (va_sub (vdL hD) hS hA) hk1 hP1 hD1
    have hS := hS1
    generalize H1 = H at hP hS ⊢
    have hP : va_P D vwCl ((mkW K mq m0 m1 m2 m3 g7.1 g7.2 m7 m8 m9 u1.2.1 u1.2.2.1 u1.2.2.2.1 u1.2.2.2.2.1 u1.2.2.2.2.2.1 u6.2.1 u6.2.2.1 u6.2.2.2.1 u6.2.2.2.2.1 u6.2.2.2.2.2.1 u6.2.2.2.2.2.2) ++ (brW K wq u1.2.2.2.2.2.2 wTail bSet bEnd)) H := hP
    have hD : va_D A ((mkW K mq m0 m1 m2 m3 g7.1 g7.2 m7 m8 m9 u1.2.1 u1.2.2.1 u1.2.2.2.1 u1.2.2.2.2.1 u1.2.2.2.2.2.1 u6.2.1 u6.2.2.1 u6.2.2.2.1 u6.2.2.2.2.1 u6.2.2.2.2.2.1 u6.2.2.2.2.2.2) ++ (brW K wq u1.2.2.2.2.2.2 wTail bSet bEnd)) := hD
    refine bz_ne (tgt := 24) hx hb d_Mk_make_19 (by decide) (fun c8 => ?_) (fun c8 => ?_)
    · rw [if_pos c8] at hf
      exact Kx _ (Option.some.inj hf).symm _ _ _ _ _ hP hD hS (show lv_has ls 2 [(0, .ref mq), (1, .ref wq)] from lv_sub hl [0, 1] rfl)
    · rw [if_neg c8] at hf
      refine lv_null hx hb d_Mk_make_22 ?_
      exact Kr _ (Option.some.inj hf).symm _ _ _ _ _ _ d_Mk_make_23 hP hD hS
  · rw [if_neg c3] at hf
    refine lv_null hx hb d_Mk_make_8 ?_
    exact Kr _ (Option.some.inj hf).symm _ _ _ _ _ _ d_Mk_make_9 hP hD hS
def f_Mk_makeA_Br (n : Nat) (kHeads : Nat → Int32) (kTails : Nat → Int64) (kNext : Nat → Int32) (kSlots : Nat → Int32) (kClassOf : Nat → Int32) (kFinerOf : Nat → Int32) (kMarkOf : Nat → Int32) (kFirstOf : Nat → Int32) (kMarkSlots : Nat → Int32) (kClasses : Int32) (wTail : Int64) (bSet : Int32) (bEnd : Int32) : Option (Option auP × (Nat → Int32) × (Nat → Int64) × (Nat → Int32) × (Nat → Int32) × Int32 × (Nat → Int32) × (Nat → Int32) × (Nat → Int32) × (Nat → Int32) × (Nat → Int32) × Int32 × Int32) :=
  (f_Mk_make_Br n kHeads kTails kNext kSlots kClassOf kFinerOf kMarkOf kFirstOf kMarkSlots kClasses wTail bSet bEnd).bind fun u => u.elim (fun r => oq r.1 (some (none, r.2)) (fun _ => none)) fun x =>
  (f_Mk_joinedA_Br n x.1 x.2.1 x.2.2.1 x.2.2.2.2.2.1 x.2.2.2.2.2.2.2.2.1 x.2.2.2.2.2.2.2.2.2.2.1 bEnd).bind fun v =>
  some (some (x.2.2.2.2.2.2.2.2.2.2.1, v.1, v.2.1, v.2.2), x)
set_option maxHeartbeats 400000 in
set_option maxRecDepth 100000 in
theorem c_Mk_make_Br (l : Launch) {r : Option auP × (Nat → Int32) × (Nat → Int64) × (Nat → Int32) × (Nat → Int32) × Int32 × (Nat → Int32) × (Nat → Int32) × (Nat → Int32) × (Nat → Int32) × (Nat → Int32) × Int32 × Int32} (sz : Nat) (hf : f_Mk_makeA_Br n kHeads kTails kNext kSlots kClassOf kFinerOf kMarkOf kFirstOf kMarkSlots kClasses wTail bSet bEnd = some r) : Met l y_Mk_make w0_Mk_make ({ frames := 4, cells := 3, slots := 324, locals := 92 }) (withX (wPre D K [.ref mq, .ref wq] ((mkW K mq m0 m1 m2 m3 m5 m6 m7 m8 m9 kHeads kTails kNext kSlots kReached kClassOf kFinerOf kMarkOf kFirstOf kMarkSlots kClasses) ++ (brW K wq wHead wTail bSet bEnd)) sz)) (wPostG D K (fun g : Nat × Nat × Nat × Nat × Nat => some (auV r.1 g.2.2.1)) (fun g => ((mkW K mq m0 m1 m2 m3 g.1 g.2.1 m7 m8 m9 r.2.1 r.2.2.1 r.2.2.2.1 r.2.2.2.2.1 r.2.2.2.2.2.1 r.2.2.2.2.2.2.1 r.2.2.2.2.2.2.2.1 r.2.2.2.2.2.2.2.2.1 r.2.2.2.2.2.2.2.2.2.1 r.2.2.2.2.2.2.2.2.2.2.1 r.2.2.2.2.2.2.2.2.2.2.2.1) ++ (brW K wq r.2.2.2.2.2.2.2.2.2.2.2.2 wTail bSet bEnd)) ++ auO K r.1 g.2.2.1 g.2.2.2.1 g.2.2.2.2) (va_A ((mkW K mq m0 m1 m2 m3 m5 m6 m7 m8 m9 kHeads kTails kNext kSlots kReached kClassOf kFinerOf kMarkOf kFirstOf kMarkSlots kClasses) ++ (brW K wq wHead wTail bSet bEnd)) sz)) 3 324 (va_A ((mkW K mq m0 m1 m2 m3 m5 m6 m7 m8 m9 kHeads kTails kNext kSlots kReached kClassOf kFinerOf kMarkOf kFirstOf kMarkSlots kClasses) ++ (brW K wq wHead wTail bSet bEnd)) sz) := by
  unfold f_Mk_makeA_Br at hf
  obtain ⟨u, e1, hf⟩ := obd hf
  refine Met.ofW (cc := b_Mk_make) (maxL := 2) (ret := (some (.object "RegularSolver$Automaton"))) (by decide) rfl ?_
  intro p e s m args below meth c s₁ B hml hv
  obtain ⟨hv, hX⟩ := hv
  obtain ⟨rfl, hsz, hP, hK, hD0⟩ := hv
  subst hsz
  have hx := B.exec
  have hb := B.bytes
  have hts : ∀ w ∈ gW, w.before _ s = true := fun w hw => atoms_spec (ws := w0_Mk_make) B.pre w (List.mem_cons_of_mem _ hw)
  have hown : s.vm.findClass "RegularSolver$Maker" = some m.cls := findClass_of_methodNamed B.named
  have hD := hD0.self (sz := s.heap.size)
  generalize hAe : va_A ((mkW K mq m0 m1 m2 m3 m5 m6 m7 m8 m9 kHeads kTails kNext kSlots kReached kClassOf kFinerOf kMarkOf kFirstOf kMarkSlots kClasses) ++ (brW K wq wHead wTail bSet bEnd)) s.heap.size = A at hD ⊢
  have hA : ∀ q : Nat, s.heap.size ≤ q → A q := fun q h => by rw [← hAe]; exact Or.inr h
  have hS : va_S A s.heap s.heap [] := va_S.rf
  have hl := lv_entry [.ref mq, .ref wq] (n := 2) (Nat.le_of_ble_eq_true rfl)
  rw [lg_entry_eq]
  generalize (lg_sl [.ref mq, .ref wq] ++ List.replicate (2 - (lg_sl [.ref mq, .ref wq]).length) Slot.unset).toArray = ls at hl ⊢
  refine w_Mk_make_Br (A := A) (H0 := s.heap) hx hb hml hts hown hK hX (Nat.le_of_ble_eq_true rfl) (Nat.le_of_ble_eq_true rfl) (by decide : 0 ≤ 3) (by decide : 0 ≤ 324) hA (fun r1 er m5 m6 pc ls H locs hd hP hD hS => ?_) (fun x eu m5 m6 ls H locs hP hD hS hl => ?_) e1 ls hP hD hS hl
  · subst er
    obtain ⟨w, r2⟩ := r1
    obtain ⟨hw0, hf⟩ := oqN (show oq w (some ((none : Option auP), r2)) (fun _ => none) = some r from hf)
    subst hw0
    obtain rfl := Option.some.inj hf
    refine W.widen (k := 3) (n := 324) (by decide) (by decide) ?_
    refine W.aret (v := .null) hx hb B.returns (Or.inl ⟨_, rfl⟩) (Or.inl rfl) (fun t ht hW => ?_) hS.2.2 hd (hlocks := B.notSynchronized)
    exact ⟨⟨(m5, m6, 0, 0, 0), rfl, by rw [ht]; exact hP, va_K.moved hW.alike hK, hD⟩, hS.F ht⟩
  · subst eu
    replace hf := oel hf
    obtain ⟨v, e2, hf⟩ := obd hf
    obtain rfl := Option.some.inj hf
    refine lv_aload_n hx hb d_Mk_make_24 rfl (lv_at hl 0 rfl) ?_
    refine lv_aload_n hx hb d_Mk_make_25 rfl (lv_at hl 1 rfl) ?_
    refine w_callA (va_runV (As := [.ref wq]) (rest := []) ⟨hx, hb, hml, hown, hts⟩ (c_Mk_joined_Br l H.size e2) (gV 1 hts cd_Mk_joined ml_Mk_59 im_Mk_joined se_Mk_joined ini_Mk rfl rfl pd_Mk_joined ⟨Nat.le_of_ble_eq_true rfl, Nat.le_of_ble_eq_true rfl⟩) ⟨(withX_blind wPre_blind), va_recv hK (vaL hP) (ci := 6) (q0 := 0) rfl rfl, withX_of (wPre_of hP hK hD) hX⟩ rfl rfl hl.1 rfl (lv_room (Nat.le_of_ble_eq_true rfl)) d_Mk_make_26 ⟨(by decide : 0 + 3 ≤ 3), (by decide : 0 + 324 ≤ 324)⟩) hD hS hA (fun g H1 locs hP1 hD1 hk1 hS1 => ?_)
    have hD1 := hD1.weaken (B := A) (fun _ q _ h => va_sub hD hS hA q.1 h)
    exact W.aret hx hb B.returns (Or.inl ⟨_, rfl⟩) (Or.inr ⟨_, rfl⟩) (fun t ht hW => ⟨⟨g, rfl, by rw [ht]; exact hP1, va_K.moved hW.alike hK, hD1⟩, hS1.F ht⟩) hS1.2.2 d_Mk_make_29 (hlocks := B.notSynchronized)
end
section
variable {p : Program} {l : Launch} {e : Env} {R : Room} {s : State} {m : MethodId} {args : Array Value} {below : List Frame} {meth : Method} {c : Code} {H : Heap} {locs : List Loc} {cells slots : Nat} {Q : State → Prop} {A : Nat → Prop} {H0 : Heap}
variable {n : Nat} {D : va_G} {K : Nat → ClassId} {mq : Nat} {m0 : Nat} {m1 : Nat} {m2 : Nat} {m3 : Nat} {m5 : Nat} {m6 : Nat} {m7 : Nat} {m8 : Nat} {m9 : Nat} {wq : Nat} {q1 : Nat} {q2 : Nat} {an1 : Nat} {aa1 : Nat} {an2 : Nat} {aa2 : Nat} {kHeads : Nat → Int32} {kTails : Nat → Int64} {kNext : Nat → Int32} {kSlots : Nat → Int32} {kReached : Int32} {kClassOf : Nat → Int32} {kFinerOf : Nat → Int32} {kMarkOf : Nat → Int32} {kFirstOf : Nat → Int32} {kMarkSlots : Nat → Int32} {kClasses : Int32} {wHead : Int32} {wTail : Int64} {aStates1 : Int32} {aNl1 : Nat} {aNext1 : Nat → Int32} {aLast1 : Int64} {aAhead1 : Nat → Int64} {aStates2 : Int32} {aNl2 : Nat} {aNext2 : Nat → Int32} {aLast2 : Int64} {aAhead2 : Nat → Int64}
def f_Mk_make_Ch (n : Nat) (kHeads : Nat → Int32) (kTails : Nat → Int64) (kNext : Nat → Int32) (kSlots : Nat → Int32) (kClassOf : Nat → Int32) (kFinerOf : Nat → Int32) (kMarkOf : Nat → Int32) (kFirstOf : Nat → Int32) (kMarkSlots : Nat → Int32) (kClasses : Int32) (aNl1 : Nat) (aNext1 : Nat → Int32) (aLast1 : Int64) (aStates2 : Int32) (aNl2 : Nat) (aNext2 : Nat → Int32) (aLast2 : Int64) : Option ((Option Nat × (Nat → Int32) × (Nat → Int64) × (Nat → Int32) × (Nat → Int32) × Int32 × (Nat → Int32) × (Nat → Int32) × (Nat → Int32) × (Nat → Int32) × (Nat → Int32) × Int32 × Int32 × Int64) ⊕ ((Nat → Int32) × (Nat → Int64) × (Nat → Int32) × (Nat → Int32) × Int32 × (Nat → Int32) × (Nat → Int32) × (Nat → Int32) × (Nat → Int32) × (Nat → Int32) × Int32 × Int32 × Int64)) :=
  (f_Mk_follow_Ch n kHeads kTails kNext kSlots aNl1 aNext1 aLast1 aStates2 aNl2 aNext2).bind fun u1 =>
  if u1.1 = true then
    (f_Mk_splitByEnd_Ch n u1.2.1 u1.2.2.1 u1.2.2.2.2.2.1 kClassOf aLast2).bind fun u4 =>
    (f_Mk_splitToTheEnd n u1.2.2.2.1 u1.2.2.2.2.2.1 u4.1 kFinerOf kMarkOf kFirstOf kMarkSlots u4.2).bind fun u6 =>
    if u6.1 = true then
      some (.inr (u1.2.1, u1.2.2.1, u1.2.2.2.1, u1.2.2.2.2.1, u1.2.2.2.2.2.1, u6.2.1, u6.2.2.1, u6.2.2.2.1, u6.2.2.2.2.1, u6.2.2.2.2.2.1, u6.2.2.2.2.2.2, u1.2.2.2.2.2.2.1, u1.2.2.2.2.2.2.2))
    else
      some (.inl (none, u1.2.1, u1.2.2.1, u1.2.2.2.1, u1.2.2.2.2.1, u1.2.2.2.2.2.1, u6.2.1, u6.2.2.1, u6.2.2.2.1, u6.2.2.2.2.1, u6.2.2.2.2.2.1, u6.2.2.2.2.2.2, u1.2.2.2.2.2.2.1, u1.2.2.2.2.2.2.2))
  else
    some (.inl (none, u1.2.1, u1.2.2.1, u1.2.2.2.1, u1.2.2.2.2.1, u1.2.2.2.2.2.1, kClassOf, kFinerOf, kMarkOf, kFirstOf, kMarkSlots, kClasses, u1.2.2.2.2.2.2.1, u1.2.2.2.2.2.2.2))
set_option maxHeartbeats 4000000 in
set_option maxRecDepth 100000 in
theorem w_Mk_make_Ch  (hx : p.tables.exec = Jvm.exec) (hb : c.code = b_Mk_make) (hml : c.maxLocals = 2) (hts : ∀ w ∈ gW, w.before args s = true) (hown : s.vm.findClass "RegularSolver$Maker" = some m.cls) (hK : va_K D vwCl (tG K) s) (hX : gX s) (hO1 : ∀ (H : Heap) (locs : List Loc), va_S A H0 H locs → va_P D vwCl (auW K q1 an1 aa1 aStates1 aNl1 aNext1 aLast1 aAhead1) H) (hw1 : gAw A (auW K q1 an1 aa1 aStates1 aNl1 aNext1 aLast1 aAhead1)) (hO2 : ∀ (H : Heap) (locs : List Loc), va_S A H0 H locs → va_P D vwCl (auW K q2 an2 aa2 aStates2 aNl2 aNext2 aLast2 aAhead2) H) (hw2 : gAw A (auW K q2 an2 aa2 aStates2 aNl2 aNext2 aLast2 aAhead2)) (hRf : 4 ≤ R.frames) (hRl : 98 ≤ R.locals) (hRc : cells ≤ R.cells) (hRs : slots ≤ R.slots) (hA : ∀ q, H0.size ≤ q → A q) {out : (Option Nat × (Nat → Int32) × (Nat → Int64) × (Nat → Int32) × (Nat → Int32) × Int32 × (Nat → Int32) × (Nat → Int32) × (Nat → Int32) × (Nat → Int32) × (Nat → Int32) × Int32 × Int32 × Int64) ⊕ ((Nat → Int32) × (Nat → Int64) × (Nat → Int32) × (Nat → Int32) × Int32 × (Nat → Int32) × (Nat → Int32) × (Nat → Int32) × (Nat → Int32) × (Nat → Int32) × Int32 × Int32 × Int64)} (Kr : ∀ (r : Option Nat × (Nat → Int32) × (Nat → Int64) × (Nat → Int32) × (Nat → Int32) × Int32 × (Nat → Int32) × (Nat → Int32) × (Nat → Int32) × (Nat → Int32) × (Nat → Int32) × Int32 × Int32 × Int64), out = .inl r → ∀ (m5 : Nat) (m6 : Nat), ∀ (pc : Nat) (ls : Array Slot) (H : Heap) (locs : List Loc), decode b_Mk_make pc = .ok (.areturn, 1) → va_P D vwCl ((mkW K mq m0 m1 m2 m3 m5 m6 m7 m8 m9 r.2.1 r.2.2.1 r.2.2.2.1 r.2.2.2.2.1 r.2.2.2.2.2.1 r.2.2.2.2.2.2.1 r.2.2.2.2.2.2.2.1 r.2.2.2.2.2.2.2.2.1 r.2.2.2.2.2.2.2.2.2.1 r.2.2.2.2.2.2.2.2.2.2.1 r.2.2.2.2.2.2.2.2.2.2.2.1) ++ (chW K wq q1 q2 r.2.2.2.2.2.2.2.2.2.2.2.2.1 r.2.2.2.2.2.2.2.2.2.2.2.2.2)) H → va_D A ((mkW K mq m0 m1 m2 m3 m5 m6 m7 m8 m9 r.2.1 r.2.2.1 r.2.2.2.1 r.2.2.2.2.1 r.2.2.2.2.2.1 r.2.2.2.2.2.2.1 r.2.2.2.2.2.2.2.1 r.2.2.2.2.2.2.2.2.1 r.2.2.2.2.2.2.2.2.2.1 r.2.2.2.2.2.2.2.2.2.2.1 r.2.2.2.2.2.2.2.2.2.2.2.1) ++ (chW K wq q1 q2 r.2.2.2.2.2.2.2.2.2.2.2.2.1 r.2.2.2.2.2.2.2.2.2.2.2.2.2)) → va_S A H0 H locs → W p l e R s m args below meth c H locs cells slots Q (F0 m pc ls [va_rf r.1])) (Kx : ∀ (u : (Nat → Int32) × (Nat → Int64) × (Nat → Int32) × (Nat → Int32) × Int32 × (Nat → Int32) × (Nat → Int32) × (Nat → Int32) × (Nat → Int32) × (Nat → Int32) × Int32 × Int32 × Int64), out = .inr u → ∀ (m5 : Nat) (m6 : Nat), ∀ (ls : Array Slot) (H : Heap) (locs : List Loc), va_P D vwCl ((mkW K mq m0 m1 m2 m3 m5 m6 m7 m8 m9 u.1 u.2.1 u.2.2.1 u.2.2.2.1 u.2.2.2.2.1 u.2.2.2.2.2.1 u.2.2.2.2.2.2.1 u.2.2.2.2.2.2.2.1 u.2.2.2.2.2.2.2.2.1 u.2.2.2.2.2.2.2.2.2.1 u.2.2.2.2.2.2.2.2.2.2.1) ++ (chW K wq q1 q2 u.2.2.2.2.2.2.2.2.2.2.2.1 u.2.2.2.2.2.2.2.2.2.2.2.2)) H → va_D A ((mkW K mq m0 m1 m2 m3 m5 m6 m7 m8 m9 u.1 u.2.1 u.2.2.1 u.2.2.2.1 u.2.2.2.2.1 u.2.2.2.2.2.1 u.2.2.2.2.2.2.1 u.2.2.2.2.2.2.2.1 u.2.2.2.2.2.2.2.2.1 u.2.2.2.2.2.2.2.2.2.1 u.2.2.2.2.2.2.2.2.2.2.1) ++ (chW K wq q1 q2 u.2.2.2.2.2.2.2.2.2.2.2.1 u.2.2.2.2.2.2.2.2.2.2.2.2)) → va_S A H0 H locs → lv_has ls 2 [(0, .ref mq), (1, .ref wq)] → W p l e R s m args below meth c H locs cells slots Q (F0 m 24 ls [])) (hf : f_Mk_make_Ch n kHeads kTails kNext kSlots kClassOf kFinerOf kMarkOf kFirstOf kMarkSlots kClasses aNl1 aNext1 aLast1 aStates2 aNl2 aNext2 aLast2 = some out) (ls : Array Slot) (hP : va_P D vwCl ((mkW K mq m0 m1 m2 m3 m5 m6 m7 m8 m9 kHeads kTails kNext kSlots kReached kClassOf kFinerOf kMarkOf kFirstOf kMarkSlots kClasses) ++ (chW K wq q1 q2 wHead wTail)) H) (hD : va_D A ((mkW K mq m0 m1 m2 m3 m5 m6 m7 m8 m9 kHeads kTails kNext kSlots kReached kClassOf kFinerOf kMarkOf kFirstOf kMarkSlots kClasses) ++ (chW K wq q1 q2 wHead wTail))) (hS : va_S A H0 H locs) (hl : lv_has ls 2 [(0, .ref mq), (1, .ref wq)]) : W p l e R s m args below meth c H locs cells slots Q (F0 m 0 ls []) := by
  unfold f_Mk_make_Ch at hf
  refine lv_aload_n hx hb d_Mk_make_0 rfl (lv_at hl 0 rfl) ?_
  refine lv_aload_n hx hb d_Mk_make_1 rfl (lv_at hl 1 rfl) ?_
  obtain ⟨u1, eu1, hf⟩ := obd hf
  refine w_callA (va_runV (As := [.ref wq]) (rest := []) ⟨hx, hb, hml, hown, hts⟩ (c_Mk_follow_Ch l H.size eu1) (gV 1 hts cd_Mk_follow ml_Mk_47 im_Mk_follow se_Mk_follow ini_Mk rfl rfl pd_Mk_follow ⟨Nat.le_trans (Nat.le_of_ble_eq_true rfl) hRf, Nat.le_trans (Nat.le_of_ble_eq_true rfl) hRl⟩) ⟨(withX_blind wPreR_blind), va_recv hK (vaL hP) (ci := 6) (q0 := 0) rfl rfl, withX_of (wPreR_of hP hK hD hS hA (va_P.app (hO1 _ _ hS) (hO2 _ _ hS)) (gAw.app hw1 hw2)) hX⟩ rfl rfl hl.1 rfl (lv_room (Nat.le_of_ble_eq_true rfl)) d_Mk_make_2 ⟨hRc, hRs⟩) hD hS hA (fun g2 H1 locs hP1 hD1 hk1 hS1 => ?_)
  obtain ⟨hP, hD⟩ : _ ∧ _ := ⟨hP1, hD1.weaken (fun _ q _ h => va_sub hD hS hA q.1 h)⟩
  have hS := hS1
  generalize H1 = H at hP hS ⊢
  have hP : va_P D vwCl ((mkW K mq m0 m1 m2 m3 g2.1 g2.2 m7 m8 m9 u1.2.1 u1.2.2.1 u1.2.2.2.1 u1.2.2.2.2.1 u1.2.2.2.2.2.1 kClassOf kFinerOf kMarkOf kFirstOf kMarkSlots kClasses) ++ (chW K wq q1 q2 u1.2.2.2.2.2.2.1 u1.2.2.2.2.2.2.2)) H := hP
  have hD : va_D A ((mkW K mq m0 m1 m2 m3 g2.1 g2.2 m7 m8 m9 u1.2.1 u1.2.2.1 u1.2.2.2.1 u1.2.2.2.2.1 u1.2.2.2.2.2.1 kClassOf kFinerOf kMarkOf kFirstOf kMarkSlots kClasses) ++ (chW K wq q1 q2 u1.2.2.2.2.2.2.1 u1.2.2.2.2.2.2.2)) := hD
  refine bz_ne (tgt := 10) hx hb d_Mk_make_5 (by decide) (fun c3 => ?_) (fun c3 => ?_)
  · rw [if_pos c3] at hf
    refine lv_aload_n hx hb d_Mk_make_10 rfl (lv_at hl 0 rfl) ?_
    refine lv_aload_n hx hb d_Mk_make_11 rfl (lv_at hl 1 rfl) ?_
    obtain ⟨u4, eu4, hf⟩ := obd hf
    refine w_callA (va_runV (As := [.ref wq]) (rest := []) ⟨hx, hb, hml, hown, hts⟩ (c_Mk_splitByEnd_Ch l H.size eu4) (gV 1 hts cd_Mk_splitByEnd ml_Mk_51 im_Mk_splitByEnd se_Mk_splitByEnd ini_Mk rfl rfl pd_Mk_splitByEnd ⟨Nat.le_trans (Nat.le_of_ble_eq_true rfl) hRf, Nat.le_trans (Nat.le_of_ble_eq_true rfl) hRl⟩) ⟨(withX_blind wPreR_blind), va_recv hK (vaL hP) (ci := 6) (q0 := 0) rfl rfl, withX_of (wPreR_of hP hK hD hS hA (va_P.app (hO1 _ _ hS) (hO2 _ _ hS)) (gAw.app hw1 hw2)) hX⟩ rfl rfl hl.1 rfl (lv_room (Nat.le_of_ble_eq_true rfl)) d_Mk_make_12 ⟨hRc, hRs⟩) hD hS hA (fun g5 H1 locs hP1 hD1 hk1 hS1 => ?_)
    obtain ⟨hP, hD⟩ : _ ∧ _ := ⟨hP1, hD1.weaken (fun _ q _ h => va_sub hD hS hA q.1 h)⟩
    have hS := hS1
    generalize H1 = H at hP hS ⊢
    have hP : va_P D vwCl ((mkW K mq m0 m1 m2 m3 g5.1 g5.2 m7 m8 m9 u1.2.1 u1.2.2.1 u1.2.2.2.1 u1.2.2.2.2.1 u1.2.2.2.2.2.1 u4.1 kFinerOf kMarkOf kFirstOf kMarkSlots u4.2) ++ (chW K wq q1 q2 u1.2.2.2.2.2.2.1 u1.2.2.2.2.2.2.2)) H := hP
    have hD : va_D A ((mkW K mq m0 m1 m2 m3 g5.1 g5.2 m7 m8 m9 u1.2.1 u1.2.2.1 u1.2.2.2.1 u1.2.2.2.2.1 u1.2.2.2.2.2.1 u4.1 kFinerOf kMarkOf kFirstOf kMarkSlots u4.2) ++ (chW K wq q1 q2 u1.2.2.2.2.2.2.1 u1.2.2.2.2.2.2.2)) := hD
    refine lv_aload_n hx hb d_Mk_make_15 rfl (lv_at hl 0 rfl) ?_
    obtain ⟨u6, eu6, hf⟩ := obd hf
    refine w_callA (va_runV (As := []) (rest := []) ⟨hx, hb, hml, hown, hts⟩ (c_Mk_splitToTheEnd l H.size eu6) (gV 0 hts cd_Mk_splitToTheEnd ml_Mk_55 im_Mk_splitToTheEnd se_Mk_splitToTheEnd ini_Mk rfl rfl pd_Mk_splitToTheEnd ⟨Nat.le_trans (Nat.le_of_ble_eq_true rfl) hRf, Nat.le_trans (Nat.le_of_ble_eq_true rfl) hRl⟩) ⟨wPre_blind, va_recv hK (vaL hP) (ci := 6) (q0 := 0) rfl rfl, wPre_of (vaL hP) hK (vdL hD)⟩ rfl rfl hl.1 rfl (lv_room (Nat.le_of_ble_eq_true rfl)) d_Mk_make_16 ⟨hRc, hRs⟩) (vdL hD) hS hA (fun g7 H1 locs hP1 hD1 hk1 hS1 => ?_)
    obtain ⟨hP, hD⟩ := va_keepR hP hD (va_sub (vdL hD) hS hA) hk1 hP1 hD1
    have hS := hS1
    generalize H1 = H at hP hS ⊢
    have hP : va_P D vwCl ((mkW K mq m0 m1 m2 m3 g7.1 g7.2 m7 m8 m9 u1.2.1 u1.2.2.1 u1.2.2.2.1 u1.2.2.2.2.1 u1.2.2.2.2.2.1 u6.2.1 u6.2.2.1 u6.2.2.2.1 u6.2.2.2.2.1 u6.2.2.2.2.2.1 u6.2.2.2.2.2.2) ++ (chW K wq q1 q2 u1.2.2.2.2.2.2.1 u1.2.2.2.2.2.2.2)) H := hP
    have hD : va_D A ((mkW K mq m0 m1 m2 m3 g7.1 g7.2 m7 m8 m9 u1.2.1 u1.2.2.1 u1.2.2.2.1 u1.2.2.2.2.1 u1.2.2.2.2.2.1 u6.2.1 u6.2.2.1 u6.2.2.2.1 u6.2.2.2.2.1 u6.2.2.2.2.2.1 u6.2.2.2.2.2.2) ++ (chW K wq q1 q2 u1.2.2.2.2.2.2.1 u1.2.2.2.2.2.2.2)) := hD
    refine bz_ne (tgt := 24) hx hb d_Mk_make_19 (by decide) (fun c8 => ?_) (fun c8 => ?_)
    · rw [if_pos c8] at hf
      exact Kx _ (Option.some.inj hf).symm _ _ _ _ _ hP hD hS (show lv_has ls 2 [(0, .ref mq), (1, .ref wq)] from lv_sub hl [0, 1] rfl)
    · rw [if_neg c8] at hf
      refine lv_null hx hb d_Mk_make_22 ?_
      exact Kr _ (Option.some.inj hf).symm _ _ _ _ _ _ d_Mk_make_23 hP hD hS
  · rw [if_neg c3] at hf
    refine lv_null hx hb d_Mk_make_8 ?_
    exact Kr _ (Option.some.inj hf).symm _ _ _ _ _ _ d_Mk_make_9 hP hD hS
def f_Mk_makeA_Ch (n : Nat) (kHeads : Nat → Int32) (kTails : Nat → Int64) (kNext : Nat → Int32) (kSlots : Nat → Int32) (kClassOf : Nat → Int32) (kFinerOf : Nat → Int32) (kMarkOf : Nat → Int32) (kFirstOf : Nat → Int32) (kMarkSlots : Nat → Int32) (kClasses : Int32) (aNl1 : Nat) (aNext1 : Nat → Int32) (aLast1 : Int64) (aStates2 : Int32) (aNl2 : Nat) (aNext2 : Nat → Int32) (aLast2 : Int64) : Option (Option auP × (Nat → Int32) × (Nat → Int64) × (Nat → Int32) × (Nat → Int32) × Int32 × (Nat → Int32) × (Nat → Int32) × (Nat → Int32) × (Nat → Int32) × (Nat → Int32) × Int32 × Int32 × Int64) :=
  (f_Mk_make_Ch n kHeads kTails kNext kSlots kClassOf kFinerOf kMarkOf kFirstOf kMarkSlots kClasses aNl1 aNext1 aLast1 aStates2 aNl2 aNext2 aLast2).bind fun u => u.elim (fun r => oq r.1 (some (none, r.2)) (fun _ => none)) fun x =>
  (f_Mk_joinedA_Ch n x.1 x.2.1 x.2.2.1 x.2.2.2.2.2.1 x.2.2.2.2.2.2.2.2.1 x.2.2.2.2.2.2.2.2.2.2.1 aLast2).bind fun v =>
  some (some (x.2.2.2.2.2.2.2.2.2.2.1, v.1, v.2.1, v.2.2), x)
set_option maxHeartbeats 400000 in
set_option maxRecDepth 100000 in
theorem c_Mk_make_Ch (l : Launch) {r : Option auP × (Nat → Int32) × (Nat → Int64) × (Nat → Int32) × (Nat → Int32) × Int32 × (Nat → Int32) × (Nat → Int32) × (Nat → Int32) × (Nat → Int32) × (Nat → Int32) × Int32 × Int32 × Int64} (sz : Nat) (hf : f_Mk_makeA_Ch n kHeads kTails kNext kSlots kClassOf kFinerOf kMarkOf kFirstOf kMarkSlots kClasses aNl1 aNext1 aLast1 aStates2 aNl2 aNext2 aLast2 = some r) : Met l y_Mk_make w0_Mk_make ({ frames := 4, cells := 3, slots := 324, locals := 98 }) (withX (wPreR D K [.ref mq, .ref wq] ((mkW K mq m0 m1 m2 m3 m5 m6 m7 m8 m9 kHeads kTails kNext kSlots kReached kClassOf kFinerOf kMarkOf kFirstOf kMarkSlots kClasses) ++ (chW K wq q1 q2 wHead wTail)) ((auW K q1 an1 aa1 aStates1 aNl1 aNext1 aLast1 aAhead1) ++ (auW K q2 an2 aa2 aStates2 aNl2 aNext2 aLast2 aAhead2)) sz)) (wPostG D K (fun g : Nat × Nat × Nat × Nat × Nat => some (auV r.1 g.2.2.1)) (fun g => ((mkW K mq m0 m1 m2 m3 g.1 g.2.1 m7 m8 m9 r.2.1 r.2.2.1 r.2.2.2.1 r.2.2.2.2.1 r.2.2.2.2.2.1 r.2.2.2.2.2.2.1 r.2.2.2.2.2.2.2.1 r.2.2.2.2.2.2.2.2.1 r.2.2.2.2.2.2.2.2.2.1 r.2.2.2.2.2.2.2.2.2.2.1 r.2.2.2.2.2.2.2.2.2.2.2.1) ++ (chW K wq q1 q2 r.2.2.2.2.2.2.2.2.2.2.2.2.1 r.2.2.2.2.2.2.2.2.2.2.2.2.2)) ++ auO K r.1 g.2.2.1 g.2.2.2.1 g.2.2.2.2) (va_A ((mkW K mq m0 m1 m2 m3 m5 m6 m7 m8 m9 kHeads kTails kNext kSlots kReached kClassOf kFinerOf kMarkOf kFirstOf kMarkSlots kClasses) ++ (chW K wq q1 q2 wHead wTail)) sz)) 3 324 (va_A ((mkW K mq m0 m1 m2 m3 m5 m6 m7 m8 m9 kHeads kTails kNext kSlots kReached kClassOf kFinerOf kMarkOf kFirstOf kMarkSlots kClasses) ++ (chW K wq q1 q2 wHead wTail)) sz) := by
  unfold f_Mk_makeA_Ch at hf
  obtain ⟨u, e1, hf⟩ := obd hf
  refine Met.ofW (cc := b_Mk_make) (maxL := 2) (ret := (some (.object "RegularSolver$Automaton"))) (by decide) rfl ?_
  intro p e s m args below meth c s₁ B hml hv
  obtain ⟨hv, hX⟩ := hv
  obtain ⟨rfl, hsz, hP, hK, hD0, hR, hw⟩ := hv
  subst hsz
  have hx := B.exec
  have hb := B.bytes
  have hts : ∀ w ∈ gW, w.before _ s = true := fun w hw => atoms_spec (ws := w0_Mk_make) B.pre w (List.mem_cons_of_mem _ hw)
  have hown : s.vm.findClass "RegularSolver$Maker" = some m.cls := findClass_of_methodNamed B.named
  have hD := hD0.self (sz := s.heap.size)
  generalize hAe : va_A ((mkW K mq m0 m1 m2 m3 m5 m6 m7 m8 m9 kHeads kTails kNext kSlots kReached kClassOf kFinerOf kMarkOf kFirstOf kMarkSlots kClasses) ++ (chW K wq q1 q2 wHead wTail)) s.heap.size = A at hD hw ⊢
  have hA : ∀ q : Nat, s.heap.size ≤ q → A q := fun q h => by rw [← hAe]; exact Or.inr h
  have hS : va_S A s.heap s.heap [] := va_S.rf
  have hO1 : ∀ (H : Heap) (locs : List Loc), va_S A s.heap H locs → va_P D vwCl (auW K q1 an1 aa1 aStates1 aNl1 aNext1 aLast1 aAhead1) H := fun _ _ hS => ro_of (vaL hR) (gAw.left hw) hS
  have hw1 : gAw A (auW K q1 an1 aa1 aStates1 aNl1 aNext1 aLast1 aAhead1) := (gAw.left hw)
  have hO2 : ∀ (H : Heap) (locs : List Loc), va_S A s.heap H locs → va_P D vwCl (auW K q2 an2 aa2 aStates2 aNl2 aNext2 aLast2 aAhead2) H := fun _ _ hS => ro_of (vaR hR) (gAw.right hw) hS
  have hw2 : gAw A (auW K q2 an2 aa2 aStates2 aNl2 aNext2 aLast2 aAhead2) := (gAw.right hw)
  have hl := lv_entry [.ref mq, .ref wq] (n := 2) (Nat.le_of_ble_eq_true rfl)
  rw [lg_entry_eq]
  generalize (lg_sl [.ref mq, .ref wq] ++ List.replicate (2 - (lg_sl [.ref mq, .ref wq]).length) Slot.unset).toArray = ls at hl ⊢
  refine w_Mk_make_Ch (A := A) (H0 := s.heap) hx hb hml hts hown hK hX hO1 hw1 hO2 hw2 (Nat.le_of_ble_eq_true rfl) (Nat.le_of_ble_eq_true rfl) (by decide : 0 ≤ 3) (by decide : 0 ≤ 324) hA (fun r1 er m5 m6 pc ls H locs hd hP hD hS => ?_) (fun x eu m5 m6 ls H locs hP hD hS hl => ?_) e1 ls hP hD hS hl
  · subst er
    obtain ⟨w, r2⟩ := r1
    obtain ⟨hw0, hf⟩ := oqN (show oq w (some ((none : Option auP), r2)) (fun _ => none) = some r from hf)
    subst hw0
    obtain rfl := Option.some.inj hf
    refine W.widen (k := 3) (n := 324) (by decide) (by decide) ?_
    refine W.aret (v := .null) hx hb B.returns (Or.inl ⟨_, rfl⟩) (Or.inl rfl) (fun t ht hW => ?_) hS.2.2 hd (hlocks := B.notSynchronized)
    exact ⟨⟨(m5, m6, 0, 0, 0), rfl, by rw [ht]; exact hP, va_K.moved hW.alike hK, hD⟩, hS.F ht⟩
  · subst eu
    replace hf := oel hf
    obtain ⟨v, e2, hf⟩ := obd hf
    obtain rfl := Option.some.inj hf
    refine lv_aload_n hx hb d_Mk_make_24 rfl (lv_at hl 0 rfl) ?_
    refine lv_aload_n hx hb d_Mk_make_25 rfl (lv_at hl 1 rfl) ?_
    refine w_callA (va_runV (As := [.ref wq]) (rest := []) ⟨hx, hb, hml, hown, hts⟩ (c_Mk_joined_Ch l H.size e2) (gV 1 hts cd_Mk_joined ml_Mk_59 im_Mk_joined se_Mk_joined ini_Mk rfl rfl pd_Mk_joined ⟨Nat.le_of_ble_eq_true rfl, Nat.le_of_ble_eq_true rfl⟩) ⟨(withX_blind wPreR_blind), va_recv hK (vaL hP) (ci := 6) (q0 := 0) rfl rfl, withX_of (wPreR_of hP hK hD hS hA (va_P.app (hO1 _ _ hS) (hO2 _ _ hS)) (gAw.app hw1 hw2)) hX⟩ rfl rfl hl.1 rfl (lv_room (Nat.le_of_ble_eq_true rfl)) d_Mk_make_26 ⟨(by decide : 0 + 3 ≤ 3), (by decide : 0 + 324 ≤ 324)⟩) hD hS hA (fun g H1 locs hP1 hD1 hk1 hS1 => ?_)
    have hD1 := hD1.weaken (B := A) (fun _ q _ h => va_sub hD hS hA q.1 h)
    exact W.aret hx hb B.returns (Or.inl ⟨_, rfl⟩) (Or.inr ⟨_, rfl⟩) (fun t ht hW => ⟨⟨g, rfl, by rw [ht]; exact hP1, va_K.moved hW.alike hK, hD1⟩, hS1.F ht⟩) hS1.2.2 d_Mk_make_29 (hlocks := B.notSynchronized)
end
section
variable {p : Program} {l : Launch} {e : Env} {R : Room} {s : State} {m : MethodId} {args : Array Value} {below : List Frame} {meth : Method} {c : Code} {H : Heap} {locs : List Loc} {cells slots : Nat} {Q : State → Prop} {A : Nat → Prop} {H0 : Heap}
variable {n : Nat} {D : va_G} {K : Nat → ClassId} {mq : Nat} {m0 : Nat} {m1 : Nat} {m2 : Nat} {m3 : Nat} {m5 : Nat} {m6 : Nat} {m7 : Nat} {m8 : Nat} {m9 : Nat} {wq : Nat} {q1 : Nat} {q2 : Nat} {an1 : Nat} {aa1 : Nat} {an2 : Nat} {aa2 : Nat} {kHeads : Nat → Int32} {kTails : Nat → Int64} {kNext : Nat → Int32} {kSlots : Nat → Int32} {kReached : Int32} {kClassOf : Nat → Int32} {kFinerOf : Nat → Int32} {kMarkOf : Nat → Int32} {kFirstOf : Nat → Int32} {kMarkSlots : Nat → Int32} {kClasses : Int32} {wHead : Int32} {wTail : Int64} {pBoth : Bool} {aStates1 : Int32} {aNl1 : Nat} {aNext1 : Nat → Int32} {aLast1 : Int64} {aAhead1 : Nat → Int64} {aStates2 : Int32} {aNl2 : Nat} {aNext2 : Nat → Int32} {aLast2 : Int64} {aAhead2 : Nat → Int64}
def f_Mk_make_Pa (n : Nat) (kHeads : Nat → Int32) (kTails : Nat → Int64) (kNext : Nat → Int32) (kSlots : Nat → Int32) (kClassOf : Nat → Int32) (kFinerOf : Nat → Int32) (kMarkOf : Nat → Int32) (kFirstOf : Nat → Int32) (kMarkSlots : Nat → Int32) (kClasses : Int32) (pBoth : Bool) (aNl1 : Nat) (aNext1 : Nat → Int32) (aLast1 : Int64) (aNl2 : Nat) (aNext2 : Nat → Int32) (aLast2 : Int64) : Option ((Option Nat × (Nat → Int32) × (Nat → Int64) × (Nat → Int32) × (Nat → Int32) × Int32 × (Nat → Int32) × (Nat → Int32) × (Nat → Int32) × (Nat → Int32) × (Nat → Int32) × Int32 × Int32 × Int64) ⊕ ((Nat → Int32) × (Nat → Int64) × (Nat → Int32) × (Nat → Int32) × Int32 × (Nat → Int32) × (Nat → Int32) × (Nat → Int32) × (Nat → Int32) × (Nat → Int32) × Int32 × Int32 × Int64)) :=
  (f_Mk_follow_Pa n kHeads kTails kNext kSlots aNl1 aNext1 aNl2 aNext2).bind fun u1 =>
  if u1.1 = true then
    (f_Mk_splitByEnd_Pa n u1.2.1 u1.2.2.1 u1.2.2.2.2.2.1 kClassOf pBoth aLast1 aLast2).bind fun u4 =>
    (f_Mk_splitToTheEnd n u1.2.2.2.1 u1.2.2.2.2.2.1 u4.1 kFinerOf kMarkOf kFirstOf kMarkSlots u4.2).bind fun u6 =>
    if u6.1 = true then
      some (.inr (u1.2.1, u1.2.2.1, u1.2.2.2.1, u1.2.2.2.2.1, u1.2.2.2.2.2.1, u6.2.1, u6.2.2.1, u6.2.2.2.1, u6.2.2.2.2.1, u6.2.2.2.2.2.1, u6.2.2.2.2.2.2, u1.2.2.2.2.2.2.1, u1.2.2.2.2.2.2.2))
    else
      some (.inl (none, u1.2.1, u1.2.2.1, u1.2.2.2.1, u1.2.2.2.2.1, u1.2.2.2.2.2.1, u6.2.1, u6.2.2.1, u6.2.2.2.1, u6.2.2.2.2.1, u6.2.2.2.2.2.1, u6.2.2.2.2.2.2, u1.2.2.2.2.2.2.1, u1.2.2.2.2.2.2.2))
  else
    some (.inl (none, u1.2.1, u1.2.2.1, u1.2.2.2.1, u1.2.2.2.2.1, u1.2.2.2.2.2.1, kClassOf, kFinerOf, kMarkOf, kFirstOf, kMarkSlots, kClasses, u1.2.2.2.2.2.2.1, u1.2.2.2.2.2.2.2))
set_option maxHeartbeats 4000000 in
set_option maxRecDepth 100000 in
theorem w_Mk_make_Pa  (hx : p.tables.exec = Jvm.exec) (hb : c.code = b_Mk_make) (hml : c.maxLocals = 2) (hts : ∀ w ∈ gW, w.before args s = true) (hown : s.vm.findClass "RegularSolver$Maker" = some m.cls) (hK : va_K D vwCl (tG K) s) (hX : gX s) (hO1 : ∀ (H : Heap) (locs : List Loc), va_S A H0 H locs → va_P D vwCl (auW K q1 an1 aa1 aStates1 aNl1 aNext1 aLast1 aAhead1) H) (hw1 : gAw A (auW K q1 an1 aa1 aStates1 aNl1 aNext1 aLast1 aAhead1)) (hO2 : ∀ (H : Heap) (locs : List Loc), va_S A H0 H locs → va_P D vwCl (auW K q2 an2 aa2 aStates2 aNl2 aNext2 aLast2 aAhead2) H) (hw2 : gAw A (auW K q2 an2 aa2 aStates2 aNl2 aNext2 aLast2 aAhead2)) (hRf : 4 ≤ R.frames) (hRl : 92 ≤ R.locals) (hRc : cells ≤ R.cells) (hRs : slots ≤ R.slots) (hA : ∀ q, H0.size ≤ q → A q) {out : (Option Nat × (Nat → Int32) × (Nat → Int64) × (Nat → Int32) × (Nat → Int32) × Int32 × (Nat → Int32) × (Nat → Int32) × (Nat → Int32) × (Nat → Int32) × (Nat → Int32) × Int32 × Int32 × Int64) ⊕ ((Nat → Int32) × (Nat → Int64) × (Nat → Int32) × (Nat → Int32) × Int32 × (Nat → Int32) × (Nat → Int32) × (Nat → Int32) × (Nat → Int32) × (Nat → Int32) × Int32 × Int32 × Int64)} (Kr : ∀ (r : Option Nat × (Nat → Int32) × (Nat → Int64) × (Nat → Int32) × (Nat → Int32) × Int32 × (Nat → Int32) × (Nat → Int32) × (Nat → Int32) × (Nat → Int32) × (Nat → Int32) × Int32 × Int32 × Int64), out = .inl r → ∀ (m5 : Nat) (m6 : Nat), ∀ (pc : Nat) (ls : Array Slot) (H : Heap) (locs : List Loc), decode b_Mk_make pc = .ok (.areturn, 1) → va_P D vwCl ((mkW K mq m0 m1 m2 m3 m5 m6 m7 m8 m9 r.2.1 r.2.2.1 r.2.2.2.1 r.2.2.2.2.1 r.2.2.2.2.2.1 r.2.2.2.2.2.2.1 r.2.2.2.2.2.2.2.1 r.2.2.2.2.2.2.2.2.1 r.2.2.2.2.2.2.2.2.2.1 r.2.2.2.2.2.2.2.2.2.2.1 r.2.2.2.2.2.2.2.2.2.2.2.1) ++ (paW K wq q1 q2 r.2.2.2.2.2.2.2.2.2.2.2.2.1 r.2.2.2.2.2.2.2.2.2.2.2.2.2 pBoth)) H → va_D A ((mkW K mq m0 m1 m2 m3 m5 m6 m7 m8 m9 r.2.1 r.2.2.1 r.2.2.2.1 r.2.2.2.2.1 r.2.2.2.2.2.1 r.2.2.2.2.2.2.1 r.2.2.2.2.2.2.2.1 r.2.2.2.2.2.2.2.2.1 r.2.2.2.2.2.2.2.2.2.1 r.2.2.2.2.2.2.2.2.2.2.1 r.2.2.2.2.2.2.2.2.2.2.2.1) ++ (paW K wq q1 q2 r.2.2.2.2.2.2.2.2.2.2.2.2.1 r.2.2.2.2.2.2.2.2.2.2.2.2.2 pBoth)) → va_S A H0 H locs → W p l e R s m args below meth c H locs cells slots Q (F0 m pc ls [va_rf r.1])) (Kx : ∀ (u : (Nat → Int32) × (Nat → Int64) × (Nat → Int32) × (Nat → Int32) × Int32 × (Nat → Int32) × (Nat → Int32) × (Nat → Int32) × (Nat → Int32) × (Nat → Int32) × Int32 × Int32 × Int64), out = .inr u → ∀ (m5 : Nat) (m6 : Nat), ∀ (ls : Array Slot) (H : Heap) (locs : List Loc), va_P D vwCl ((mkW K mq m0 m1 m2 m3 m5 m6 m7 m8 m9 u.1 u.2.1 u.2.2.1 u.2.2.2.1 u.2.2.2.2.1 u.2.2.2.2.2.1 u.2.2.2.2.2.2.1 u.2.2.2.2.2.2.2.1 u.2.2.2.2.2.2.2.2.1 u.2.2.2.2.2.2.2.2.2.1 u.2.2.2.2.2.2.2.2.2.2.1) ++ (paW K wq q1 q2 u.2.2.2.2.2.2.2.2.2.2.2.1 u.2.2.2.2.2.2.2.2.2.2.2.2 pBoth)) H → va_D A ((mkW K mq m0 m1 m2 m3 m5 m6 m7 m8 m9 u.1 u.2.1 u.2.2.1 u.2.2.2.1 u.2.2.2.2.1 u.2.2.2.2.2.1 u.2.2.2.2.2.2.1 u.2.2.2.2.2.2.2.1 u.2.2.2.2.2.2.2.2.1 u.2.2.2.2.2.2.2.2.2.1 u.2.2.2.2.2.2.2.2.2.2.1) ++ (paW K wq q1 q2 u.2.2.2.2.2.2.2.2.2.2.2.1 u.2.2.2.2.2.2.2.2.2.2.2.2 pBoth)) → va_S A H0 H locs → lv_has ls 2 [(0, .ref mq), (1, .ref wq)] → W p l e R s m args below meth c H locs cells slots Q (F0 m 24 ls [])) (hf : f_Mk_make_Pa n kHeads kTails kNext kSlots kClassOf kFinerOf kMarkOf kFirstOf kMarkSlots kClasses pBoth aNl1 aNext1 aLast1 aNl2 aNext2 aLast2 = some out) (ls : Array Slot) (hP : va_P D vwCl ((mkW K mq m0 m1 m2 m3 m5 m6 m7 m8 m9 kHeads kTails kNext kSlots kReached kClassOf kFinerOf kMarkOf kFirstOf kMarkSlots kClasses) ++ (paW K wq q1 q2 wHead wTail pBoth)) H) (hD : va_D A ((mkW K mq m0 m1 m2 m3 m5 m6 m7 m8 m9 kHeads kTails kNext kSlots kReached kClassOf kFinerOf kMarkOf kFirstOf kMarkSlots kClasses) ++ (paW K wq q1 q2 wHead wTail pBoth))) (hS : va_S A H0 H locs) (hl : lv_has ls 2 [(0, .ref mq), (1, .ref wq)]) : W p l e R s m args below meth c H locs cells slots Q (F0 m 0 ls []) := by
  unfold f_Mk_make_Pa at hf
  refine lv_aload_n hx hb d_Mk_make_0 rfl (lv_at hl 0 rfl) ?_
  refine lv_aload_n hx hb d_Mk_make_1 rfl (lv_at hl 1 rfl) ?_
  obtain ⟨u1, eu1, hf⟩ := obd hf
  refine w_callA (va_runV (As := [.ref wq]) (rest := []) ⟨hx, hb, hml, hown, hts⟩ (c_Mk_follow_Pa l H.size eu1) (gV 1 hts cd_Mk_follow ml_Mk_47 im_Mk_follow se_Mk_follow ini_Mk rfl rfl pd_Mk_follow ⟨Nat.le_trans (Nat.le_of_ble_eq_true rfl) hRf, Nat.le_trans (Nat.le_of_ble_eq_true rfl) hRl⟩) ⟨(withX_blind wPreR_blind), va_recv hK (vaL hP) (ci := 6) (q0 := 0) rfl rfl, withX_of (wPreR_of hP hK hD hS hA (va_P.app (hO1 _ _ hS) (hO2 _ _ hS)) (gAw.app hw1 hw2)) hX⟩ rfl rfl hl.1 rfl (lv_room (Nat.le_of_ble_eq_true rfl)) d_Mk_make_2 ⟨hRc, hRs⟩) hD hS hA (fun g2 H1 locs hP1 hD1 hk1 hS1 => ?_)
  obtain ⟨hP, hD⟩ : _ ∧ _ := ⟨hP1, hD1.weaken (fun _ q _ h => va_sub hD hS hA q.1 h)⟩
  have hS := hS1
  generalize H1 = H at hP hS ⊢
  have hP : va_P D vwCl ((mkW K mq m0 m1 m2 m3 g2.1 g2.2 m7 m8 m9 u1.2.1 u1.2.2.1 u1.2.2.2.1 u1.2.2.2.2.1 u1.2.2.2.2.2.1 kClassOf kFinerOf kMarkOf kFirstOf kMarkSlots kClasses) ++ (paW K wq q1 q2 u1.2.2.2.2.2.2.1 u1.2.2.2.2.2.2.2 pBoth)) H := hP
  have hD : va_D A ((mkW K mq m0 m1 m2 m3 g2.1 g2.2 m7 m8 m9 u1.2.1 u1.2.2.1 u1.2.2.2.1 u1.2.2.2.2.1 u1.2.2.2.2.2.1 kClassOf kFinerOf kMarkOf kFirstOf kMarkSlots kClasses) ++ (paW K wq q1 q2 u1.2.2.2.2.2.2.1 u1.2.2.2.2.2.2.2 pBoth)) := hD
  refine bz_ne (tgt := 10) hx hb d_Mk_make_5 (by decide) (fun c3 => ?_) (fun c3 => ?_)
  · rw [if_pos c3] at hf
    refine lv_aload_n hx hb d_Mk_make_10 rfl (lv_at hl 0 rfl) ?_
    refine lv_aload_n hx hb d_Mk_make_11 rfl (lv_at hl 1 rfl) ?_
    obtain ⟨u4, eu4, hf⟩ := obd hf
    refine w_callA (va_runV (As := [.ref wq]) (rest := []) ⟨hx, hb, hml, hown, hts⟩ (c_Mk_splitByEnd_Pa l H.size eu4) (gV 1 hts cd_Mk_splitByEnd ml_Mk_51 im_Mk_splitByEnd se_Mk_splitByEnd ini_Mk rfl rfl pd_Mk_splitByEnd ⟨Nat.le_trans (Nat.le_of_ble_eq_true rfl) hRf, Nat.le_trans (Nat.le_of_ble_eq_true rfl) hRl⟩) ⟨(withX_blind wPreR_blind), va_recv hK (vaL hP) (ci := 6) (q0 := 0) rfl rfl, withX_of (wPreR_of hP hK hD hS hA (va_P.app (hO1 _ _ hS) (hO2 _ _ hS)) (gAw.app hw1 hw2)) hX⟩ rfl rfl hl.1 rfl (lv_room (Nat.le_of_ble_eq_true rfl)) d_Mk_make_12 ⟨hRc, hRs⟩) hD hS hA (fun g5 H1 locs hP1 hD1 hk1 hS1 => ?_)
    obtain ⟨hP, hD⟩ : _ ∧ _ := ⟨hP1, hD1.weaken (fun _ q _ h => va_sub hD hS hA q.1 h)⟩
    have hS := hS1
    generalize H1 = H at hP hS ⊢
    have hP : va_P D vwCl ((mkW K mq m0 m1 m2 m3 g5.1 g5.2 m7 m8 m9 u1.2.1 u1.2.2.1 u1.2.2.2.1 u1.2.2.2.2.1 u1.2.2.2.2.2.1 u4.1 kFinerOf kMarkOf kFirstOf kMarkSlots u4.2) ++ (paW K wq q1 q2 u1.2.2.2.2.2.2.1 u1.2.2.2.2.2.2.2 pBoth)) H := hP
    have hD : va_D A ((mkW K mq m0 m1 m2 m3 g5.1 g5.2 m7 m8 m9 u1.2.1 u1.2.2.1 u1.2.2.2.1 u1.2.2.2.2.1 u1.2.2.2.2.2.1 u4.1 kFinerOf kMarkOf kFirstOf kMarkSlots u4.2) ++ (paW K wq q1 q2 u1.2.2.2.2.2.2.1 u1.2.2.2.2.2.2.2 pBoth)) := hD
    refine lv_aload_n hx hb d_Mk_make_15 rfl (lv_at hl 0 rfl) ?_
    obtain ⟨u6, eu6, hf⟩ := obd hf
    refine w_callA (va_runV (As := []) (rest := []) ⟨hx, hb, hml, hown, hts⟩ (c_Mk_splitToTheEnd l H.size eu6) (gV 0 hts cd_Mk_splitToTheEnd ml_Mk_55 im_Mk_splitToTheEnd se_Mk_splitToTheEnd ini_Mk rfl rfl pd_Mk_splitToTheEnd ⟨Nat.le_trans (Nat.le_of_ble_eq_true rfl) hRf, Nat.le_trans (Nat.le_of_ble_eq_true rfl) hRl⟩) ⟨wPre_blind, va_recv hK (vaL hP) (ci := 6) (q0 := 0) rfl rfl, wPre_of (vaL hP) hK (vdL hD)⟩ rfl rfl hl.1 rfl (lv_room (Nat.le_of_ble_eq_true rfl)) d_Mk_make_16 ⟨hRc, hRs⟩) (vdL hD) hS hA (fun g7 H1 locs hP1 hD1 hk1 hS1 => ?_)
    obtain ⟨hP, hD⟩ := va_keepR hP hD (va_sub (vdL hD) hS hA) hk1 hP1 hD1
    have hS := hS1
    generalize H1 = H at hP hS ⊢
    have hP : va_P D vwCl ((mkW K mq m0 m1 m2 m3 g7.1 g7.2 m7 m8 m9 u1.2.1 u1.2.2.1 u1.2.2.2.1 u1.2.2.2.2.1 u1.2.2.2.2.2.1 u6.2.1 u6.2.2.1 u6.2.2.2.1 u6.2.2.2.2.1 u6.2.2.2.2.2.1 u6.2.2.2.2.2.2) ++ (paW K wq q1 q2 u1.2.2.2.2.2.2.1 u1.2.2.2.2.2.2.2 pBoth)) H := hP
    have hD : va_D A ((mkW K mq m0 m1 m2 m3 g7.1 g7.2 m7 m8 m9 u1.2.1 u1.2.2.1 u1.2.2.2.1 u1.2.2.2.2.1 u1.2.2.2.2.2.1 u6.2.1 u6.2.2.1 u6.2.2.2.1 u6.2.2.2.2.1 u6.2.2.2.2.2.1 u6.2.2.2.2.2.2) ++ (paW K wq q1 q2 u1.2.2.2.2.2.2.1 u1.2.2.2.2.2.2.2 pBoth)) := hD
    refine bz_ne (tgt := 24) hx hb d_Mk_make_19 (by decide) (fun c8 => ?_) (fun c8 => ?_)
    · rw [if_pos c8] at hf
      exact Kx _ (Option.some.inj hf).symm _ _ _ _ _ hP hD hS (show lv_has ls 2 [(0, .ref mq), (1, .ref wq)] from lv_sub hl [0, 1] rfl)
    · rw [if_neg c8] at hf
      refine lv_null hx hb d_Mk_make_22 ?_
      exact Kr _ (Option.some.inj hf).symm _ _ _ _ _ _ d_Mk_make_23 hP hD hS
  · rw [if_neg c3] at hf
    refine lv_null hx hb d_Mk_make_8 ?_
    exact Kr _ (Option.some.inj hf).symm _ _ _ _ _ _ d_Mk_make_9 hP hD hS
def f_Mk_makeA_Pa (n : Nat) (kHeads : Nat → Int32) (kTails : Nat → Int64) (kNext : Nat → Int32) (kSlots : Nat → Int32) (kClassOf : Nat → Int32) (kFinerOf : Nat → Int32) (kMarkOf : Nat → Int32) (kFirstOf : Nat → Int32) (kMarkSlots : Nat → Int32) (kClasses : Int32) (pBoth : Bool) (aNl1 : Nat) (aNext1 : Nat → Int32) (aLast1 : Int64) (aNl2 : Nat) (aNext2 : Nat → Int32) (aLast2 : Int64) : Option (Option auP × (Nat → Int32) × (Nat → Int64) × (Nat → Int32) × (Nat → Int32) × Int32 × (Nat → Int32) × (Nat → Int32) × (Nat → Int32) × (Nat → Int32) × (Nat → Int32) × Int32 × Int32 × Int64) :=
  (f_Mk_make_Pa n kHeads kTails kNext kSlots kClassOf kFinerOf kMarkOf kFirstOf kMarkSlots kClasses pBoth aNl1 aNext1 aLast1 aNl2 aNext2 aLast2).bind fun u => u.elim (fun r => oq r.1 (some (none, r.2)) (fun _ => none)) fun x =>
  (f_Mk_joinedA_Pa n x.1 x.2.1 x.2.2.1 x.2.2.2.2.2.1 x.2.2.2.2.2.2.2.2.1 x.2.2.2.2.2.2.2.2.2.2.1 pBoth aLast1 aLast2).bind fun v =>
  some (some (x.2.2.2.2.2.2.2.2.2.2.1, v.1, v.2.1, v.2.2), x)
set_option maxHeartbeats 400000 in
set_option maxRecDepth 100000 in
theorem c_Mk_make_Pa (l : Launch) {r : Option auP × (Nat → Int32) × (Nat → Int64) × (Nat → Int32) × (Nat → Int32) × Int32 × (Nat → Int32) × (Nat → Int32) × (Nat → Int32) × (Nat → Int32) × (Nat → Int32) × Int32 × Int32 × Int64} (sz : Nat) (hf : f_Mk_makeA_Pa n kHeads kTails kNext kSlots kClassOf kFinerOf kMarkOf kFirstOf kMarkSlots kClasses pBoth aNl1 aNext1 aLast1 aNl2 aNext2 aLast2 = some r) : Met l y_Mk_make w0_Mk_make ({ frames := 4, cells := 3, slots := 324, locals := 92 }) (withX (wPreR D K [.ref mq, .ref wq] ((mkW K mq m0 m1 m2 m3 m5 m6 m7 m8 m9 kHeads kTails kNext kSlots kReached kClassOf kFinerOf kMarkOf kFirstOf kMarkSlots kClasses) ++ (paW K wq q1 q2 wHead wTail pBoth)) ((auW K q1 an1 aa1 aStates1 aNl1 aNext1 aLast1 aAhead1) ++ (auW K q2 an2 aa2 aStates2 aNl2 aNext2 aLast2 aAhead2)) sz)) (wPostG D K (fun g : Nat × Nat × Nat × Nat × Nat => some (auV r.1 g.2.2.1)) (fun g => ((mkW K mq m0 m1 m2 m3 g.1 g.2.1 m7 m8 m9 r.2.1 r.2.2.1 r.2.2.2.1 r.2.2.2.2.1 r.2.2.2.2.2.1 r.2.2.2.2.2.2.1 r.2.2.2.2.2.2.2.1 r.2.2.2.2.2.2.2.2.1 r.2.2.2.2.2.2.2.2.2.1 r.2.2.2.2.2.2.2.2.2.2.1 r.2.2.2.2.2.2.2.2.2.2.2.1) ++ (paW K wq q1 q2 r.2.2.2.2.2.2.2.2.2.2.2.2.1 r.2.2.2.2.2.2.2.2.2.2.2.2.2 pBoth)) ++ auO K r.1 g.2.2.1 g.2.2.2.1 g.2.2.2.2) (va_A ((mkW K mq m0 m1 m2 m3 m5 m6 m7 m8 m9 kHeads kTails kNext kSlots kReached kClassOf kFinerOf kMarkOf kFirstOf kMarkSlots kClasses) ++ (paW K wq q1 q2 wHead wTail pBoth)) sz)) 3 324 (va_A ((mkW K mq m0 m1 m2 m3 m5 m6 m7 m8 m9 kHeads kTails kNext kSlots kReached kClassOf kFinerOf kMarkOf kFirstOf kMarkSlots kClasses) ++ (paW K wq q1 q2 wHead wTail pBoth)) sz) := by
  unfold f_Mk_makeA_Pa at hf
  obtain ⟨u, e1, hf⟩ := obd hf
  refine Met.ofW (cc := b_Mk_make) (maxL := 2) (ret := (some (.object "RegularSolver$Automaton"))) (by decide) rfl ?_
  intro p e s m args below meth c s₁ B hml hv
  obtain ⟨hv, hX⟩ := hv
  obtain ⟨rfl, hsz, hP, hK, hD0, hR, hw⟩ := hv
  subst hsz
  have hx := B.exec
  have hb := B.bytes
  have hts : ∀ w ∈ gW, w.before _ s = true := fun w hw => atoms_spec (ws := w0_Mk_make) B.pre w (List.mem_cons_of_mem _ hw)
  have hown : s.vm.findClass "RegularSolver$Maker" = some m.cls := findClass_of_methodNamed B.named
  have hD := hD0.self (sz := s.heap.size)
  generalize hAe : va_A ((mkW K mq m0 m1 m2 m3 m5 m6 m7 m8 m9 kHeads kTails kNext kSlots kReached kClassOf kFinerOf kMarkOf kFirstOf kMarkSlots kClasses) ++ (paW K wq q1 q2 wHead wTail pBoth)) s.heap.size = A at hD hw ⊢
  have hA : ∀ q : Nat, s.heap.size ≤ q → A q := fun q h => by rw [← hAe]; exact Or.inr h
  have hS : va_S A s.heap s.heap [] := va_S.rf
  have hO1 : ∀ (H : Heap) (locs : List Loc), va_S A s.heap H locs → va_P D vwCl (auW K q1 an1 aa1 aStates1 aNl1 aNext1 aLast1 aAhead1) H := fun _ _ hS => ro_of (vaL hR) (gAw.left hw) hS
  have hw1 : gAw A (auW K q1 an1 aa1 aStates1 aNl1 aNext1 aLast1 aAhead1) := (gAw.left hw)
  have hO2 : ∀ (H : Heap) (locs : List Loc), va_S A s.heap H locs → va_P D vwCl (auW K q2 an2 aa2 aStates2 aNl2 aNext2 aLast2 aAhead2) H := fun _ _ hS => ro_of (vaR hR) (gAw.right hw) hS
  have hw2 : gAw A (auW K q2 an2 aa2 aStates2 aNl2 aNext2 aLast2 aAhead2) := (gAw.right hw)
  have hl := lv_entry [.ref mq, .ref wq] (n := 2) (Nat.le_of_ble_eq_true rfl)
  rw [lg_entry_eq]
  generalize (lg_sl [.ref mq, .ref wq] ++ List.replicate (2 - (lg_sl [.ref mq, .ref wq]).length) Slot.unset).toArray = ls at hl ⊢
  refine w_Mk_make_Pa (A := A) (H0 := s.heap) hx hb hml hts hown hK hX hO1 hw1 hO2 hw2 (Nat.le_of_ble_eq_true rfl) (Nat.le_of_ble_eq_true rfl) (by decide : 0 ≤ 3) (by decide : 0 ≤ 324) hA (fun r1 er m5 m6 pc ls H locs hd hP hD hS => ?_) (fun x eu m5 m6 ls H locs hP hD hS hl => ?_) e1 ls hP hD hS hl
  · subst er
    obtain ⟨w, r2⟩ := r1
    obtain ⟨hw0, hf⟩ := oqN (show oq w (some ((none : Option auP), r2)) (fun _ => none) = some r from hf)
    subst hw0
    obtain rfl := Option.some.inj hf
    refine W.widen (k := 3) (n := 324) (by decide) (by decide) ?_
    refine W.aret (v := .null) hx hb B.returns (Or.inl ⟨_, rfl⟩) (Or.inl rfl) (fun t ht hW => ?_) hS.2.2 hd (hlocks := B.notSynchronized)
    exact ⟨⟨(m5, m6, 0, 0, 0), rfl, by rw [ht]; exact hP, va_K.moved hW.alike hK, hD⟩, hS.F ht⟩
  · subst eu
    replace hf := oel hf
    obtain ⟨v, e2, hf⟩ := obd hf
    obtain rfl := Option.some.inj hf
    refine lv_aload_n hx hb d_Mk_make_24 rfl (lv_at hl 0 rfl) ?_
    refine lv_aload_n hx hb d_Mk_make_25 rfl (lv_at hl 1 rfl) ?_
    refine w_callA (va_runV (As := [.ref wq]) (rest := []) ⟨hx, hb, hml, hown, hts⟩ (c_Mk_joined_Pa l H.size e2) (gV 1 hts cd_Mk_joined ml_Mk_59 im_Mk_joined se_Mk_joined ini_Mk rfl rfl pd_Mk_joined ⟨Nat.le_of_ble_eq_true rfl, Nat.le_of_ble_eq_true rfl⟩) ⟨(withX_blind wPreR_blind), va_recv hK (vaL hP) (ci := 6) (q0 := 0) rfl rfl, withX_of (wPreR_of hP hK hD hS hA (va_P.app (hO1 _ _ hS) (hO2 _ _ hS)) (gAw.app hw1 hw2)) hX⟩ rfl rfl hl.1 rfl (lv_room (Nat.le_of_ble_eq_true rfl)) d_Mk_make_26 ⟨(by decide : 0 + 3 ≤ 3), (by decide : 0 + 324 ≤ 324)⟩) hD hS hA (fun g H1 locs hP1 hD1 hk1 hS1 => ?_)
    have hD1 := hD1.weaken (B := A) (fun _ q _ h => va_sub hD hS hA q.1 h)
    exact W.aret hx hb B.returns (Or.inl ⟨_, rfl⟩) (Or.inr ⟨_, rfl⟩) (fun t ht hW => ⟨⟨g, rfl, by rw [ht]; exact hP1, va_K.moved hW.alike hK, hD1⟩, hS1.F ht⟩) hS1.2.2 d_Mk_make_29 (hlocks := B.notSynchronized)
end
section
variable {p : Program} {l : Launch} {e : Env} {R : Room} {s : State} {m : MethodId} {args : Array Value} {below : List Frame} {meth : Method} {c : Code} {H : Heap} {locs : List Loc} {cells slots : Nat} {Q : State → Prop} {A : Nat → Prop} {H0 : Heap}
variable {n : Nat} {D : va_G} {K : Nat → ClassId} {mq : Nat} {m0 : Nat} {m1 : Nat} {m2 : Nat} {m3 : Nat} {m5 : Nat} {m6 : Nat} {m7 : Nat} {m8 : Nat} {m9 : Nat} {wq : Nat} {q1 : Nat} {an1 : Nat} {aa1 : Nat} {kHeads : Nat → Int32} {kTails : Nat → Int64} {kNext : Nat → Int32} {kSlots : Nat → Int32} {kReached : Int32} {kClassOf : Nat → Int32} {kFinerOf : Nat → Int32} {kMarkOf : Nat → Int32} {kFirstOf : Nat → Int32} {kMarkSlots : Nat → Int32} {kClasses : Int32} {wHead : Int32} {wTail : Int64} {aStates1 : Int32} {aNl1 : Nat} {aNext1 : Nat → Int32} {aLast1 : Int64} {aAhead1 : Nat → Int64}
def f_Mk_make_Re (n : Nat) (kHeads : Nat → Int32) (kTails : Nat → Int64) (kNext : Nat → Int32) (kSlots : Nat → Int32) (kClassOf : Nat → Int32) (kFinerOf : Nat → Int32) (kMarkOf : Nat → Int32) (kFirstOf : Nat → Int32) (kMarkSlots : Nat → Int32) (kClasses : Int32) (wHead : Int32) (aStates1 : Int32) (aNl1 : Nat) (aNext1 : Nat → Int32) (aLast1 : Int64) : Option ((Option Nat × (Nat → Int32) × (Nat → Int64) × (Nat → Int32) × (Nat → Int32) × Int32 × (Nat → Int32) × (Nat → Int32) × (Nat → Int32) × (Nat → Int32) × (Nat → Int32) × Int32 × Int64) ⊕ ((Nat → Int32) × (Nat → Int64) × (Nat → Int32) × (Nat → Int32) × Int32 × (Nat → Int32) × (Nat → Int32) × (Nat → Int32) × (Nat → Int32) × (Nat → Int32) × Int32 × Int64)) :=
  (f_Mk_follow_Re n kHeads kTails kNext kSlots wHead aStates1 aNl1 aNext1 aLast1).bind fun u1 =>
  if u1.1 = true then
    (f_Mk_splitByEnd_Re n u1.2.1 u1.2.2.1 u1.2.2.2.2.2.1 kClassOf aLast1).bind fun u4 =>
    (f_Mk_splitToTheEnd n u1.2.2.2.1 u1.2.2.2.2.2.1 u4.1 kFinerOf kMarkOf kFirstOf kMarkSlots u4.2).bind fun u6 =>
    if u6.1 = true then
      some (.inr (u1.2.1, u1.2.2.1, u1.2.2.2.1, u1.2.2.2.2.1, u1.2.2.2.2.2.1, u6.2.1, u6.2.2.1, u6.2.2.2.1, u6.2.2.2.2.1, u6.2.2.2.2.2.1, u6.2.2.2.2.2.2, u1.2.2.2.2.2.2))
    else
      some (.inl (none, u1.2.1, u1.2.2.1, u1.2.2.2.1, u1.2.2.2.2.1, u1.2.2.2.2.2.1, u6.2.1, u6.2.2.1, u6.2.2.2.1, u6.2.2.2.2.1, u6.2.2.2.2.2.1, u6.2.2.2.2.2.2, u1.2.2.2.2.2.2))
  else
    some (.inl (none, u1.2.1, u1.2.2.1, u1.2.2.2.1, u1.2.2.2.2.1, u1.2.2.2.2.2.1, kClassOf, kFinerOf, kMarkOf, kFirstOf, kMarkSlots, kClasses, u1.2.2.2.2.2.2))
set_option maxHeartbeats 4000000 in
set_option maxRecDepth 100000 in
theorem w_Mk_make_Re  (hx : p.tables.exec = Jvm.exec) (hb : c.code = b_Mk_make) (hml : c.maxLocals = 2) (hts : ∀ w ∈ gW, w.before args s = true) (hown : s.vm.findClass "RegularSolver$Maker" = some m.cls) (hK : va_K D vwCl (tG K) s) (hX : gX s) (hO1 : ∀ (H : Heap) (locs : List Loc), va_S A H0 H locs → va_P D vwCl (auW K q1 an1 aa1 aStates1 aNl1 aNext1 aLast1 aAhead1) H) (hw1 : gAw A (auW K q1 an1 aa1 aStates1 aNl1 aNext1 aLast1 aAhead1)) (hRf : 4 ≤ R.frames) (hRl : 100 ≤ R.locals) (hRc : cells ≤ R.cells) (hRs : slots ≤ R.slots) (hA : ∀ q, H0.size ≤ q → A q) {out : (Option Nat × (Nat → Int32) × (Nat → Int64) × (Nat → Int32) × (Nat → Int32) × Int32 × (Nat → Int32) × (Nat → Int32) × (Nat → Int32) × (Nat → Int32) × (Nat → Int32) × Int32 × Int64) ⊕ ((Nat → Int32) × (Nat → Int64) × (Nat → Int32) × (Nat → Int32) × Int32 × (Nat → Int32) × (Nat → Int32) × (Nat → Int32) × (Nat → Int32) × (Nat → Int32) × Int32 × Int64)} (Kr : ∀ (r : Option Nat × (Nat → Int32) × (Nat → Int64) × (Nat → Int32) × (Nat → Int32) × Int32 × (Nat → Int32) × (Nat → Int32) × (Nat → Int32) × (Nat → Int32) × (Nat → Int32) × Int32 × Int64), out = .inl r → ∀ (m5 : Nat) (m6 : Nat), ∀ (pc : Nat) (ls : Array Slot) (H : Heap) (locs : List Loc), decode b_Mk_make pc = .ok (.areturn, 1) → va_P D vwCl ((mkW K mq m0 m1 m2 m3 m5 m6 m7 m8 m9 r.2.1 r.2.2.1 r.2.2.2.1 r.2.2.2.2.1 r.2.2.2.2.2.1 r.2.2.2.2.2.2.1 r.2.2.2.2.2.2.2.1 r.2.2.2.2.2.2.2.2.1 r.2.2.2.2.2.2.2.2.2.1 r.2.2.2.2.2.2.2.2.2.2.1 r.2.2.2.2.2.2.2.2.2.2.2.1) ++ (reW K wq q1 wHead r.2.2.2.2.2.2.2.2.2.2.2.2)) H → va_D A ((mkW K mq m0 m1 m2 m3 m5 m6 m7 m8 m9 r.2.1 r.2.2.1 r.2.2.2.1 r.2.2.2.2.1 r.2.2.2.2.2.1 r.2.2.2.2.2.2.1 r.2.2.2.2.2.2.2.1 r.2.2.2.2.2.2.2.2.1 r.2.2.2.2.2.2.2.2.2.1 r.2.2.2.2.2.2.2.2.2.2.1 r.2.2.2.2.2.2.2.2.2.2.2.1) ++ (reW K wq q1 wHead r.2.2.2.2.2.2.2.2.2.2.2.2)) → va_S A H0 H locs → W p l e R s m args below meth c H locs cells slots Q (F0 m pc ls [va_rf r.1])) (Kx : ∀ (u : (Nat → Int32) × (Nat → Int64) × (Nat → Int32) × (Nat → Int32) × Int32 × (Nat → Int32) × (Nat → Int32) × (Nat → Int32) × (Nat → Int32) × (Nat → Int32) × Int32 × Int64), out = .inr u → ∀ (m5 : Nat) (m6 : Nat), ∀ (ls : Array Slot) (H : Heap) (locs : List Loc), va_P D vwCl ((mkW K mq m0 m1 m2 m3 m5 m6 m7 m8 m9 u.1 u.2.1 u.2.2.1 u.2.2.2.1 u.2.2.2.2.1 u.2.2.2.2.2.1 u.2.2.2.2.2.2.1 u.2.2.2.2.2.2.2.1 u.2.2.2.2.2.2.2.2.1 u.2.2.2.2.2.2.2.2.2.1 u.2.2.2.2.2.2.2.2.2.2.1) ++ (reW K wq q1 wHead u.2.2.2.2.2.2.2.2.2.2.2)) H → va_D A ((mkW K mq m0 m1 m2 m3 m5 m6 m7 m8 m9 u.1 u.2.1 u.2.2.1 u.2.2.2.1 u.2.2.2.2.1 u.2.2.2.2.2.1 u.2.2.2.2.2.2.1 u.2.2.2.2.2.2.2.1 u.2.2.2.2.2.2.2.2.1 u.2.2.2.2.2.2.2.2.2.1 u.2.2.2.2.2.2.2.2.2.2.1) ++ (reW K wq q1 wHead u.2.2.2.2.2.2.2.2.2.2.2)) → va_S A H0 H locs → lv_has ls 2 [(0, .ref mq), (1, .ref wq)] → W p l e R s m args below meth c H locs cells slots Q (F0 m 24 ls [])) (hf : f_Mk_make_Re n kHeads kTails kNext kSlots kClassOf kFinerOf kMarkOf kFirstOf kMarkSlots kClasses wHead aStates1 aNl1 aNext1 aLast1 = some out) (ls : Array Slot) (hP : va_P D vwCl ((mkW K mq m0 m1 m2 m3 m5 m6 m7 m8 m9 kHeads kTails kNext kSlots kReached kClassOf kFinerOf kMarkOf kFirstOf kMarkSlots kClasses) ++ (reW K wq q1 wHead wTail)) H) (hD : va_D A ((mkW K mq m0 m1 m2 m3 m5 m6 m7 m8 m9 kHeads kTails kNext kSlots kReached kClassOf kFinerOf kMarkOf kFirstOf kMarkSlots kClasses) ++ (reW K wq q1 wHead wTail))) (hS : va_S A H0 H locs) (hl : lv_has ls 2 [(0, .ref mq), (1, .ref wq)]) : W p l e R s m args below meth c H locs cells slots Q (F0 m 0 ls []) := by
  unfold f_Mk_make_Re at hf
  refine lv_aload_n hx hb d_Mk_make_0 rfl (lv_at hl 0 rfl) ?_
  refine lv_aload_n hx hb d_Mk_make_1 rfl (lv_at hl 1 rfl) ?_
  obtain ⟨u1, eu1, hf⟩ := obd hf
  refine w_callA (va_runV (As := [.ref wq]) (rest := []) ⟨hx, hb, hml, hown, hts⟩ (c_Mk_follow_Re l H.size eu1) (gV 1 hts cd_Mk_follow ml_Mk_47 im_Mk_follow se_Mk_follow ini_Mk rfl rfl pd_Mk_follow ⟨Nat.le_trans (Nat.le_of_ble_eq_true rfl) hRf, Nat.le_trans (Nat.le_of_ble_eq_true rfl) hRl⟩) ⟨(withX_blind wPreR_blind), va_recv hK (vaL hP) (ci := 6) (q0 := 0) rfl rfl, withX_of (wPreR_of hP hK hD hS hA (hO1 _ _ hS) hw1) hX⟩ rfl rfl hl.1 rfl (lv_room (Nat.le_of_ble_eq_true rfl)) d_Mk_make_2 ⟨hRc, hRs⟩) hD hS hA (fun g2 H1 locs hP1 hD1 hk1 hS1 => ?_)
  obtain ⟨hP, hD⟩ : _ ∧ _ := ⟨hP1, hD1.weaken (fun _ q _ h => va_sub hD hS hA q.1 h)⟩
  have hS := hS1
  generalize H1 = H at hP hS ⊢
  have hP : va_P D vwCl ((mkW K mq m0 m1 m2 m3 g2.1 g2.2 m7 m8 m9 u1.2.1 u1.2.2.1 u1.2.2.2.1 u1.2.2.2.2.1 u1.2.2.2.2.2.1 kClassOf kFinerOf kMarkOf kFirstOf kMarkSlots kClasses) ++ (reW K wq q1 wHead u1.2.2.2.2.2.2)) H := hP
  have hD : va_D A ((mkW K mq m0 m1 m2 m3 g2.1 g2.2 m7 m8 m9 u1.2.1 u1.2.2.1 u1.2.2.2.1 u1.2.2.2.2.1 u1.2.2.2.2.2.1 kClassOf kFinerOf kMarkOf kFirstOf kMarkSlots kClasses) ++ (reW K wq q1 wHead u1.2.2.2.2.2.2)) := hD
  refine bz_ne (tgt := 10) hx hb d_Mk_make_5 (by decide) (fun c3 => ?_) (fun c3 => ?_)
  · rw [if_pos c3] at hf
    refine lv_aload_n hx hb d_Mk_make_10 rfl (lv_at hl 0 rfl) ?_
    refine lv_aload_n hx hb d_Mk_make_11 rfl (lv_at hl 1 rfl) ?_
    obtain ⟨u4, eu4, hf⟩ := obd hf
    refine w_callA (va_runV (As := [.ref wq]) (rest := []) ⟨hx, hb, hml, hown, hts⟩ (c_Mk_splitByEnd_Re l H.size eu4) (gV 1 hts cd_Mk_splitByEnd ml_Mk_51 im_Mk_splitByEnd se_Mk_splitByEnd ini_Mk rfl rfl pd_Mk_splitByEnd ⟨Nat.le_trans (Nat.le_of_ble_eq_true rfl) hRf, Nat.le_trans (Nat.le_of_ble_eq_true rfl) hRl⟩) ⟨(withX_blind wPreR_blind), va_recv hK (vaL hP) (ci := 6) (q0 := 0) rfl rfl, withX_of (wPreR_of hP hK hD hS hA (hO1 _ _ hS) hw1) hX⟩ rfl rfl hl.1 rfl (lv_room (Nat.le_of_ble_eq_true rfl)) d_Mk_make_12 ⟨hRc, hRs⟩) hD hS hA (fun g5 H1 locs hP1 hD1 hk1 hS1 => ?_)
    obtain ⟨hP, hD⟩ : _ ∧ _ := ⟨hP1, hD1.weaken (fun _ q _ h => va_sub hD hS hA q.1 h)⟩
    have hS := hS1
    generalize H1 = H at hP hS ⊢
    have hP : va_P D vwCl ((mkW K mq m0 m1 m2 m3 g5.1 g5.2 m7 m8 m9 u1.2.1 u1.2.2.1 u1.2.2.2.1 u1.2.2.2.2.1 u1.2.2.2.2.2.1 u4.1 kFinerOf kMarkOf kFirstOf kMarkSlots u4.2) ++ (reW K wq q1 wHead u1.2.2.2.2.2.2)) H := hP
    have hD : va_D A ((mkW K mq m0 m1 m2 m3 g5.1 g5.2 m7 m8 m9 u1.2.1 u1.2.2.1 u1.2.2.2.1 u1.2.2.2.2.1 u1.2.2.2.2.2.1 u4.1 kFinerOf kMarkOf kFirstOf kMarkSlots u4.2) ++ (reW K wq q1 wHead u1.2.2.2.2.2.2)) := hD
    refine lv_aload_n hx hb d_Mk_make_15 rfl (lv_at hl 0 rfl) ?_
    obtain ⟨u6, eu6, hf⟩ := obd hf
    refine w_callA (va_runV (As := []) (rest := []) ⟨hx, hb, hml, hown, hts⟩ (c_Mk_splitToTheEnd l H.size eu6) (gV 0 hts cd_Mk_splitToTheEnd ml_Mk_55 im_Mk_splitToTheEnd se_Mk_splitToTheEnd ini_Mk rfl rfl pd_Mk_splitToTheEnd ⟨Nat.le_trans (Nat.le_of_ble_eq_true rfl) hRf, Nat.le_trans (Nat.le_of_ble_eq_true rfl) hRl⟩) ⟨wPre_blind, va_recv hK (vaL hP) (ci := 6) (q0 := 0) rfl rfl, wPre_of (vaL hP) hK (vdL hD)⟩ rfl rfl hl.1 rfl (lv_room (Nat.le_of_ble_eq_true rfl)) d_Mk_make_16 ⟨hRc, hRs⟩) (vdL hD) hS hA (fun g7 H1 locs hP1 hD1 hk1 hS1 => ?_)
    obtain ⟨hP, hD⟩ := va_keepR hP hD (va_sub (vdL hD) hS hA) hk1 hP1 hD1
    have hS := hS1
    generalize H1 = H at hP hS ⊢
    have hP : va_P D vwCl ((mkW K mq m0 m1 m2 m3 g7.1 g7.2 m7 m8 m9 u1.2.1 u1.2.2.1 u1.2.2.2.1 u1.2.2.2.2.1 u1.2.2.2.2.2.1 u6.2.1 u6.2.2.1 u6.2.2.2.1 u6.2.2.2.2.1 u6.2.2.2.2.2.1 u6.2.2.2.2.2.2) ++ (reW K wq q1 wHead u1.2.2.2.2.2.2)) H := hP
    have hD : va_D A ((mkW K mq m0 m1 m2 m3 g7.1 g7.2 m7 m8 m9 u1.2.1 u1.2.2.1 u1.2.2.2.1 u1.2.2.2.2.1 u1.2.2.2.2.2.1 u6.2.1 u6.2.2.1 u6.2.2.2.1 u6.2.2.2.2.1 u6.2.2.2.2.2.1 u6.2.2.2.2.2.2) ++ (reW K wq q1 wHead u1.2.2.2.2.2.2)) := hD
    refine bz_ne (tgt := 24) hx hb d_Mk_make_19 (by decide) (fun c8 => ?_) (fun c8 => ?_)
    · rw [if_pos c8] at hf
      exact Kx _ (Option.some.inj hf).symm _ _ _ _ _ hP hD hS (show lv_has ls 2 [(0, .ref mq), (1, .ref wq)] from lv_sub hl [0, 1] rfl)
    · rw [if_neg c8] at hf
      refine lv_null hx hb d_Mk_make_22 ?_
      exact Kr _ (Option.some.inj hf).symm _ _ _ _ _ _ d_Mk_make_23 hP hD hS
  · rw [if_neg c3] at hf
    refine lv_null hx hb d_Mk_make_8 ?_
    exact Kr _ (Option.some.inj hf).symm _ _ _ _ _ _ d_Mk_make_9 hP hD hS
def f_Mk_makeA_Re (n : Nat) (kHeads : Nat → Int32) (kTails : Nat → Int64) (kNext : Nat → Int32) (kSlots : Nat → Int32) (kClassOf : Nat → Int32) (kFinerOf : Nat → Int32) (kMarkOf : Nat → Int32) (kFirstOf : Nat → Int32) (kMarkSlots : Nat → Int32) (kClasses : Int32) (wHead : Int32) (aStates1 : Int32) (aNl1 : Nat) (aNext1 : Nat → Int32) (aLast1 : Int64) : Option (Option auP × (Nat → Int32) × (Nat → Int64) × (Nat → Int32) × (Nat → Int32) × Int32 × (Nat → Int32) × (Nat → Int32) × (Nat → Int32) × (Nat → Int32) × (Nat → Int32) × Int32 × Int64) :=
  (f_Mk_make_Re n kHeads kTails kNext kSlots kClassOf kFinerOf kMarkOf kFirstOf kMarkSlots kClasses wHead aStates1 aNl1 aNext1 aLast1).bind fun u => u.elim (fun r => oq r.1 (some (none, r.2)) (fun _ => none)) fun x =>
  (f_Mk_joinedA_Re n x.1 x.2.1 x.2.2.1 x.2.2.2.2.2.1 x.2.2.2.2.2.2.2.2.1 x.2.2.2.2.2.2.2.2.2.2.1 aLast1).bind fun v =>
  some (some (x.2.2.2.2.2.2.2.2.2.2.1, v.1, v.2.1, v.2.2), x)
set_option maxHeartbeats 400000 in
set_option maxRecDepth 100000 in
theorem c_Mk_make_Re (l : Launch) {r : Option auP × (Nat → Int32) × (Nat → Int64) × (Nat → Int32) × (Nat → Int32) × Int32 × (Nat → Int32) × (Nat → Int32) × (Nat → Int32) × (Nat → Int32) × (Nat → Int32) × Int32 × Int64} (sz : Nat) (hf : f_Mk_makeA_Re n kHeads kTails kNext kSlots kClassOf kFinerOf kMarkOf kFirstOf kMarkSlots kClasses wHead aStates1 aNl1 aNext1 aLast1 = some r) : Met l y_Mk_make w0_Mk_make ({ frames := 4, cells := 3, slots := 324, locals := 100 }) (withX (wPreR D K [.ref mq, .ref wq] ((mkW K mq m0 m1 m2 m3 m5 m6 m7 m8 m9 kHeads kTails kNext kSlots kReached kClassOf kFinerOf kMarkOf kFirstOf kMarkSlots kClasses) ++ (reW K wq q1 wHead wTail)) ((auW K q1 an1 aa1 aStates1 aNl1 aNext1 aLast1 aAhead1)) sz)) (wPostG D K (fun g : Nat × Nat × Nat × Nat × Nat => some (auV r.1 g.2.2.1)) (fun g => ((mkW K mq m0 m1 m2 m3 g.1 g.2.1 m7 m8 m9 r.2.1 r.2.2.1 r.2.2.2.1 r.2.2.2.2.1 r.2.2.2.2.2.1 r.2.2.2.2.2.2.1 r.2.2.2.2.2.2.2.1 r.2.2.2.2.2.2.2.2.1 r.2.2.2.2.2.2.2.2.2.1 r.2.2.2.2.2.2.2.2.2.2.1 r.2.2.2.2.2.2.2.2.2.2.2.1) ++ (reW K wq q1 wHead r.2.2.2.2.2.2.2.2.2.2.2.2)) ++ auO K r.1 g.2.2.1 g.2.2.2.1 g.2.2.2.2) (va_A ((mkW K mq m0 m1 m2 m3 m5 m6 m7 m8 m9 kHeads kTails kNext kSlots kReached kClassOf kFinerOf kMarkOf kFirstOf kMarkSlots kClasses) ++ (reW K wq q1 wHead wTail)) sz)) 3 324 (va_A ((mkW K mq m0 m1 m2 m3 m5 m6 m7 m8 m9 kHeads kTails kNext kSlots kReached kClassOf kFinerOf kMarkOf kFirstOf kMarkSlots kClasses) ++ (reW K wq q1 wHead wTail)) sz) := by
  unfold f_Mk_makeA_Re at hf
  obtain ⟨u, e1, hf⟩ := obd hf
  refine Met.ofW (cc := b_Mk_make) (maxL := 2) (ret := (some (.object "RegularSolver$Automaton"))) (by decide) rfl ?_
  intro p e s m args below meth c s₁ B hml hv
  obtain ⟨hv, hX⟩ := hv
  obtain ⟨rfl, hsz, hP, hK, hD0, hR, hw⟩ := hv
  subst hsz
  have hx := B.exec
  have hb := B.bytes
  have hts : ∀ w ∈ gW, w.before _ s = true := fun w hw => atoms_spec (ws := w0_Mk_make) B.pre w (List.mem_cons_of_mem _ hw)
  have hown : s.vm.findClass "RegularSolver$Maker" = some m.cls := findClass_of_methodNamed B.named
  have hD := hD0.self (sz := s.heap.size)
  generalize hAe : va_A ((mkW K mq m0 m1 m2 m3 m5 m6 m7 m8 m9 kHeads kTails kNext kSlots kReached kClassOf kFinerOf kMarkOf kFirstOf kMarkSlots kClasses) ++ (reW K wq q1 wHead wTail)) s.heap.size = A at hD hw ⊢
  have hA : ∀ q : Nat, s.heap.size ≤ q → A q := fun q h => by rw [← hAe]; exact Or.inr h
  have hS : va_S A s.heap s.heap [] := va_S.rf
  have hO1 : ∀ (H : Heap) (locs : List Loc), va_S A s.heap H locs → va_P D vwCl (auW K q1 an1 aa1 aStates1 aNl1 aNext1 aLast1 aAhead1) H := fun _ _ hS => ro_of hR hw hS
  have hw1 : gAw A (auW K q1 an1 aa1 aStates1 aNl1 aNext1 aLast1 aAhead1) := hw
  have hl := lv_entry [.ref mq, .ref wq] (n := 2) (Nat.le_of_ble_eq_true rfl)
  rw [lg_entry_eq]
  generalize (lg_sl [.ref mq, .ref wq] ++ List.replicate (2 - (lg_sl [.ref mq, .ref wq]).length) Slot.unset).toArray = ls at hl ⊢
  refine w_Mk_make_Re (A := A) (H0 := s.heap) hx hb hml hts hown hK hX hO1 hw1 (Nat.le_of_ble_eq_true rfl) (Nat.le_of_ble_eq_true rfl) (by decide : 0 ≤ 3) (by decide : 0 ≤ 324) hA (fun r1 er m5 m6 pc ls H locs hd hP hD hS => ?_) (fun x eu m5 m6 ls H locs hP hD hS hl => ?_) e1 ls hP hD hS hl
  · subst er
    obtain ⟨w, r2⟩ := r1
    obtain ⟨hw0, hf⟩ := oqN (show oq w (some ((none : Option auP), r2)) (fun _ => none) = some r from hf)
    subst hw0
    obtain rfl := Option.some.inj hf
    refine W.widen (k := 3) (n := 324) (by decide) (by decide) ?_
    refine W.aret (v := .null) hx hb B.returns (Or.inl ⟨_, rfl⟩) (Or.inl rfl) (fun t ht hW => ?_) hS.2.2 hd (hlocks := B.notSynchronized)
    exact ⟨⟨(m5, m6, 0, 0, 0), rfl, by rw [ht]; exact hP, va_K.moved hW.alike hK, hD⟩, hS.F ht⟩
  · subst eu
    replace hf := oel hf
    obtain ⟨v, e2, hf⟩ := obd hf
    obtain rfl := Option.some.inj hf
    refine lv_aload_n hx hb d_Mk_make_24 rfl (lv_at hl 0 rfl) ?_
    refine lv_aload_n hx hb d_Mk_make_25 rfl (lv_at hl 1 rfl) ?_
    refine w_callA (va_runV (As := [.ref wq]) (rest := []) ⟨hx, hb, hml, hown, hts⟩ (c_Mk_joined_Re l H.size e2) (gV 1 hts cd_Mk_joined ml_Mk_59 im_Mk_joined se_Mk_joined ini_Mk rfl rfl pd_Mk_joined ⟨Nat.le_of_ble_eq_true rfl, Nat.le_of_ble_eq_true rfl⟩) ⟨(withX_blind wPreR_blind), va_recv hK (vaL hP) (ci := 6) (q0 := 0) rfl rfl, withX_of (wPreR_of hP hK hD hS hA (hO1 _ _ hS) hw1) hX⟩ rfl rfl hl.1 rfl (lv_room (Nat.le_of_ble_eq_true rfl)) d_Mk_make_26 ⟨(by decide : 0 + 3 ≤ 3), (by decide : 0 + 324 ≤ 324)⟩) hD hS hA (fun g H1 locs hP1 hD1 hk1 hS1 => ?_)
    have hD1 := hD1.weaken (B := A) (fun _ q _ h => va_sub hD hS hA q.1 h)
    exact W.aret hx hb B.returns (Or.inl ⟨_, rfl⟩) (Or.inr ⟨_, rfl⟩) (fun t ht hW => ⟨⟨g, rfl, by rw [ht]; exact hP1, va_K.moved hW.alike hK, hD1⟩, hS1.F ht⟩) hS1.2.2 d_Mk_make_29 (hlocks := B.notSynchronized)
end
