theorem wPreR_of2 {D : va_G} {K : Nat → ClassId} {av : List Value} {ws rs : va_W} {s : State} {H : Heap} {A : Nat → Prop} (hP : va_P D vwCl ws H) (hK : va_K D vwCl (tG K) s) (hD : va_D A ws) (hR : va_P D vwCl rs H) (hw : gAw (va_A ws H.size) rs) : ∀ U : State, U.heap = H → s.WarmedH U.vm → wPreR D K av ws rs H.size av.toArray U := fun _ hU hW => ⟨rfl, by rw [hU], by rw [hU]; exact hP, va_K.moved hW.alike hK, hD.weaken (fun _ _ _ _ => trivial), by rw [hU]; exact hR, hw⟩
theorem gI {R : Room} {s : State} {args : Array Value} {own : String} {index maxL mc ms : Nat} {y : MethodName} {bytes : ByteArray} {rm : Room} (n : Nat) (ht : ∀ w ∈ gW, w.before args s = true) (hc : Cond.code y bytes maxL none ∈ gW) (hl : Cond.methodLink own index y ∈ gW) (hi : Cond.instanceMethod y ∈ gW) (hini : Cond.initialized y.cls ∈ gW) (hnm : y.name = "<init>") (hrc : rm.cells = mc) (hrs : rm.slots = ms)
    (hd : y.cls ≠ "java/lang/invoke/MethodHandle" ∧ y.cls ≠ "java/lang/invoke/VarHandle" ∧ (parseMethodDescriptor y.desc).map (fun d => d.parameters.length) = some n) (hR : rm.frames + 1 ≤ R.frames ∧ 8 + (maxL + 11) + rm.locals ≤ R.locals) :
    CallB R s args own index y bytes maxL none (Cond.code y bytes maxL none :: gW) rm mc ms n ∧ y.name = "<init>" ∧ (Cond.instanceMethod y).before args s = true :=
  ⟨callB_of n ht (gW_g hc) rfl hrc hrs (ht _ hini) (ht _ hl) hd hR, hnm, ht _ hi⟩

theorem cl_Mk_115 : (Cond.classLink "RegularSolver$Maker" 115 "RegularSolver$Automaton") ∈ gW := gm 433 (by decide +kernel) (by decide +kernel)
theorem it_Au : (Cond.instantiable "RegularSolver$Automaton" 4) ∈ gW := gm 434 (by decide +kernel) (by decide +kernel)
theorem ml_Mk_117 : (Cond.methodLink "RegularSolver$Maker" 117 ({ cls := "RegularSolver$Automaton", name := "<init>", desc := "(I[IJ)V" } : MethodName)) ∈ gW := gm 435 (by decide +kernel) (by decide +kernel)
theorem im_Au_init : (Cond.instanceMethod ({ cls := "RegularSolver$Automaton", name := "<init>", desc := "(I[IJ)V" } : MethodName)) ∈ gW := gm 436 (by decide +kernel) (by decide +kernel)
def f_Mk_joinedA_Br (n : Nat) (kHeads : Nat → Int32) (kTails : Nat → Int64) (kNext : Nat → Int32) (kClassOf : Nat → Int32) (kFirstOf : Nat → Int32) (kClasses : Int32) (bEnd : Int32) : Option (Int64 × (Nat → Int32) × (Nat → Int64)) :=
  ogd (gin (4 * kClasses) 257) <|
  (f_Mk_joined_Br n kHeads kTails kNext kClassOf kFirstOf kClasses bEnd (4 * kClasses).toNatClampNeg (fun _ => 0)).bind fun u =>
  (f_Au_init n kClasses u.1 (fun _ => 0) (4 * kClasses).toNatClampNeg u.2).bind fun v =>
  some (u.1, u.2, v)
section
variable {p : Program} {l : Launch} {e : Env} {R : Room} {s : State} {m : MethodId} {args : Array Value} {below : List Frame} {meth : Method} {c : Code} {H : Heap} {locs : List Loc} {cells slots : Nat} {Q : State → Prop} {A : Nat → Prop} {H0 : Heap}
variable {n : Nat} {D : va_G} {K : Nat → ClassId} {mq : Nat} {m0 : Nat} {m1 : Nat} {m2 : Nat} {m3 : Nat} {m5 : Nat} {m6 : Nat} {m7 : Nat} {m8 : Nat} {m9 : Nat} {wq : Nat} {kHeads : Nat → Int32} {kTails : Nat → Int64} {kNext : Nat → Int32} {kSlots : Nat → Int32} {kReached : Int32} {kClassOf : Nat → Int32} {kFinerOf : Nat → Int32} {kMarkOf : Nat → Int32} {kFirstOf : Nat → Int32} {kMarkSlots : Nat → Int32} {kClasses : Int32} {wHead : Int32} {wTail : Int64} {bSet : Int32} {bEnd : Int32}
set_option maxHeartbeats 400000 in
set_option maxRecDepth 100000 in
theorem c_Mk_joined_Br (l : Launch) {r : Int64 × (Nat → Int32) × (Nat → Int64)} (sz : Nat) (hf : f_Mk_joinedA_Br n kHeads kTails kNext kClassOf kFirstOf kClasses bEnd = some r) : Met l y_Mk_joined w0_Mk_joined ({ frames := 2, cells := 3, slots := 324, locals := 54 }) (withX (wPre D K [.ref mq, .ref wq] ((mkW K mq m0 m1 m2 m3 m5 m6 m7 m8 m9 kHeads kTails kNext kSlots kReached kClassOf kFinerOf kMarkOf kFirstOf kMarkSlots kClasses) ++ (brW K wq wHead wTail bSet bEnd)) sz)) (wPostG D K (fun g : Nat × Nat × Nat × Nat × Nat => some (.ref g.2.2.1)) (fun g => ((mkW K mq m0 m1 m2 m3 g.1 g.2.1 m7 m8 m9 kHeads kTails kNext kSlots kReached kClassOf kFinerOf kMarkOf kFirstOf kMarkSlots kClasses) ++ (brW K wq wHead wTail bSet bEnd)) ++ auW K g.2.2.1 g.2.2.2.1 g.2.2.2.2 kClasses (4 * kClasses).toNatClampNeg r.2.1 r.1 r.2.2) (va_A ((mkW K mq m0 m1 m2 m3 m5 m6 m7 m8 m9 kHeads kTails kNext kSlots kReached kClassOf kFinerOf kMarkOf kFirstOf kMarkSlots kClasses) ++ (brW K wq wHead wTail bSet bEnd)) sz)) 3 324 (va_A ((mkW K mq m0 m1 m2 m3 m5 m6 m7 m8 m9 kHeads kTails kNext kSlots kReached kClassOf kFinerOf kMarkOf kFirstOf kMarkSlots kClasses) ++ (brW K wq wHead wTail bSet bEnd)) sz) := by
  unfold f_Mk_joinedA_Br at hf
  obtain ⟨g1, hf⟩ := ogi hf
  obtain ⟨u, e1, hf⟩ := obd hf
  obtain ⟨v, e2, hf⟩ := obd hf
  obtain rfl := Option.some.inj hf
  refine Met.ofW (cc := b_Mk_joined) (maxL := 8) (ret := (some (.object "RegularSolver$Automaton"))) (by decide) rfl ?_
  intro p e s m args below meth c s₁ B hml hv
  obtain ⟨hv, hX⟩ := hv
  obtain ⟨rfl, hsz, hP, hK, hD0⟩ := hv
  subst hsz
  have hx := B.exec
  have hb := B.bytes
  have hts : ∀ w ∈ gW, w.before _ s = true := fun w hw => atoms_spec (ws := w0_Mk_joined) B.pre w (List.mem_cons_of_mem _ hw)
  have hown : s.vm.findClass "RegularSolver$Maker" = some m.cls := findClass_of_methodNamed B.named
  have hD := hD0.self (sz := s.heap.size)
  generalize hAe : va_A ((mkW K mq m0 m1 m2 m3 m5 m6 m7 m8 m9 kHeads kTails kNext kSlots kReached kClassOf kFinerOf kMarkOf kFirstOf kMarkSlots kClasses) ++ (brW K wq wHead wTail bSet bEnd)) s.heap.size = A at hD ⊢
  have hA : ∀ q : Nat, s.heap.size ≤ q → A q := fun q h => by rw [← hAe]; exact Or.inr h
  have hS : va_S A s.heap s.heap [] := va_S.rf
  have hl := lv_entry [.ref mq, .ref wq] (n := 8) (Nat.le_of_ble_eq_true rfl)
  rw [lg_entry_eq]
  generalize (lg_sl [.ref mq, .ref wq] ++ List.replicate (8 - (lg_sl [.ref mq, .ref wq]).length) Slot.unset).toArray = ls at hl ⊢
  refine lv_iconst (v := 4) hx hb d_Mk_joined_0 (by decide) ?_
  refine lv_aload_n hx hb d_Mk_joined_1 rfl (lv_at hl 0 rfl) ?_
  refine va_get (D := D) (ci := 6) (v := .int kClasses) (C := R_Mk) (T := T_Mk) (N := 11) hx hb hts in_Mk hown hK hP 0 rfl rfl 10 (by decide) (hts _ fl_Mk_44) (fun _ h9 => h9) rfl d_Mk_joined_2 ?_
  refine lv_imul hx hb d_Mk_joined_5 ?_
  refine g_newa (atype := .int) (ty := .int) hx hb (hts _ ac_int) rfl 0 rfl (fun _ h => h) hK hP hD hS hA (N' := (4 * kClasses).toNatClampNeg) (a0 := ((4 * kClasses).toNatClampNeg, .inl (fun _ => 0))) (fun _ => rfl) (fun h => gin_in g1 (Or.inl h)) rfl (by have := gin_lt g1; show _ * 4 ≤ _; omega) (by decide : 0 + 1 ≤ 3) (by have := gin_lt g1; show 0 + _ ≤ 324; omega) d_Mk_joined_6 (fun iaN H hP hD hS => ?_)
  refine W.widen (k := 1) (n := 256) (by decide) (by have := gin_lt g1; omega) ?_
  have hP : va_P D vwCl (((mkW K mq m0 m1 m2 m3 m5 m6 m7 m8 m9 kHeads kTails kNext kSlots kReached kClassOf kFinerOf kMarkOf kFirstOf kMarkSlots kClasses) ++ (brW K wq wHead wTail bSet bEnd)) ++ (iaW K iaN (4 * kClasses).toNatClampNeg (fun _ => 0))) H := hP
  have hD : va_D A (((mkW K mq m0 m1 m2 m3 m5 m6 m7 m8 m9 kHeads kTails kNext kSlots kReached kClassOf kFinerOf kMarkOf kFirstOf kMarkSlots kClasses) ++ (brW K wq wHead wTail bSet bEnd)) ++ (iaW K iaN (4 * kClasses).toNatClampNeg (fun _ => 0))) := hD
  refine w_Mk_joined_Br (A := A) (H0 := s.heap) hx hb hml hts hown hK hX (Nat.le_of_ble_eq_true rfl) (Nat.le_of_ble_eq_true rfl) (by decide : 1 ≤ 3) (by decide : 256 ≤ 324) hA (fun u1 eu m5 m6 ls H locs hP hD hS hl => ?_) e1 ls hP hD hS hl
  subst eu
  refine va_new (ci := 1) (fs := [.int 0, .null, .long 0, .null]) (C := R_Au) (T := T_Au) (N := 4) hx hb hts in_Au t_Au t_Au_ok hown (hts _ cl_Mk_115) (hts _ it_Au) (hts _ ini_Au) hK hP hD hS hA rfl (by decide) (by decide : 1 + 1 ≤ 3) (by decide : 256 + 4 ≤ 324) d_Mk_joined_107 (fun q H hP hD hS => ?_)
  refine W.widen (k := 2) (n := 260) (by decide) (by decide) ?_
  refine lv_dup hx hb d_Mk_joined_110 rfl ?_
  refine lv_aload_n hx hb d_Mk_joined_111 rfl (lv_at hl 0 rfl) ?_
  have hP : va_P D vwCl ((((mkW K mq m0 m1 m2 m3 m5 m6 m7 m8 m9 kHeads kTails kNext kSlots kReached kClassOf kFinerOf kMarkOf kFirstOf kMarkSlots kClasses) ++ (brW K wq wHead wTail bSet bEnd)) ++ (iaW K iaN (4 * kClasses).toNatClampNeg u.2)) ++ [(q, .inr (1, [.int 0, .null, .long 0, .null]))]) H := hP
  have hD : va_D A ((((mkW K mq m0 m1 m2 m3 m5 m6 m7 m8 m9 kHeads kTails kNext kSlots kReached kClassOf kFinerOf kMarkOf kFirstOf kMarkSlots kClasses) ++ (brW K wq wHead wTail bSet bEnd)) ++ (iaW K iaN (4 * kClasses).toNatClampNeg u.2)) ++ [(q, .inr (1, [.int 0, .null, .long 0, .null]))]) := hD
  refine va_get (D := D) (ci := 6) (v := .int kClasses) (C := R_Mk) (T := T_Mk) (N := 11) hx hb hts in_Mk hown hK hP 0 rfl rfl 10 (by decide) (hts _ fl_Mk_44) (fun _ h9 => h9) rfl d_Mk_joined_112 ?_
  refine lv_aload_n hx hb d_Mk_joined_115 rfl (lv_at hl 1 rfl) ?_
  refine lv_lload_n hx hb d_Mk_joined_116 rfl (lv_at hl 2 rfl) ?_
  refine w_callA (va_runI (As := [.int kClasses, .ref iaN, .long u.1]) (rest := [.ref q]) ⟨hx, hb, hml, hown, hts⟩ (c_Au_init l H.size e2) (gI 3 hts cd_Au_init ml_Mk_117 im_Au_init ini_Au rfl rfl rfl pd_Au_init ⟨Nat.le_of_ble_eq_true rfl, Nat.le_of_ble_eq_true rfl⟩) ⟨wPreR_blind, wPreR_of2 (vaR hP) hK (vdR hD) (vaR (vaL hP)) (gAw_of hP hD).right⟩ rfl rfl hl.1 rfl (lv_room (Nat.le_of_ble_eq_true rfl)) d_Mk_joined_117 ⟨(by decide : 2 + 1 ≤ 3), (by decide : 260 + 64 ≤ 324)⟩) (vdR hD) hS hA (fun aa H1 locs hP1 hD1 hk1 hS1 => ?_)
  obtain ⟨hP, hD⟩ := va_keepL hP hD (va_sub (vdR hD) hS hA) hk1 hP1 hD1
  have hS := hS1
  generalize H1 = H at hP hS ⊢
  have hP : va_P D vwCl (((mkW K mq m0 m1 m2 m3 m5 m6 m7 m8 m9 kHeads kTails kNext kSlots kReached kClassOf kFinerOf kMarkOf kFirstOf kMarkSlots kClasses) ++ (brW K wq wHead wTail bSet bEnd)) ++ auW K q iaN aa kClasses (4 * kClasses).toNatClampNeg u.2 u.1 v) H := hP.sub [0, 1, 2, 3, 4, 5, 6, 7, 8, 9, 10, 12, 11, 13] rfl
  have hD : va_D A (((mkW K mq m0 m1 m2 m3 m5 m6 m7 m8 m9 kHeads kTails kNext kSlots kReached kClassOf kFinerOf kMarkOf kFirstOf kMarkSlots kClasses) ++ (brW K wq wHead wTail bSet bEnd)) ++ auW K q iaN aa kClasses (4 * kClasses).toNatClampNeg u.2 u.1 v) := hD.sub [0, 1, 2, 3, 4, 5, 6, 7, 8, 9, 10, 12, 11, 13] (by decide) rfl
  exact W.aret hx hb B.returns (Or.inl ⟨_, rfl⟩) (Or.inr ⟨_, rfl⟩) (fun t ht hW => ⟨⟨(m5, m6, q, iaN, aa), rfl, by rw [ht]; exact hP, va_K.moved hW.alike hK, hD⟩, hS.F ht⟩) hS.2.2 d_Mk_joined_120 (hlocks := B.notSynchronized)
end
def f_Mk_joinedA_Ch (n : Nat) (kHeads : Nat → Int32) (kTails : Nat → Int64) (kNext : Nat → Int32) (kClassOf : Nat → Int32) (kFirstOf : Nat → Int32) (kClasses : Int32) (aLast2 : Int64) : Option (Int64 × (Nat → Int32) × (Nat → Int64)) :=
  ogd (gin (4 * kClasses) 257) <|
  (f_Mk_joined_Ch n kHeads kTails kNext kClassOf kFirstOf kClasses (4 * kClasses).toNatClampNeg (fun _ => 0) aLast2).bind fun u =>
  (f_Au_init n kClasses u.1 (fun _ => 0) (4 * kClasses).toNatClampNeg u.2).bind fun v =>
  some (u.1, u.2, v)
section
variable {p : Program} {l : Launch} {e : Env} {R : Room} {s : State} {m : MethodId} {args : Array Value} {below : List Frame} {meth : Method} {c : Code} {H : Heap} {locs : List Loc} {cells slots : Nat} {Q : State → Prop} {A : Nat → Prop} {H0 : Heap}
variable {n : Nat} {D : va_G} {K : Nat → ClassId} {mq : Nat} {m0 : Nat} {m1 : Nat} {m2 : Nat} {m3 : Nat} {m5 : Nat} {m6 : Nat} {m7 : Nat} {m8 : Nat} {m9 : Nat} {wq : Nat} {q1 : Nat} {q2 : Nat} {an1 : Nat} {aa1 : Nat} {an2 : Nat} {aa2 : Nat} {kHeads : Nat → Int32} {kTails : Nat → Int64} {kNext : Nat → Int32} {kSlots : Nat → Int32} {kReached : Int32} {kClassOf : Nat → Int32} {kFinerOf : Nat → Int32} {kMarkOf : Nat → Int32} {kFirstOf : Nat → Int32} {kMarkSlots : Nat → Int32} {kClasses : Int32} {wHead : Int32} {wTail : Int64} {aStates1 : Int32} {aNl1 : Nat} {aNext1 : Nat → Int32} {aLast1 : Int64} {aAhead1 : Nat → Int64} {aStates2 : Int32} {aNl2 : Nat} {aNext2 : Nat → Int32} {aLast2 : Int64} {aAhead2 : Nat → Int64}
set_option maxHeartbeats 400000 in
set_option maxRecDepth 100000 in
theorem c_Mk_joined_Ch (l : Launch) {r : Int64 × (Nat → Int32) × (Nat → Int64)} (sz : Nat) (hf : f_Mk_joinedA_Ch n kHeads kTails kNext kClassOf kFirstOf kClasses aLast2 = some r) : Met l y_Mk_joined w0_Mk_joined ({ frames := 2, cells := 3, slots := 324, locals := 54 }) (withX (wPreR D K [.ref mq, .ref wq] ((mkW K mq m0 m1 m2 m3 m5 m6 m7 m8 m9 kHeads kTails kNext kSlots kReached kClassOf kFinerOf kMarkOf kFirstOf kMarkSlots kClasses) ++ (chW K wq q1 q2 wHead wTail)) ((auW K q1 an1 aa1 aStates1 aNl1 aNext1 aLast1 aAhead1) ++ (auW K q2 an2 aa2 aStates2 aNl2 aNext2 aLast2 aAhead2)) sz)) (wPostG D K (fun g : Nat × Nat × Nat × Nat × Nat => some (.ref g.2.2.1)) (fun g => ((mkW K mq m0 m1 m2 m3 g.1 g.2.1 m7 m8 m9 kHeads kTails kNext kSlots kReached kClassOf kFinerOf kMarkOf kFirstOf kMarkSlots kClasses) ++ (chW K wq q1 q2 wHead wTail)) ++ auW K g.2.2.1 g.2.2.2.1 g.2.2.2.2 kClasses (4 * kClasses).toNatClampNeg r.2.1 r.1 r.2.2) (va_A ((mkW K mq m0 m1 m2 m3 m5 m6 m7 m8 m9 kHeads kTails kNext kSlots kReached kClassOf kFinerOf kMarkOf kFirstOf kMarkSlots kClasses) ++ (chW K wq q1 q2 wHead wTail)) sz)) 3 324 (va_A ((mkW K mq m0 m1 m2 m3 m5 m6 m7 m8 m9 kHeads kTails kNext kSlots kReached kClassOf kFinerOf kMarkOf kFirstOf kMarkSlots kClasses) ++ (chW K wq q1 q2 wHead wTail)) sz) := by
  unfold f_Mk_joinedA_Ch at hf
  obtain ⟨g1, hf⟩ := ogi hf
  obtain ⟨u, e1, hf⟩ := obd hf
  obtain ⟨v, e2, hf⟩ := obd hf
  obtain rfl := Option.some.inj hf
  refine Met.ofW (cc := b_Mk_joined) (maxL := 8) (ret := (some (.object "RegularSolver$Automaton"))) (by decide) rfl ?_
  intro p e s m args below meth c s₁ B hml hv
  obtain ⟨hv, hX⟩ := hv
  obtain ⟨rfl, hsz, hP, hK, hD0, hR, hw⟩ := hv
  subst hsz
  have hx := B.exec
  have hb := B.bytes
  have hts : ∀ w ∈ gW, w.before _ s = true := fun w hw => atoms_spec (ws := w0_Mk_joined) B.pre w (List.mem_cons_of_mem _ hw)
  have hown : s.vm.findClass "RegularSolver$Maker" = some m.cls := findClass_of_methodNamed B.named
  have hD := hD0.self (sz := s.heap.size)
  generalize hAe : va_A ((mkW K mq m0 m1 m2 m3 m5 m6 m7 m8 m9 kHeads kTails kNext kSlots kReached kClassOf kFinerOf kMarkOf kFirstOf kMarkSlots kClasses) ++ (chW K wq q1 q2 wHead wTail)) s.heap.size = A at hD hw ⊢
  have hA : ∀ q : Nat, s.heap.size ≤ q → A q := fun q h => by rw [← hAe]; exact Or.inr h
  have hS : va_S A s.heap s.heap [] := va_S.rf
  have hl := lv_entry [.ref mq, .ref wq] (n := 8) (Nat.le_of_ble_eq_true rfl)
  rw [lg_entry_eq]
  generalize (lg_sl [.ref mq, .ref wq] ++ List.replicate (8 - (lg_sl [.ref mq, .ref wq]).length) Slot.unset).toArray = ls at hl ⊢
  refine lv_iconst (v := 4) hx hb d_Mk_joined_0 (by decide) ?_
  refine lv_aload_n hx hb d_Mk_joined_1 rfl (lv_at hl 0 rfl) ?_
  refine va_get (D := D) (ci := 6) (v := .int kClasses) (C := R_Mk) (T := T_Mk) (N := 11) hx hb hts in_Mk hown hK hP 0 rfl rfl 10 (by decide) (hts _ fl_Mk_44) (fun _ h9 => h9) rfl d_Mk_joined_2 ?_
  refine lv_imul hx hb d_Mk_joined_5 ?_
  refine g_newa (atype := .int) (ty := .int) hx hb (hts _ ac_int) rfl 0 rfl (fun _ h => h) hK hP hD hS hA (N' := (4 * kClasses).toNatClampNeg) (a0 := ((4 * kClasses).toNatClampNeg, .inl (fun _ => 0))) (fun _ => rfl) (fun h => gin_in g1 (Or.inl h)) rfl (by have := gin_lt g1; show _ * 4 ≤ _; omega) (by decide : 0 + 1 ≤ 3) (by have := gin_lt g1; show 0 + _ ≤ 324; omega) d_Mk_joined_6 (fun iaN H hP hD hS => ?_)
  refine W.widen (k := 1) (n := 256) (by decide) (by have := gin_lt g1; omega) ?_
  have hP : va_P D vwCl (((mkW K mq m0 m1 m2 m3 m5 m6 m7 m8 m9 kHeads kTails kNext kSlots kReached kClassOf kFinerOf kMarkOf kFirstOf kMarkSlots kClasses) ++ (chW K wq q1 q2 wHead wTail)) ++ (iaW K iaN (4 * kClasses).toNatClampNeg (fun _ => 0))) H := hP
  have hD : va_D A (((mkW K mq m0 m1 m2 m3 m5 m6 m7 m8 m9 kHeads kTails kNext kSlots kReached kClassOf kFinerOf kMarkOf kFirstOf kMarkSlots kClasses) ++ (chW K wq q1 q2 wHead wTail)) ++ (iaW K iaN (4 * kClasses).toNatClampNeg (fun _ => 0))) := hD
  refine w_Mk_joined_Ch (A := A) (H0 := s.heap) hx hb hml hts hown hK hX (fun _ _ hS => ro_of (vaL hR) (gAw.left hw) hS) (gAw.left hw) (fun _ _ hS => ro_of (vaR hR) (gAw.right hw) hS) (gAw.right hw) (Nat.le_of_ble_eq_true rfl) (Nat.le_of_ble_eq_true rfl) (by decide : 1 ≤ 3) (by decide : 256 ≤ 324) hA (fun u1 eu m5 m6 ls H locs hP hD hS hl => ?_) e1 ls hP hD hS hl
  subst eu
  refine va_new (ci := 1) (fs := [.int 0, .null, .long 0, .null]) (C := R_Au) (T := T_Au) (N := 4) hx hb hts in_Au t_Au t_Au_ok hown (hts _ cl_Mk_115) (hts _ it_Au) (hts _ ini_Au) hK hP hD hS hA rfl (by decide) (by decide : 1 + 1 ≤ 3) (by decide : 256 + 4 ≤ 324) d_Mk_joined_107 (fun q H hP hD hS => ?_)
  refine W.widen (k := 2) (n := 260) (by decide) (by decide) ?_
  refine lv_dup hx hb d_Mk_joined_110 rfl ?_
  refine lv_aload_n hx hb d_Mk_joined_111 rfl (lv_at hl 0 rfl) ?_
  have hP : va_P D vwCl ((((mkW K mq m0 m1 m2 m3 m5 m6 m7 m8 m9 kHeads kTails kNext kSlots kReached kClassOf kFinerOf kMarkOf kFirstOf kMarkSlots kClasses) ++ (chW K wq q1 q2 wHead wTail)) ++ (iaW K iaN (4 * kClasses).toNatClampNeg u.2)) ++ [(q, .inr (1, [.int 0, .null, .long 0, .null]))]) H := hP
  have hD : va_D A ((((mkW K mq m0 m1 m2 m3 m5 m6 m7 m8 m9 kHeads kTails kNext kSlots kReached kClassOf kFinerOf kMarkOf kFirstOf kMarkSlots kClasses) ++ (chW K wq q1 q2 wHead wTail)) ++ (iaW K iaN (4 * kClasses).toNatClampNeg u.2)) ++ [(q, .inr (1, [.int 0, .null, .long 0, .null]))]) := hD
  refine va_get (D := D) (ci := 6) (v := .int kClasses) (C := R_Mk) (T := T_Mk) (N := 11) hx hb hts in_Mk hown hK hP 0 rfl rfl 10 (by decide) (hts _ fl_Mk_44) (fun _ h9 => h9) rfl d_Mk_joined_112 ?_
  refine lv_aload_n hx hb d_Mk_joined_115 rfl (lv_at hl 1 rfl) ?_
  refine lv_lload_n hx hb d_Mk_joined_116 rfl (lv_at hl 2 rfl) ?_
  refine w_callA (va_runI (As := [.int kClasses, .ref iaN, .long u.1]) (rest := [.ref q]) ⟨hx, hb, hml, hown, hts⟩ (c_Au_init l H.size e2) (gI 3 hts cd_Au_init ml_Mk_117 im_Au_init ini_Au rfl rfl rfl pd_Au_init ⟨Nat.le_of_ble_eq_true rfl, Nat.le_of_ble_eq_true rfl⟩) ⟨wPreR_blind, wPreR_of2 (vaR hP) hK (vdR hD) (vaR (vaL hP)) (gAw_of hP hD).right⟩ rfl rfl hl.1 rfl (lv_room (Nat.le_of_ble_eq_true rfl)) d_Mk_joined_117 ⟨(by decide : 2 + 1 ≤ 3), (by decide : 260 + 64 ≤ 324)⟩) (vdR hD) hS hA (fun aa H1 locs hP1 hD1 hk1 hS1 => ?_)
  obtain ⟨hP, hD⟩ := va_keepL hP hD (va_sub (vdR hD) hS hA) hk1 hP1 hD1
  have hS := hS1
  generalize H1 = H at hP hS ⊢
  have hP : va_P D vwCl (((mkW K mq m0 m1 m2 m3 m5 m6 m7 m8 m9 kHeads kTails kNext kSlots kReached kClassOf kFinerOf kMarkOf kFirstOf kMarkSlots kClasses) ++ (chW K wq q1 q2 wHead wTail)) ++ auW K q iaN aa kClasses (4 * kClasses).toNatClampNeg u.2 u.1 v) H := hP.sub [0, 1, 2, 3, 4, 5, 6, 7, 8, 9, 10, 12, 11, 13] rfl
  have hD : va_D A (((mkW K mq m0 m1 m2 m3 m5 m6 m7 m8 m9 kHeads kTails kNext kSlots kReached kClassOf kFinerOf kMarkOf kFirstOf kMarkSlots kClasses) ++ (chW K wq q1 q2 wHead wTail)) ++ auW K q iaN aa kClasses (4 * kClasses).toNatClampNeg u.2 u.1 v) := hD.sub [0, 1, 2, 3, 4, 5, 6, 7, 8, 9, 10, 12, 11, 13] (by decide) rfl
  exact W.aret hx hb B.returns (Or.inl ⟨_, rfl⟩) (Or.inr ⟨_, rfl⟩) (fun t ht hW => ⟨⟨(m5, m6, q, iaN, aa), rfl, by rw [ht]; exact hP, va_K.moved hW.alike hK, hD⟩, hS.F ht⟩) hS.2.2 d_Mk_joined_120 (hlocks := B.notSynchronized)
end
def f_Mk_joinedA_Pa (n : Nat) (kHeads : Nat → Int32) (kTails : Nat → Int64) (kNext : Nat → Int32) (kClassOf : Nat → Int32) (kFirstOf : Nat → Int32) (kClasses : Int32) (pBoth : Bool) (aLast1 : Int64) (aLast2 : Int64) : Option (Int64 × (Nat → Int32) × (Nat → Int64)) :=
  ogd (gin (4 * kClasses) 257) <|
  (f_Mk_joined_Pa n kHeads kTails kNext kClassOf kFirstOf kClasses pBoth (4 * kClasses).toNatClampNeg (fun _ => 0) aLast1 aLast2).bind fun u =>
  (f_Au_init n kClasses u.1 (fun _ => 0) (4 * kClasses).toNatClampNeg u.2).bind fun v =>
  some (u.1, u.2, v)
section
variable {p : Program} {l : Launch} {e : Env} {R : Room} {s : State} {m : MethodId} {args : Array Value} {below : List Frame} {meth : Method} {c : Code} {H : Heap} {locs : List Loc} {cells slots : Nat} {Q : State → Prop} {A : Nat → Prop} {H0 : Heap}
variable {n : Nat} {D : va_G} {K : Nat → ClassId} {mq : Nat} {m0 : Nat} {m1 : Nat} {m2 : Nat} {m3 : Nat} {m5 : Nat} {m6 : Nat} {m7 : Nat} {m8 : Nat} {m9 : Nat} {wq : Nat} {q1 : Nat} {q2 : Nat} {an1 : Nat} {aa1 : Nat} {an2 : Nat} {aa2 : Nat} {kHeads : Nat → Int32} {kTails : Nat → Int64} {kNext : Nat → Int32} {kSlots : Nat → Int32} {kReached : Int32} {kClassOf : Nat → Int32} {kFinerOf : Nat → Int32} {kMarkOf : Nat → Int32} {kFirstOf : Nat → Int32} {kMarkSlots : Nat → Int32} {kClasses : Int32} {wHead : Int32} {wTail : Int64} {pBoth : Bool} {aStates1 : Int32} {aNl1 : Nat} {aNext1 : Nat → Int32} {aLast1 : Int64} {aAhead1 : Nat → Int64} {aStates2 : Int32} {aNl2 : Nat} {aNext2 : Nat → Int32} {aLast2 : Int64} {aAhead2 : Nat → Int64}
set_option maxHeartbeats 400000 in
set_option maxRecDepth 100000 in
theorem c_Mk_joined_Pa (l : Launch) {r : Int64 × (Nat → Int32) × (Nat → Int64)} (sz : Nat) (hf : f_Mk_joinedA_Pa n kHeads kTails kNext kClassOf kFirstOf kClasses pBoth aLast1 aLast2 = some r) : Met l y_Mk_joined w0_Mk_joined ({ frames := 2, cells := 3, slots := 324, locals := 54 }) (withX (wPreR D K [.ref mq, .ref wq] ((mkW K mq m0 m1 m2 m3 m5 m6 m7 m8 m9 kHeads kTails kNext kSlots kReached kClassOf kFinerOf kMarkOf kFirstOf kMarkSlots kClasses) ++ (paW K wq q1 q2 wHead wTail pBoth)) ((auW K q1 an1 aa1 aStates1 aNl1 aNext1 aLast1 aAhead1) ++ (auW K q2 an2 aa2 aStates2 aNl2 aNext2 aLast2 aAhead2)) sz)) (wPostG D K (fun g : Nat × Nat × Nat × Nat × Nat => some (.ref g.2.2.1)) (fun g => ((mkW K mq m0 m1 m2 m3 g.1 g.2.1 m7 m8 m9 kHeads kTails kNext kSlots kReached kClassOf kFinerOf kMarkOf kFirstOf kMarkSlots kClasses) ++ (paW K wq q1 q2 wHead wTail pBoth)) ++ auW K g.2.2.1 g.2.2.2.1 g.2.2.2.2 kClasses (4 * kClasses).toNatClampNeg r.2.1 r.1 r.2.2) (va_A ((mkW K mq m0 m1 m2 m3 m5 m6 m7 m8 m9 kHeads kTails kNext kSlots kReached kClassOf kFinerOf kMarkOf kFirstOf kMarkSlots kClasses) ++ (paW K wq q1 q2 wHead wTail pBoth)) sz)) 3 324 (va_A ((mkW K mq m0 m1 m2 m3 m5 m6 m7 m8 m9 kHeads kTails kNext kSlots kReached kClassOf kFinerOf kMarkOf kFirstOf kMarkSlots kClasses) ++ (paW K wq q1 q2 wHead wTail pBoth)) sz) := by
  unfold f_Mk_joinedA_Pa at hf
  obtain ⟨g1, hf⟩ := ogi hf
  obtain ⟨u, e1, hf⟩ := obd hf
  obtain ⟨v, e2, hf⟩ := obd hf
  obtain rfl := Option.some.inj hf
  refine Met.ofW (cc := b_Mk_joined) (maxL := 8) (ret := (some (.object "RegularSolver$Automaton"))) (by decide) rfl ?_
  intro p e s m args below meth c s₁ B hml hv
  obtain ⟨hv, hX⟩ := hv
  obtain ⟨rfl, hsz, hP, hK, hD0, hR, hw⟩ := hv
  subst hsz
  have hx := B.exec
  have hb := B.bytes
  have hts : ∀ w ∈ gW, w.before _ s = true := fun w hw => atoms_spec (ws := w0_Mk_joined) B.pre w (List.mem_cons_of_mem _ hw)
  have hown : s.vm.findClass "RegularSolver$Maker" = some m.cls := findClass_of_methodNamed B.named
  have hD := hD0.self (sz := s.heap.size)
  generalize hAe : va_A ((mkW K mq m0 m1 m2 m3 m5 m6 m7 m8 m9 kHeads kTails kNext kSlots kReached kClassOf kFinerOf kMarkOf kFirstOf kMarkSlots kClasses) ++ (paW K wq q1 q2 wHead wTail pBoth)) s.heap.size = A at hD hw ⊢
  have hA : ∀ q : Nat, s.heap.size ≤ q → A q := fun q h => by rw [← hAe]; exact Or.inr h
  have hS : va_S A s.heap s.heap [] := va_S.rf
  have hl := lv_entry [.ref mq, .ref wq] (n := 8) (Nat.le_of_ble_eq_true rfl)
  rw [lg_entry_eq]
  generalize (lg_sl [.ref mq, .ref wq] ++ List.replicate (8 - (lg_sl [.ref mq, .ref wq]).length) Slot.unset).toArray = ls at hl ⊢
  refine lv_iconst (v := 4) hx hb d_Mk_joined_0 (by decide) ?_
  refine lv_aload_n hx hb d_Mk_joined_1 rfl (lv_at hl 0 rfl) ?_
  refine va_get (D := D) (ci := 6) (v := .int kClasses) (C := R_Mk) (T := T_Mk) (N := 11) hx hb hts in_Mk hown hK hP 0 rfl rfl 10 (by decide) (hts _ fl_Mk_44) (fun _ h9 => h9) rfl d_Mk_joined_2 ?_
  refine lv_imul hx hb d_Mk_joined_5 ?_
  refine g_newa (atype := .int) (ty := .int) hx hb (hts _ ac_int) rfl 0 rfl (fun _ h => h) hK hP hD hS hA (N' := (4 * kClasses).toNatClampNeg) (a0 := ((4 * kClasses).toNatClampNeg, .inl (fun _ => 0))) (fun _ => rfl) (fun h => gin_in g1 (Or.inl h)) rfl (by have := gin_lt g1; show _ * 4 ≤ _; omega) (by decide : 0 + 1 ≤ 3) (by have := gin_lt g1; show 0 + _ ≤ 324; omega) d_Mk_joined_6 (fun iaN H hP hD hS => ?_)
  refine W.widen (k := 1) (n := 256) (by decide) (by have := gin_lt g1; omega) ?_
  have hP : va_P D vwCl (((mkW K mq m0 m1 m2 m3 m5 m6 m7 m8 m9 kHeads kTails kNext kSlots kReached kClassOf kFinerOf kMarkOf kFirstOf kMarkSlots kClasses) ++ (paW K wq q1 q2 wHead wTail pBoth)) ++ (iaW K iaN (4 * kClasses).toNatClampNeg (fun _ => 0))) H := hP
  have hD : va_D A (((mkW K mq m0 m1 m2 m3 m5 m6 m7 m8 m9 kHeads kTails kNext kSlots kReached kClassOf kFinerOf kMarkOf kFirstOf kMarkSlots kClasses) ++ (paW K wq q1 q2 wHead wTail pBoth)) ++ (iaW K iaN (4 * kClasses).toNatClampNeg (fun _ => 0))) := hD
  refine w_Mk_joined_Pa (A := A) (H0 := s.heap) hx hb hml hts hown hK hX (fun _ _ hS => ro_of (vaL hR) (gAw.left hw) hS) (gAw.left hw) (fun _ _ hS => ro_of (vaR hR) (gAw.right hw) hS) (gAw.right hw) (Nat.le_of_ble_eq_true rfl) (Nat.le_of_ble_eq_true rfl) (by decide : 1 ≤ 3) (by decide : 256 ≤ 324) hA (fun u1 eu m5 m6 ls H locs hP hD hS hl => ?_) e1 ls hP hD hS hl
  subst eu
  refine va_new (ci := 1) (fs := [.int 0, .null, .long 0, .null]) (C := R_Au) (T := T_Au) (N := 4) hx hb hts in_Au t_Au t_Au_ok hown (hts _ cl_Mk_115) (hts _ it_Au) (hts _ ini_Au) hK hP hD hS hA rfl (by decide) (by decide : 1 + 1 ≤ 3) (by decide : 256 + 4 ≤ 324) d_Mk_joined_107 (fun q H hP hD hS => ?_)
  refine W.widen (k := 2) (n := 260) (by decide) (by decide) ?_
  refine lv_dup hx hb d_Mk_joined_110 rfl ?_
  refine lv_aload_n hx hb d_Mk_joined_111 rfl (lv_at hl 0 rfl) ?_
  have hP : va_P D vwCl ((((mkW K mq m0 m1 m2 m3 m5 m6 m7 m8 m9 kHeads kTails kNext kSlots kReached kClassOf kFinerOf kMarkOf kFirstOf kMarkSlots kClasses) ++ (paW K wq q1 q2 wHead wTail pBoth)) ++ (iaW K iaN (4 * kClasses).toNatClampNeg u.2)) ++ [(q, .inr (1, [.int 0, .null, .long 0, .null]))]) H := hP
  have hD : va_D A ((((mkW K mq m0 m1 m2 m3 m5 m6 m7 m8 m9 kHeads kTails kNext kSlots kReached kClassOf kFinerOf kMarkOf kFirstOf kMarkSlots kClasses) ++ (paW K wq q1 q2 wHead wTail pBoth)) ++ (iaW K iaN (4 * kClasses).toNatClampNeg u.2)) ++ [(q, .inr (1, [.int 0, .null, .long 0, .null]))]) := hD
  refine va_get (D := D) (ci := 6) (v := .int kClasses) (C := R_Mk) (T := T_Mk) (N := 11) hx hb hts in_Mk hown hK hP 0 rfl rfl 10 (by decide) (hts _ fl_Mk_44) (fun _ h9 => h9) rfl d_Mk_joined_112 ?_
  refine lv_aload_n hx hb d_Mk_joined_115 rfl (lv_at hl 1 rfl) ?_
  refine lv_lload_n hx hb d_Mk_joined_116 rfl (lv_at hl 2 rfl) ?_
  refine w_callA (va_runI (As := [.int kClasses, .ref iaN, .long u.1]) (rest := [.ref q]) ⟨hx, hb, hml, hown, hts⟩ (c_Au_init l H.size e2) (gI 3 hts cd_Au_init ml_Mk_117 im_Au_init ini_Au rfl rfl rfl pd_Au_init ⟨Nat.le_of_ble_eq_true rfl, Nat.le_of_ble_eq_true rfl⟩) ⟨wPreR_blind, wPreR_of2 (vaR hP) hK (vdR hD) (vaR (vaL hP)) (gAw_of hP hD).right⟩ rfl rfl hl.1 rfl (lv_room (Nat.le_of_ble_eq_true rfl)) d_Mk_joined_117 ⟨(by decide : 2 + 1 ≤ 3), (by decide : 260 + 64 ≤ 324)⟩) (vdR hD) hS hA (fun aa H1 locs hP1 hD1 hk1 hS1 => ?_)
  obtain ⟨hP, hD⟩ := va_keepL hP hD (va_sub (vdR hD) hS hA) hk1 hP1 hD1
  have hS := hS1
  generalize H1 = H at hP hS ⊢
  have hP : va_P D vwCl (((mkW K mq m0 m1 m2 m3 m5 m6 m7 m8 m9 kHeads kTails kNext kSlots kReached kClassOf kFinerOf kMarkOf kFirstOf kMarkSlots kClasses) ++ (paW K wq q1 q2 wHead wTail pBoth)) ++ auW K q iaN aa kClasses (4 * kClasses).toNatClampNeg u.2 u.1 v) H := hP.sub [0, 1, 2, 3, 4, 5, 6, 7, 8, 9, 10, 12, 11, 13] rfl
  have hD : va_D A (((mkW K mq m0 m1 m2 m3 m5 m6 m7 m8 m9 kHeads kTails kNext kSlots kReached kClassOf kFinerOf kMarkOf kFirstOf kMarkSlots kClasses) ++ (paW K wq q1 q2 wHead wTail pBoth)) ++ auW K q iaN aa kClasses (4 * kClasses).toNatClampNeg u.2 u.1 v) := hD.sub [0, 1, 2, 3, 4, 5, 6, 7, 8, 9, 10, 12, 11, 13] (by decide) rfl
  exact W.aret hx hb B.returns (Or.inl ⟨_, rfl⟩) (Or.inr ⟨_, rfl⟩) (fun t ht hW => ⟨⟨(m5, m6, q, iaN, aa), rfl, by rw [ht]; exact hP, va_K.moved hW.alike hK, hD⟩, hS.F ht⟩) hS.2.2 d_Mk_joined_120 (hlocks := B.notSynchronized)
end
def f_Mk_joinedA_Re (n : Nat) (kHeads : Nat → Int32) (kTails : Nat → Int64) (kNext : Nat → Int32) (kClassOf : Nat → Int32) (kFirstOf : Nat → Int32) (kClasses : Int32) (aLast1 : Int64) : Option (Int64 × (Nat → Int32) × (Nat → Int64)) :=
  ogd (gin (4 * kClasses) 257) <|
  (f_Mk_joined_Re n kHeads kTails kNext kClassOf kFirstOf kClasses (4 * kClasses).toNatClampNeg (fun _ => 0) aLast1).bind fun u =>
  (f_Au_init n kClasses u.1 (fun _ => 0) (4 * kClasses).toNatClampNeg u.2).bind fun v =>
  some (u.1, u.2, v)
section
variable {p : Program} {l : Launch} {e : Env} {R : Room} {s : State} {m : MethodId} {args : Array Value} {below : List Frame} {meth : Method} {c : Code} {H : Heap} {locs : List Loc} {cells slots : Nat} {Q : State → Prop} {A : Nat → Prop} {H0 : Heap}
variable {n : Nat} {D : va_G} {K : Nat → ClassId} {mq : Nat} {m0 : Nat} {m1 : Nat} {m2 : Nat} {m3 : Nat} {m5 : Nat} {m6 : Nat} {m7 : Nat} {m8 : Nat} {m9 : Nat} {wq : Nat} {q1 : Nat} {an1 : Nat} {aa1 : Nat} {kHeads : Nat → Int32} {kTails : Nat → Int64} {kNext : Nat → Int32} {kSlots : Nat → Int32} {kReached : Int32} {kClassOf : Nat → Int32} {kFinerOf : Nat → Int32} {kMarkOf : Nat → Int32} {kFirstOf : Nat → Int32} {kMarkSlots : Nat → Int32} {kClasses : Int32} {wHead : Int32} {wTail : Int64} {aStates1 : Int32} {aNl1 : Nat} {aNext1 : Nat → Int32} {aLast1 : Int64} {aAhead1 : Nat → Int64}
set_option maxHeartbeats 400000 in
set_option maxRecDepth 100000 in
theorem c_Mk_joined_Re (l : Launch) {r : Int64 × (Nat → Int32) × (Nat → Int64)} (sz : Nat) (hf : f_Mk_joinedA_Re n kHeads kTails kNext kClassOf kFirstOf kClasses aLast1 = some r) : Met l y_Mk_joined w0_Mk_joined ({ frames := 2, cells := 3, slots := 324, locals := 54 }) (withX (wPreR D K [.ref mq, .ref wq] ((mkW K mq m0 m1 m2 m3 m5 m6 m7 m8 m9 kHeads kTails kNext kSlots kReached kClassOf kFinerOf kMarkOf kFirstOf kMarkSlots kClasses) ++ (reW K wq q1 wHead wTail)) ((auW K q1 an1 aa1 aStates1 aNl1 aNext1 aLast1 aAhead1)) sz)) (wPostG D K (fun g : Nat × Nat × Nat × Nat × Nat => some (.ref g.2.2.1)) (fun g => ((mkW K mq m0 m1 m2 m3 g.1 g.2.1 m7 m8 m9 kHeads kTails kNext kSlots kReached kClassOf kFinerOf kMarkOf kFirstOf kMarkSlots kClasses) ++ (reW K wq q1 wHead wTail)) ++ auW K g.2.2.1 g.2.2.2.1 g.2.2.2.2 kClasses (4 * kClasses).toNatClampNeg r.2.1 r.1 r.2.2) (va_A ((mkW K mq m0 m1 m2 m3 m5 m6 m7 m8 m9 kHeads kTails kNext kSlots kReached kClassOf kFinerOf kMarkOf kFirstOf kMarkSlots kClasses) ++ (reW K wq q1 wHead wTail)) sz)) 3 324 (va_A ((mkW K mq m0 m1 m2 m3 m5 m6 m7 m8 m9 kHeads kTails kNext kSlots kReached kClassOf kFinerOf kMarkOf kFirstOf kMarkSlots kClasses) ++ (reW K wq q1 wHead wTail)) sz) := by
  unfold f_Mk_joinedA_Re at hf
  obtain ⟨g1, hf⟩ := ogi hf
  obtain ⟨u, e1, hf⟩ := obd hf
  obtain ⟨v, e2, hf⟩ := obd hf
  obtain rfl := Option.some.inj hf
  refine Met.ofW (cc := b_Mk_joined) (maxL := 8) (ret := (some (.object "RegularSolver$Automaton"))) (by decide) rfl ?_
  intro p e s m args below meth c s₁ B hml hv
  obtain ⟨hv, hX⟩ := hv
  obtain ⟨rfl, hsz, hP, hK, hD0, hR, hw⟩ := hv
  subst hsz
  have hx := B.exec
  have hb := B.bytes
  have hts : ∀ w ∈ gW, w.before _ s = true := fun w hw => atoms_spec (ws := w0_Mk_joined) B.pre w (List.mem_cons_of_mem _ hw)
  have hown : s.vm.findClass "RegularSolver$Maker" = some m.cls := findClass_of_methodNamed B.named
  have hD := hD0.self (sz := s.heap.size)
  generalize hAe : va_A ((mkW K mq m0 m1 m2 m3 m5 m6 m7 m8 m9 kHeads kTails kNext kSlots kReached kClassOf kFinerOf kMarkOf kFirstOf kMarkSlots kClasses) ++ (reW K wq q1 wHead wTail)) s.heap.size = A at hD hw ⊢
  have hA : ∀ q : Nat, s.heap.size ≤ q → A q := fun q h => by rw [← hAe]; exact Or.inr h
  have hS : va_S A s.heap s.heap [] := va_S.rf
  have hl := lv_entry [.ref mq, .ref wq] (n := 8) (Nat.le_of_ble_eq_true rfl)
  rw [lg_entry_eq]
  generalize (lg_sl [.ref mq, .ref wq] ++ List.replicate (8 - (lg_sl [.ref mq, .ref wq]).length) Slot.unset).toArray = ls at hl ⊢
  refine lv_iconst (v := 4) hx hb d_Mk_joined_0 (by decide) ?_
  refine lv_aload_n hx hb d_Mk_joined_1 rfl (lv_at hl 0 rfl) ?_
  refine va_get (D := D) (ci := 6) (v := .int kClasses) (C := R_Mk) (T := T_Mk) (N := 11) hx hb hts in_Mk hown hK hP 0 rfl rfl 10 (by decide) (hts _ fl_Mk_44) (fun _ h9 => h9) rfl d_Mk_joined_2 ?_
  refine lv_imul hx hb d_Mk_joined_5 ?_
  refine g_newa (atype := .int) (ty := .int) hx hb (hts _ ac_int) rfl 0 rfl (fun _ h => h) hK hP hD hS hA (N' := (4 * kClasses).toNatClampNeg) (a0 := ((4 * kClasses).toNatClampNeg, .inl (fun _ => 0))) (fun _ => rfl) (fun h => gin_in g1 (Or.inl h)) rfl (by have := gin_lt g1; show _ * 4 ≤ _; omega) (by decide : 0 + 1 ≤ 3) (by have := gin_lt g1; show 0 + _ ≤ 324; omega) d_Mk_joined_6 (fun iaN H hP hD hS => ?_)
  refine W.widen (k := 1) (n := 256) (by decide) (by have := gin_lt g1; omega) ?_
  have hP : va_P D vwCl (((mkW K mq m0 m1 m2 m3 m5 m6 m7 m8 m9 kHeads kTails kNext kSlots kReached kClassOf kFinerOf kMarkOf kFirstOf kMarkSlots kClasses) ++ (reW K wq q1 wHead wTail)) ++ (iaW K iaN (4 * kClasses).toNatClampNeg (fun _ => 0))) H := hP
  have hD : va_D A (((mkW K mq m0 m1 m2 m3 m5 m6 m7 m8 m9 kHeads kTails kNext kSlots kReached kClassOf kFinerOf kMarkOf kFirstOf kMarkSlots kClasses) ++ (reW K wq q1 wHead wTail)) ++ (iaW K iaN (4 * kClasses).toNatClampNeg (fun _ => 0))) := hD
  refine w_Mk_joined_Re (A := A) (H0 := s.heap) hx hb hml hts hown hK hX (fun _ _ hS => ro_of hR hw hS) hw (Nat.le_of_ble_eq_true rfl) (Nat.le_of_ble_eq_true rfl) (by decide : 1 ≤ 3) (by decide : 256 ≤ 324) hA (fun u1 eu m5 m6 ls H locs hP hD hS hl => ?_) e1 ls hP hD hS hl
  subst eu
  refine va_new (ci := 1) (fs := [.int 0, .null, .long 0, .null]) (C := R_Au) (T := T_Au) (N := 4) hx hb hts in_Au t_Au t_Au_ok hown (hts _ cl_Mk_115) (hts _ it_Au) (hts _ ini_Au) hK hP hD hS hA rfl (by decide) (by decide : 1 + 1 ≤ 3) (by decide : 256 + 4 ≤ 324) d_Mk_joined_107 (fun q H hP hD hS => ?_)
  refine W.widen (k := 2) (n := 260) (by decide) (by decide) ?_
  refine lv_dup hx hb d_Mk_joined_110 rfl ?_
  refine lv_aload_n hx hb d_Mk_joined_111 rfl (lv_at hl 0 rfl) ?_
  have hP : va_P D vwCl ((((mkW K mq m0 m1 m2 m3 m5 m6 m7 m8 m9 kHeads kTails kNext kSlots kReached kClassOf kFinerOf kMarkOf kFirstOf kMarkSlots kClasses) ++ (reW K wq q1 wHead wTail)) ++ (iaW K iaN (4 * kClasses).toNatClampNeg u.2)) ++ [(q, .inr (1, [.int 0, .null, .long 0, .null]))]) H := hP
  have hD : va_D A ((((mkW K mq m0 m1 m2 m3 m5 m6 m7 m8 m9 kHeads kTails kNext kSlots kReached kClassOf kFinerOf kMarkOf kFirstOf kMarkSlots kClasses) ++ (reW K wq q1 wHead wTail)) ++ (iaW K iaN (4 * kClasses).toNatClampNeg u.2)) ++ [(q, .inr (1, [.int 0, .null, .long 0, .null]))]) := hD
  refine va_get (D := D) (ci := 6) (v := .int kClasses) (C := R_Mk) (T := T_Mk) (N := 11) hx hb hts in_Mk hown hK hP 0 rfl rfl 10 (by decide) (hts _ fl_Mk_44) (fun _ h9 => h9) rfl d_Mk_joined_112 ?_
  refine lv_aload_n hx hb d_Mk_joined_115 rfl (lv_at hl 1 rfl) ?_
  refine lv_lload_n hx hb d_Mk_joined_116 rfl (lv_at hl 2 rfl) ?_
  refine w_callA (va_runI (As := [.int kClasses, .ref iaN, .long u.1]) (rest := [.ref q]) ⟨hx, hb, hml, hown, hts⟩ (c_Au_init l H.size e2) (gI 3 hts cd_Au_init ml_Mk_117 im_Au_init ini_Au rfl rfl rfl pd_Au_init ⟨Nat.le_of_ble_eq_true rfl, Nat.le_of_ble_eq_true rfl⟩) ⟨wPreR_blind, wPreR_of2 (vaR hP) hK (vdR hD) (vaR (vaL hP)) (gAw_of hP hD).right⟩ rfl rfl hl.1 rfl (lv_room (Nat.le_of_ble_eq_true rfl)) d_Mk_joined_117 ⟨(by decide : 2 + 1 ≤ 3), (by decide : 260 + 64 ≤ 324)⟩) (vdR hD) hS hA (fun aa H1 locs hP1 hD1 hk1 hS1 => ?_)
  obtain ⟨hP, hD⟩ := va_keepL hP hD (va_sub (vdR hD) hS hA) hk1 hP1 hD1
  have hS := hS1
  generalize H1 = H at hP hS ⊢
  have hP : va_P D vwCl (((mkW K mq m0 m1 m2 m3 m5 m6 m7 m8 m9 kHeads kTails kNext kSlots kReached kClassOf kFinerOf kMarkOf kFirstOf kMarkSlots kClasses) ++ (reW K wq q1 wHead wTail)) ++ auW K q iaN aa kClasses (4 * kClasses).toNatClampNeg u.2 u.1 v) H := hP.sub [0, 1, 2, 3, 4, 5, 6, 7, 8, 9, 10, 12, 11, 13] rfl
  have hD : va_D A (((mkW K mq m0 m1 m2 m3 m5 m6 m7 m8 m9 kHeads kTails kNext kSlots kReached kClassOf kFinerOf kMarkOf kFirstOf kMarkSlots kClasses) ++ (reW K wq q1 wHead wTail)) ++ auW K q iaN aa kClasses (4 * kClasses).toNatClampNeg u.2 u.1 v) := hD.sub [0, 1, 2, 3, 4, 5, 6, 7, 8, 9, 10, 12, 11, 13] (by decide) rfl
  exact W.aret hx hb B.returns (Or.inl ⟨_, rfl⟩) (Or.inr ⟨_, rfl⟩) (fun t ht hW => ⟨⟨(m5, m6, q, iaN, aa), rfl, by rw [ht]; exact hP, va_K.moved hW.alike hK, hD⟩, hS.F ht⟩) hS.2.2 d_Mk_joined_120 (hlocks := B.notSynchronized)
end
