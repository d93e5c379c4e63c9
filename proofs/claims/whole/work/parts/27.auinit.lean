abbrev auoW (K : Nat → ClassId) (q : Nat) (ia : Nat) (aa : Nat) (aStates : Int32) (aLast : Int64) (aAhead : Nat → Int64) : va_W := [(q, .inr (1, [.int aStates, .ref ia, .long aLast, .ref aa])), (aa, .inl (K 1, 64, .inr (.inl aAhead)))]
abbrev b_Au_init : ByteArray := prog_2_method_1_code
def y_Au_init : MethodName := ⟨"RegularSolver$Automaton", "<init>", "(I[IJ)V"⟩
abbrev w0_Au_init : List Cond := Cond.code y_Au_init b_Au_init 6 none :: gW
theorem cd_Au_init : Cond.code y_Au_init b_Au_init 6 none ∈ gW := gm 437 (by decide +kernel) (by decide +kernel)
theorem d_Au_init_0 : decode b_Au_init 0 = .ok (.aload_n 0, 1) := by decide +kernel
theorem d_Au_init_1 : decode b_Au_init 1 = .ok (.invokespecial 3, 3) := by decide +kernel
theorem d_Au_init_4 : decode b_Au_init 4 = .ok (.aload_n 0, 1) := by decide +kernel
theorem d_Au_init_5 : decode b_Au_init 5 = .ok (.bipush 64, 2) := by decide +kernel
theorem d_Au_init_7 : decode b_Au_init 7 = .ok (.newarray .long, 2) := by decide +kernel
theorem d_Au_init_9 : decode b_Au_init 9 = .ok (.putfield 9, 3) := by decide +kernel
theorem d_Au_init_12 : decode b_Au_init 12 = .ok (.aload_n 0, 1) := by decide +kernel
theorem d_Au_init_13 : decode b_Au_init 13 = .ok (.iload_n 1, 1) := by decide +kernel
theorem d_Au_init_14 : decode b_Au_init 14 = .ok (.putfield 15, 3) := by decide +kernel
theorem d_Au_init_17 : decode b_Au_init 17 = .ok (.aload_n 0, 1) := by decide +kernel
theorem d_Au_init_18 : decode b_Au_init 18 = .ok (.aload_n 2, 1) := by decide +kernel
theorem d_Au_init_19 : decode b_Au_init 19 = .ok (.putfield 19, 3) := by decide +kernel
theorem d_Au_init_22 : decode b_Au_init 22 = .ok (.aload_n 0, 1) := by decide +kernel
theorem d_Au_init_23 : decode b_Au_init 23 = .ok (.lload_n 3, 1) := by decide +kernel
theorem d_Au_init_24 : decode b_Au_init 24 = .ok (.putfield 23, 3) := by decide +kernel
theorem d_Au_init_27 : decode b_Au_init 27 = .ok (.aload_n 0, 1) := by decide +kernel
theorem d_Au_init_28 : decode b_Au_init 28 = .ok (.getfield 9, 3) := by decide +kernel
theorem d_Au_init_31 : decode b_Au_init 31 = .ok (.iconst 0, 1) := by decide +kernel
theorem d_Au_init_32 : decode b_Au_init 32 = .ok (.lload_n 3, 1) := by decide +kernel
theorem d_Au_init_33 : decode b_Au_init 33 = .ok (.lastore, 1) := by decide +kernel
theorem d_Au_init_34 : decode b_Au_init 34 = .ok (.iconst 1, 1) := by decide +kernel
theorem d_Au_init_35 : decode b_Au_init 35 = .ok (.istore 5, 2) := by decide +kernel
theorem d_Au_init_37 : decode b_Au_init 37 = .ok (.iload 5, 2) := by decide +kernel
theorem d_Au_init_39 : decode b_Au_init 39 = .ok (.bipush 64, 2) := by decide +kernel
theorem d_Au_init_41 : decode b_Au_init 41 = .ok (.if_icmp .ge 30, 3) := by decide +kernel
theorem d_Au_init_44 : decode b_Au_init 44 = .ok (.aload_n 0, 1) := by decide +kernel
theorem d_Au_init_45 : decode b_Au_init 45 = .ok (.getfield 9, 3) := by decide +kernel
theorem d_Au_init_48 : decode b_Au_init 48 = .ok (.iload 5, 2) := by decide +kernel
theorem d_Au_init_50 : decode b_Au_init 50 = .ok (.iload_n 1, 1) := by decide +kernel
theorem d_Au_init_51 : decode b_Au_init 51 = .ok (.aload_n 2, 1) := by decide +kernel
theorem d_Au_init_52 : decode b_Au_init 52 = .ok (.aload_n 0, 1) := by decide +kernel
theorem d_Au_init_53 : decode b_Au_init 53 = .ok (.getfield 9, 3) := by decide +kernel
theorem d_Au_init_56 : decode b_Au_init 56 = .ok (.iload 5, 2) := by decide +kernel
theorem d_Au_init_58 : decode b_Au_init 58 = .ok (.iconst 1, 1) := by decide +kernel
theorem d_Au_init_59 : decode b_Au_init 59 = .ok (.isub, 1) := by decide +kernel
theorem d_Au_init_60 : decode b_Au_init 60 = .ok (.laload, 1) := by decide +kernel
theorem d_Au_init_61 : decode b_Au_init 61 = .ok (.invokestatic 27, 3) := by decide +kernel
theorem d_Au_init_64 : decode b_Au_init 64 = .ok (.lastore, 1) := by decide +kernel
theorem d_Au_init_65 : decode b_Au_init 65 = .ok (.iinc 5 1, 3) := by decide +kernel
theorem d_Au_init_68 : decode b_Au_init 68 = .ok (.goto (-31), 3) := by decide +kernel
theorem d_Au_init_71 : decode b_Au_init 71 = .ok (.return_, 1) := by decide +kernel
theorem pd_Au_init : y_Au_init.cls ≠ "java/lang/invoke/MethodHandle" ∧ y_Au_init.cls ≠ "java/lang/invoke/VarHandle" ∧ (parseMethodDescriptor y_Au_init.desc).map (fun d => d.parameters.length) = some 3 := by decide +kernel
theorem ml_Au_27 : (Cond.methodLink "RegularSolver$Automaton" 27 ({ cls := "RegularSolver$Automaton", name := "statesBefore", desc := "(I[IJ)J" } : MethodName)) ∈ gW := gm 439 (by decide +kernel) (by decide +kernel)
theorem st_Au_statesBefore : (Cond.static ({ cls := "RegularSolver$Automaton", name := "statesBefore", desc := "(I[IJ)J" } : MethodName)) ∈ gW := gm 440 (by decide +kernel) (by decide +kernel)
theorem ml_Au_3 : (Cond.methodLink "RegularSolver$Automaton" 3 ({ cls := "java/lang/Object", name := "<init>", desc := "()V" } : MethodName)) ∈ gW := gm 438 (by decide +kernel) (by decide +kernel)
section
variable {p : Program} {l : Launch} {e : Env} {R : Room} {s : State} {m : MethodId} {args : Array Value} {below : List Frame} {meth : Method} {c : Code} {H : Heap} {locs : List Loc} {cells slots : Nat} {Q : State → Prop} {A : Nat → Prop} {H0 : Heap}
variable {n : Nat} {D : va_G} {K : Nat → ClassId} {q : Nat} {ia : Nat} {aa : Nat} {aStates : Int32} {aLast : Int64} {aAhead : Nat → Int64} {iN : Nat} {iF : Nat → Int32}
def f_Au_init_37 (n : Nat) (v1 : Int32) (iN : Nat) (iF : Nat → Int32) : Nat → Int32 → (Nat → Int64) → Option (Int32 × (Nat → Int64))
  | 0, _, _ => none
  | k + 1, v5, aAhead =>
    if 64 ≤ v5 then
      some (v5, aAhead)
    else
      ogd (gin (v5 - 1) 64) <|
      (f_Au_statesBefore n v1 (aAhead (v5 - 1).toNatClampNeg) iN iF).bind fun u8 =>
      ogd (gin v5 64) <|
      f_Au_init_37 n v1 iN iF k (v5 + 1) (vp_updL aAhead v5.toNatClampNeg u8)
set_option maxHeartbeats 4000000 in
set_option maxRecDepth 100000 in
theorem w_Au_init_37  {v1 : Int32} (hx : p.tables.exec = Jvm.exec) (hb : c.code = b_Au_init) (hml : c.maxLocals = 6) (hts : ∀ w ∈ gW, w.before args s = true) (hown : s.vm.findClass "RegularSolver$Automaton" = some m.cls) (hK : va_K D vwCl (tG K) s) (hO1 : ∀ (H : Heap) (locs : List Loc), va_S A H0 H locs → va_P D vwCl (iaW K ia iN iF) H) (hw1 : gAw A (iaW K ia iN iF)) (hRf : 1 ≤ R.frames) (hRl : 29 ≤ R.locals) (hRc : cells ≤ R.cells) (hRs : slots ≤ R.slots) (hA : ∀ q, H0.size ≤ q → A q)  {out : Int32 × (Nat → Int64)} (Kx : ∀ (u : Int32 × (Nat → Int64)), out = u → ∀ (ls : Array Slot) (H : Heap) (locs : List Loc), va_P D vwCl (auoW K q ia aa aStates aLast u.2) H → va_D A (auoW K q ia aa aStates aLast u.2) → va_S A H0 H locs → lv_has ls 6 [] → W p l e R s m args below meth c H locs cells slots Q (F0 m 71 ls [])) :
    ∀ (k : Nat) (v5 : Int32) (aAhead : Nat → Int64), f_Au_init_37 n v1 iN iF k v5 aAhead = some out → ∀ (ls : Array Slot) (H : Heap) (locs : List Loc), va_P D vwCl (auoW K q ia aa aStates aLast aAhead) H → va_D A (auoW K q ia aa aStates aLast aAhead) → va_S A H0 H locs → lv_has ls 6 [(5, .int v5), (0, .ref q), (1, .int v1), (2, .ref ia)] → W p l e R s m args below meth c H locs cells slots Q (F0 m 37 ls []) := by
  intro k
  induction k with
  | zero => intro _ _ hf; exact nomatch (show none = some out from hf)
  | succ k ih =>
    intro v5 aAhead hf ls H locs hP hD hS hl
    rw [f_Au_init_37] at hf
    refine lv_iload hx hb d_Au_init_37 (lv_at hl 0 rfl) ?_
    refine lv_bipush (v := 64) hx hb d_Au_init_39 (by decide) ?_
    refine lv_icmp_ge (tgt := 71) hx hb d_Au_init_41 (by decide) (fun c6 => ?_) (fun c6 => ?_)
    · rw [if_pos c6] at hf
      exact Kx _ (Option.some.inj hf).symm _ _ _ hP hD hS (show lv_has ls 6 [] from lv_sub hl [] rfl)
    · rw [if_neg c6] at hf
      refine lv_aload_n hx hb d_Au_init_44 rfl (lv_at hl 1 rfl) ?_
      refine va_get (D := D) (ci := 1) (v := .ref aa) (C := R_Au) (T := T_Au) (N := 4) hx hb hts in_Au hown hK hP 0 rfl rfl 3 (by decide) (hts _ fl_Au_9) (fun _ h9 => h9) rfl d_Au_init_45 ?_
      refine lv_iload hx hb d_Au_init_48 (lv_at hl 0 rfl) ?_
      refine lv_iload_n hx hb d_Au_init_50 rfl (lv_at hl 2 rfl) ?_
      refine lv_aload_n hx hb d_Au_init_51 rfl (lv_at hl 3 rfl) ?_
      refine lv_aload_n hx hb d_Au_init_52 rfl (lv_at hl 1 rfl) ?_
      refine va_get (D := D) (ci := 1) (v := .ref aa) (C := R_Au) (T := T_Au) (N := 4) hx hb hts in_Au hown hK hP 0 rfl rfl 3 (by decide) (hts _ fl_Au_9) (fun _ h9 => h9) rfl d_Au_init_53 ?_
      refine lv_iload hx hb d_Au_init_56 (lv_at hl 0 rfl) ?_
      refine lv_iconst (v := 1) hx hb d_Au_init_58 (by decide) ?_
      refine lv_isub hx hb d_Au_init_59 ?_
      obtain ⟨g7, hf⟩ := ogi hf
      refine va_lald hx hb hK hP 1 1 rfl rfl (gin_in g7) d_Au_init_60 ?_
      obtain ⟨u8, eu8, hf⟩ := obd hf
      refine p_call (W.runS (As := [.int v1, .ref ia, .long (aAhead (v5 - 1).toNatClampNeg)]) (rest := [.int v5, .ref aa]) ⟨hx, hb, hml, hown, hts⟩ (c_Au_statesBefore l eu8) (gS 3 hts cd_Au_statesBefore ml_Au_27 st_Au_statesBefore ini_Au rfl rfl pd_Au_statesBefore ⟨Nat.le_trans (Nat.le_of_ble_eq_true rfl) hRf, Nat.le_trans (Nat.le_of_ble_eq_true rfl) hRl⟩) ⟨pPre_blind, pPre_of (hO1 _ _ hS) hK⟩ rfl rfl hl.1 rfl (lv_room (Nat.le_of_ble_eq_true rfl)) d_Au_init_61 ⟨hRc, hRs⟩) ?_
      obtain ⟨g9, hf⟩ := ogi hf
      refine va_last hx hb hK hP hD hS 1 1 rfl rfl (gin_in g9) d_Au_init_64 (fun H locs hP hD hS => ?_)
      have hP : va_P D vwCl (auoW K q ia aa aStates aLast (vp_updL aAhead v5.toNatClampNeg u8)) H := hP
      have hD : va_D A (auoW K q ia aa aStates aLast (vp_updL aAhead v5.toNatClampNeg u8)) := hD
      refine lv_iinc (v := v5 + 1) (lv' := [(5, .int (v5 + 1)), (0, .ref q), (1, .int v1), (2, .ref ia)]) hx hb d_Au_init_65 hl (k := 0) rfl (by first | rfl | (congr 1)) (by decide) rfl (fun ls hl => ?_)
      refine lv_goto (tgt := 37) hx hb d_Au_init_68 (by decide) ?_
      exact ih _ _ hf _ _ _ hP hD hS (show lv_has ls 6 [(5, .int (v5 + 1)), (0, .ref q), (1, .int v1), (2, .ref ia)] from lv_sub hl [0, 1, 2, 3] rfl)
def f_Au_init (n : Nat) (p0 : Int32) (p2 : Int64) (aAhead : Nat → Int64) (iN : Nat) (iF : Nat → Int32) : Option ((Nat → Int64)) :=
  ogd (gin 0 64) <|
  (f_Au_init_37 n p0 iN iF n 1 (vp_updL aAhead (0 : Int32).toNatClampNeg p2)).bind fun u10 =>
  some u10.2
set_option maxHeartbeats 4000000 in
set_option maxRecDepth 100000 in
theorem w_Au_init  {p0 : Int32} {p2 : Int64}  (hx : p.tables.exec = Jvm.exec) (hb : c.code = b_Au_init) (hml : c.maxLocals = 6) (hts : ∀ w ∈ gW, w.before args s = true) (hown : s.vm.findClass "RegularSolver$Automaton" = some m.cls) (hK : va_K D vwCl (tG K) s) (hO1 : ∀ (H : Heap) (locs : List Loc), va_S A H0 H locs → va_P D vwCl (iaW K ia iN iF) H) (hw1 : gAw A (iaW K ia iN iF)) (hRf : 1 ≤ R.frames) (hRl : 29 ≤ R.locals) (hRc : cells ≤ R.cells) (hRs : slots ≤ R.slots) (hA : ∀ q, H0.size ≤ q → A q) {out : (Nat → Int64)} (Kr : ∀ (r : (Nat → Int64)), out = r → ∀ (pc : Nat) (ls : Array Slot) (H : Heap) (locs : List Loc), decode b_Au_init pc = .ok (.return_, 1) → va_P D vwCl (auoW K q ia aa aStates aLast r) H → va_D A (auoW K q ia aa aStates aLast r) → va_S A H0 H locs → W p l e R s m args below meth c H locs cells slots Q (F0 m pc ls [])) (hf : f_Au_init n p0 p2 aAhead iN iF = some out) (ls : Array Slot) (hP : va_P D vwCl (auoW K q ia aa aStates aLast aAhead) H) (hD : va_D A (auoW K q ia aa aStates aLast aAhead)) (hS : va_S A H0 H locs) (hl : lv_has ls 6 [(0, .ref q), (1, .int p0), (2, .ref ia), (3, .long p2)]) : W p l e R s m args below meth c H locs cells slots Q (F0 m 27 ls []) := by
  unfold f_Au_init at hf
  refine lv_aload_n hx hb d_Au_init_27 rfl (lv_at hl 0 rfl) ?_
  refine va_get (D := D) (ci := 1) (v := .ref aa) (C := R_Au) (T := T_Au) (N := 4) hx hb hts in_Au hown hK hP 0 rfl rfl 3 (by decide) (hts _ fl_Au_9) (fun _ h9 => h9) rfl d_Au_init_28 ?_
  refine lv_iconst (v := 0) hx hb d_Au_init_31 (by decide) ?_
  refine lv_lload_n hx hb d_Au_init_32 rfl (lv_at hl 3 rfl) ?_
  obtain ⟨g1, hf⟩ := ogi hf
  refine va_last hx hb hK hP hD hS 1 1 rfl rfl (gin_in g1) d_Au_init_33 (fun H locs hP hD hS => ?_)
  have hP : va_P D vwCl (auoW K q ia aa aStates aLast (vp_updL aAhead (0 : Int32).toNatClampNeg p2)) H := hP
  have hD : va_D A (auoW K q ia aa aStates aLast (vp_updL aAhead (0 : Int32).toNatClampNeg p2)) := hD
  refine lv_iconst (v := 1) hx hb d_Au_init_34 (by decide) ?_
  refine lv_istore (lv' := [(5, .int 1), (0, .ref q), (1, .int p0), (2, .ref ia), (3, .long p2)]) hx hb d_Au_init_35 hl (by decide) rfl (fun ls hl => ?_)
  obtain ⟨u10, eu10, hf⟩ := obd hf
  refine w_Au_init_37 hx hb hml hts hown hK hO1 hw1 hRf hRl hRc hRs hA  (fun u10q eu ls H locs hP hD hS hl => ?_) _ _ _ eu10 _ _ _ hP hD hS (show lv_has ls 6 [(5, .int 1), (0, .ref q), (1, .int p0), (2, .ref ia)] from lv_sub hl [0, 1, 2, 3] rfl)
  subst eu
  exact Kr _ (Option.some.inj hf).symm _ _ _ _ d_Au_init_71 hP hD hS
end
set_option maxHeartbeats 200000 in
set_option maxRecDepth 100000 in
theorem c_Au_init (l : Launch) {D : va_G} {K : Nat → ClassId} {n : Nat} {q ia : Nat} {p0 : Int32} {p2 : Int64} {iN : Nat} {iF : Nat → Int32} {r : Nat → Int64} (sz : Nat) (hf : f_Au_init n p0 p2 (fun _ => 0) iN iF = some r) : Met l y_Au_init w0_Au_init ({ frames := 1, cells := 1, slots := 64, locals := 29 }) (wPreR D K [.ref q, .int p0, .ref ia, .long p2] [(q, .inr (1, [.int 0, .null, .long 0, .null]))] (iaW K ia iN iF) sz) (wPostG D K (fun _ : Nat => none) (fun g => auoW K q ia g p0 p2 r) (va_A [(q, .inr (1, [.int 0, .null, .long 0, .null]))] sz)) 1 64 (va_A [(q, .inr (1, [.int 0, .null, .long 0, .null]))] sz) := by
  refine Met.ofW (cc := b_Au_init) (maxL := 6) (ret := none) (by decide) rfl ?_
  intro p e s m args below meth c s₁ B hml hv
  obtain ⟨rfl, hsz, hP, hK, hD0, hR, hw⟩ := hv
  subst hsz
  have hx := B.exec
  have hb := B.bytes
  have hts : ∀ w ∈ gW, w.before _ s = true := fun w hw => atoms_spec (ws := w0_Au_init) B.pre w (List.mem_cons_of_mem _ hw)
  have hown : s.vm.findClass "RegularSolver$Automaton" = some m.cls := findClass_of_methodNamed B.named
  have hin : meth.name = "<init>" := (name_of_methodNamed B.named B.method).1
  have hD := hD0.self (sz := s.heap.size)
  generalize hAe : va_A [(q, .inr (1, [.int 0, .null, .long 0, .null]))] s.heap.size = A at hD hw ⊢
  have hA : ∀ q : Nat, s.heap.size ≤ q → A q := fun q h => by rw [← hAe]; exact Or.inr h
  have hS : va_S A s.heap s.heap [] := va_S.rf
  have hl := lv_entry [.ref q, .int p0, .ref ia, .long p2] (n := 6) (Nat.le_of_ble_eq_true rfl)
  rw [lg_entry_eq]
  generalize (lg_sl [.ref q, .int p0, .ref ia, .long p2] ++ List.replicate (6 - (lg_sl [.ref q, .int p0, .ref ia, .long p2]).length) Slot.unset).toArray = ls at hl ⊢
  refine lv_aload_n hx hb d_Au_init_0 rfl (lv_at hl 0 rfl) ?_
  refine W.objInit hx hb hown (hts _ ml_Au_3) (hts _ im_Ob_init) (hts _ cdo_Ob_init) rfl (by rw [hml]; exact hl.1) rfl d_Au_init_1 (Nat.le_of_ble_eq_true rfl) (Nat.le_of_ble_eq_true rfl) ?_
  refine W.eq (g2 := F0 m 4 ls []) rfl ?_
  refine lv_aload_n hx hb d_Au_init_4 rfl (lv_at hl 0 rfl) ?_
  refine lv_bipush (v := 64) hx hb d_Au_init_5 (by decide) ?_
  refine g_newa (atype := .long) (ty := .long) hx hb (hts _ ac_long) rfl 1 rfl (fun _ h => h) hK hP hD hS hA (N' := 64) (a0 := (64, .inr (.inl (fun _ => 0)))) (fun _ => rfl) (by decide) (by decide) (by decide) (by decide : 0 + 1 ≤ 1) (by decide : 0 + 64 ≤ 64) d_Au_init_7 (fun q1 H hP hD hS => ?_)
  have hP : va_P D vwCl ([(q, .inr (1, [.int 0, .null, .long 0, .null])), (q1, .inl (K 1, 64, .inr (.inl (fun _ => 0))))] : va_W) H := hP
  have hD : va_D A ([(q, .inr (1, [.int 0, .null, .long 0, .null])), (q1, .inl (K 1, 64, .inr (.inl (fun _ => 0))))] : va_W) := hD
  refine W.widen (k := 1) (n := 64) (by decide) (by decide) ?_
  refine va_putF (D := D) (ci := 1) (v := .ref q1) (ty := (.array .long)) (C := R_Au) (T := T_Au) (N := 4) hx hb hts in_Au t_Au t_Au_ok n_Au hown hK hP hD hS 0 rfl rfl 3 (by decide) (hts _ fl_Au_9) (fun _ h9 => h9) rfl hin rfl (by decide +kernel) rfl rfl (Nat.le_of_ble_eq_true rfl) d_Au_init_9 (fun H locs hP hD hS => ?_)
  have hP : va_P D vwCl ([(q, .inr (1, [.int 0, .null, .long 0, .ref q1])), (q1, .inl (K 1, 64, .inr (.inl (fun _ => 0))))] : va_W) H := hP
  have hD : va_D A ([(q, .inr (1, [.int 0, .null, .long 0, .ref q1])), (q1, .inl (K 1, 64, .inr (.inl (fun _ => 0))))] : va_W) := hD
  refine lv_aload_n hx hb d_Au_init_12 rfl (lv_at hl 0 rfl) ?_
  refine lv_iload_n hx hb d_Au_init_13 rfl (lv_at hl 1 rfl) ?_
  refine va_putF (D := D) (ci := 1) (v := .int p0) (ty := .int) (C := R_Au) (T := T_Au) (N := 4) hx hb hts in_Au t_Au t_Au_ok n_Au hown hK hP hD hS 0 rfl rfl 0 (by decide) (hts _ fl_Au_15) (fun _ h9 => h9) rfl hin rfl (by decide +kernel) rfl rfl (Nat.le_of_ble_eq_true rfl) d_Au_init_14 (fun H locs hP hD hS => ?_)
  have hP : va_P D vwCl ([(q, .inr (1, [.int p0, .null, .long 0, .ref q1])), (q1, .inl (K 1, 64, .inr (.inl (fun _ => 0))))] : va_W) H := hP
  have hD : va_D A ([(q, .inr (1, [.int p0, .null, .long 0, .ref q1])), (q1, .inl (K 1, 64, .inr (.inl (fun _ => 0))))] : va_W) := hD
  refine lv_aload_n hx hb d_Au_init_17 rfl (lv_at hl 0 rfl) ?_
  refine lv_aload_n hx hb d_Au_init_18 rfl (lv_at hl 2 rfl) ?_
  refine va_putF (D := D) (ci := 1) (v := .ref ia) (ty := (.array .int)) (C := R_Au) (T := T_Au) (N := 4) hx hb hts in_Au t_Au t_Au_ok n_Au hown hK hP hD hS 0 rfl rfl 1 (by decide) (hts _ fl_Au_19) (fun _ h9 => h9) rfl hin rfl (by decide +kernel) rfl rfl (Nat.le_of_ble_eq_true rfl) d_Au_init_19 (fun H locs hP hD hS => ?_)
  have hP : va_P D vwCl ([(q, .inr (1, [.int p0, .ref ia, .long 0, .ref q1])), (q1, .inl (K 1, 64, .inr (.inl (fun _ => 0))))] : va_W) H := hP
  have hD : va_D A ([(q, .inr (1, [.int p0, .ref ia, .long 0, .ref q1])), (q1, .inl (K 1, 64, .inr (.inl (fun _ => 0))))] : va_W) := hD
  refine lv_aload_n hx hb d_Au_init_22 rfl (lv_at hl 0 rfl) ?_
  refine lv_lload_n hx hb d_Au_init_23 rfl (lv_at hl 3 rfl) ?_
  refine va_putF (D := D) (ci := 1) (v := .long p2) (ty := .long) (C := R_Au) (T := T_Au) (N := 4) hx hb hts in_Au t_Au t_Au_ok n_Au hown hK hP hD hS 0 rfl rfl 2 (by decide) (hts _ fl_Au_23) (fun _ h9 => h9) rfl hin rfl (by decide +kernel) rfl rfl (Nat.le_of_ble_eq_true rfl) d_Au_init_24 (fun H locs hP hD hS => ?_)
  have hP : va_P D vwCl ([(q, .inr (1, [.int p0, .ref ia, .long p2, .ref q1])), (q1, .inl (K 1, 64, .inr (.inl (fun _ => 0))))] : va_W) H := hP
  have hD : va_D A ([(q, .inr (1, [.int p0, .ref ia, .long p2, .ref q1])), (q1, .inl (K 1, 64, .inr (.inl (fun _ => 0))))] : va_W) := hD
  refine w_Au_init (A := A) (H0 := s.heap) hx hb hml hts hown hK (fun _ _ hS => ro_of hR hw hS) hw (Nat.le_of_ble_eq_true rfl) (Nat.le_of_ble_eq_true rfl) (by decide : 1 ≤ 1) (by decide : 64 ≤ 64) hA (fun r er pc ls H locs hd hP hD hS => ?_) hf ls hP hD hS hl
  subst er
  exact W.vret hx hb B.returns (fun t ht hW => ⟨⟨q1, rfl, by rw [ht]; exact hP, va_K.moved hW.alike hK, hD⟩, hS.F ht⟩) hS.2.2 hd (hlocks := B.notSynchronized)
