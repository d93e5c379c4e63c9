/-! WORDS OF THE TABLES THAT STAND APART: what an abstract class declares, links between nest mates, casts, arrays over a class -/
def va_AOA (ty : FieldType) (U : State) : Prop := (Cond.arrayOver (.array ty)).before #[] U = true
theorem va_AOA.of {ty : FieldType} {A : Array Value} {U : State} (h : (Cond.arrayOver (.array ty)).before A U = true) : va_AOA ty U := h
theorem va_AOA.use {ty : FieldType} {A : Array Value} {U : State} (h : va_AOA ty U) : (Cond.arrayOver (.array ty)).before A U = true := h
theorem va_AOA.moved {ty : FieldType} {u U : State} (hvm : u.vm.Alike U.vm) (h : va_AOA ty u) : va_AOA ty U := by
  have h' : (Cond.arrayOver (.array ty)).holds #[] u none u [] = true := h
  simp only [Cond.holds, Cond.value, beq_iff_eq] at h'
  cases hc : u.vm.findClass (FieldType.array ty).toString with
  | none => simp [hc] at h'
  | some comp =>
    simp only [hc, Option.bind_some, Option.bind_eq_some_iff, Option.map_eq_some_iff] at h'
    obtain ⟨c, hi, k, hk, hb⟩ := h'
    obtain ⟨k', hk', he⟩ := hvm.2.2 _ _ hk
    have hbq : U.vm.bare = u.vm.bare := by first | exact hvm.bare_eq | exact hvm.bare_eq.symm
    have e1 := va_idx_bare U.vm comp
    rw [hbq] at e1
    have e2 := va_idx_bare u.vm comp
    have f1 : U.vm.findClass (FieldType.array ty).toString = some comp := by rw [hvm.findClass]; exact hc
    have f2 : U.vm.findClass ("[" ++ (FieldType.array ty).toString) = u.vm.findClass ("[" ++ (FieldType.array ty).toString) := by rw [hvm.findClass]
    have hkk : k'.kind = k.kind := by rw [he]
    show (Cond.arrayOver (.array ty)).holds #[] U none U [] = true
    simp only [Cond.holds, Cond.value, beq_iff_eq, f1, Option.bind_some, Option.bind_eq_some_iff, Option.map_eq_some_iff]
    exact ⟨c, e1.symm.trans (e2.trans hi), k', hk', by rw [hkk, f2]; exact hb⟩
def gXd : List MethodName := [⟨"RegularSolver$Way", "begin", "()V"⟩, ⟨"RegularSolver$Way", "go", "(IJI)V"⟩, ⟨"RegularSolver$Way", "endsAt", "(IJ)Z"⟩]
def gXm : List (String × Nat × MethodName) := [("RegularSolver", 21, ⟨"RegularSolver$Maker", "<init>", "()V"⟩), ("RegularSolver", 28, ⟨"RegularSolver$Counter", "<init>", "()V"⟩), ("RegularSolver", 35, ⟨"RegularSolver$Inclusion", "<init>", "()V"⟩), ("RegularSolver", 42, ⟨"RegularSolver$Search", "<init>", "()V"⟩), ("RegularSolver$Brief", 1, ⟨"RegularSolver$Way", "<init>", "()V"⟩), ("RegularSolver$Chain", 1, ⟨"RegularSolver$Way", "<init>", "()V"⟩), ("RegularSolver$Pairs", 1, ⟨"RegularSolver$Way", "<init>", "()V"⟩), ("RegularSolver$Repeat", 1, ⟨"RegularSolver$Way", "<init>", "()V"⟩)]
def gX (U : State) : Prop := (∀ x ∈ gXd, va_Nw (.declares x) U) ∧ (∀ q ∈ gXm, va_Nw (.methodLinkNest q.1 q.2.1 q.2.2 "RegularSolver") U) ∧ va_AO "RegularSolver$Automaton" U ∧ va_AOA .int U
theorem gX.moved {s U : State} (hW : s.WarmedH U.vm) (h : gX s) : gX U := ⟨fun x hx => va_Nw.warmD hW (h.1 x hx), fun q hq => va_Nw.warmM hW (h.2.1 q hq), va_AO.moved hW.alike h.2.2.1, va_AOA.moved hW.alike h.2.2.2⟩
theorem gX.same {s U : State} (hW : s.vm = U.vm) (h : gX s) : gX U := ⟨fun x hx => va_Nw.same rfl hW (h.1 x hx), fun q hq => va_Nw.same rfl hW (h.2.1 q hq), va_AO.moved (by rw [hW]; exact Vm.Alike.refl _) h.2.2.1, va_AOA.moved (by rw [hW]; exact Vm.Alike.refl _) h.2.2.2⟩
def withX (Pc : Array Value → State → Prop) : Array Value → State → Prop := fun v U => Pc v U ∧ gX U
theorem withX_blind {Pc : Array Value → State → Prop} (h : FrameBlind Pc) : FrameBlind (withX Pc) := fun a U g mk hp => ⟨h a U g mk hp.1, gX.same (s := U) (U := U.calling g mk a) rfl hp.2⟩
theorem withX_of {Pc : Array Value → State → Prop} {s : State} {H : Heap} {av : Array Value} (h : ∀ U : State, U.heap = H → s.WarmedH U.vm → Pc av U) (hX : gX s) : ∀ U : State, U.heap = H → s.WarmedH U.vm → withX Pc av U := fun U hU hW => ⟨h U hU hW, hX.moved hW⟩
section
variable {R : Room} {s : State} {args : Array Value}
/-- a call through an abstract method's name -/
theorem gA {own C owner : String} {index maxL mc ms : Nat} {x y : MethodName} {bytes : ByteArray} {ret : Option FieldType} {rm : Room} (n : Nat) (ht : ∀ w ∈ gW, w.before args s = true) (hX : gX s) (hc : Cond.code y bytes maxL ret ∈ gW) (hl : Cond.methodLink own index x ∈ gW) (hi : Cond.instanceMethod y ∈ gW) (hsm : Cond.sameMethod x.cls owner x.name x.desc ∈ gW) (hs : Cond.selects C x y ∈ gW) (hini : Cond.initialized y.cls ∈ gW) (hdec : (⟨owner, x.name, x.desc⟩ : MethodName) ∈ gXd) (hrc : rm.cells = mc) (hrs : rm.slots = ms)
    (hd : owner ≠ "java/lang/invoke/MethodHandle" ∧ owner ≠ "java/lang/invoke/VarHandle" ∧ (parseMethodDescriptor x.desc).map (fun d => d.parameters.length) = some n) (hR : rm.frames + 1 ≤ R.frames ∧ 8 + (maxL + 11) + rm.locals ≤ R.locals) :
    va_CU R s args own C owner index x y bytes maxL ret (Cond.code y bytes maxL ret :: gW) rm mc ms n := by
  refine ⟨⟨hrc, hrs, hR.1, hR.2, pay_in ht (gW_g hc), List.mem_cons_self⟩, ht _ hc, ht _ hini, ⟨hd.1, hd.2.1⟩, fun sig h => ?_, ht _ hl, ht _ hsm, va_Decl.abs (hX.1 _ hdec), ht _ hs, ht _ hi⟩
  have h2 := hd.2.2
  rw [h] at h2
  exact (Option.some.inj h2).symm
end
