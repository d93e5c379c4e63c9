/-! METHODS THAT ANSWER OR THROW: what a throw needs of the start, the two ends, the call -/
def gZe : List String := ["java/lang/IllegalArgumentException", "java/lang/IndexOutOfBoundsException", "java/lang/UnsupportedOperationException", "java/lang/IllegalStateException"]
def gZn : List String := ["java/lang/RuntimeException", "java/lang/Exception"]
def gZd : List MethodName := (gZn ++ ["java/lang/Throwable"]).map (fun x => ⟨x, "<init>", "(Ljava/lang/String;)V"⟩)
def gZs : List (Nat × String) := [(49, "set is not 0..15"), (117, "what is not 0..3"), (123, "word is not one of n letters"), (138, "no word of n letters"), (166, "there are 8 bounds"), (189, "no such language"), (191, "there are 60 languages"), (199, "no solution is kept"), (202, "no such state"), (204, "a number is out of its range"), (206, "large")]
def gZw : List Cond := gZd.map (fun x => .declares x) ++ gZe.map (fun x => .castable x x)
def gZ (A : Nat → Prop) (U : State) (H : Heap) : Prop := vx_Zq Bundle.tN "UNASSIGNED_STACK" Bundle.steD A U H ∧ vx_Zq Bundle.tN "SUPPRESSED_SENTINEL" Bundle.listD A U H ∧ (∀ q ∈ gZs, ∃ a : Nat, vk_R "RegularSolver" q.1 q.2 a U) ∧ ∀ w ∈ gZw, va_Nw w U
theorem gZw_warm {s U : State} (hW : s.WarmedH U.vm) (h : ∀ w ∈ gZw, va_Nw w s) : ∀ w ∈ gZw, va_Nw w U := by
  intro w hw
  rcases List.mem_append.mp hw with h1 | h1
  · obtain ⟨x, -, rfl⟩ := List.mem_map.mp h1
    exact va_Nw.warmD hW (h _ hw)
  · obtain ⟨x, -, rfl⟩ := List.mem_map.mp h1
    exact va_Nw.warmC hW (h _ hw)
theorem gZw_tab : ∀ w ∈ gZw, w.onTables = true := by decide +kernel
theorem gZ.warm {A B : Nat → Prop} {s U : State} {H0 H : Heap} (hW : s.WarmedH U.vm) (h : gZ A s H0) (hk : ∀ a : Nat, a < H0.size → ¬ A a → H[a]? = H0[a]?) (hAB : ∀ q, B q → A q) : gZ B U H :=
  ⟨((h.1.moved hW.alike).kept hk).narrow hAB, ((h.2.1.moved hW.alike).kept hk).narrow hAB, fun q hq => (h.2.2.1 q hq).elim fun a ha => ⟨a, vk_R.warm hW ha⟩, gZw_warm hW h.2.2.2⟩
theorem gZ.same {A : Nat → Prop} {s U : State} {H : Heap} (hW : U.vm = s.vm) (h : gZ A s H) : gZ A U H :=
  ⟨h.1.moved (by rw [hW]; exact Vm.Alike.refl _), h.2.1.moved (by rw [hW]; exact Vm.Alike.refl _), fun q hq => (h.2.2.1 q hq).elim fun a ha => ⟨a, vk_R.same hW ha⟩, fun w hw => va_Nw.same (gZw_tab w hw) hW.symm (h.2.2.2 w hw)⟩
/-- the start: arguments, the cells ws, what a throw needs, automata by the table T, which this method may look at -/
def xPre (D : va_G) (K : Nat → ClassId) (T : auTab) (av : List Value) (ws : va_W) (nl : Nat) (asg : Nat → Option Nat) (sz : Nat) : Array Value → State → Prop := fun v U => wPre D K av ws sz v U ∧ gX U ∧ gZ (va_A ws sz) U U.heap ∧ ∀ (q i : Nat), i < nl → asg i = some q → va_P D vwCl (auT K T q) U.heap ∧ gAw (va_A ws sz) (auT K T q)
theorem xPre_blind {D : va_G} {K : Nat → ClassId} {T : auTab} {av : List Value} {ws : va_W} {nl : Nat} {asg : Nat → Option Nat} {sz : Nat} : FrameBlind (xPre D K T av ws nl asg sz) := fun a U g mk h => ⟨wPre_blind a U g mk h.1, gX.same (s := U) (U := U.calling g mk a) rfl h.2.1, gZ.same (s := U) (U := U.calling g mk a) rfl h.2.2.1, h.2.2.2⟩
theorem xPre_of {D : va_G} {K : Nat → ClassId} {T : auTab} {av : List Value} {ws : va_W} {nl : Nat} {asg : Nat → Option Nat} {s : State} {H : Heap} {A : Nat → Prop} {locs : List Loc} (hP : va_P D vwCl ws H) (hK : va_K D vwCl (tG K) s) (hD : va_D A ws) (hS : va_S A s.heap H locs) (hA : ∀ q, s.heap.size ≤ q → A q) (hX : gX s) (hZ : gZ A s s.heap) (hT : ∀ (q i : Nat), i < nl → asg i = some q → va_P D vwCl (auT K T q) H ∧ gAw A (auT K T q)) :
    ∀ U : State, U.heap = H → s.WarmedH U.vm → xPre D K T av ws nl asg H.size av.toArray U := fun U hU hW => ⟨wPre_of hP hK hD U hU hW, hX.moved hW, by rw [hU]; exact hZ.warm hW (fun a h1 h2 => hS.2.1 a h1 h2) (va_sub hD hS hA), fun q i hi hq => ⟨by rw [hU]; exact (hT q i hi hq).1, (hT q i hi hq).2.mono (va_sub hD hS hA)⟩⟩
theorem xT0 {D : va_G} {K : Nat → ClassId} {T : auTab} {asg : Nat → Option Nat} {H : Heap} {A : Nat → Prop} : ∀ (q i : Nat), i < 0 → asg i = some q → va_P D vwCl (auT K T q) H ∧ gAw A (auT K T q) := fun _ i hi => absurd hi (Nat.not_lt_zero i)
/-- the answer; the throw -/
def xPost {γ υ ω : Type} (D : va_G) (K : Nat → ClassId) (r : υ ⊕ ω) (rv : ω → γ → Option Value) (ws : ω → γ → va_W) (A : Nat → Prop) : Array Value → State → Outcome → State → Prop := fun av st oc t => ∃ v : ω, r = .inr v ∧ wPostG D K (rv v) (ws v) A av st oc t
def xExc {γ υ ω : Type} (D : va_G) (K : Nat → ClassId) (r : (String × υ) ⊕ ω) (ws : υ → γ → va_W) (A : Nat → Prop) : String → State → State → Prop := fun E st t => ∃ u : υ, r = .inl (E, u) ∧ (∃ g : γ, va_P D vwCl (ws u g) t.heap ∧ va_K D vwCl (tG K) t ∧ va_D A (ws u g)) ∧ va_F A st t
theorem x_keep0 {D : va_G} {cl : List vw_C} {ws : va_W} {H H1 : Heap} (hP : va_P D cl ws H) (hk : ∀ q : Nat, q < H.size → ¬ va_A [] H.size q → H1[q]? = H[q]?) : va_P D cl ws H1 := hP.kept (fun k q hq => hk q.1 (hP k q hq).lt (fun h => by
  rcases h with ⟨i, e', h⟩ | h
  · simp at h
  · exact absurd (hP k q hq).lt (by omega)))
section
variable {p : Program} {l : Launch} {e : Env} {R : Room} {s : State} {m : MethodId} {args : Array Value} {below : List Frame} {meth : Method} {c : Code} {H : Heap} {locs : List Loc} {cells slots : Nat} {Q : State → Prop}
variable {pc : Nat} {ls : Array Slot} {rest st0 : List Value} {D : va_G} {A : Nat → Prop} {H0 : Heap} {K : Nat → ClassId}
theorem x_call {γ γ' υ ω : Type} {r : (String × υ) ⊕ ω} {rv : ω → γ → Option Value} {ws' : ω → γ → va_W} {wx : υ → γ' → va_W} {av : Array Value} {wc : va_W} {mc ms : Nat} (hr : vx_Run p l e R s m args below meth c H locs cells slots mc ms (F0 m pc ls st0) rest (xPost D K r rv ws' (va_A wc H.size) av) (xExc D K r wx (va_A wc H.size)) (va_A wc H.size)) (hD : va_D A wc) (hS : va_S A H0 H locs) (hA : ∀ q, H0.size ≤ q → A q)
    (kx : ∀ (E : String) (u : υ), r = .inl (E, u) → ∀ (g : γ') (ce : Cell) (q9 : Addr) (H1 : Heap) (locs1 : List Loc), va_P D vwCl (wx u g) H1 → va_D (va_A wc H.size) (wx u g) → (∀ q : Nat, q < H.size → ¬ va_A wc H.size q → H1[q]? = H[q]?) → va_S A H0 H1 locs1 → H1[q9]? = some ce → ce.vm = .none → s.vm.findClass E = some ce.cls → vx_W p l e R s m args below meth c H1 locs1 (cells + mc) (slots + ms) Q (F0 m pc ls rest) q9)
    (kk : ∀ (v : ω), r = .inr v → ∀ (g : γ) (H1 : Heap) (locs1 : List Loc), va_P D vwCl (ws' v g) H1 → va_D (va_A wc H.size) (ws' v g) → (∀ q : Nat, q < H.size → ¬ va_A wc H.size q → H1[q]? = H[q]?) → va_S A H0 H1 locs1 → W p l e R s m args below meth c H1 locs1 (cells + mc) (slots + ms) Q (F0 m (pc + 3) ls ((rv v g).toList ++ rest))) : W p l e R s m args below meth c H locs cells slots Q (F0 m pc ls st0) := by
  have hF := va_sub hD hS hA
  intro T hT X
  rcases hr T hT X with ⟨v', st₀, t, T', L, h0, X', hL, e1, e2, ⟨v, hrv, ⟨g, hv, hp, hk0, hd⟩, hz, hk⟩, st⟩ | ⟨q9, st₀, t, T', L, E, ce, h0, X', hL, e1, e2, ⟨u, hru, ⟨g, hp, hk0, hd⟩, hz, hk⟩, hce, hcv, hcl, st⟩
  · cases hv
    rw [h0] at hz hk
    obtain ⟨t2, a1, b1⟩ := kk v hrv g T'.heap (locs ++ L) (by rw [e1]; exact hp) hd (fun q h1 h2 => by rw [e1]; exact hk q h1 h2)
      ⟨Nat.le_trans hS.1 (by rw [e1]; exact hz), fun q h1 h2 => by rw [e1, hk q (Nat.lt_of_lt_of_le h1 hS.1) (fun z => h2 (hF q z))]; exact hS.2.1 q h1 h2, fun q hq => by
        rcases List.mem_append.mp hq with h | h
        · exact hS.2.2 q h
        · exact hF _ (hL q h)⟩ T' rfl X'
    exact ⟨t2, st t2 a1, b1⟩
  · rw [h0] at hz hk
    obtain ⟨t2, a1, b1⟩ := kx E u hru g ce q9 T'.heap (locs ++ L) (by rw [e1]; exact hp) hd (fun q h1 h2 => by rw [e1]; exact hk q h1 h2)
      ⟨Nat.le_trans hS.1 (by rw [e1]; exact hz), fun q h1 h2 => by rw [e1, hk q (Nat.lt_of_lt_of_le h1 hS.1) (fun z => h2 (hF q z))]; exact hS.2.1 q h1 h2, fun q hq => by
        rcases List.mem_append.mp hq with h | h
        · exact hS.2.2 q h
        · exact hF _ (hL q h)⟩ (by rw [e1]; exact hce) hcv hcl T' rfl X'
    exact ⟨t2, st.trans a1, b1⟩
/-- thrown by a callee, and let go -/
theorem x_out {γ υ ω : Type} {Qc : Array Value → State → Outcome → State → Prop} {E : String} {ce : Cell} {q9 : Addr} {u : υ} {r : (String × υ) ⊕ ω} {wx : υ → γ → va_W} {mc ms : Nat} (ht : ∀ x ∈ c.exceptionTable.toList, False) (hlocks : meth.locks = false) (hcell : H[q9]? = some ce) (hv : ce.vm = .none) (hcl : s.vm.findClass E = some ce.cls) (g : γ) (hr : r = .inl (E, u)) (hP : va_P D vwCl (wx u g) H) (hK : va_K D vwCl (tG K) s) (hD : va_D A (wx u g)) (hS : va_S A s.heap H locs) (hc : cells ≤ mc) (hs : slots ≤ ms) :
    vx_W p l e R s m args below meth c H locs cells slots (vx_MQ below Qc (xExc D K r wx A) args s mc ms A) (F0 m pc ls rest) q9 :=
  vx_out (fun x hx => (ht x hx).elim) hlocks hcell hv hcl (fun t h1 h2 => ⟨u, hr, ⟨g, by rw [h1]; exact hP, va_K.moved h2 hK, hD⟩, hS.F h1⟩) hS.2.2 hc hs
theorem gZ_at {cls : String} {ic : Nat} (hts : ∀ w ∈ gW, w.before args s = true) (hZ : gZ A s s.heap) (h1 : ∀ w ∈ (vx_atS "RegularSolver" ic cls gZn).filter goodWord, w ∈ gW) (h2 : ∀ w ∈ (vx_atS "RegularSolver" ic cls gZn).filter (fun w => !goodWord w), w ∈ gZw) : ∀ w ∈ vx_atS "RegularSolver" ic cls gZn, w.before args s = true :=
  vx_hat (fun w hw => hts w (h1 w hw)) h2 (fun w hw => va_Nw.use (gZw_tab w hw) (hZ.2.2.2 w hw))
/-- throw new E("text") -/
theorem g_throw {cc : ByteArray} {γ υ ω : Type} {Qc : Array Value → State → Outcome → State → Prop} {u : υ} {r : (String × υ) ⊕ ω} {wx : υ → γ → va_W} (hx : p.tables.exec = Jvm.exec) (hb : c.code = cc) (hl0 : l.stackTraces = false) {cls text : String} {ik is ic mc ms : Nat} (hown : s.vm.findClass "RegularSolver" = some m.cls) (hts : ∀ w ∈ gW, w.before args s = true) (hZ : gZ A s s.heap) (hcls : Bundle.fit cls = true) (hk : Cond.classLink "RegularSolver" ik cls ∈ gW) (hini : Cond.initialized cls ∈ gW) (hstr : (is, text) ∈ gZs)
    (h1 : ∀ w ∈ (vx_atS "RegularSolver" ic cls gZn).filter goodWord, w ∈ gW) (h2 : ∀ w ∈ (vx_atS "RegularSolver" ic cls gZn).filter (fun w => !goodWord w), w ∈ gZw) (h3 : ∀ w ∈ Cond.classLink "RegularSolver" ik cls :: Cond.initialized cls :: vx_atS "RegularSolver" ic cls gZn, vx_ot w = true)
    (ht : ∀ x ∈ c.exceptionTable.toList, False) (hlocks : meth.locks = false) (hsize : ls.size = c.maxLocals) (g : γ) (hr : r = .inl (cls, u)) (hP : va_P D vwCl (wx u g) H) (hK : va_K D vwCl (tG K) s) (hD : va_D A (wx u g)) (hS : va_S A s.heap H locs)
    (d0 : decode cc pc = .ok (.new ik, 3)) (d3 : decode cc (pc + 3) = .ok (.dup, 1)) (d4 : decode cc (pc + 4) = .ok (.ldc is, 2)) (d6 : decode cc (pc + 6) = .ok (.invokespecial ic, 3)) (d9 : decode cc (pc + 9) = .ok (.athrow, 1))
    (hRf : 5 < R.frames) (hRl : (rest.map fun v => v.category).sum + 82 ≤ R.locals) (hRc : cells + 1 ≤ R.cells) (hRs : slots + 6 ≤ R.slots) (hc : cells + 1 ≤ mc) (hs : slots + 6 ≤ ms) :
    W p l e R s m args below meth c H locs cells slots (vx_MQ below Qc (xExc D K r wx A) args s mc ms A) (F0 m pc ls rest) := by
  obtain ⟨sa, hsa⟩ := hZ.2.2.1 _ hstr
  exact vx_throwS hx hb hl0 hown hcls (by decide +kernel) (hts _ hk) (hts _ hini) hsa (gZ_at hts hZ h1 h2) h3 hZ.1 hZ.2.1 hS hsize d0 d3 d4 d6 d9 (fun x hx => (ht x hx).elim) hRf hRl hRc hRs hlocks
    (fun t a1 a2 a3 => ⟨u, hr, ⟨g, hP.kept (fun k q hq => a3 q.1 (hP k q hq).lt), va_K.moved a1 hK, hD⟩, ⟨Nat.le_trans hS.1 a2, fun q b1 b2 => by rw [a3 q (Nat.lt_of_lt_of_le b1 hS.1)]; exact hS.2.1 q b1 b2⟩⟩) hS.2.2 hc hs
end
theorem g_any {s : State} {D : va_G} {K : Nat → ClassId} {H : Heap} {q an aa : Nat} {a1 : Int32} {a2 : Nat} {a3 : Nat → Int32} {a4 : Int64} {a5 : Nat → Int64} (hK : va_K D vwCl (tG K) s) (hP : va_P D vwCl (auW K q an aa a1 a2 a3 a4 a5) H) : va_Any "RegularSolver$Automaton" s H q :=
  va_rAny hK hP (q0 := 0) (ci := 1) (r := (R_Au, T_Au, 4)) rfl rfl (fun comp c0 h1 h2 => by
    have h3 := (hK.1 1 (R_Au, T_Au, 4) rfl).2
    have e1 : comp = D.1 1 := Option.some.inj (h1.symm.trans h3.1)
    have e2 : c0 = D.1 1 := Option.some.inj (h2.symm.trans h3.1)
    subst e1
    subst e2
    exact va_assign h3)
abbrev sgW (K : Nat → ClassId) (sq sA sF sLe sMo sAl sRL sRM sLn sKL sKW : Nat) (fF fL fM : Nat → Nat) (sAssigned : Nat → Option Nat) (sLeast sMost : Nat → Int32) (sCount : Int32) (sAllowed : Nat → Int64) (sLengths : Nat → Int32) (sKept : Bool) (sKeptLengths : Nat → Int32) (sKeptWords : Nat → Int64) (gF gL gM : Nat → Nat → Int32) : va_W :=
  ((seW K sq sA sF sLe sMo sAl sRL sRM sLn sKL sKW fF fL fM sAssigned sLeast sMost sCount sAllowed sLengths sKept sKeptLengths sKeptWords) ++ (grW K fF 4 gF) ++ (grW K fL 5 gL) ++ (grW K fM 5 gM))
theorem xPre_of2 {D : va_G} {K : Nat → ClassId} {T : auTab} {av : List Value} {ws : va_W} {nl : Nat} {asg : Nat → Option Nat} {s : State} {H : Heap} {A : Nat → Prop} {locs : List Loc} (hP : va_P D vwCl ws H) (hK : va_K D vwCl (tG K) s) (hD : va_D A ws) (hS : va_S A s.heap H locs) (hA : ∀ q, s.heap.size ≤ q → A q) (hX : gX s) (hZ : gZ A s s.heap) (hT : ∀ (q i : Nat), i < nl → asg i = some q → va_P D vwCl (auT K T q) H ∧ gAw (va_A ws H.size) (auT K T q)) :
    ∀ U : State, U.heap = H → s.WarmedH U.vm → xPre D K T av ws nl asg H.size av.toArray U := fun U hU hW => ⟨wPre_of hP hK hD U hU hW, hX.moved hW, by rw [hU]; exact hZ.warm hW (fun a h1 h2 => hS.2.1 a h1 h2) (va_sub hD hS hA), fun q i hi hq => ⟨by rw [hU]; exact (hT q i hi hq).1, (hT q i hi hq).2⟩⟩
theorem oqi {α β : Type} {x : Option β} {f : β → Option α} {y : α} (h : oq x none f = some y) : ∃ q : β, x = some q ∧ f q = some y := by
  cases x with
  | none => exact nomatch h
  | some q => exact ⟨q, rfl, h⟩
theorem x_gen {P : Heap → Prop} {H0 : Heap} (h : ∀ H : Heap, H = H0 → P H) : P H0 := h _ rfl

abbrev b_Se_assign : ByteArray := prog_10_method_2_code
def y_Se_assign : MethodName := ⟨"RegularSolver$Search", "assign", "(ILRegularSolver$Automaton;)V"⟩
abbrev w0_Se_assign : List Cond := Cond.code y_Se_assign b_Se_assign 3 none :: gW
theorem cd_Se_assign : Cond.code y_Se_assign b_Se_assign 3 none ∈ gW := gm 701 (by decide +kernel) (by decide +kernel)
theorem d_Se_assign_0 : decode b_Se_assign 0 = .ok (.aload_n 0, 1) := by decide +kernel
theorem d_Se_assign_1 : decode b_Se_assign 1 = .ok (.getfield 11, 3) := by decide +kernel
theorem d_Se_assign_4 : decode b_Se_assign 4 = .ok (.iload_n 1, 1) := by decide +kernel
theorem d_Se_assign_5 : decode b_Se_assign 5 = .ok (.aload_n 2, 1) := by decide +kernel
theorem d_Se_assign_6 : decode b_Se_assign 6 = .ok (.aastore, 1) := by decide +kernel
theorem d_Se_assign_7 : decode b_Se_assign 7 = .ok (.return_, 1) := by decide +kernel
theorem pd_Se_assign : y_Se_assign.cls ≠ "java/lang/invoke/MethodHandle" ∧ y_Se_assign.cls ≠ "java/lang/invoke/VarHandle" ∧ (parseMethodDescriptor y_Se_assign.desc).map (fun d => d.parameters.length) = some 2 := by decide +kernel
section
variable {p : Program} {l : Launch} {e : Env} {R : Room} {s : State} {m : MethodId} {args : Array Value} {below : List Frame} {meth : Method} {c : Code} {H : Heap} {locs : List Loc} {cells slots : Nat} {Q : State → Prop} {A : Nat → Prop} {H0 : Heap}
variable {n : Nat} {D : va_G} {K : Nat → ClassId} {sq : Nat} {sA : Nat} {sF : Nat} {sLe : Nat} {sMo : Nat} {sAl : Nat} {sRL : Nat} {sRM : Nat} {sLn : Nat} {sKL : Nat} {sKW : Nat} {fF : Nat → Nat} {fL : Nat → Nat} {fM : Nat → Nat} {sAssigned : Nat → Option Nat} {sLeast : Nat → Int32} {sMost : Nat → Int32} {sCount : Int32} {sAllowed : Nat → Int64} {sLengths : Nat → Int32} {sKept : Bool} {sKeptLengths : Nat → Int32} {sKeptWords : Nat → Int64} {gF : Nat → Nat → Int32} {gL : Nat → Nat → Int32} {gM : Nat → Nat → Int32}
def f_Se_assign_N (n : Nat) (p0 : Int32) (sAssigned : Nat → Option Nat) : Option ((Nat → Option Nat)) :=
  ogd (gin p0 4) <|
  some (va_up sAssigned p0.toNatClampNeg none)
set_option maxHeartbeats 4000000 in
set_option maxRecDepth 100000 in
theorem w_Se_assign_N  {p0 : Int32}  (hx : p.tables.exec = Jvm.exec) (hb : c.code = b_Se_assign) (hml : c.maxLocals = 3) (hts : ∀ w ∈ gW, w.before args s = true) (hown : s.vm.findClass "RegularSolver$Search" = some m.cls) (hK : va_K D vwCl (tG K) s) (hRf : 0 ≤ R.frames) (hRl : 0 ≤ R.locals) (hRc : cells ≤ R.cells) (hRs : slots ≤ R.slots) (hA : ∀ q, H0.size ≤ q → A q) {out : (Nat → Option Nat)} (Kr : ∀ (r : (Nat → Option Nat)), out = r → ∀ (pc : Nat) (ls : Array Slot) (H : Heap) (locs : List Loc), decode b_Se_assign pc = .ok (.return_, 1) → va_P D vwCl ((seW K sq sA sF sLe sMo sAl sRL sRM sLn sKL sKW fF fL fM r sLeast sMost sCount sAllowed sLengths sKept sKeptLengths sKeptWords) ++ (grW K fF 4 gF) ++ (grW K fL 5 gL) ++ (grW K fM 5 gM)) H → va_D A ((seW K sq sA sF sLe sMo sAl sRL sRM sLn sKL sKW fF fL fM r sLeast sMost sCount sAllowed sLengths sKept sKeptLengths sKeptWords) ++ (grW K fF 4 gF) ++ (grW K fL 5 gL) ++ (grW K fM 5 gM)) → va_S A H0 H locs → W p l e R s m args below meth c H locs cells slots Q (F0 m pc ls [])) (hf : f_Se_assign_N n p0 sAssigned = some out) (ls : Array Slot) (hP : va_P D vwCl ((seW K sq sA sF sLe sMo sAl sRL sRM sLn sKL sKW fF fL fM sAssigned sLeast sMost sCount sAllowed sLengths sKept sKeptLengths sKeptWords) ++ (grW K fF 4 gF) ++ (grW K fL 5 gL) ++ (grW K fM 5 gM)) H) (hD : va_D A ((seW K sq sA sF sLe sMo sAl sRL sRM sLn sKL sKW fF fL fM sAssigned sLeast sMost sCount sAllowed sLengths sKept sKeptLengths sKeptWords) ++ (grW K fF 4 gF) ++ (grW K fL 5 gL) ++ (grW K fM 5 gM))) (hS : va_S A H0 H locs) (hl : lv_has ls 3 [(0, .ref sq), (1, .int p0), (2, .null)]) : W p l e R s m args below meth c H locs cells slots Q (F0 m 0 ls []) := by
  unfold f_Se_assign_N at hf
  refine lv_aload_n hx hb d_Se_assign_0 rfl (lv_at hl 0 rfl) ?_
  refine va_get (D := D) (ci := 9) (v := .ref sA) (C := R_Se) (T := T_Se) (N := 12) hx hb hts in_Se hown hK hP 0 rfl rfl 0 (by decide) (hts _ fl_Se_11) (fun _ h9 => h9) rfl d_Se_assign_1 ?_
  refine lv_iload_n hx hb d_Se_assign_4 rfl (lv_at hl 1 rfl) ?_
  refine lv_aload_nN hx hb d_Se_assign_5 rfl (lv_at hl 2 rfl) ?_
  obtain ⟨g1, hf⟩ := ogi hf
  refine va_astqN hx hb hK hP hD hS 1 3 rfl rfl (gin_in g1) d_Se_assign_6 (fun H locs hP hD hS => ?_)
  have hP : va_P D vwCl ((seW K sq sA sF sLe sMo sAl sRL sRM sLn sKL sKW fF fL fM (va_up sAssigned p0.toNatClampNeg none) sLeast sMost sCount sAllowed sLengths sKept sKeptLengths sKeptWords) ++ (grW K fF 4 gF) ++ (grW K fL 5 gL) ++ (grW K fM 5 gM)) H := hP
  have hD : va_D A ((seW K sq sA sF sLe sMo sAl sRL sRM sLn sKL sKW fF fL fM (va_up sAssigned p0.toNatClampNeg none) sLeast sMost sCount sAllowed sLengths sKept sKeptLengths sKeptWords) ++ (grW K fF 4 gF) ++ (grW K fL 5 gL) ++ (grW K fM 5 gM)) := hD
  exact Kr _ (Option.some.inj hf).symm _ _ _ _ d_Se_assign_7 hP hD hS
set_option maxHeartbeats 4000000 in
set_option maxRecDepth 100000 in
theorem c_Se_assign_N (l : Launch)  {p0 : Int32}  {r : (Nat → Option Nat)} (sz : Nat) (hf : f_Se_assign_N n p0 sAssigned = some r) : Met l y_Se_assign w0_Se_assign ({ frames := 0, cells := 0, slots := 0, locals := 0 }) (wPre D K [.ref sq, .int p0, .null] ((seW K sq sA sF sLe sMo sAl sRL sRM sLn sKL sKW fF fL fM sAssigned sLeast sMost sCount sAllowed sLengths sKept sKeptLengths sKeptWords) ++ (grW K fF 4 gF) ++ (grW K fL 5 gL) ++ (grW K fM 5 gM)) sz) (wPost D K none ((seW K sq sA sF sLe sMo sAl sRL sRM sLn sKL sKW fF fL fM r sLeast sMost sCount sAllowed sLengths sKept sKeptLengths sKeptWords) ++ (grW K fF 4 gF) ++ (grW K fL 5 gL) ++ (grW K fM 5 gM)) (va_A ((seW K sq sA sF sLe sMo sAl sRL sRM sLn sKL sKW fF fL fM sAssigned sLeast sMost sCount sAllowed sLengths sKept sKeptLengths sKeptWords) ++ (grW K fF 4 gF) ++ (grW K fL 5 gL) ++ (grW K fM 5 gM)) sz)) 0 0 (va_A ((seW K sq sA sF sLe sMo sAl sRL sRM sLn sKL sKW fF fL fM sAssigned sLeast sMost sCount sAllowed sLengths sKept sKeptLengths sKeptWords) ++ (grW K fF 4 gF) ++ (grW K fL 5 gL) ++ (grW K fM 5 gM)) sz) := by
  refine Met.ofW (cc := b_Se_assign) (maxL := 3) (ret := none) (by decide) rfl ?_
  intro p e s m args below meth c s₁ B hml hv
  obtain ⟨rfl, hsz, hP, hK, hD0⟩ := hv
  subst hsz
  have hl := lv_entry [.ref sq, .int p0, .null] (n := 3) (Nat.le_of_ble_eq_true rfl)
  rw [lg_entry_eq]
  generalize (lg_sl [.ref sq, .int p0, .null] ++ List.replicate (3 - (lg_sl [.ref sq, .int p0, .null]).length) Slot.unset).toArray = ls at hl ⊢
  refine w_Se_assign_N (A := va_A ((seW K sq sA sF sLe sMo sAl sRL sRM sLn sKL sKW fF fL fM sAssigned sLeast sMost sCount sAllowed sLengths sKept sKeptLengths sKeptWords) ++ (grW K fF 4 gF) ++ (grW K fL 5 gL) ++ (grW K fM 5 gM)) s.heap.size) (H0 := s.heap) B.exec B.bytes hml (fun w hw => atoms_spec (ws := w0_Se_assign) B.pre w (List.mem_cons_of_mem _ hw)) (findClass_of_methodNamed B.named) hK (Nat.le_refl _) (Nat.le_refl _) (Nat.zero_le _) (Nat.zero_le _) (fun q h => Or.inr h) (fun r er pc ls H locs hd hP hD hS => ?_) hf ls hP (hD0.self (sz := s.heap.size)) va_S.rf hl
  subst er
  exact W.vret B.exec B.bytes B.returns (fun t ht hW => ⟨⟨rfl, by rw [ht]; exact hP, va_K.moved hW.alike hK, hD⟩, hS.F ht⟩) hS.2.2 hd (hlocks := B.notSynchronized)
end
section
variable {p : Program} {l : Launch} {e : Env} {R : Room} {s : State} {m : MethodId} {args : Array Value} {below : List Frame} {meth : Method} {c : Code} {H : Heap} {locs : List Loc} {cells slots : Nat} {Q : State → Prop} {A : Nat → Prop} {H0 : Heap}
variable {n : Nat} {D : va_G} {K : Nat → ClassId} {sq : Nat} {sA : Nat} {sF : Nat} {sLe : Nat} {sMo : Nat} {sAl : Nat} {sRL : Nat} {sRM : Nat} {sLn : Nat} {sKL : Nat} {sKW : Nat} {fF : Nat → Nat} {fL : Nat → Nat} {fM : Nat → Nat} {q : Nat} {an : Nat} {aa : Nat} {sAssigned : Nat → Option Nat} {sLeast : Nat → Int32} {sMost : Nat → Int32} {sCount : Int32} {sAllowed : Nat → Int64} {sLengths : Nat → Int32} {sKept : Bool} {sKeptLengths : Nat → Int32} {sKeptWords : Nat → Int64} {gF : Nat → Nat → Int32} {gL : Nat → Nat → Int32} {gM : Nat → Nat → Int32} {aStates : Int32} {aNl : Nat} {aNext : Nat → Int32} {aLast : Int64} {aAhead : Nat → Int64}
def f_Se_assign_R (n : Nat) (p0 : Int32) (q : Nat) (sAssigned : Nat → Option Nat) : Option ((Nat → Option Nat)) :=
  ogd (gin p0 4) <|
  some (va_up sAssigned p0.toNatClampNeg (some q))
set_option maxHeartbeats 4000000 in
set_option maxRecDepth 100000 in
theorem w_Se_assign_R  {p0 : Int32}  (hx : p.tables.exec = Jvm.exec) (hb : c.code = b_Se_assign) (hml : c.maxLocals = 3) (hts : ∀ w ∈ gW, w.before args s = true) (hown : s.vm.findClass "RegularSolver$Search" = some m.cls) (hK : va_K D vwCl (tG K) s) (hO1 : ∀ (H : Heap) (locs : List Loc), va_S A H0 H locs → va_P D vwCl (auW K q an aa aStates aNl aNext aLast aAhead) H) (hw1 : gAw A (auW K q an aa aStates aNl aNext aLast aAhead)) (hRf : 0 ≤ R.frames) (hRl : 0 ≤ R.locals) (hRc : cells ≤ R.cells) (hRs : slots ≤ R.slots) (hA : ∀ q, H0.size ≤ q → A q) {out : (Nat → Option Nat)} (Kr : ∀ (r : (Nat → Option Nat)), out = r → ∀ (pc : Nat) (ls : Array Slot) (H : Heap) (locs : List Loc), decode b_Se_assign pc = .ok (.return_, 1) → va_P D vwCl ((seW K sq sA sF sLe sMo sAl sRL sRM sLn sKL sKW fF fL fM r sLeast sMost sCount sAllowed sLengths sKept sKeptLengths sKeptWords) ++ (grW K fF 4 gF) ++ (grW K fL 5 gL) ++ (grW K fM 5 gM)) H → va_D A ((seW K sq sA sF sLe sMo sAl sRL sRM sLn sKL sKW fF fL fM r sLeast sMost sCount sAllowed sLengths sKept sKeptLengths sKeptWords) ++ (grW K fF 4 gF) ++ (grW K fL 5 gL) ++ (grW K fM 5 gM)) → va_S A H0 H locs → W p l e R s m args below meth c H locs cells slots Q (F0 m pc ls [])) (hf : f_Se_assign_R n p0 q sAssigned = some out) (ls : Array Slot) (hP : va_P D vwCl ((seW K sq sA sF sLe sMo sAl sRL sRM sLn sKL sKW fF fL fM sAssigned sLeast sMost sCount sAllowed sLengths sKept sKeptLengths sKeptWords) ++ (grW K fF 4 gF) ++ (grW K fL 5 gL) ++ (grW K fM 5 gM)) H) (hD : va_D A ((seW K sq sA sF sLe sMo sAl sRL sRM sLn sKL sKW fF fL fM sAssigned sLeast sMost sCount sAllowed sLengths sKept sKeptLengths sKeptWords) ++ (grW K fF 4 gF) ++ (grW K fL 5 gL) ++ (grW K fM 5 gM))) (hS : va_S A H0 H locs) (hl : lv_has ls 3 [(0, .ref sq), (1, .int p0), (2, .ref q)]) : W p l e R s m args below meth c H locs cells slots Q (F0 m 0 ls []) := by
  unfold f_Se_assign_R at hf
  refine lv_aload_n hx hb d_Se_assign_0 rfl (lv_at hl 0 rfl) ?_
  refine va_get (D := D) (ci := 9) (v := .ref sA) (C := R_Se) (T := T_Se) (N := 12) hx hb hts in_Se hown hK hP 0 rfl rfl 0 (by decide) (hts _ fl_Se_11) (fun _ h9 => h9) rfl d_Se_assign_1 ?_
  refine lv_iload_n hx hb d_Se_assign_4 rfl (lv_at hl 1 rfl) ?_
  refine lv_aload_n hx hb d_Se_assign_5 rfl (lv_at hl 2 rfl) ?_
  obtain ⟨g1, hf⟩ := ogi hf
  refine va_astqM hx hb hK hP hD hS 1 3 rfl rfl (g_any hK (hO1 _ _ hS)) (gin_in g1) d_Se_assign_6 (fun H locs hP hD hS => ?_)
  have hP : va_P D vwCl ((seW K sq sA sF sLe sMo sAl sRL sRM sLn sKL sKW fF fL fM (va_up sAssigned p0.toNatClampNeg (some q)) sLeast sMost sCount sAllowed sLengths sKept sKeptLengths sKeptWords) ++ (grW K fF 4 gF) ++ (grW K fL 5 gL) ++ (grW K fM 5 gM)) H := hP
  have hD : va_D A ((seW K sq sA sF sLe sMo sAl sRL sRM sLn sKL sKW fF fL fM (va_up sAssigned p0.toNatClampNeg (some q)) sLeast sMost sCount sAllowed sLengths sKept sKeptLengths sKeptWords) ++ (grW K fF 4 gF) ++ (grW K fL 5 gL) ++ (grW K fM 5 gM)) := hD
  exact Kr _ (Option.some.inj hf).symm _ _ _ _ d_Se_assign_7 hP hD hS
set_option maxHeartbeats 4000000 in
set_option maxRecDepth 100000 in
theorem c_Se_assign_R (l : Launch)  {p0 : Int32}  {r : (Nat → Option Nat)} (sz : Nat) (hf : f_Se_assign_R n p0 q sAssigned = some r) : Met l y_Se_assign w0_Se_assign ({ frames := 0, cells := 0, slots := 0, locals := 0 }) (wPreR D K [.ref sq, .int p0, .ref q] ((seW K sq sA sF sLe sMo sAl sRL sRM sLn sKL sKW fF fL fM sAssigned sLeast sMost sCount sAllowed sLengths sKept sKeptLengths sKeptWords) ++ (grW K fF 4 gF) ++ (grW K fL 5 gL) ++ (grW K fM 5 gM)) ((auW K q an aa aStates aNl aNext aLast aAhead)) sz) (wPost D K none ((seW K sq sA sF sLe sMo sAl sRL sRM sLn sKL sKW fF fL fM r sLeast sMost sCount sAllowed sLengths sKept sKeptLengths sKeptWords) ++ (grW K fF 4 gF) ++ (grW K fL 5 gL) ++ (grW K fM 5 gM)) (va_A ((seW K sq sA sF sLe sMo sAl sRL sRM sLn sKL sKW fF fL fM sAssigned sLeast sMost sCount sAllowed sLengths sKept sKeptLengths sKeptWords) ++ (grW K fF 4 gF) ++ (grW K fL 5 gL) ++ (grW K fM 5 gM)) sz)) 0 0 (va_A ((seW K sq sA sF sLe sMo sAl sRL sRM sLn sKL sKW fF fL fM sAssigned sLeast sMost sCount sAllowed sLengths sKept sKeptLengths sKeptWords) ++ (grW K fF 4 gF) ++ (grW K fL 5 gL) ++ (grW K fM 5 gM)) sz) := by
  refine Met.ofW (cc := b_Se_assign) (maxL := 3) (ret := none) (by decide) rfl ?_
  intro p e s m args below meth c s₁ B hml hv
  obtain ⟨rfl, hsz, hP, hK, hD0, hR, hw⟩ := hv
  subst hsz
  have hl := lv_entry [.ref sq, .int p0, .ref q] (n := 3) (Nat.le_of_ble_eq_true rfl)
  rw [lg_entry_eq]
  generalize (lg_sl [.ref sq, .int p0, .ref q] ++ List.replicate (3 - (lg_sl [.ref sq, .int p0, .ref q]).length) Slot.unset).toArray = ls at hl ⊢
  refine w_Se_assign_R (A := va_A ((seW K sq sA sF sLe sMo sAl sRL sRM sLn sKL sKW fF fL fM sAssigned sLeast sMost sCount sAllowed sLengths sKept sKeptLengths sKeptWords) ++ (grW K fF 4 gF) ++ (grW K fL 5 gL) ++ (grW K fM 5 gM)) s.heap.size) (H0 := s.heap) B.exec B.bytes hml (fun w hw => atoms_spec (ws := w0_Se_assign) B.pre w (List.mem_cons_of_mem _ hw)) (findClass_of_methodNamed B.named) hK (fun _ _ hS => ro_of hR hw hS) hw (Nat.le_refl _) (Nat.le_refl _) (Nat.zero_le _) (Nat.zero_le _) (fun q h => Or.inr h) (fun r er pc ls H locs hd hP hD hS => ?_) hf ls hP (hD0.self (sz := s.heap.size)) va_S.rf hl
  subst er
  exact W.vret B.exec B.bytes B.returns (fun t ht hW => ⟨⟨rfl, by rw [ht]; exact hP, va_K.moved hW.alike hK, hD⟩, hS.F ht⟩) hS.2.2 hd (hlocks := B.notSynchronized)
end
