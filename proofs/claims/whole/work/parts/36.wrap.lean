/-! THE LAW'S OWN CALLS: answers and caught throws -/
def gCp : List (String × String) := [("java/lang/IndexOutOfBoundsException", "java/lang/IllegalArgumentException"), ("java/lang/UnsupportedOperationException", "java/lang/IllegalArgumentException"), ("java/lang/UnsupportedOperationException", "java/lang/IndexOutOfBoundsException"), ("java/lang/IllegalStateException", "java/lang/IllegalArgumentException")]
def gC (U : State) : Prop := ∀ q ∈ gCp, va_Nc q.1 q.2 U
def yPre (D : va_G) (K : Nat → ClassId) (T : auTab) (av : List Value) (ws : va_W) (nl : Nat) (asg : Nat → Option Nat) (sz : Nat) : Array Value → State → Prop := fun v U => xPre D K T av ws nl asg sz v U ∧ gC U
theorem yPre_blind {D : va_G} {K : Nat → ClassId} {T : auTab} {av : List Value} {ws : va_W} {nl : Nat} {asg : Nat → Option Nat} {sz : Nat} : FrameBlind (yPre D K T av ws nl asg sz) := fun a U g mk h => ⟨xPre_blind a U g mk h.1, fun q hq => va_Nc.moved (u := U) (U := U.calling g mk a) (Vm.Alike.refl U.vm) (h.2 q hq)⟩
theorem yPre_of {D : va_G} {K : Nat → ClassId} {T : auTab} {av : List Value} {ws : va_W} {nl : Nat} {asg : Nat → Option Nat} {sz : Nat} {s : State} {H : Heap} {w : Array Value} (h : ∀ U : State, U.heap = H → s.WarmedH U.vm → xPre D K T av ws nl asg sz w U) (hC : gC s) : ∀ U : State, U.heap = H → s.WarmedH U.vm → yPre D K T av ws nl asg sz w U := fun U hU hW => ⟨h U hU hW, fun q hq => va_Nc.moved hW.alike (hC q hq)⟩
def yPost {γ γ' υ ω : Type} (D : va_G) (K : Nat → ClassId) (r : (Int32 × υ) ⊕ ω) (wx : υ → γ' → va_W) (ws : ω → γ → va_W) (A : Nat → Prop) : Array Value → State → Outcome → State → Prop := fun av st oc t => (∃ u, r = .inl u ∧ wPostG D K (fun _ : γ' => some (.int u.1)) (fun g => wx u.2 g) A av st oc t) ∨ (∃ v, r = .inr v ∧ wPostG D K (fun _ : γ => some (.int 0)) (fun g => ws v g) A av st oc t)
section
variable {p : Program} {l : Launch} {e : Env} {R : Room} {s : State} {m : MethodId} {args : Array Value} {below : List Frame} {meth : Method} {c : Code} {H : Heap} {locs : List Loc} {cells slots : Nat} {Q : State → Prop}
variable {pc : Nat} {ls : Array Slot} {rest st0 : List Value} {D : va_G} {A : Nat → Prop} {H0 : Heap} {K : Nat → ClassId}
theorem y_call {γ γ' υ ω : Type} {r : (Int32 × υ) ⊕ ω} {ws' : ω → γ → va_W} {wx : υ → γ' → va_W} {av : Array Value} {wc : va_W} {mc ms : Nat} (hr : vx_Run p l e R s m args below meth c H locs cells slots mc ms (F0 m pc ls st0) rest (yPost D K r wx ws' (va_A wc H.size) av) (fun _ _ _ => False) (va_A wc H.size)) (hD : va_D A wc) (hS : va_S A H0 H locs) (hA : ∀ q, H0.size ≤ q → A q)
    (kx : ∀ (u : Int32 × υ), r = .inl u → ∀ (g : γ') (H1 : Heap) (locs1 : List Loc), va_P D vwCl (wx u.2 g) H1 → va_D (va_A wc H.size) (wx u.2 g) → H.size ≤ H1.size → (∀ q : Nat, q < H.size → ¬ va_A wc H.size q → H1[q]? = H[q]?) → va_S A H0 H1 locs1 → W p l e R s m args below meth c H1 locs1 (cells + mc) (slots + ms) Q (F0 m (pc + 3) ls (.int u.1 :: rest)))
    (kk : ∀ (v : ω), r = .inr v → ∀ (g : γ) (H1 : Heap) (locs1 : List Loc), va_P D vwCl (ws' v g) H1 → va_D (va_A wc H.size) (ws' v g) → H.size ≤ H1.size → (∀ q : Nat, q < H.size → ¬ va_A wc H.size q → H1[q]? = H[q]?) → va_S A H0 H1 locs1 → W p l e R s m args below meth c H1 locs1 (cells + mc) (slots + ms) Q (F0 m (pc + 3) ls (.int 0 :: rest))) : W p l e R s m args below meth c H locs cells slots Q (F0 m pc ls st0) := by
  have hF := va_sub hD hS hA
  intro T hT X
  rcases hr T hT X with ⟨v', st₀, t, T', L, h0, X', hL, e1, e2, hq, st⟩ | ⟨q9, st₀, t, T', L, E, ce, h0, X', hL, e1, e2, hfalse, -⟩
  · have hSS : ∀ (hz : H.size ≤ t.heap.size) (hk : ∀ q : Nat, q < H.size → ¬ va_A wc H.size q → t.heap[q]? = H[q]?), va_S A H0 T'.heap (locs ++ L) := fun hz hk => ⟨Nat.le_trans hS.1 (by rw [e1]; exact hz), fun q h1 h2 => by rw [e1, hk q (Nat.lt_of_lt_of_le h1 hS.1) (fun z => h2 (hF q z))]; exact hS.2.1 q h1 h2, fun q hq => by
        rcases List.mem_append.mp hq with h | h
        · exact hS.2.2 q h
        · exact hF _ (hL q h)⟩
    rcases hq with ⟨u, hru, ⟨g, hv, hp, hk0, hd⟩, hz, hk⟩ | ⟨v, hrv, ⟨g, hv, hp, hk0, hd⟩, hz, hk⟩
    · cases hv
      rw [h0] at hz hk
      obtain ⟨t2, a1, b1⟩ := kx u hru g T'.heap (locs ++ L) (by rw [e1]; exact hp) hd (by rw [e1]; exact hz) (fun q h1 h2 => by rw [e1]; exact hk q h1 h2) (hSS hz hk) T' rfl X'
      exact ⟨t2, st t2 a1, b1⟩
    · cases hv
      rw [h0] at hz hk
      obtain ⟨t2, a1, b1⟩ := kk v hrv g T'.heap (locs ++ L) (by rw [e1]; exact hp) hd (by rw [e1]; exact hz) (fun q h1 h2 => by rw [e1]; exact hk q h1 h2) (hSS hz hk) T' rfl X'
      exact ⟨t2, st t2 a1, b1⟩
  · exact hfalse.elim
theorem gSW {own : String} {index maxL mc ms : Nat} {y : MethodName} {bytes : ByteArray} {ret : Option FieldType} {hh : List (Nat × Nat × Nat × Nat)} {rm : Room} (n : Nat) (ht : ∀ w ∈ gW, w.before args s = true) (hc : Cond.codeWith y bytes maxL ret hh ∈ gW) (hl : Cond.methodLink own index y ∈ gW) (hs : Cond.static y ∈ gW) (hini : Cond.initialized y.cls ∈ gW) (hrc : rm.cells = mc) (hrs : rm.slots = ms)
    (hd : y.cls ≠ "java/lang/invoke/MethodHandle" ∧ y.cls ≠ "java/lang/invoke/VarHandle" ∧ (parseMethodDescriptor y.desc).map (fun d => d.parameters.length) = some n) (hR : rm.frames + 1 ≤ R.frames ∧ 8 + (maxL + 11) + rm.locals ≤ R.locals) : vx_CSW R s args own index y bytes maxL ret hh (Cond.codeWith y bytes maxL ret hh :: gW) rm mc ms n :=
  vx_cwSW n ht (fun w hw => by
    have h9 : w ∈ gW := by
      rcases List.mem_append.mp hw with h | h
      · simp only [List.mem_cons, List.not_mem_nil, or_false] at h
        rcases h with rfl | rfl | rfl
        · exact hl
        · exact hs
        · exact hini
      · rcases List.mem_cons.mp h with rfl | h
        · exact hc
        · exact h
    exact ⟨h9, good_of_word (List.mem_filter.mp h9).2⟩) rfl hrc hrs hd hR
end
abbrev b_La_letters : ByteArray := method_3_code
def y_La_letters : MethodName := ⟨"RegularSolverLaw", "letters", "(LRegularSolver;I[J)I"⟩
abbrev w0_La_letters : List Cond := Cond.codeWith y_La_letters b_La_letters 4 (some .int) [(0, 9, 12, 13), (0, 9, 15, 15)] :: gW
theorem cd_La_letters : Cond.codeWith y_La_letters b_La_letters 4 (some .int) [(0, 9, 12, 13), (0, 9, 15, 15)] ∈ gW := gm 179 (by decide +kernel) (by decide +kernel)
theorem d_La_letters_0 : decode b_La_letters 0 = .ok (.aload_n 2, 1) := by decide +kernel
theorem d_La_letters_1 : decode b_La_letters 1 = .ok (.iconst 0, 1) := by decide +kernel
theorem d_La_letters_2 : decode b_La_letters 2 = .ok (.aload_n 0, 1) := by decide +kernel
theorem d_La_letters_3 : decode b_La_letters 3 = .ok (.iload_n 1, 1) := by decide +kernel
theorem d_La_letters_4 : decode b_La_letters 4 = .ok (.invokevirtual 7, 3) := by decide +kernel
theorem d_La_letters_7 : decode b_La_letters 7 = .ok (.i2l, 1) := by decide +kernel
theorem d_La_letters_8 : decode b_La_letters 8 = .ok (.lastore, 1) := by decide +kernel
theorem d_La_letters_9 : decode b_La_letters 9 = .ok (.goto 9, 3) := by decide +kernel
theorem d_La_letters_12 : decode b_La_letters 12 = .ok (.astore_n 3, 1) := by decide +kernel
theorem d_La_letters_13 : decode b_La_letters 13 = .ok (.iconst 1, 1) := by decide +kernel
theorem d_La_letters_14 : decode b_La_letters 14 = .ok (.ireturn, 1) := by decide +kernel
theorem d_La_letters_15 : decode b_La_letters 15 = .ok (.astore_n 3, 1) := by decide +kernel
theorem d_La_letters_16 : decode b_La_letters 16 = .ok (.iconst 2, 1) := by decide +kernel
theorem d_La_letters_17 : decode b_La_letters 17 = .ok (.ireturn, 1) := by decide +kernel
theorem d_La_letters_18 : decode b_La_letters 18 = .ok (.iconst 0, 1) := by decide +kernel
theorem d_La_letters_19 : decode b_La_letters 19 = .ok (.ireturn, 1) := by decide +kernel
theorem pd_La_letters : y_La_letters.cls ≠ "java/lang/invoke/MethodHandle" ∧ y_La_letters.cls ≠ "java/lang/invoke/VarHandle" ∧ (parseMethodDescriptor y_La_letters.desc).map (fun d => d.parameters.length) = some 3 := by decide +kernel
abbrev b_La_empty : ByteArray := method_4_code
def y_La_empty : MethodName := ⟨"RegularSolverLaw", "empty", "(LRegularSolver;[J)I"⟩
abbrev w0_La_empty : List Cond := Cond.codeWith y_La_empty b_La_empty 3 (some .int) [(0, 8, 11, 15)] :: gW
theorem cd_La_empty : Cond.codeWith y_La_empty b_La_empty 3 (some .int) [(0, 8, 11, 15)] ∈ gW := gm 484 (by decide +kernel) (by decide +kernel)
theorem d_La_empty_0 : decode b_La_empty 0 = .ok (.aload_n 1, 1) := by decide +kernel
theorem d_La_empty_1 : decode b_La_empty 1 = .ok (.iconst 0, 1) := by decide +kernel
theorem d_La_empty_2 : decode b_La_empty 2 = .ok (.aload_n 0, 1) := by decide +kernel
theorem d_La_empty_3 : decode b_La_empty 3 = .ok (.invokevirtual 17, 3) := by decide +kernel
theorem d_La_empty_6 : decode b_La_empty 6 = .ok (.i2l, 1) := by decide +kernel
theorem d_La_empty_7 : decode b_La_empty 7 = .ok (.lastore, 1) := by decide +kernel
theorem d_La_empty_8 : decode b_La_empty 8 = .ok (.goto 6, 3) := by decide +kernel
theorem d_La_empty_11 : decode b_La_empty 11 = .ok (.astore_n 2, 1) := by decide +kernel
theorem d_La_empty_12 : decode b_La_empty 12 = .ok (.iconst 1, 1) := by decide +kernel
theorem d_La_empty_13 : decode b_La_empty 13 = .ok (.ireturn, 1) := by decide +kernel
theorem d_La_empty_14 : decode b_La_empty 14 = .ok (.iconst 0, 1) := by decide +kernel
theorem d_La_empty_15 : decode b_La_empty 15 = .ok (.ireturn, 1) := by decide +kernel
theorem pd_La_empty : y_La_empty.cls ≠ "java/lang/invoke/MethodHandle" ∧ y_La_empty.cls ≠ "java/lang/invoke/VarHandle" ∧ (parseMethodDescriptor y_La_empty.desc).map (fun d => d.parameters.length) = some 2 := by decide +kernel
abbrev b_La_then : ByteArray := method_5_code
def y_La_then : MethodName := ⟨"RegularSolverLaw", "then", "(LRegularSolver;II[J)I"⟩
abbrev w0_La_then : List Cond := Cond.codeWith y_La_then b_La_then 5 (some .int) [(0, 10, 13, 13), (0, 10, 17, 15), (0, 10, 21, 25)] :: gW
theorem cd_La_then : Cond.codeWith y_La_then b_La_then 5 (some .int) [(0, 10, 13, 13), (0, 10, 17, 15), (0, 10, 21, 25)] ∈ gW := gm 491 (by decide +kernel) (by decide +kernel)
theorem d_La_then_0 : decode b_La_then 0 = .ok (.aload_n 3, 1) := by decide +kernel
theorem d_La_then_1 : decode b_La_then 1 = .ok (.iconst 0, 1) := by decide +kernel
theorem d_La_then_2 : decode b_La_then 2 = .ok (.aload_n 0, 1) := by decide +kernel
theorem d_La_then_3 : decode b_La_then 3 = .ok (.iload_n 1, 1) := by decide +kernel
theorem d_La_then_4 : decode b_La_then 4 = .ok (.iload_n 2, 1) := by decide +kernel
theorem d_La_then_5 : decode b_La_then 5 = .ok (.invokevirtual 21, 3) := by decide +kernel
theorem d_La_then_8 : decode b_La_then 8 = .ok (.i2l, 1) := by decide +kernel
theorem d_La_then_9 : decode b_La_then 9 = .ok (.lastore, 1) := by decide +kernel
theorem d_La_then_10 : decode b_La_then 10 = .ok (.goto 15, 3) := by decide +kernel
theorem d_La_then_13 : decode b_La_then 13 = .ok (.astore 4, 2) := by decide +kernel
theorem d_La_then_15 : decode b_La_then 15 = .ok (.iconst 1, 1) := by decide +kernel
theorem d_La_then_16 : decode b_La_then 16 = .ok (.ireturn, 1) := by decide +kernel
theorem d_La_then_17 : decode b_La_then 17 = .ok (.astore 4, 2) := by decide +kernel
theorem d_La_then_19 : decode b_La_then 19 = .ok (.iconst 2, 1) := by decide +kernel
theorem d_La_then_20 : decode b_La_then 20 = .ok (.ireturn, 1) := by decide +kernel
theorem d_La_then_21 : decode b_La_then 21 = .ok (.astore 4, 2) := by decide +kernel
theorem d_La_then_23 : decode b_La_then 23 = .ok (.iconst 3, 1) := by decide +kernel
theorem d_La_then_24 : decode b_La_then 24 = .ok (.ireturn, 1) := by decide +kernel
theorem d_La_then_25 : decode b_La_then 25 = .ok (.iconst 0, 1) := by decide +kernel
theorem d_La_then_26 : decode b_La_then 26 = .ok (.ireturn, 1) := by decide +kernel
theorem pd_La_then : y_La_then.cls ≠ "java/lang/invoke/MethodHandle" ∧ y_La_then.cls ≠ "java/lang/invoke/VarHandle" ∧ (parseMethodDescriptor y_La_then.desc).map (fun d => d.parameters.length) = some 4 := by decide +kernel
abbrev b_La_or : ByteArray := method_6_code
def y_La_or : MethodName := ⟨"RegularSolverLaw", "or", "(LRegularSolver;II[J)I"⟩
abbrev w0_La_or : List Cond := Cond.codeWith y_La_or b_La_or 5 (some .int) [(0, 10, 13, 13), (0, 10, 17, 15), (0, 10, 21, 25)] :: gW
theorem cd_La_or : Cond.codeWith y_La_or b_La_or 5 (some .int) [(0, 10, 13, 13), (0, 10, 17, 15), (0, 10, 21, 25)] ∈ gW := gm 518 (by decide +kernel) (by decide +kernel)
theorem d_La_or_0 : decode b_La_or 0 = .ok (.aload_n 3, 1) := by decide +kernel
theorem d_La_or_1 : decode b_La_or 1 = .ok (.iconst 0, 1) := by decide +kernel
theorem d_La_or_2 : decode b_La_or 2 = .ok (.aload_n 0, 1) := by decide +kernel
theorem d_La_or_3 : decode b_La_or 3 = .ok (.iload_n 1, 1) := by decide +kernel
theorem d_La_or_4 : decode b_La_or 4 = .ok (.iload_n 2, 1) := by decide +kernel
theorem d_La_or_5 : decode b_La_or 5 = .ok (.invokevirtual 27, 3) := by decide +kernel
theorem d_La_or_8 : decode b_La_or 8 = .ok (.i2l, 1) := by decide +kernel
theorem d_La_or_9 : decode b_La_or 9 = .ok (.lastore, 1) := by decide +kernel
theorem d_La_or_10 : decode b_La_or 10 = .ok (.goto 15, 3) := by decide +kernel
theorem d_La_or_13 : decode b_La_or 13 = .ok (.astore 4, 2) := by decide +kernel
theorem d_La_or_15 : decode b_La_or 15 = .ok (.iconst 1, 1) := by decide +kernel
theorem d_La_or_16 : decode b_La_or 16 = .ok (.ireturn, 1) := by decide +kernel
theorem d_La_or_17 : decode b_La_or 17 = .ok (.astore 4, 2) := by decide +kernel
theorem d_La_or_19 : decode b_La_or 19 = .ok (.iconst 2, 1) := by decide +kernel
theorem d_La_or_20 : decode b_La_or 20 = .ok (.ireturn, 1) := by decide +kernel
theorem d_La_or_21 : decode b_La_or 21 = .ok (.astore 4, 2) := by decide +kernel
theorem d_La_or_23 : decode b_La_or 23 = .ok (.iconst 3, 1) := by decide +kernel
theorem d_La_or_24 : decode b_La_or 24 = .ok (.ireturn, 1) := by decide +kernel
theorem d_La_or_25 : decode b_La_or 25 = .ok (.iconst 0, 1) := by decide +kernel
theorem d_La_or_26 : decode b_La_or 26 = .ok (.ireturn, 1) := by decide +kernel
theorem pd_La_or : y_La_or.cls ≠ "java/lang/invoke/MethodHandle" ∧ y_La_or.cls ≠ "java/lang/invoke/VarHandle" ∧ (parseMethodDescriptor y_La_or.desc).map (fun d => d.parameters.length) = some 4 := by decide +kernel
abbrev b_La_and : ByteArray := method_7_code
def y_La_and : MethodName := ⟨"RegularSolverLaw", "and", "(LRegularSolver;II[J)I"⟩
abbrev w0_La_and : List Cond := Cond.codeWith y_La_and b_La_and 5 (some .int) [(0, 10, 13, 13), (0, 10, 17, 15), (0, 10, 21, 25)] :: gW
theorem cd_La_and : Cond.codeWith y_La_and b_La_and 5 (some .int) [(0, 10, 13, 13), (0, 10, 17, 15), (0, 10, 21, 25)] ∈ gW := gm 543 (by decide +kernel) (by decide +kernel)
theorem d_La_and_0 : decode b_La_and 0 = .ok (.aload_n 3, 1) := by decide +kernel
theorem d_La_and_1 : decode b_La_and 1 = .ok (.iconst 0, 1) := by decide +kernel
theorem d_La_and_2 : decode b_La_and 2 = .ok (.aload_n 0, 1) := by decide +kernel
theorem d_La_and_3 : decode b_La_and 3 = .ok (.iload_n 1, 1) := by decide +kernel
theorem d_La_and_4 : decode b_La_and 4 = .ok (.iload_n 2, 1) := by decide +kernel
theorem d_La_and_5 : decode b_La_and 5 = .ok (.invokevirtual 30, 3) := by decide +kernel
theorem d_La_and_8 : decode b_La_and 8 = .ok (.i2l, 1) := by decide +kernel
theorem d_La_and_9 : decode b_La_and 9 = .ok (.lastore, 1) := by decide +kernel
theorem d_La_and_10 : decode b_La_and 10 = .ok (.goto 15, 3) := by decide +kernel
theorem d_La_and_13 : decode b_La_and 13 = .ok (.astore 4, 2) := by decide +kernel
theorem d_La_and_15 : decode b_La_and 15 = .ok (.iconst 1, 1) := by decide +kernel
theorem d_La_and_16 : decode b_La_and 16 = .ok (.ireturn, 1) := by decide +kernel
theorem d_La_and_17 : decode b_La_and 17 = .ok (.astore 4, 2) := by decide +kernel
theorem d_La_and_19 : decode b_La_and 19 = .ok (.iconst 2, 1) := by decide +kernel
theorem d_La_and_20 : decode b_La_and 20 = .ok (.ireturn, 1) := by decide +kernel
theorem d_La_and_21 : decode b_La_and 21 = .ok (.astore 4, 2) := by decide +kernel
theorem d_La_and_23 : decode b_La_and 23 = .ok (.iconst 3, 1) := by decide +kernel
theorem d_La_and_24 : decode b_La_and 24 = .ok (.ireturn, 1) := by decide +kernel
theorem d_La_and_25 : decode b_La_and 25 = .ok (.iconst 0, 1) := by decide +kernel
theorem d_La_and_26 : decode b_La_and 26 = .ok (.ireturn, 1) := by decide +kernel
theorem pd_La_and : y_La_and.cls ≠ "java/lang/invoke/MethodHandle" ∧ y_La_and.cls ≠ "java/lang/invoke/VarHandle" ∧ (parseMethodDescriptor y_La_and.desc).map (fun d => d.parameters.length) = some 4 := by decide +kernel
abbrev b_La_not : ByteArray := method_8_code
def y_La_not : MethodName := ⟨"RegularSolverLaw", "not", "(LRegularSolver;I[J)I"⟩
abbrev w0_La_not : List Cond := Cond.codeWith y_La_not b_La_not 4 (some .int) [(0, 9, 12, 13), (0, 9, 15, 15)] :: gW
theorem cd_La_not : Cond.codeWith y_La_not b_La_not 4 (some .int) [(0, 9, 12, 13), (0, 9, 15, 15)] ∈ gW := gm 550 (by decide +kernel) (by decide +kernel)
theorem d_La_not_0 : decode b_La_not 0 = .ok (.aload_n 2, 1) := by decide +kernel
theorem d_La_not_1 : decode b_La_not 1 = .ok (.iconst 0, 1) := by decide +kernel
theorem d_La_not_2 : decode b_La_not 2 = .ok (.aload_n 0, 1) := by decide +kernel
theorem d_La_not_3 : decode b_La_not 3 = .ok (.iload_n 1, 1) := by decide +kernel
theorem d_La_not_4 : decode b_La_not 4 = .ok (.invokevirtual 33, 3) := by decide +kernel
theorem d_La_not_7 : decode b_La_not 7 = .ok (.i2l, 1) := by decide +kernel
theorem d_La_not_8 : decode b_La_not 8 = .ok (.lastore, 1) := by decide +kernel
theorem d_La_not_9 : decode b_La_not 9 = .ok (.goto 9, 3) := by decide +kernel
theorem d_La_not_12 : decode b_La_not 12 = .ok (.astore_n 3, 1) := by decide +kernel
theorem d_La_not_13 : decode b_La_not 13 = .ok (.iconst 1, 1) := by decide +kernel
theorem d_La_not_14 : decode b_La_not 14 = .ok (.ireturn, 1) := by decide +kernel
theorem d_La_not_15 : decode b_La_not 15 = .ok (.astore_n 3, 1) := by decide +kernel
theorem d_La_not_16 : decode b_La_not 16 = .ok (.iconst 2, 1) := by decide +kernel
theorem d_La_not_17 : decode b_La_not 17 = .ok (.ireturn, 1) := by decide +kernel
theorem d_La_not_18 : decode b_La_not 18 = .ok (.iconst 0, 1) := by decide +kernel
theorem d_La_not_19 : decode b_La_not 19 = .ok (.ireturn, 1) := by decide +kernel
theorem pd_La_not : y_La_not.cls ≠ "java/lang/invoke/MethodHandle" ∧ y_La_not.cls ≠ "java/lang/invoke/VarHandle" ∧ (parseMethodDescriptor y_La_not.desc).map (fun d => d.parameters.length) = some 3 := by decide +kernel
abbrev b_La_again : ByteArray := method_9_code
def y_La_again : MethodName := ⟨"RegularSolverLaw", "again", "(LRegularSolver;I[J)I"⟩
abbrev w0_La_again : List Cond := Cond.codeWith y_La_again b_La_again 4 (some .int) [(0, 9, 12, 13), (0, 9, 15, 15), (0, 9, 18, 25)] :: gW
theorem cd_La_again : Cond.codeWith y_La_again b_La_again 4 (some .int) [(0, 9, 12, 13), (0, 9, 15, 15), (0, 9, 18, 25)] ∈ gW := gm 564 (by decide +kernel) (by decide +kernel)
theorem d_La_again_0 : decode b_La_again 0 = .ok (.aload_n 2, 1) := by decide +kernel
theorem d_La_again_1 : decode b_La_again 1 = .ok (.iconst 0, 1) := by decide +kernel
theorem d_La_again_2 : decode b_La_again 2 = .ok (.aload_n 0, 1) := by decide +kernel
theorem d_La_again_3 : decode b_La_again 3 = .ok (.iload_n 1, 1) := by decide +kernel
theorem d_La_again_4 : decode b_La_again 4 = .ok (.invokevirtual 36, 3) := by decide +kernel
theorem d_La_again_7 : decode b_La_again 7 = .ok (.i2l, 1) := by decide +kernel
theorem d_La_again_8 : decode b_La_again 8 = .ok (.lastore, 1) := by decide +kernel
theorem d_La_again_9 : decode b_La_again 9 = .ok (.goto 12, 3) := by decide +kernel
theorem d_La_again_12 : decode b_La_again 12 = .ok (.astore_n 3, 1) := by decide +kernel
theorem d_La_again_13 : decode b_La_again 13 = .ok (.iconst 1, 1) := by decide +kernel
theorem d_La_again_14 : decode b_La_again 14 = .ok (.ireturn, 1) := by decide +kernel
theorem d_La_again_15 : decode b_La_again 15 = .ok (.astore_n 3, 1) := by decide +kernel
theorem d_La_again_16 : decode b_La_again 16 = .ok (.iconst 2, 1) := by decide +kernel
theorem d_La_again_17 : decode b_La_again 17 = .ok (.ireturn, 1) := by decide +kernel
theorem d_La_again_18 : decode b_La_again 18 = .ok (.astore_n 3, 1) := by decide +kernel
theorem d_La_again_19 : decode b_La_again 19 = .ok (.iconst 3, 1) := by decide +kernel
theorem d_La_again_20 : decode b_La_again 20 = .ok (.ireturn, 1) := by decide +kernel
theorem d_La_again_21 : decode b_La_again 21 = .ok (.iconst 0, 1) := by decide +kernel
theorem d_La_again_22 : decode b_La_again 22 = .ok (.ireturn, 1) := by decide +kernel
theorem pd_La_again : y_La_again.cls ≠ "java/lang/invoke/MethodHandle" ∧ y_La_again.cls ≠ "java/lang/invoke/VarHandle" ∧ (parseMethodDescriptor y_La_again.desc).map (fun d => d.parameters.length) = some 3 := by decide +kernel
abbrev b_La_automaton : ByteArray := method_10_code
def y_La_automaton : MethodName := ⟨"RegularSolverLaw", "automaton", "(LRegularSolver;III[J)I"⟩
abbrev w0_La_automaton : List Cond := Cond.codeWith y_La_automaton b_La_automaton 6 (some .int) [(0, 12, 15, 13), (0, 12, 19, 15)] :: gW
theorem cd_La_automaton : Cond.codeWith y_La_automaton b_La_automaton 6 (some .int) [(0, 12, 15, 13), (0, 12, 19, 15)] ∈ gW := gm 583 (by decide +kernel) (by decide +kernel)
theorem d_La_automaton_0 : decode b_La_automaton 0 = .ok (.aload 4, 2) := by decide +kernel
theorem d_La_automaton_2 : decode b_La_automaton 2 = .ok (.iconst 0, 1) := by decide +kernel
theorem d_La_automaton_3 : decode b_La_automaton 3 = .ok (.aload_n 0, 1) := by decide +kernel
theorem d_La_automaton_4 : decode b_La_automaton 4 = .ok (.iload_n 1, 1) := by decide +kernel
theorem d_La_automaton_5 : decode b_La_automaton 5 = .ok (.iload_n 2, 1) := by decide +kernel
theorem d_La_automaton_6 : decode b_La_automaton 6 = .ok (.iload_n 3, 1) := by decide +kernel
theorem d_La_automaton_7 : decode b_La_automaton 7 = .ok (.invokevirtual 39, 3) := by decide +kernel
theorem d_La_automaton_10 : decode b_La_automaton 10 = .ok (.i2l, 1) := by decide +kernel
theorem d_La_automaton_11 : decode b_La_automaton 11 = .ok (.lastore, 1) := by decide +kernel
theorem d_La_automaton_12 : decode b_La_automaton 12 = .ok (.goto 11, 3) := by decide +kernel
theorem d_La_automaton_15 : decode b_La_automaton 15 = .ok (.astore 5, 2) := by decide +kernel
theorem d_La_automaton_17 : decode b_La_automaton 17 = .ok (.iconst 1, 1) := by decide +kernel
theorem d_La_automaton_18 : decode b_La_automaton 18 = .ok (.ireturn, 1) := by decide +kernel
theorem d_La_automaton_19 : decode b_La_automaton 19 = .ok (.astore 5, 2) := by decide +kernel
theorem d_La_automaton_21 : decode b_La_automaton 21 = .ok (.iconst 2, 1) := by decide +kernel
theorem d_La_automaton_22 : decode b_La_automaton 22 = .ok (.ireturn, 1) := by decide +kernel
theorem d_La_automaton_23 : decode b_La_automaton 23 = .ok (.iconst 0, 1) := by decide +kernel
theorem d_La_automaton_24 : decode b_La_automaton 24 = .ok (.ireturn, 1) := by decide +kernel
theorem pd_La_automaton : y_La_automaton.cls ≠ "java/lang/invoke/MethodHandle" ∧ y_La_automaton.cls ≠ "java/lang/invoke/VarHandle" ∧ (parseMethodDescriptor y_La_automaton.desc).map (fun d => d.parameters.length) = some 5 := by decide +kernel
abbrev b_La_has : ByteArray := method_11_code
def y_La_has : MethodName := ⟨"RegularSolverLaw", "has", "(LRegularSolver;IIJ[J)I"⟩
abbrev w0_La_has : List Cond := Cond.codeWith y_La_has b_La_has 7 (some .int) [(0, 19, 22, 13)] :: gW
theorem cd_La_has : Cond.codeWith y_La_has b_La_has 7 (some .int) [(0, 19, 22, 13)] ∈ gW := gm 602 (by decide +kernel) (by decide +kernel)
theorem d_La_has_0 : decode b_La_has 0 = .ok (.aload 5, 2) := by decide +kernel
theorem d_La_has_2 : decode b_La_has 2 = .ok (.iconst 0, 1) := by decide +kernel
theorem d_La_has_3 : decode b_La_has 3 = .ok (.aload_n 0, 1) := by decide +kernel
theorem d_La_has_4 : decode b_La_has 4 = .ok (.iload_n 1, 1) := by decide +kernel
theorem d_La_has_5 : decode b_La_has 5 = .ok (.iload_n 2, 1) := by decide +kernel
theorem d_La_has_6 : decode b_La_has 6 = .ok (.lload_n 3, 1) := by decide +kernel
theorem d_La_has_7 : decode b_La_has 7 = .ok (.invokevirtual 43, 3) := by decide +kernel
theorem d_La_has_10 : decode b_La_has 10 = .ok (.ifCond .eq 7, 3) := by decide +kernel
theorem d_La_has_13 : decode b_La_has 13 = .ok (.lconst 1, 1) := by decide +kernel
theorem d_La_has_14 : decode b_La_has 14 = .ok (.goto 4, 3) := by decide +kernel
theorem d_La_has_17 : decode b_La_has 17 = .ok (.lconst 0, 1) := by decide +kernel
theorem d_La_has_18 : decode b_La_has 18 = .ok (.lastore, 1) := by decide +kernel
theorem d_La_has_19 : decode b_La_has 19 = .ok (.goto 7, 3) := by decide +kernel
theorem d_La_has_22 : decode b_La_has 22 = .ok (.astore 6, 2) := by decide +kernel
theorem d_La_has_24 : decode b_La_has 24 = .ok (.iconst 1, 1) := by decide +kernel
theorem d_La_has_25 : decode b_La_has 25 = .ok (.ireturn, 1) := by decide +kernel
theorem d_La_has_26 : decode b_La_has 26 = .ok (.iconst 0, 1) := by decide +kernel
theorem d_La_has_27 : decode b_La_has 27 = .ok (.ireturn, 1) := by decide +kernel
theorem pd_La_has : y_La_has.cls ≠ "java/lang/invoke/MethodHandle" ∧ y_La_has.cls ≠ "java/lang/invoke/VarHandle" ∧ (parseMethodDescriptor y_La_has.desc).map (fun d => d.parameters.length) = some 5 := by decide +kernel
abbrev b_La_words : ByteArray := method_12_code
def y_La_words : MethodName := ⟨"RegularSolverLaw", "words", "(LRegularSolver;II[J)I"⟩
abbrev w0_La_words : List Cond := Cond.codeWith y_La_words b_La_words 5 (some .int) [(0, 9, 12, 13)] :: gW
theorem cd_La_words : Cond.codeWith y_La_words b_La_words 5 (some .int) [(0, 9, 12, 13)] ∈ gW := gm 619 (by decide +kernel) (by decide +kernel)
theorem d_La_words_0 : decode b_La_words 0 = .ok (.aload_n 3, 1) := by decide +kernel
theorem d_La_words_1 : decode b_La_words 1 = .ok (.iconst 0, 1) := by decide +kernel
theorem d_La_words_2 : decode b_La_words 2 = .ok (.aload_n 0, 1) := by decide +kernel
theorem d_La_words_3 : decode b_La_words 3 = .ok (.iload_n 1, 1) := by decide +kernel
theorem d_La_words_4 : decode b_La_words 4 = .ok (.iload_n 2, 1) := by decide +kernel
theorem d_La_words_5 : decode b_La_words 5 = .ok (.invokevirtual 47, 3) := by decide +kernel
theorem d_La_words_8 : decode b_La_words 8 = .ok (.lastore, 1) := by decide +kernel
theorem d_La_words_9 : decode b_La_words 9 = .ok (.goto 7, 3) := by decide +kernel
theorem d_La_words_12 : decode b_La_words 12 = .ok (.astore 4, 2) := by decide +kernel
theorem d_La_words_14 : decode b_La_words 14 = .ok (.iconst 1, 1) := by decide +kernel
theorem d_La_words_15 : decode b_La_words 15 = .ok (.ireturn, 1) := by decide +kernel
theorem d_La_words_16 : decode b_La_words 16 = .ok (.iconst 0, 1) := by decide +kernel
theorem d_La_words_17 : decode b_La_words 17 = .ok (.ireturn, 1) := by decide +kernel
theorem pd_La_words : y_La_words.cls ≠ "java/lang/invoke/MethodHandle" ∧ y_La_words.cls ≠ "java/lang/invoke/VarHandle" ∧ (parseMethodDescriptor y_La_words.desc).map (fun d => d.parameters.length) = some 4 := by decide +kernel
abbrev b_La_first : ByteArray := method_13_code
def y_La_first : MethodName := ⟨"RegularSolverLaw", "first", "(LRegularSolver;II[J)I"⟩
abbrev w0_La_first : List Cond := Cond.codeWith y_La_first b_La_first 5 (some .int) [(0, 9, 12, 13), (0, 9, 16, 25)] :: gW
theorem cd_La_first : Cond.codeWith y_La_first b_La_first 5 (some .int) [(0, 9, 12, 13), (0, 9, 16, 25)] ∈ gW := gm 635 (by decide +kernel) (by decide +kernel)
theorem d_La_first_0 : decode b_La_first 0 = .ok (.aload_n 3, 1) := by decide +kernel
theorem d_La_first_1 : decode b_La_first 1 = .ok (.iconst 0, 1) := by decide +kernel
theorem d_La_first_2 : decode b_La_first 2 = .ok (.aload_n 0, 1) := by decide +kernel
theorem d_La_first_3 : decode b_La_first 3 = .ok (.iload_n 1, 1) := by decide +kernel
theorem d_La_first_4 : decode b_La_first 4 = .ok (.iload_n 2, 1) := by decide +kernel
theorem d_La_first_5 : decode b_La_first 5 = .ok (.invokevirtual 51, 3) := by decide +kernel
theorem d_La_first_8 : decode b_La_first 8 = .ok (.lastore, 1) := by decide +kernel
theorem d_La_first_9 : decode b_La_first 9 = .ok (.goto 11, 3) := by decide +kernel
theorem d_La_first_12 : decode b_La_first 12 = .ok (.astore 4, 2) := by decide +kernel
theorem d_La_first_14 : decode b_La_first 14 = .ok (.iconst 1, 1) := by decide +kernel
theorem d_La_first_15 : decode b_La_first 15 = .ok (.ireturn, 1) := by decide +kernel
theorem d_La_first_16 : decode b_La_first 16 = .ok (.astore 4, 2) := by decide +kernel
theorem d_La_first_18 : decode b_La_first 18 = .ok (.iconst 2, 1) := by decide +kernel
theorem d_La_first_19 : decode b_La_first 19 = .ok (.ireturn, 1) := by decide +kernel
theorem d_La_first_20 : decode b_La_first 20 = .ok (.iconst 0, 1) := by decide +kernel
theorem d_La_first_21 : decode b_La_first 21 = .ok (.ireturn, 1) := by decide +kernel
theorem pd_La_first : y_La_first.cls ≠ "java/lang/invoke/MethodHandle" ∧ y_La_first.cls ≠ "java/lang/invoke/VarHandle" ∧ (parseMethodDescriptor y_La_first.desc).map (fun d => d.parameters.length) = some 4 := by decide +kernel
abbrev b_La_shortest : ByteArray := method_14_code
def y_La_shortest : MethodName := ⟨"RegularSolverLaw", "shortest", "(LRegularSolver;I[J)I"⟩
abbrev w0_La_shortest : List Cond := Cond.codeWith y_La_shortest b_La_shortest 4 (some .int) [(0, 9, 12, 13)] :: gW
theorem cd_La_shortest : Cond.codeWith y_La_shortest b_La_shortest 4 (some .int) [(0, 9, 12, 13)] ∈ gW := gm 655 (by decide +kernel) (by decide +kernel)
theorem d_La_shortest_0 : decode b_La_shortest 0 = .ok (.aload_n 2, 1) := by decide +kernel
theorem d_La_shortest_1 : decode b_La_shortest 1 = .ok (.iconst 0, 1) := by decide +kernel
theorem d_La_shortest_2 : decode b_La_shortest 2 = .ok (.aload_n 0, 1) := by decide +kernel
theorem d_La_shortest_3 : decode b_La_shortest 3 = .ok (.iload_n 1, 1) := by decide +kernel
theorem d_La_shortest_4 : decode b_La_shortest 4 = .ok (.invokevirtual 54, 3) := by decide +kernel
theorem d_La_shortest_7 : decode b_La_shortest 7 = .ok (.i2l, 1) := by decide +kernel
theorem d_La_shortest_8 : decode b_La_shortest 8 = .ok (.lastore, 1) := by decide +kernel
theorem d_La_shortest_9 : decode b_La_shortest 9 = .ok (.goto 6, 3) := by decide +kernel
theorem d_La_shortest_12 : decode b_La_shortest 12 = .ok (.astore_n 3, 1) := by decide +kernel
theorem d_La_shortest_13 : decode b_La_shortest 13 = .ok (.iconst 1, 1) := by decide +kernel
theorem d_La_shortest_14 : decode b_La_shortest 14 = .ok (.ireturn, 1) := by decide +kernel
theorem d_La_shortest_15 : decode b_La_shortest 15 = .ok (.iconst 0, 1) := by decide +kernel
theorem d_La_shortest_16 : decode b_La_shortest 16 = .ok (.ireturn, 1) := by decide +kernel
theorem pd_La_shortest : y_La_shortest.cls ≠ "java/lang/invoke/MethodHandle" ∧ y_La_shortest.cls ≠ "java/lang/invoke/VarHandle" ∧ (parseMethodDescriptor y_La_shortest.desc).map (fun d => d.parameters.length) = some 3 := by decide +kernel
abbrev b_La_within : ByteArray := method_15_code
def y_La_within : MethodName := ⟨"RegularSolverLaw", "within", "(LRegularSolver;II[J)I"⟩
abbrev w0_La_within : List Cond := Cond.codeWith y_La_within b_La_within 5 (some .int) [(0, 17, 20, 13)] :: gW
theorem cd_La_within : Cond.codeWith y_La_within b_La_within 5 (some .int) [(0, 17, 20, 13)] ∈ gW := gm 667 (by decide +kernel) (by decide +kernel)
theorem d_La_within_0 : decode b_La_within 0 = .ok (.aload_n 3, 1) := by decide +kernel
theorem d_La_within_1 : decode b_La_within 1 = .ok (.iconst 0, 1) := by decide +kernel
theorem d_La_within_2 : decode b_La_within 2 = .ok (.aload_n 0, 1) := by decide +kernel
theorem d_La_within_3 : decode b_La_within 3 = .ok (.iload_n 1, 1) := by decide +kernel
theorem d_La_within_4 : decode b_La_within 4 = .ok (.iload_n 2, 1) := by decide +kernel
theorem d_La_within_5 : decode b_La_within 5 = .ok (.invokevirtual 57, 3) := by decide +kernel
theorem d_La_within_8 : decode b_La_within 8 = .ok (.ifCond .eq 7, 3) := by decide +kernel
theorem d_La_within_11 : decode b_La_within 11 = .ok (.lconst 1, 1) := by decide +kernel
theorem d_La_within_12 : decode b_La_within 12 = .ok (.goto 4, 3) := by decide +kernel
theorem d_La_within_15 : decode b_La_within 15 = .ok (.lconst 0, 1) := by decide +kernel
theorem d_La_within_16 : decode b_La_within 16 = .ok (.lastore, 1) := by decide +kernel
theorem d_La_within_17 : decode b_La_within 17 = .ok (.goto 7, 3) := by decide +kernel
theorem d_La_within_20 : decode b_La_within 20 = .ok (.astore 4, 2) := by decide +kernel
theorem d_La_within_22 : decode b_La_within 22 = .ok (.iconst 1, 1) := by decide +kernel
theorem d_La_within_23 : decode b_La_within 23 = .ok (.ireturn, 1) := by decide +kernel
theorem d_La_within_24 : decode b_La_within 24 = .ok (.iconst 0, 1) := by decide +kernel
theorem d_La_within_25 : decode b_La_within 25 = .ok (.ireturn, 1) := by decide +kernel
theorem pd_La_within : y_La_within.cls ≠ "java/lang/invoke/MethodHandle" ∧ y_La_within.cls ≠ "java/lang/invoke/VarHandle" ∧ (parseMethodDescriptor y_La_within.desc).map (fun d => d.parameters.length) = some 4 := by decide +kernel
abbrev b_La_variable : ByteArray := method_16_code
def y_La_variable : MethodName := ⟨"RegularSolverLaw", "variable", "(LRegularSolver;II)I"⟩
abbrev w0_La_variable : List Cond := Cond.codeWith y_La_variable b_La_variable 4 (some .int) [(0, 6, 9, 13)] :: gW
theorem cd_La_variable : Cond.codeWith y_La_variable b_La_variable 4 (some .int) [(0, 6, 9, 13)] ∈ gW := gm 693 (by decide +kernel) (by decide +kernel)
theorem d_La_variable_0 : decode b_La_variable 0 = .ok (.aload_n 0, 1) := by decide +kernel
theorem d_La_variable_1 : decode b_La_variable 1 = .ok (.iload_n 1, 1) := by decide +kernel
theorem d_La_variable_2 : decode b_La_variable 2 = .ok (.iload_n 2, 1) := by decide +kernel
theorem d_La_variable_3 : decode b_La_variable 3 = .ok (.invokevirtual 61, 3) := by decide +kernel
theorem d_La_variable_6 : decode b_La_variable 6 = .ok (.goto 6, 3) := by decide +kernel
theorem d_La_variable_9 : decode b_La_variable 9 = .ok (.astore_n 3, 1) := by decide +kernel
theorem d_La_variable_10 : decode b_La_variable 10 = .ok (.iconst 1, 1) := by decide +kernel
theorem d_La_variable_11 : decode b_La_variable 11 = .ok (.ireturn, 1) := by decide +kernel
theorem d_La_variable_12 : decode b_La_variable 12 = .ok (.iconst 0, 1) := by decide +kernel
theorem d_La_variable_13 : decode b_La_variable 13 = .ok (.ireturn, 1) := by decide +kernel
theorem pd_La_variable : y_La_variable.cls ≠ "java/lang/invoke/MethodHandle" ∧ y_La_variable.cls ≠ "java/lang/invoke/VarHandle" ∧ (parseMethodDescriptor y_La_variable.desc).map (fun d => d.parameters.length) = some 3 := by decide +kernel
abbrev b_La_bound : ByteArray := method_17_code
def y_La_bound : MethodName := ⟨"RegularSolverLaw", "bound", "(LRegularSolver;IIIIII[J)I"⟩
abbrev w0_La_bound : List Cond := Cond.codeWith y_La_bound b_La_bound 9 (some .int) [(0, 18, 21, 13), (0, 18, 25, 15)] :: gW
theorem cd_La_bound : Cond.codeWith y_La_bound b_La_bound 9 (some .int) [(0, 18, 21, 13), (0, 18, 25, 15)] ∈ gW := gm 704 (by decide +kernel) (by decide +kernel)
theorem d_La_bound_0 : decode b_La_bound 0 = .ok (.aload 7, 2) := by decide +kernel
theorem d_La_bound_2 : decode b_La_bound 2 = .ok (.iconst 0, 1) := by decide +kernel
theorem d_La_bound_3 : decode b_La_bound 3 = .ok (.aload_n 0, 1) := by decide +kernel
theorem d_La_bound_4 : decode b_La_bound 4 = .ok (.iload_n 1, 1) := by decide +kernel
theorem d_La_bound_5 : decode b_La_bound 5 = .ok (.iload_n 2, 1) := by decide +kernel
theorem d_La_bound_6 : decode b_La_bound 6 = .ok (.iload_n 3, 1) := by decide +kernel
theorem d_La_bound_7 : decode b_La_bound 7 = .ok (.iload 4, 2) := by decide +kernel
theorem d_La_bound_9 : decode b_La_bound 9 = .ok (.iload 5, 2) := by decide +kernel
theorem d_La_bound_11 : decode b_La_bound 11 = .ok (.iload 6, 2) := by decide +kernel
theorem d_La_bound_13 : decode b_La_bound 13 = .ok (.invokevirtual 65, 3) := by decide +kernel
theorem d_La_bound_16 : decode b_La_bound 16 = .ok (.i2l, 1) := by decide +kernel
theorem d_La_bound_17 : decode b_La_bound 17 = .ok (.lastore, 1) := by decide +kernel
theorem d_La_bound_18 : decode b_La_bound 18 = .ok (.goto 11, 3) := by decide +kernel
theorem d_La_bound_21 : decode b_La_bound 21 = .ok (.astore 8, 2) := by decide +kernel
theorem d_La_bound_23 : decode b_La_bound 23 = .ok (.iconst 1, 1) := by decide +kernel
theorem d_La_bound_24 : decode b_La_bound 24 = .ok (.ireturn, 1) := by decide +kernel
theorem d_La_bound_25 : decode b_La_bound 25 = .ok (.astore 8, 2) := by decide +kernel
theorem d_La_bound_27 : decode b_La_bound 27 = .ok (.iconst 2, 1) := by decide +kernel
theorem d_La_bound_28 : decode b_La_bound 28 = .ok (.ireturn, 1) := by decide +kernel
theorem d_La_bound_29 : decode b_La_bound 29 = .ok (.iconst 0, 1) := by decide +kernel
theorem d_La_bound_30 : decode b_La_bound 30 = .ok (.ireturn, 1) := by decide +kernel
theorem pd_La_bound : y_La_bound.cls ≠ "java/lang/invoke/MethodHandle" ∧ y_La_bound.cls ≠ "java/lang/invoke/VarHandle" ∧ (parseMethodDescriptor y_La_bound.desc).map (fun d => d.parameters.length) = some 8 := by decide +kernel
abbrev b_La_solve : ByteArray := method_18_code
def y_La_solve : MethodName := ⟨"RegularSolverLaw", "solve", "(LRegularSolver;I[J)I"⟩
abbrev w0_La_solve : List Cond := Cond.codeWith y_La_solve b_La_solve 4 (some .int) [(0, 16, 19, 13)] :: gW
theorem cd_La_solve : Cond.codeWith y_La_solve b_La_solve 4 (some .int) [(0, 16, 19, 13)] ∈ gW := gm 723 (by decide +kernel) (by decide +kernel)
theorem d_La_solve_0 : decode b_La_solve 0 = .ok (.aload_n 2, 1) := by decide +kernel
theorem d_La_solve_1 : decode b_La_solve 1 = .ok (.iconst 0, 1) := by decide +kernel
theorem d_La_solve_2 : decode b_La_solve 2 = .ok (.aload_n 0, 1) := by decide +kernel
theorem d_La_solve_3 : decode b_La_solve 3 = .ok (.iload_n 1, 1) := by decide +kernel
theorem d_La_solve_4 : decode b_La_solve 4 = .ok (.invokevirtual 69, 3) := by decide +kernel
theorem d_La_solve_7 : decode b_La_solve 7 = .ok (.ifCond .eq 7, 3) := by decide +kernel
theorem d_La_solve_10 : decode b_La_solve 10 = .ok (.lconst 1, 1) := by decide +kernel
theorem d_La_solve_11 : decode b_La_solve 11 = .ok (.goto 4, 3) := by decide +kernel
theorem d_La_solve_14 : decode b_La_solve 14 = .ok (.lconst 0, 1) := by decide +kernel
theorem d_La_solve_15 : decode b_La_solve 15 = .ok (.lastore, 1) := by decide +kernel
theorem d_La_solve_16 : decode b_La_solve 16 = .ok (.goto 6, 3) := by decide +kernel
theorem d_La_solve_19 : decode b_La_solve 19 = .ok (.astore_n 3, 1) := by decide +kernel
theorem d_La_solve_20 : decode b_La_solve 20 = .ok (.iconst 1, 1) := by decide +kernel
theorem d_La_solve_21 : decode b_La_solve 21 = .ok (.ireturn, 1) := by decide +kernel
theorem d_La_solve_22 : decode b_La_solve 22 = .ok (.iconst 0, 1) := by decide +kernel
theorem d_La_solve_23 : decode b_La_solve 23 = .ok (.ireturn, 1) := by decide +kernel
theorem pd_La_solve : y_La_solve.cls ≠ "java/lang/invoke/MethodHandle" ∧ y_La_solve.cls ≠ "java/lang/invoke/VarHandle" ∧ (parseMethodDescriptor y_La_solve.desc).map (fun d => d.parameters.length) = some 3 := by decide +kernel
abbrev b_La_length : ByteArray := method_19_code
def y_La_length : MethodName := ⟨"RegularSolverLaw", "length", "(LRegularSolver;I[J)I"⟩
abbrev w0_La_length : List Cond := Cond.codeWith y_La_length b_La_length 4 (some .int) [(0, 9, 12, 13), (0, 9, 15, 76)] :: gW
theorem cd_La_length : Cond.codeWith y_La_length b_La_length 4 (some .int) [(0, 9, 12, 13), (0, 9, 15, 76)] ∈ gW := gm 801 (by decide +kernel) (by decide +kernel)
theorem d_La_length_0 : decode b_La_length 0 = .ok (.aload_n 2, 1) := by decide +kernel
theorem d_La_length_1 : decode b_La_length 1 = .ok (.iconst 0, 1) := by decide +kernel
theorem d_La_length_2 : decode b_La_length 2 = .ok (.aload_n 0, 1) := by decide +kernel
theorem d_La_length_3 : decode b_La_length 3 = .ok (.iload_n 1, 1) := by decide +kernel
theorem d_La_length_4 : decode b_La_length 4 = .ok (.invokevirtual 73, 3) := by decide +kernel
theorem d_La_length_7 : decode b_La_length 7 = .ok (.i2l, 1) := by decide +kernel
theorem d_La_length_8 : decode b_La_length 8 = .ok (.lastore, 1) := by decide +kernel
theorem d_La_length_9 : decode b_La_length 9 = .ok (.goto 9, 3) := by decide +kernel
theorem d_La_length_12 : decode b_La_length 12 = .ok (.astore_n 3, 1) := by decide +kernel
theorem d_La_length_13 : decode b_La_length 13 = .ok (.iconst 1, 1) := by decide +kernel
theorem d_La_length_14 : decode b_La_length 14 = .ok (.ireturn, 1) := by decide +kernel
theorem d_La_length_15 : decode b_La_length 15 = .ok (.astore_n 3, 1) := by decide +kernel
theorem d_La_length_16 : decode b_La_length 16 = .ok (.iconst 2, 1) := by decide +kernel
theorem d_La_length_17 : decode b_La_length 17 = .ok (.ireturn, 1) := by decide +kernel
theorem d_La_length_18 : decode b_La_length 18 = .ok (.iconst 0, 1) := by decide +kernel
theorem d_La_length_19 : decode b_La_length 19 = .ok (.ireturn, 1) := by decide +kernel
theorem pd_La_length : y_La_length.cls ≠ "java/lang/invoke/MethodHandle" ∧ y_La_length.cls ≠ "java/lang/invoke/VarHandle" ∧ (parseMethodDescriptor y_La_length.desc).map (fun d => d.parameters.length) = some 3 := by decide +kernel
abbrev b_La_word : ByteArray := method_20_code
def y_La_word : MethodName := ⟨"RegularSolverLaw", "word", "(LRegularSolver;I[J)I"⟩
abbrev w0_La_word : List Cond := Cond.codeWith y_La_word b_La_word 4 (some .int) [(0, 8, 11, 13), (0, 8, 14, 76)] :: gW
theorem cd_La_word : Cond.codeWith y_La_word b_La_word 4 (some .int) [(0, 8, 11, 13), (0, 8, 14, 76)] ∈ gW := gm 829 (by decide +kernel) (by decide +kernel)
theorem d_La_word_0 : decode b_La_word 0 = .ok (.aload_n 2, 1) := by decide +kernel
theorem d_La_word_1 : decode b_La_word 1 = .ok (.iconst 0, 1) := by decide +kernel
theorem d_La_word_2 : decode b_La_word 2 = .ok (.aload_n 0, 1) := by decide +kernel
theorem d_La_word_3 : decode b_La_word 3 = .ok (.iload_n 1, 1) := by decide +kernel
theorem d_La_word_4 : decode b_La_word 4 = .ok (.invokevirtual 78, 3) := by decide +kernel
theorem d_La_word_7 : decode b_La_word 7 = .ok (.lastore, 1) := by decide +kernel
theorem d_La_word_8 : decode b_La_word 8 = .ok (.goto 9, 3) := by decide +kernel
theorem d_La_word_11 : decode b_La_word 11 = .ok (.astore_n 3, 1) := by decide +kernel
theorem d_La_word_12 : decode b_La_word 12 = .ok (.iconst 1, 1) := by decide +kernel
theorem d_La_word_13 : decode b_La_word 13 = .ok (.ireturn, 1) := by decide +kernel
theorem d_La_word_14 : decode b_La_word 14 = .ok (.astore_n 3, 1) := by decide +kernel
theorem d_La_word_15 : decode b_La_word 15 = .ok (.iconst 2, 1) := by decide +kernel
theorem d_La_word_16 : decode b_La_word 16 = .ok (.ireturn, 1) := by decide +kernel
theorem d_La_word_17 : decode b_La_word 17 = .ok (.iconst 0, 1) := by decide +kernel
theorem d_La_word_18 : decode b_La_word 18 = .ok (.ireturn, 1) := by decide +kernel
theorem pd_La_word : y_La_word.cls ≠ "java/lang/invoke/MethodHandle" ∧ y_La_word.cls ≠ "java/lang/invoke/VarHandle" ∧ (parseMethodDescriptor y_La_word.desc).map (fun d => d.parameters.length) = some 3 := by decide +kernel
theorem ml_La_7 : (Cond.methodLink "RegularSolverLaw" 7 ({ cls := "RegularSolver", name := "letters", desc := "(I)I" } : MethodName)) ∈ gW := gm 182 (by decide +kernel) (by decide +kernel)
theorem im_RS_letters : (Cond.instanceMethod ({ cls := "RegularSolver", name := "letters", desc := "(I)I" } : MethodName)) ∈ gW := gm 183 (by decide +kernel) (by decide +kernel)
theorem se_RS_letters : (Cond.selects "RegularSolver" ({ cls := "RegularSolver", name := "letters", desc := "(I)I" } : MethodName) ({ cls := "RegularSolver", name := "letters", desc := "(I)I" } : MethodName)) ∈ gW := gm 184 (by decide +kernel) (by decide +kernel)
theorem cl_La_13 : (Cond.classLink "RegularSolverLaw" 13 "java/lang/IllegalArgumentException") ∈ gW := gm 180 (by decide +kernel) (by decide +kernel)
theorem cl_La_15 : (Cond.classLink "RegularSolverLaw" 15 "java/lang/IndexOutOfBoundsException") ∈ gW := gm 181 (by decide +kernel) (by decide +kernel)
theorem ml_La_17 : (Cond.methodLink "RegularSolverLaw" 17 ({ cls := "RegularSolver", name := "empty", desc := "()I" } : MethodName)) ∈ gW := gm 485 (by decide +kernel) (by decide +kernel)
theorem im_RS_empty : (Cond.instanceMethod ({ cls := "RegularSolver", name := "empty", desc := "()I" } : MethodName)) ∈ gW := gm 486 (by decide +kernel) (by decide +kernel)
theorem se_RS_empty : (Cond.selects "RegularSolver" ({ cls := "RegularSolver", name := "empty", desc := "()I" } : MethodName) ({ cls := "RegularSolver", name := "empty", desc := "()I" } : MethodName)) ∈ gW := gm 487 (by decide +kernel) (by decide +kernel)
theorem ml_La_21 : (Cond.methodLink "RegularSolverLaw" 21 ({ cls := "RegularSolver", name := "then", desc := "(II)I" } : MethodName)) ∈ gW := gm 493 (by decide +kernel) (by decide +kernel)
theorem im_RS_then : (Cond.instanceMethod ({ cls := "RegularSolver", name := "then", desc := "(II)I" } : MethodName)) ∈ gW := gm 494 (by decide +kernel) (by decide +kernel)
theorem se_RS_then : (Cond.selects "RegularSolver" ({ cls := "RegularSolver", name := "then", desc := "(II)I" } : MethodName) ({ cls := "RegularSolver", name := "then", desc := "(II)I" } : MethodName)) ∈ gW := gm 495 (by decide +kernel) (by decide +kernel)
theorem cl_La_25 : (Cond.classLink "RegularSolverLaw" 25 "java/lang/UnsupportedOperationException") ∈ gW := gm 492 (by decide +kernel) (by decide +kernel)
theorem ml_La_27 : (Cond.methodLink "RegularSolverLaw" 27 ({ cls := "RegularSolver", name := "or", desc := "(II)I" } : MethodName)) ∈ gW := gm 519 (by decide +kernel) (by decide +kernel)
theorem im_RS_or : (Cond.instanceMethod ({ cls := "RegularSolver", name := "or", desc := "(II)I" } : MethodName)) ∈ gW := gm 520 (by decide +kernel) (by decide +kernel)
theorem se_RS_or : (Cond.selects "RegularSolver" ({ cls := "RegularSolver", name := "or", desc := "(II)I" } : MethodName) ({ cls := "RegularSolver", name := "or", desc := "(II)I" } : MethodName)) ∈ gW := gm 521 (by decide +kernel) (by decide +kernel)
theorem ml_La_30 : (Cond.methodLink "RegularSolverLaw" 30 ({ cls := "RegularSolver", name := "and", desc := "(II)I" } : MethodName)) ∈ gW := gm 544 (by decide +kernel) (by decide +kernel)
theorem im_RS_and : (Cond.instanceMethod ({ cls := "RegularSolver", name := "and", desc := "(II)I" } : MethodName)) ∈ gW := gm 545 (by decide +kernel) (by decide +kernel)
theorem se_RS_and : (Cond.selects "RegularSolver" ({ cls := "RegularSolver", name := "and", desc := "(II)I" } : MethodName) ({ cls := "RegularSolver", name := "and", desc := "(II)I" } : MethodName)) ∈ gW := gm 546 (by decide +kernel) (by decide +kernel)
theorem ml_La_33 : (Cond.methodLink "RegularSolverLaw" 33 ({ cls := "RegularSolver", name := "not", desc := "(I)I" } : MethodName)) ∈ gW := gm 551 (by decide +kernel) (by decide +kernel)
theorem im_RS_not : (Cond.instanceMethod ({ cls := "RegularSolver", name := "not", desc := "(I)I" } : MethodName)) ∈ gW := gm 552 (by decide +kernel) (by decide +kernel)
theorem se_RS_not : (Cond.selects "RegularSolver" ({ cls := "RegularSolver", name := "not", desc := "(I)I" } : MethodName) ({ cls := "RegularSolver", name := "not", desc := "(I)I" } : MethodName)) ∈ gW := gm 553 (by decide +kernel) (by decide +kernel)
theorem ml_La_36 : (Cond.methodLink "RegularSolverLaw" 36 ({ cls := "RegularSolver", name := "again", desc := "(I)I" } : MethodName)) ∈ gW := gm 565 (by decide +kernel) (by decide +kernel)
theorem im_RS_again : (Cond.instanceMethod ({ cls := "RegularSolver", name := "again", desc := "(I)I" } : MethodName)) ∈ gW := gm 566 (by decide +kernel) (by decide +kernel)
theorem se_RS_again : (Cond.selects "RegularSolver" ({ cls := "RegularSolver", name := "again", desc := "(I)I" } : MethodName) ({ cls := "RegularSolver", name := "again", desc := "(I)I" } : MethodName)) ∈ gW := gm 567 (by decide +kernel) (by decide +kernel)
theorem ml_La_39 : (Cond.methodLink "RegularSolverLaw" 39 ({ cls := "RegularSolver", name := "automaton", desc := "(III)I" } : MethodName)) ∈ gW := gm 584 (by decide +kernel) (by decide +kernel)
theorem im_RS_automaton : (Cond.instanceMethod ({ cls := "RegularSolver", name := "automaton", desc := "(III)I" } : MethodName)) ∈ gW := gm 585 (by decide +kernel) (by decide +kernel)
theorem se_RS_automaton : (Cond.selects "RegularSolver" ({ cls := "RegularSolver", name := "automaton", desc := "(III)I" } : MethodName) ({ cls := "RegularSolver", name := "automaton", desc := "(III)I" } : MethodName)) ∈ gW := gm 586 (by decide +kernel) (by decide +kernel)
theorem ml_La_43 : (Cond.methodLink "RegularSolverLaw" 43 ({ cls := "RegularSolver", name := "has", desc := "(IIJ)Z" } : MethodName)) ∈ gW := gm 603 (by decide +kernel) (by decide +kernel)
theorem im_RS_has : (Cond.instanceMethod ({ cls := "RegularSolver", name := "has", desc := "(IIJ)Z" } : MethodName)) ∈ gW := gm 604 (by decide +kernel) (by decide +kernel)
theorem se_RS_has : (Cond.selects "RegularSolver" ({ cls := "RegularSolver", name := "has", desc := "(IIJ)Z" } : MethodName) ({ cls := "RegularSolver", name := "has", desc := "(IIJ)Z" } : MethodName)) ∈ gW := gm 605 (by decide +kernel) (by decide +kernel)
theorem ml_La_47 : (Cond.methodLink "RegularSolverLaw" 47 ({ cls := "RegularSolver", name := "words", desc := "(II)J" } : MethodName)) ∈ gW := gm 620 (by decide +kernel) (by decide +kernel)
theorem im_RS_words : (Cond.instanceMethod ({ cls := "RegularSolver", name := "words", desc := "(II)J" } : MethodName)) ∈ gW := gm 621 (by decide +kernel) (by decide +kernel)
theorem se_RS_words : (Cond.selects "RegularSolver" ({ cls := "RegularSolver", name := "words", desc := "(II)J" } : MethodName) ({ cls := "RegularSolver", name := "words", desc := "(II)J" } : MethodName)) ∈ gW := gm 622 (by decide +kernel) (by decide +kernel)
theorem ml_La_51 : (Cond.methodLink "RegularSolverLaw" 51 ({ cls := "RegularSolver", name := "first", desc := "(II)J" } : MethodName)) ∈ gW := gm 636 (by decide +kernel) (by decide +kernel)
theorem im_RS_first : (Cond.instanceMethod ({ cls := "RegularSolver", name := "first", desc := "(II)J" } : MethodName)) ∈ gW := gm 637 (by decide +kernel) (by decide +kernel)
theorem se_RS_first : (Cond.selects "RegularSolver" ({ cls := "RegularSolver", name := "first", desc := "(II)J" } : MethodName) ({ cls := "RegularSolver", name := "first", desc := "(II)J" } : MethodName)) ∈ gW := gm 638 (by decide +kernel) (by decide +kernel)
theorem ml_La_54 : (Cond.methodLink "RegularSolverLaw" 54 ({ cls := "RegularSolver", name := "shortest", desc := "(I)I" } : MethodName)) ∈ gW := gm 656 (by decide +kernel) (by decide +kernel)
theorem im_RS_shortest : (Cond.instanceMethod ({ cls := "RegularSolver", name := "shortest", desc := "(I)I" } : MethodName)) ∈ gW := gm 657 (by decide +kernel) (by decide +kernel)
theorem se_RS_shortest : (Cond.selects "RegularSolver" ({ cls := "RegularSolver", name := "shortest", desc := "(I)I" } : MethodName) ({ cls := "RegularSolver", name := "shortest", desc := "(I)I" } : MethodName)) ∈ gW := gm 658 (by decide +kernel) (by decide +kernel)
theorem ml_La_57 : (Cond.methodLink "RegularSolverLaw" 57 ({ cls := "RegularSolver", name := "within", desc := "(II)Z" } : MethodName)) ∈ gW := gm 668 (by decide +kernel) (by decide +kernel)
theorem im_RS_within : (Cond.instanceMethod ({ cls := "RegularSolver", name := "within", desc := "(II)Z" } : MethodName)) ∈ gW := gm 669 (by decide +kernel) (by decide +kernel)
theorem se_RS_within : (Cond.selects "RegularSolver" ({ cls := "RegularSolver", name := "within", desc := "(II)Z" } : MethodName) ({ cls := "RegularSolver", name := "within", desc := "(II)Z" } : MethodName)) ∈ gW := gm 670 (by decide +kernel) (by decide +kernel)
theorem ml_La_61 : (Cond.methodLink "RegularSolverLaw" 61 ({ cls := "RegularSolver", name := "variable", desc := "(II)V" } : MethodName)) ∈ gW := gm 694 (by decide +kernel) (by decide +kernel)
theorem im_RS_variable : (Cond.instanceMethod ({ cls := "RegularSolver", name := "variable", desc := "(II)V" } : MethodName)) ∈ gW := gm 695 (by decide +kernel) (by decide +kernel)
theorem se_RS_variable : (Cond.selects "RegularSolver" ({ cls := "RegularSolver", name := "variable", desc := "(II)V" } : MethodName) ({ cls := "RegularSolver", name := "variable", desc := "(II)V" } : MethodName)) ∈ gW := gm 696 (by decide +kernel) (by decide +kernel)
theorem ml_La_65 : (Cond.methodLink "RegularSolverLaw" 65 ({ cls := "RegularSolver", name := "bound", desc := "(IIIIII)I" } : MethodName)) ∈ gW := gm 705 (by decide +kernel) (by decide +kernel)
theorem im_RS_bound : (Cond.instanceMethod ({ cls := "RegularSolver", name := "bound", desc := "(IIIIII)I" } : MethodName)) ∈ gW := gm 706 (by decide +kernel) (by decide +kernel)
theorem se_RS_bound : (Cond.selects "RegularSolver" ({ cls := "RegularSolver", name := "bound", desc := "(IIIIII)I" } : MethodName) ({ cls := "RegularSolver", name := "bound", desc := "(IIIIII)I" } : MethodName)) ∈ gW := gm 707 (by decide +kernel) (by decide +kernel)
theorem ml_La_69 : (Cond.methodLink "RegularSolverLaw" 69 ({ cls := "RegularSolver", name := "solve", desc := "(I)Z" } : MethodName)) ∈ gW := gm 724 (by decide +kernel) (by decide +kernel)
theorem im_RS_solve : (Cond.instanceMethod ({ cls := "RegularSolver", name := "solve", desc := "(I)Z" } : MethodName)) ∈ gW := gm 725 (by decide +kernel) (by decide +kernel)
theorem se_RS_solve : (Cond.selects "RegularSolver" ({ cls := "RegularSolver", name := "solve", desc := "(I)Z" } : MethodName) ({ cls := "RegularSolver", name := "solve", desc := "(I)Z" } : MethodName)) ∈ gW := gm 726 (by decide +kernel) (by decide +kernel)
theorem ml_La_73 : (Cond.methodLink "RegularSolverLaw" 73 ({ cls := "RegularSolver", name := "length", desc := "(I)I" } : MethodName)) ∈ gW := gm 803 (by decide +kernel) (by decide +kernel)
theorem im_RS_length : (Cond.instanceMethod ({ cls := "RegularSolver", name := "length", desc := "(I)I" } : MethodName)) ∈ gW := gm 804 (by decide +kernel) (by decide +kernel)
theorem se_RS_length : (Cond.selects "RegularSolver" ({ cls := "RegularSolver", name := "length", desc := "(I)I" } : MethodName) ({ cls := "RegularSolver", name := "length", desc := "(I)I" } : MethodName)) ∈ gW := gm 805 (by decide +kernel) (by decide +kernel)
theorem cl_La_76 : (Cond.classLink "RegularSolverLaw" 76 "java/lang/IllegalStateException") ∈ gW := gm 802 (by decide +kernel) (by decide +kernel)
theorem ml_La_78 : (Cond.methodLink "RegularSolverLaw" 78 ({ cls := "RegularSolver", name := "word", desc := "(I)J" } : MethodName)) ∈ gW := gm 830 (by decide +kernel) (by decide +kernel)
theorem im_RS_word : (Cond.instanceMethod ({ cls := "RegularSolver", name := "word", desc := "(I)J" } : MethodName)) ∈ gW := gm 831 (by decide +kernel) (by decide +kernel)
theorem se_RS_word : (Cond.selects "RegularSolver" ({ cls := "RegularSolver", name := "word", desc := "(I)J" } : MethodName) ({ cls := "RegularSolver", name := "word", desc := "(I)J" } : MethodName)) ∈ gW := gm 832 (by decide +kernel) (by decide +kernel)
def f_La_letters (n : Nat) (p0 : Int32) (xCount : Int32) (kHeads : Nat → Int32) (kTails : Nat → Int64) (kNext : Nat → Int32) (kSlots : Nat → Int32) (kReached : Int32) (kClassOf : Nat → Int32) (kFinerOf : Nat → Int32) (kMarkOf : Nat → Int32) (kFirstOf : Nat → Int32) (kMarkSlots : Nat → Int32) (kClasses : Int32) (oF : Nat → Int64) : Option ((Int32 × ((Nat → Int32) × (Nat → Int64) × (Nat → Int32) × (Nat → Int32) × Int32 × (Nat → Int32) × (Nat → Int32) × (Nat → Int32) × (Nat → Int32) × (Nat → Int32) × Int32)) ⊕ ((Nat → Int64) × (Int32 × auP × Int32 × (Nat → Int32) × (Nat → Int64) × (Nat → Int32) × (Nat → Int32) × Int32 × (Nat → Int32) × (Nat → Int32) × (Nat → Int32) × (Nat → Int32) × (Nat → Int32) × Int32))) :=
  (f_RS_letters n p0 xCount kHeads kTails kNext kSlots kReached kClassOf kFinerOf kMarkOf kFirstOf kMarkSlots kClasses).bind fun u => u.elim (fun x => if x.1 = "java/lang/IllegalArgumentException" then some (.inl (1, x.2)) else if x.1 = "java/lang/IndexOutOfBoundsException" then some (.inl (2, x.2)) else none) fun v => some (.inr (vp_updL oF (0 : Int32).toNatClampNeg v.1.toInt64, v))
set_option maxHeartbeats 400000 in
set_option maxRecDepth 100000 in
theorem c_La_letters (l : Launch) (hl0 : l.stackTraces = false) {D : va_G} {K : Nat → ClassId} {T : auTab} {n : Nat} {xq : Nat} {xl : Nat} {mq : Nat} {cq : Nat} {iq : Nat} {sq : Nat} {m0 : Nat} {m1 : Nat} {m2 : Nat} {m3 : Nat} {m5 : Nat} {m6 : Nat} {m7 : Nat} {m8 : Nat} {m9 : Nat} {xLang : Nat → Option Nat} {xCount : Int32} {kHeads : Nat → Int32} {kTails : Nat → Int64} {kNext : Nat → Int32} {kSlots : Nat → Int32} {kReached : Int32} {kClassOf : Nat → Int32} {kFinerOf : Nat → Int32} {kMarkOf : Nat → Int32} {kFirstOf : Nat → Int32} {kMarkSlots : Nat → Int32} {kClasses : Int32} {p0 : Int32} {lq : Nat} {oF : Nat → Int64} {r : (Int32 × ((Nat → Int32) × (Nat → Int64) × (Nat → Int32) × (Nat → Int32) × Int32 × (Nat → Int32) × (Nat → Int32) × (Nat → Int32) × (Nat → Int32) × (Nat → Int32) × Int32)) ⊕ ((Nat → Int64) × (Int32 × auP × Int32 × (Nat → Int32) × (Nat → Int64) × (Nat → Int32) × (Nat → Int32) × Int32 × (Nat → Int32) × (Nat → Int32) × (Nat → Int32) × (Nat → Int32) × (Nat → Int32) × Int32))} (sz : Nat) (hf : f_La_letters n p0 xCount kHeads kTails kNext kSlots kReached kClassOf kFinerOf kMarkOf kFirstOf kMarkSlots kClasses oF = some r) : vx_Met l y_La_letters w0_La_letters ({ frames := 8, cells := 6, slots := 340, locals := 134 }) (yPre D K T [.ref xq, .int p0, .ref lq] (((rsW K xq xl mq cq iq sq xLang xCount) ++ (mkW K mq m0 m1 m2 m3 m5 m6 m7 m8 m9 kHeads kTails kNext kSlots kReached kClassOf kFinerOf kMarkOf kFirstOf kMarkSlots kClasses)) ++ (laW K lq 1 oF)) 60 xLang sz) (yPost D K r (fun u (g : Nat × Nat) => (((rsW K xq xl mq cq iq sq xLang xCount) ++ (mkW K mq m0 m1 m2 m3 g.1 g.2 m7 m8 m9 u.1 u.2.1 u.2.2.1 u.2.2.2.1 u.2.2.2.2.1 u.2.2.2.2.2.1 u.2.2.2.2.2.2.1 u.2.2.2.2.2.2.2.1 u.2.2.2.2.2.2.2.2.1 u.2.2.2.2.2.2.2.2.2.1 u.2.2.2.2.2.2.2.2.2.2)) ++ (laW K lq 1 oF))) (fun v (g : Nat × Nat × Nat × Nat × Nat) => ((((rsW K xq xl mq cq iq sq (va_up xLang xCount.toNatClampNeg (some g.2.2.1)) v.2.2.2.1) ++ (mkW K mq m0 m1 m2 m3 g.1 g.2.1 m7 m8 m9 v.2.2.2.2.1 v.2.2.2.2.2.1 v.2.2.2.2.2.2.1 v.2.2.2.2.2.2.2.1 v.2.2.2.2.2.2.2.2.1 v.2.2.2.2.2.2.2.2.2.1 v.2.2.2.2.2.2.2.2.2.2.1 v.2.2.2.2.2.2.2.2.2.2.2.1 v.2.2.2.2.2.2.2.2.2.2.2.2.1 v.2.2.2.2.2.2.2.2.2.2.2.2.2.1 v.2.2.2.2.2.2.2.2.2.2.2.2.2.2)) ++ (auW K g.2.2.1 g.2.2.2.1 g.2.2.2.2 v.2.2.1.1 (4 * v.2.2.1.1).toNatClampNeg v.2.2.1.2.2.1 v.2.2.1.2.1 v.2.2.1.2.2.2)) ++ (laW K lq 1 v.1))) (va_A (((rsW K xq xl mq cq iq sq xLang xCount) ++ (mkW K mq m0 m1 m2 m3 m5 m6 m7 m8 m9 kHeads kTails kNext kSlots kReached kClassOf kFinerOf kMarkOf kFirstOf kMarkSlots kClasses)) ++ (laW K lq 1 oF)) sz)) (fun _ _ _ => False) 6 340 (va_A (((rsW K xq xl mq cq iq sq xLang xCount) ++ (mkW K mq m0 m1 m2 m3 m5 m6 m7 m8 m9 kHeads kTails kNext kSlots kReached kClassOf kFinerOf kMarkOf kFirstOf kMarkSlots kClasses)) ++ (laW K lq 1 oF)) sz) := by
  unfold f_La_letters at hf
  obtain ⟨u, eu, hf⟩ := obd hf
  refine vx_ofWH (cc := b_La_letters) (maxL := 4) (ret := (some .int)) (hh := [(0, 9, 12, 13), (0, 9, 15, 15)]) (by decide) rfl ?_
  intro p e s m args below meth c s₁ B hml hv
  obtain ⟨⟨⟨rfl, hsz, hP, hK, hD0⟩, hX, hZ, hT0⟩, hC⟩ := hv
  subst hsz
  have hx := B.exec
  have hb := B.bytes
  have hts : ∀ w ∈ gW, w.before _ s = true := fun w hw => atoms_spec (ws := w0_La_letters) B.pre w (List.mem_cons_of_mem _ hw)
  have htab : c.exceptionTable.toList = tableOf [(0, 9, 12, 13), (0, 9, 15, 15)] := vx_table (x := y_La_letters) B (atoms_spec (ws := w0_La_letters) B.pre _ List.mem_cons_self)
  have hown : s.vm.findClass "RegularSolverLaw" = some m.cls := findClass_of_methodNamed B.named
  have hD := hD0.self (sz := s.heap.size)
  generalize hAe : va_A (((rsW K xq xl mq cq iq sq xLang xCount) ++ (mkW K mq m0 m1 m2 m3 m5 m6 m7 m8 m9 kHeads kTails kNext kSlots kReached kClassOf kFinerOf kMarkOf kFirstOf kMarkSlots kClasses)) ++ (laW K lq 1 oF)) s.heap.size = A at hD hZ hT0 ⊢
  have hA : ∀ q : Nat, s.heap.size ≤ q → A q := fun q h => by rw [← hAe]; exact Or.inr h
  have hS : va_S A s.heap s.heap [] := va_S.rf
  have hl := lv_entry [.ref xq, .int p0, .ref lq] (n := 4) (Nat.le_of_ble_eq_true rfl)
  rw [lg_entry_eq]
  generalize (lg_sl [.ref xq, .int p0, .ref lq] ++ List.replicate (4 - (lg_sl [.ref xq, .int p0, .ref lq]).length) Slot.unset).toArray = ls at hl ⊢
  refine x_gen (P := fun H => W p l e _ s m _ below meth c H [] 0 0 _ _) ?_
  intro H hHe
  rw [← hHe] at hP
  have hS : va_S A s.heap H [] := by rw [hHe]; exact hS
  have hT0 : ∀ (q i : Nat), i < 60 → xLang i = some q → va_P D vwCl (auT K T q) H ∧ gAw A (auT K T q) := by rw [hHe]; exact hT0
  refine lv_aload_n hx hb d_La_letters_0 rfl (lv_at hl 2 rfl) ?_
  refine lv_iconst (v := 0) hx hb d_La_letters_1 (by decide) ?_
  refine lv_aload_n hx hb d_La_letters_2 rfl (lv_at hl 0 rfl) ?_
  refine lv_iload_n hx hb d_La_letters_3 rfl (lv_at hl 1 rfl) ?_
  refine x_call (vx_runV (As := [.int p0]) (rest := [.int 0, .ref lq]) ⟨hx, hb, hml, hown, hts⟩ (c_RS_letters l hl0 H.size eu) (gV 1 hts cd_RS_letters ml_La_7 im_RS_letters se_RS_letters ini_RS rfl rfl pd_RS_letters ⟨Nat.le_of_ble_eq_true rfl, Nat.le_of_ble_eq_true rfl⟩) ⟨xPre_blind, va_recv hK (vaL (vaL hP)) (ci := 10) (q0 := 0) rfl rfl, xPre_of (vaL hP) hK (vdL hD) hS hA hX hZ hT0⟩ rfl rfl hl.1 rfl (lv_room (Nat.le_of_ble_eq_true rfl)) d_La_letters_4 ⟨(by decide : 0 + 6 ≤ 6), (by decide : 0 + 340 ≤ 340)⟩) (vdL hD) hS hA (fun E x ex g ce q9 H1 locs hP1 hD1 hk1 hS1 hq1 hq2 hq3 => ?_) (fun v ev g H1 locs hP1 hD1 hk1 hS1 => ?_)
  · subst ex
    obtain ⟨hP, hD⟩ := va_keepR hP hD (va_sub (vdL hD) hS hA) hk1 hP1 hD1
    have hS := hS1
    generalize H1 = H at hP hS hq1 ⊢
    replace hf : (if E = "java/lang/IllegalArgumentException" then some (.inl (1, x)) else if E = "java/lang/IndexOutOfBoundsException" then some (.inl (2, x)) else none) = some r := hf
    by_cases h0 : E = "java/lang/IllegalArgumentException"
    · subst h0
      rw [if_pos rfl] at hf
      have hr := (Option.some.inj hf).symm
      refine vx_catch (name := "java/lang/IllegalArgumentException") hown [] ⟨0, 9, 12, 13⟩ [⟨0, 9, 15, 15⟩] htab (fun z hz => nomatch hz) rfl (by decide) (hts _ cl_La_13) (va_Nw.use rfl (hZ.2.2.2 _ (by decide +kernel))) hq1 hq2 hq3 ?_
      refine lv_astore_n (lv' := [(3, .ref q9), (0, .ref xq), (1, .int p0), (2, .ref lq)]) hx hb d_La_letters_12 rfl hl (by decide) rfl (fun ls hl => ?_)
      refine lv_iconst (v := 1) hx hb d_La_letters_13 (by decide) ?_
      exact vx_ret (W.iret hx hb B.returns (fun t ht hW => Or.inl ⟨_, hr, ⟨g, rfl, by rw [ht]; exact hP, va_K.moved hW.alike hK, hD⟩, hS.F ht⟩) hS.2.2 d_La_letters_14 (hlocks := B.notSynchronized))
    rw [if_neg h0] at hf
    by_cases h1 : E = "java/lang/IndexOutOfBoundsException"
    · subst h1
      rw [if_pos rfl] at hf
      have hr := (Option.some.inj hf).symm
      refine vx_catch (name := "java/lang/IndexOutOfBoundsException") hown [⟨0, 9, 12, 13⟩] ⟨0, 9, 15, 15⟩ [] htab (fun z hz => by simp only [List.mem_cons, List.not_mem_nil, or_false] at hz; rcases hz with rfl; exact Or.inr ⟨by decide, "java/lang/IllegalArgumentException", hts _ cl_La_13, hC ("java/lang/IndexOutOfBoundsException", "java/lang/IllegalArgumentException") (by decide)⟩) rfl (by decide) (hts _ cl_La_15) (va_Nw.use rfl (hZ.2.2.2 _ (by decide +kernel))) hq1 hq2 hq3 ?_
      refine lv_astore_n (lv' := [(3, .ref q9), (0, .ref xq), (1, .int p0), (2, .ref lq)]) hx hb d_La_letters_15 rfl hl (by decide) rfl (fun ls hl => ?_)
      refine lv_iconst (v := 2) hx hb d_La_letters_16 (by decide) ?_
      exact vx_ret (W.iret hx hb B.returns (fun t ht hW => Or.inl ⟨_, hr, ⟨g, rfl, by rw [ht]; exact hP, va_K.moved hW.alike hK, hD⟩, hS.F ht⟩) hS.2.2 d_La_letters_17 (hlocks := B.notSynchronized))
    rw [if_neg h1] at hf
    exact nomatch hf
  · subst ev
    have hr := (Option.some.inj hf).symm
    obtain ⟨hP, hD⟩ := va_keepR hP hD (va_sub (vdL hD) hS hA) hk1 hP1 hD1
    have hS := hS1
    generalize H1 = H at hP hS ⊢
    refine lv_i2l (v := v.1.toInt64) hx hb d_La_letters_7 rfl ?_
    refine va_last hx hb hK hP hD hS 15 1 rfl rfl (gin_in (by decide)) d_La_letters_8 (fun H locs hP hD hS => ?_)
    refine lv_goto (tgt := 18) hx hb d_La_letters_9 (by decide) ?_
    refine lv_iconst (v := 0) hx hb d_La_letters_18 (by decide) ?_
    exact vx_ret (W.iret hx hb B.returns (fun t ht hW => Or.inr ⟨_, hr, ⟨g, rfl, by rw [ht]; exact hP, va_K.moved hW.alike hK, hD⟩, hS.F ht⟩) hS.2.2 d_La_letters_19 (hlocks := B.notSynchronized))
def f_La_empty (n : Nat) (xCount : Int32) (kHeads : Nat → Int32) (kTails : Nat → Int64) (kNext : Nat → Int32) (kSlots : Nat → Int32) (kReached : Int32) (kClassOf : Nat → Int32) (kFinerOf : Nat → Int32) (kMarkOf : Nat → Int32) (kFirstOf : Nat → Int32) (kMarkSlots : Nat → Int32) (kClasses : Int32) (oF : Nat → Int64) : Option ((Int32 × ((Nat → Int32) × (Nat → Int64) × (Nat → Int32) × (Nat → Int32) × Int32 × (Nat → Int32) × (Nat → Int32) × (Nat → Int32) × (Nat → Int32) × (Nat → Int32) × Int32)) ⊕ ((Nat → Int64) × (Int32 × auP × Int32 × (Nat → Int32) × (Nat → Int64) × (Nat → Int32) × (Nat → Int32) × Int32 × (Nat → Int32) × (Nat → Int32) × (Nat → Int32) × (Nat → Int32) × (Nat → Int32) × Int32))) :=
  (f_RS_empty n xCount kHeads kTails kNext kSlots kReached kClassOf kFinerOf kMarkOf kFirstOf kMarkSlots kClasses).bind fun u => u.elim (fun x => if x.1 = "java/lang/IndexOutOfBoundsException" then some (.inl (1, x.2)) else none) fun v => some (.inr (vp_updL oF (0 : Int32).toNatClampNeg v.1.toInt64, v))
set_option maxHeartbeats 400000 in
set_option maxRecDepth 100000 in
theorem c_La_empty (l : Launch) (hl0 : l.stackTraces = false) {D : va_G} {K : Nat → ClassId} {T : auTab} {n : Nat} {xq : Nat} {xl : Nat} {mq : Nat} {cq : Nat} {iq : Nat} {sq : Nat} {m0 : Nat} {m1 : Nat} {m2 : Nat} {m3 : Nat} {m5 : Nat} {m6 : Nat} {m7 : Nat} {m8 : Nat} {m9 : Nat} {xLang : Nat → Option Nat} {xCount : Int32} {kHeads : Nat → Int32} {kTails : Nat → Int64} {kNext : Nat → Int32} {kSlots : Nat → Int32} {kReached : Int32} {kClassOf : Nat → Int32} {kFinerOf : Nat → Int32} {kMarkOf : Nat → Int32} {kFirstOf : Nat → Int32} {kMarkSlots : Nat → Int32} {kClasses : Int32}  {lq : Nat} {oF : Nat → Int64} {r : (Int32 × ((Nat → Int32) × (Nat → Int64) × (Nat → Int32) × (Nat → Int32) × Int32 × (Nat → Int32) × (Nat → Int32) × (Nat → Int32) × (Nat → Int32) × (Nat → Int32) × Int32)) ⊕ ((Nat → Int64) × (Int32 × auP × Int32 × (Nat → Int32) × (Nat → Int64) × (Nat → Int32) × (Nat → Int32) × Int32 × (Nat → Int32) × (Nat → Int32) × (Nat → Int32) × (Nat → Int32) × (Nat → Int32) × Int32))} (sz : Nat) (hf : f_La_empty n xCount kHeads kTails kNext kSlots kReached kClassOf kFinerOf kMarkOf kFirstOf kMarkSlots kClasses oF = some r) : vx_Met l y_La_empty w0_La_empty ({ frames := 8, cells := 6, slots := 340, locals := 133 }) (yPre D K T [.ref xq, .ref lq] (((rsW K xq xl mq cq iq sq xLang xCount) ++ (mkW K mq m0 m1 m2 m3 m5 m6 m7 m8 m9 kHeads kTails kNext kSlots kReached kClassOf kFinerOf kMarkOf kFirstOf kMarkSlots kClasses)) ++ (laW K lq 1 oF)) 60 xLang sz) (yPost D K r (fun u (g : Nat × Nat) => (((rsW K xq xl mq cq iq sq xLang xCount) ++ (mkW K mq m0 m1 m2 m3 g.1 g.2 m7 m8 m9 u.1 u.2.1 u.2.2.1 u.2.2.2.1 u.2.2.2.2.1 u.2.2.2.2.2.1 u.2.2.2.2.2.2.1 u.2.2.2.2.2.2.2.1 u.2.2.2.2.2.2.2.2.1 u.2.2.2.2.2.2.2.2.2.1 u.2.2.2.2.2.2.2.2.2.2)) ++ (laW K lq 1 oF))) (fun v (g : Nat × Nat × Nat × Nat × Nat) => ((((rsW K xq xl mq cq iq sq (va_up xLang xCount.toNatClampNeg (some g.2.2.1)) v.2.2.2.1) ++ (mkW K mq m0 m1 m2 m3 g.1 g.2.1 m7 m8 m9 v.2.2.2.2.1 v.2.2.2.2.2.1 v.2.2.2.2.2.2.1 v.2.2.2.2.2.2.2.1 v.2.2.2.2.2.2.2.2.1 v.2.2.2.2.2.2.2.2.2.1 v.2.2.2.2.2.2.2.2.2.2.1 v.2.2.2.2.2.2.2.2.2.2.2.1 v.2.2.2.2.2.2.2.2.2.2.2.2.1 v.2.2.2.2.2.2.2.2.2.2.2.2.2.1 v.2.2.2.2.2.2.2.2.2.2.2.2.2.2)) ++ (auW K g.2.2.1 g.2.2.2.1 g.2.2.2.2 v.2.2.1.1 (4 * v.2.2.1.1).toNatClampNeg v.2.2.1.2.2.1 v.2.2.1.2.1 v.2.2.1.2.2.2)) ++ (laW K lq 1 v.1))) (va_A (((rsW K xq xl mq cq iq sq xLang xCount) ++ (mkW K mq m0 m1 m2 m3 m5 m6 m7 m8 m9 kHeads kTails kNext kSlots kReached kClassOf kFinerOf kMarkOf kFirstOf kMarkSlots kClasses)) ++ (laW K lq 1 oF)) sz)) (fun _ _ _ => False) 6 340 (va_A (((rsW K xq xl mq cq iq sq xLang xCount) ++ (mkW K mq m0 m1 m2 m3 m5 m6 m7 m8 m9 kHeads kTails kNext kSlots kReached kClassOf kFinerOf kMarkOf kFirstOf kMarkSlots kClasses)) ++ (laW K lq 1 oF)) sz) := by
  unfold f_La_empty at hf
  obtain ⟨u, eu, hf⟩ := obd hf
  refine vx_ofWH (cc := b_La_empty) (maxL := 3) (ret := (some .int)) (hh := [(0, 8, 11, 15)]) (by decide) rfl ?_
  intro p e s m args below meth c s₁ B hml hv
  obtain ⟨⟨⟨rfl, hsz, hP, hK, hD0⟩, hX, hZ, hT0⟩, hC⟩ := hv
  subst hsz
  have hx := B.exec
  have hb := B.bytes
  have hts : ∀ w ∈ gW, w.before _ s = true := fun w hw => atoms_spec (ws := w0_La_empty) B.pre w (List.mem_cons_of_mem _ hw)
  have htab : c.exceptionTable.toList = tableOf [(0, 8, 11, 15)] := vx_table (x := y_La_empty) B (atoms_spec (ws := w0_La_empty) B.pre _ List.mem_cons_self)
  have hown : s.vm.findClass "RegularSolverLaw" = some m.cls := findClass_of_methodNamed B.named
  have hD := hD0.self (sz := s.heap.size)
  generalize hAe : va_A (((rsW K xq xl mq cq iq sq xLang xCount) ++ (mkW K mq m0 m1 m2 m3 m5 m6 m7 m8 m9 kHeads kTails kNext kSlots kReached kClassOf kFinerOf kMarkOf kFirstOf kMarkSlots kClasses)) ++ (laW K lq 1 oF)) s.heap.size = A at hD hZ hT0 ⊢
  have hA : ∀ q : Nat, s.heap.size ≤ q → A q := fun q h => by rw [← hAe]; exact Or.inr h
  have hS : va_S A s.heap s.heap [] := va_S.rf
  have hl := lv_entry [.ref xq, .ref lq] (n := 3) (Nat.le_of_ble_eq_true rfl)
  rw [lg_entry_eq]
  generalize (lg_sl [.ref xq, .ref lq] ++ List.replicate (3 - (lg_sl [.ref xq, .ref lq]).length) Slot.unset).toArray = ls at hl ⊢
  refine x_gen (P := fun H => W p l e _ s m _ below meth c H [] 0 0 _ _) ?_
  intro H hHe
  rw [← hHe] at hP
  have hS : va_S A s.heap H [] := by rw [hHe]; exact hS
  have hT0 : ∀ (q i : Nat), i < 60 → xLang i = some q → va_P D vwCl (auT K T q) H ∧ gAw A (auT K T q) := by rw [hHe]; exact hT0
  refine lv_aload_n hx hb d_La_empty_0 rfl (lv_at hl 1 rfl) ?_
  refine lv_iconst (v := 0) hx hb d_La_empty_1 (by decide) ?_
  refine lv_aload_n hx hb d_La_empty_2 rfl (lv_at hl 0 rfl) ?_
  refine x_call (vx_runV (As := []) (rest := [.int 0, .ref lq]) ⟨hx, hb, hml, hown, hts⟩ (c_RS_empty l hl0 H.size eu) (gV 0 hts cd_RS_empty ml_La_17 im_RS_empty se_RS_empty ini_RS rfl rfl pd_RS_empty ⟨Nat.le_of_ble_eq_true rfl, Nat.le_of_ble_eq_true rfl⟩) ⟨xPre_blind, va_recv hK (vaL (vaL hP)) (ci := 10) (q0 := 0) rfl rfl, xPre_of (vaL hP) hK (vdL hD) hS hA hX hZ hT0⟩ rfl rfl hl.1 rfl (lv_room (Nat.le_of_ble_eq_true rfl)) d_La_empty_3 ⟨(by decide : 0 + 6 ≤ 6), (by decide : 0 + 340 ≤ 340)⟩) (vdL hD) hS hA (fun E x ex g ce q9 H1 locs hP1 hD1 hk1 hS1 hq1 hq2 hq3 => ?_) (fun v ev g H1 locs hP1 hD1 hk1 hS1 => ?_)
  · subst ex
    obtain ⟨hP, hD⟩ := va_keepR hP hD (va_sub (vdL hD) hS hA) hk1 hP1 hD1
    have hS := hS1
    generalize H1 = H at hP hS hq1 ⊢
    replace hf : (if E = "java/lang/IndexOutOfBoundsException" then some (.inl (1, x)) else none) = some r := hf
    by_cases h0 : E = "java/lang/IndexOutOfBoundsException"
    · subst h0
      rw [if_pos rfl] at hf
      have hr := (Option.some.inj hf).symm
      refine vx_catch (name := "java/lang/IndexOutOfBoundsException") hown [] ⟨0, 8, 11, 15⟩ [] htab (fun z hz => nomatch hz) rfl (by decide) (hts _ cl_La_15) (va_Nw.use rfl (hZ.2.2.2 _ (by decide +kernel))) hq1 hq2 hq3 ?_
      refine lv_astore_n (lv' := [(2, .ref q9), (0, .ref xq), (1, .ref lq)]) hx hb d_La_empty_11 rfl hl (by decide) rfl (fun ls hl => ?_)
      refine lv_iconst (v := 1) hx hb d_La_empty_12 (by decide) ?_
      exact vx_ret (W.iret hx hb B.returns (fun t ht hW => Or.inl ⟨_, hr, ⟨g, rfl, by rw [ht]; exact hP, va_K.moved hW.alike hK, hD⟩, hS.F ht⟩) hS.2.2 d_La_empty_13 (hlocks := B.notSynchronized))
    rw [if_neg h0] at hf
    exact nomatch hf
  · subst ev
    have hr := (Option.some.inj hf).symm
    obtain ⟨hP, hD⟩ := va_keepR hP hD (va_sub (vdL hD) hS hA) hk1 hP1 hD1
    have hS := hS1
    generalize H1 = H at hP hS ⊢
    refine lv_i2l (v := v.1.toInt64) hx hb d_La_empty_6 rfl ?_
    refine va_last hx hb hK hP hD hS 15 1 rfl rfl (gin_in (by decide)) d_La_empty_7 (fun H locs hP hD hS => ?_)
    refine lv_goto (tgt := 14) hx hb d_La_empty_8 (by decide) ?_
    refine lv_iconst (v := 0) hx hb d_La_empty_14 (by decide) ?_
    exact vx_ret (W.iret hx hb B.returns (fun t ht hW => Or.inr ⟨_, hr, ⟨g, rfl, by rw [ht]; exact hP, va_K.moved hW.alike hK, hD⟩, hS.F ht⟩) hS.2.2 d_La_empty_15 (hlocks := B.notSynchronized))
def f_La_then (n : Nat) (p0 : Int32) (p1 : Int32) (xLang : Nat → Option Nat) (xCount : Int32) (kHeads : Nat → Int32) (kTails : Nat → Int64) (kNext : Nat → Int32) (kSlots : Nat → Int32) (kReached : Int32) (kClassOf : Nat → Int32) (kFinerOf : Nat → Int32) (kMarkOf : Nat → Int32) (kFirstOf : Nat → Int32) (kMarkSlots : Nat → Int32) (kClasses : Int32) (T : auTab) (oF : Nat → Int64) : Option ((Int32 × ((Nat → Int32) × (Nat → Int64) × (Nat → Int32) × (Nat → Int32) × Int32 × (Nat → Int32) × (Nat → Int32) × (Nat → Int32) × (Nat → Int32) × (Nat → Int32) × Int32)) ⊕ ((Nat → Int64) × (Int32 × auP × Int32 × (Nat → Int32) × (Nat → Int64) × (Nat → Int32) × (Nat → Int32) × Int32 × (Nat → Int32) × (Nat → Int32) × (Nat → Int32) × (Nat → Int32) × (Nat → Int32) × Int32))) :=
  (f_RS_then n p0 p1 xLang xCount kHeads kTails kNext kSlots kReached kClassOf kFinerOf kMarkOf kFirstOf kMarkSlots kClasses T).bind fun u => u.elim (fun x => if x.1 = "java/lang/IllegalArgumentException" then some (.inl (1, x.2)) else if x.1 = "java/lang/IndexOutOfBoundsException" then some (.inl (2, x.2)) else if x.1 = "java/lang/UnsupportedOperationException" then some (.inl (3, x.2)) else none) fun v => some (.inr (vp_updL oF (0 : Int32).toNatClampNeg v.1.toInt64, v))
set_option maxHeartbeats 400000 in
set_option maxRecDepth 100000 in
theorem c_La_then (l : Launch) (hl0 : l.stackTraces = false) {D : va_G} {K : Nat → ClassId} {T : auTab} {n : Nat} {xq : Nat} {xl : Nat} {mq : Nat} {cq : Nat} {iq : Nat} {sq : Nat} {m0 : Nat} {m1 : Nat} {m2 : Nat} {m3 : Nat} {m5 : Nat} {m6 : Nat} {m7 : Nat} {m8 : Nat} {m9 : Nat} {xLang : Nat → Option Nat} {xCount : Int32} {kHeads : Nat → Int32} {kTails : Nat → Int64} {kNext : Nat → Int32} {kSlots : Nat → Int32} {kReached : Int32} {kClassOf : Nat → Int32} {kFinerOf : Nat → Int32} {kMarkOf : Nat → Int32} {kFirstOf : Nat → Int32} {kMarkSlots : Nat → Int32} {kClasses : Int32} {p0 : Int32} {p1 : Int32} {lq : Nat} {oF : Nat → Int64} {r : (Int32 × ((Nat → Int32) × (Nat → Int64) × (Nat → Int32) × (Nat → Int32) × Int32 × (Nat → Int32) × (Nat → Int32) × (Nat → Int32) × (Nat → Int32) × (Nat → Int32) × Int32)) ⊕ ((Nat → Int64) × (Int32 × auP × Int32 × (Nat → Int32) × (Nat → Int64) × (Nat → Int32) × (Nat → Int32) × Int32 × (Nat → Int32) × (Nat → Int32) × (Nat → Int32) × (Nat → Int32) × (Nat → Int32) × Int32))} (sz : Nat) (hf : f_La_then n p0 p1 xLang xCount kHeads kTails kNext kSlots kReached kClassOf kFinerOf kMarkOf kFirstOf kMarkSlots kClasses T oF = some r) : vx_Met l y_La_then w0_La_then ({ frames := 8, cells := 8, slots := 352, locals := 141 }) (yPre D K T [.ref xq, .int p0, .int p1, .ref lq] (((rsW K xq xl mq cq iq sq xLang xCount) ++ (mkW K mq m0 m1 m2 m3 m5 m6 m7 m8 m9 kHeads kTails kNext kSlots kReached kClassOf kFinerOf kMarkOf kFirstOf kMarkSlots kClasses)) ++ (laW K lq 1 oF)) 60 xLang sz) (yPost D K r (fun u (g : Nat × Nat) => (((rsW K xq xl mq cq iq sq xLang xCount) ++ (mkW K mq m0 m1 m2 m3 g.1 g.2 m7 m8 m9 u.1 u.2.1 u.2.2.1 u.2.2.2.1 u.2.2.2.2.1 u.2.2.2.2.2.1 u.2.2.2.2.2.2.1 u.2.2.2.2.2.2.2.1 u.2.2.2.2.2.2.2.2.1 u.2.2.2.2.2.2.2.2.2.1 u.2.2.2.2.2.2.2.2.2.2)) ++ (laW K lq 1 oF))) (fun v (g : Nat × Nat × Nat × Nat × Nat) => ((((rsW K xq xl mq cq iq sq (va_up xLang xCount.toNatClampNeg (some g.2.2.1)) v.2.2.2.1) ++ (mkW K mq m0 m1 m2 m3 g.1 g.2.1 m7 m8 m9 v.2.2.2.2.1 v.2.2.2.2.2.1 v.2.2.2.2.2.2.1 v.2.2.2.2.2.2.2.1 v.2.2.2.2.2.2.2.2.1 v.2.2.2.2.2.2.2.2.2.1 v.2.2.2.2.2.2.2.2.2.2.1 v.2.2.2.2.2.2.2.2.2.2.2.1 v.2.2.2.2.2.2.2.2.2.2.2.2.1 v.2.2.2.2.2.2.2.2.2.2.2.2.2.1 v.2.2.2.2.2.2.2.2.2.2.2.2.2.2)) ++ (auW K g.2.2.1 g.2.2.2.1 g.2.2.2.2 v.2.2.1.1 (4 * v.2.2.1.1).toNatClampNeg v.2.2.1.2.2.1 v.2.2.1.2.1 v.2.2.1.2.2.2)) ++ (laW K lq 1 v.1))) (va_A (((rsW K xq xl mq cq iq sq xLang xCount) ++ (mkW K mq m0 m1 m2 m3 m5 m6 m7 m8 m9 kHeads kTails kNext kSlots kReached kClassOf kFinerOf kMarkOf kFirstOf kMarkSlots kClasses)) ++ (laW K lq 1 oF)) sz)) (fun _ _ _ => False) 8 352 (va_A (((rsW K xq xl mq cq iq sq xLang xCount) ++ (mkW K mq m0 m1 m2 m3 m5 m6 m7 m8 m9 kHeads kTails kNext kSlots kReached kClassOf kFinerOf kMarkOf kFirstOf kMarkSlots kClasses)) ++ (laW K lq 1 oF)) sz) := by
  unfold f_La_then at hf
  obtain ⟨u, eu, hf⟩ := obd hf
  refine vx_ofWH (cc := b_La_then) (maxL := 5) (ret := (some .int)) (hh := [(0, 10, 13, 13), (0, 10, 17, 15), (0, 10, 21, 25)]) (by decide) rfl ?_
  intro p e s m args below meth c s₁ B hml hv
  obtain ⟨⟨⟨rfl, hsz, hP, hK, hD0⟩, hX, hZ, hT0⟩, hC⟩ := hv
  subst hsz
  have hx := B.exec
  have hb := B.bytes
  have hts : ∀ w ∈ gW, w.before _ s = true := fun w hw => atoms_spec (ws := w0_La_then) B.pre w (List.mem_cons_of_mem _ hw)
  have htab : c.exceptionTable.toList = tableOf [(0, 10, 13, 13), (0, 10, 17, 15), (0, 10, 21, 25)] := vx_table (x := y_La_then) B (atoms_spec (ws := w0_La_then) B.pre _ List.mem_cons_self)
  have hown : s.vm.findClass "RegularSolverLaw" = some m.cls := findClass_of_methodNamed B.named
  have hD := hD0.self (sz := s.heap.size)
  generalize hAe : va_A (((rsW K xq xl mq cq iq sq xLang xCount) ++ (mkW K mq m0 m1 m2 m3 m5 m6 m7 m8 m9 kHeads kTails kNext kSlots kReached kClassOf kFinerOf kMarkOf kFirstOf kMarkSlots kClasses)) ++ (laW K lq 1 oF)) s.heap.size = A at hD hZ hT0 ⊢
  have hA : ∀ q : Nat, s.heap.size ≤ q → A q := fun q h => by rw [← hAe]; exact Or.inr h
  have hS : va_S A s.heap s.heap [] := va_S.rf
  have hl := lv_entry [.ref xq, .int p0, .int p1, .ref lq] (n := 5) (Nat.le_of_ble_eq_true rfl)
  rw [lg_entry_eq]
  generalize (lg_sl [.ref xq, .int p0, .int p1, .ref lq] ++ List.replicate (5 - (lg_sl [.ref xq, .int p0, .int p1, .ref lq]).length) Slot.unset).toArray = ls at hl ⊢
  refine x_gen (P := fun H => W p l e _ s m _ below meth c H [] 0 0 _ _) ?_
  intro H hHe
  rw [← hHe] at hP
  have hS : va_S A s.heap H [] := by rw [hHe]; exact hS
  have hT0 : ∀ (q i : Nat), i < 60 → xLang i = some q → va_P D vwCl (auT K T q) H ∧ gAw A (auT K T q) := by rw [hHe]; exact hT0
  refine lv_aload_n hx hb d_La_then_0 rfl (lv_at hl 3 rfl) ?_
  refine lv_iconst (v := 0) hx hb d_La_then_1 (by decide) ?_
  refine lv_aload_n hx hb d_La_then_2 rfl (lv_at hl 0 rfl) ?_
  refine lv_iload_n hx hb d_La_then_3 rfl (lv_at hl 1 rfl) ?_
  refine lv_iload_n hx hb d_La_then_4 rfl (lv_at hl 2 rfl) ?_
  refine x_call (vx_runV (As := [.int p0, .int p1]) (rest := [.int 0, .ref lq]) ⟨hx, hb, hml, hown, hts⟩ (c_RS_then l hl0 H.size eu) (gV 2 hts cd_RS_then ml_La_21 im_RS_then se_RS_then ini_RS rfl rfl pd_RS_then ⟨Nat.le_of_ble_eq_true rfl, Nat.le_of_ble_eq_true rfl⟩) ⟨xPre_blind, va_recv hK (vaL (vaL hP)) (ci := 10) (q0 := 0) rfl rfl, xPre_of (vaL hP) hK (vdL hD) hS hA hX hZ hT0⟩ rfl rfl hl.1 rfl (lv_room (Nat.le_of_ble_eq_true rfl)) d_La_then_5 ⟨(by decide : 0 + 8 ≤ 8), (by decide : 0 + 352 ≤ 352)⟩) (vdL hD) hS hA (fun E x ex g ce q9 H1 locs hP1 hD1 hk1 hS1 hq1 hq2 hq3 => ?_) (fun v ev g H1 locs hP1 hD1 hk1 hS1 => ?_)
  · subst ex
    obtain ⟨hP, hD⟩ := va_keepR hP hD (va_sub (vdL hD) hS hA) hk1 hP1 hD1
    have hS := hS1
    generalize H1 = H at hP hS hq1 ⊢
    replace hf : (if E = "java/lang/IllegalArgumentException" then some (.inl (1, x)) else if E = "java/lang/IndexOutOfBoundsException" then some (.inl (2, x)) else if E = "java/lang/UnsupportedOperationException" then some (.inl (3, x)) else none) = some r := hf
    by_cases h0 : E = "java/lang/IllegalArgumentException"
    · subst h0
      rw [if_pos rfl] at hf
      have hr := (Option.some.inj hf).symm
      refine vx_catch (name := "java/lang/IllegalArgumentException") hown [] ⟨0, 10, 13, 13⟩ [⟨0, 10, 17, 15⟩, ⟨0, 10, 21, 25⟩] htab (fun z hz => nomatch hz) rfl (by decide) (hts _ cl_La_13) (va_Nw.use rfl (hZ.2.2.2 _ (by decide +kernel))) hq1 hq2 hq3 ?_
      refine lv_astore (lv' := [(4, .ref q9), (0, .ref xq), (1, .int p0), (2, .int p1), (3, .ref lq)]) hx hb d_La_then_13 hl (by decide) rfl (fun ls hl => ?_)
      refine lv_iconst (v := 1) hx hb d_La_then_15 (by decide) ?_
      exact vx_ret (W.iret hx hb B.returns (fun t ht hW => Or.inl ⟨_, hr, ⟨g, rfl, by rw [ht]; exact hP, va_K.moved hW.alike hK, hD⟩, hS.F ht⟩) hS.2.2 d_La_then_16 (hlocks := B.notSynchronized))
    rw [if_neg h0] at hf
    by_cases h1 : E = "java/lang/IndexOutOfBoundsException"
    · subst h1
      rw [if_pos rfl] at hf
      have hr := (Option.some.inj hf).symm
      refine vx_catch (name := "java/lang/IndexOutOfBoundsException") hown [⟨0, 10, 13, 13⟩] ⟨0, 10, 17, 15⟩ [⟨0, 10, 21, 25⟩] htab (fun z hz => by simp only [List.mem_cons, List.not_mem_nil, or_false] at hz; rcases hz with rfl; exact Or.inr ⟨by decide, "java/lang/IllegalArgumentException", hts _ cl_La_13, hC ("java/lang/IndexOutOfBoundsException", "java/lang/IllegalArgumentException") (by decide)⟩) rfl (by decide) (hts _ cl_La_15) (va_Nw.use rfl (hZ.2.2.2 _ (by decide +kernel))) hq1 hq2 hq3 ?_
      refine lv_astore (lv' := [(4, .ref q9), (0, .ref xq), (1, .int p0), (2, .int p1), (3, .ref lq)]) hx hb d_La_then_17 hl (by decide) rfl (fun ls hl => ?_)
      refine lv_iconst (v := 2) hx hb d_La_then_19 (by decide) ?_
      exact vx_ret (W.iret hx hb B.returns (fun t ht hW => Or.inl ⟨_, hr, ⟨g, rfl, by rw [ht]; exact hP, va_K.moved hW.alike hK, hD⟩, hS.F ht⟩) hS.2.2 d_La_then_20 (hlocks := B.notSynchronized))
    rw [if_neg h1] at hf
    by_cases h2 : E = "java/lang/UnsupportedOperationException"
    · subst h2
      rw [if_pos rfl] at hf
      have hr := (Option.some.inj hf).symm
      refine vx_catch (name := "java/lang/UnsupportedOperationException") hown [⟨0, 10, 13, 13⟩, ⟨0, 10, 17, 15⟩] ⟨0, 10, 21, 25⟩ [] htab (fun z hz => by
      simp only [List.mem_cons, List.not_mem_nil, or_false] at hz
      rcases hz with rfl | rfl
      · exact Or.inr ⟨by decide, "java/lang/IllegalArgumentException", hts _ cl_La_13, hC ("java/lang/UnsupportedOperationException", "java/lang/IllegalArgumentException") (by decide)⟩
      · exact Or.inr ⟨by decide, "java/lang/IndexOutOfBoundsException", hts _ cl_La_15, hC ("java/lang/UnsupportedOperationException", "java/lang/IndexOutOfBoundsException") (by decide)⟩
      ) rfl (by decide) (hts _ cl_La_25) (va_Nw.use rfl (hZ.2.2.2 _ (by decide +kernel))) hq1 hq2 hq3 ?_
      refine lv_astore (lv' := [(4, .ref q9), (0, .ref xq), (1, .int p0), (2, .int p1), (3, .ref lq)]) hx hb d_La_then_21 hl (by decide) rfl (fun ls hl => ?_)
      refine lv_iconst (v := 3) hx hb d_La_then_23 (by decide) ?_
      exact vx_ret (W.iret hx hb B.returns (fun t ht hW => Or.inl ⟨_, hr, ⟨g, rfl, by rw [ht]; exact hP, va_K.moved hW.alike hK, hD⟩, hS.F ht⟩) hS.2.2 d_La_then_24 (hlocks := B.notSynchronized))
    rw [if_neg h2] at hf
    exact nomatch hf
  · subst ev
    have hr := (Option.some.inj hf).symm
    obtain ⟨hP, hD⟩ := va_keepR hP hD (va_sub (vdL hD) hS hA) hk1 hP1 hD1
    have hS := hS1
    generalize H1 = H at hP hS ⊢
    refine lv_i2l (v := v.1.toInt64) hx hb d_La_then_8 rfl ?_
    refine va_last hx hb hK hP hD hS 15 1 rfl rfl (gin_in (by decide)) d_La_then_9 (fun H locs hP hD hS => ?_)
    refine lv_goto (tgt := 25) hx hb d_La_then_10 (by decide) ?_
    refine lv_iconst (v := 0) hx hb d_La_then_25 (by decide) ?_
    exact vx_ret (W.iret hx hb B.returns (fun t ht hW => Or.inr ⟨_, hr, ⟨g, rfl, by rw [ht]; exact hP, va_K.moved hW.alike hK, hD⟩, hS.F ht⟩) hS.2.2 d_La_then_26 (hlocks := B.notSynchronized))
def f_La_or (n : Nat) (p0 : Int32) (p1 : Int32) (xLang : Nat → Option Nat) (xCount : Int32) (kHeads : Nat → Int32) (kTails : Nat → Int64) (kNext : Nat → Int32) (kSlots : Nat → Int32) (kReached : Int32) (kClassOf : Nat → Int32) (kFinerOf : Nat → Int32) (kMarkOf : Nat → Int32) (kFirstOf : Nat → Int32) (kMarkSlots : Nat → Int32) (kClasses : Int32) (T : auTab) (oF : Nat → Int64) : Option ((Int32 × ((Nat → Int32) × (Nat → Int64) × (Nat → Int32) × (Nat → Int32) × Int32 × (Nat → Int32) × (Nat → Int32) × (Nat → Int32) × (Nat → Int32) × (Nat → Int32) × Int32)) ⊕ ((Nat → Int64) × (Int32 × auP × Int32 × (Nat → Int32) × (Nat → Int64) × (Nat → Int32) × (Nat → Int32) × Int32 × (Nat → Int32) × (Nat → Int32) × (Nat → Int32) × (Nat → Int32) × (Nat → Int32) × Int32))) :=
  (f_RS_or n p0 p1 xLang xCount kHeads kTails kNext kSlots kReached kClassOf kFinerOf kMarkOf kFirstOf kMarkSlots kClasses T).bind fun u => u.elim (fun x => if x.1 = "java/lang/IllegalArgumentException" then some (.inl (1, x.2)) else if x.1 = "java/lang/IndexOutOfBoundsException" then some (.inl (2, x.2)) else if x.1 = "java/lang/UnsupportedOperationException" then some (.inl (3, x.2)) else none) fun v => some (.inr (vp_updL oF (0 : Int32).toNatClampNeg v.1.toInt64, v))
set_option maxHeartbeats 400000 in
set_option maxRecDepth 100000 in
theorem c_La_or (l : Launch) (hl0 : l.stackTraces = false) {D : va_G} {K : Nat → ClassId} {T : auTab} {n : Nat} {xq : Nat} {xl : Nat} {mq : Nat} {cq : Nat} {iq : Nat} {sq : Nat} {m0 : Nat} {m1 : Nat} {m2 : Nat} {m3 : Nat} {m5 : Nat} {m6 : Nat} {m7 : Nat} {m8 : Nat} {m9 : Nat} {xLang : Nat → Option Nat} {xCount : Int32} {kHeads : Nat → Int32} {kTails : Nat → Int64} {kNext : Nat → Int32} {kSlots : Nat → Int32} {kReached : Int32} {kClassOf : Nat → Int32} {kFinerOf : Nat → Int32} {kMarkOf : Nat → Int32} {kFirstOf : Nat → Int32} {kMarkSlots : Nat → Int32} {kClasses : Int32} {p0 : Int32} {p1 : Int32} {lq : Nat} {oF : Nat → Int64} {r : (Int32 × ((Nat → Int32) × (Nat → Int64) × (Nat → Int32) × (Nat → Int32) × Int32 × (Nat → Int32) × (Nat → Int32) × (Nat → Int32) × (Nat → Int32) × (Nat → Int32) × Int32)) ⊕ ((Nat → Int64) × (Int32 × auP × Int32 × (Nat → Int32) × (Nat → Int64) × (Nat → Int32) × (Nat → Int32) × Int32 × (Nat → Int32) × (Nat → Int32) × (Nat → Int32) × (Nat → Int32) × (Nat → Int32) × Int32))} (sz : Nat) (hf : f_La_or n p0 p1 xLang xCount kHeads kTails kNext kSlots kReached kClassOf kFinerOf kMarkOf kFirstOf kMarkSlots kClasses T oF = some r) : vx_Met l y_La_or w0_La_or ({ frames := 8, cells := 8, slots := 353, locals := 135 }) (yPre D K T [.ref xq, .int p0, .int p1, .ref lq] (((rsW K xq xl mq cq iq sq xLang xCount) ++ (mkW K mq m0 m1 m2 m3 m5 m6 m7 m8 m9 kHeads kTails kNext kSlots kReached kClassOf kFinerOf kMarkOf kFirstOf kMarkSlots kClasses)) ++ (laW K lq 1 oF)) 60 xLang sz) (yPost D K r (fun u (g : Nat × Nat) => (((rsW K xq xl mq cq iq sq xLang xCount) ++ (mkW K mq m0 m1 m2 m3 g.1 g.2 m7 m8 m9 u.1 u.2.1 u.2.2.1 u.2.2.2.1 u.2.2.2.2.1 u.2.2.2.2.2.1 u.2.2.2.2.2.2.1 u.2.2.2.2.2.2.2.1 u.2.2.2.2.2.2.2.2.1 u.2.2.2.2.2.2.2.2.2.1 u.2.2.2.2.2.2.2.2.2.2)) ++ (laW K lq 1 oF))) (fun v (g : Nat × Nat × Nat × Nat × Nat) => ((((rsW K xq xl mq cq iq sq (va_up xLang xCount.toNatClampNeg (some g.2.2.1)) v.2.2.2.1) ++ (mkW K mq m0 m1 m2 m3 g.1 g.2.1 m7 m8 m9 v.2.2.2.2.1 v.2.2.2.2.2.1 v.2.2.2.2.2.2.1 v.2.2.2.2.2.2.2.1 v.2.2.2.2.2.2.2.2.1 v.2.2.2.2.2.2.2.2.2.1 v.2.2.2.2.2.2.2.2.2.2.1 v.2.2.2.2.2.2.2.2.2.2.2.1 v.2.2.2.2.2.2.2.2.2.2.2.2.1 v.2.2.2.2.2.2.2.2.2.2.2.2.2.1 v.2.2.2.2.2.2.2.2.2.2.2.2.2.2)) ++ (auW K g.2.2.1 g.2.2.2.1 g.2.2.2.2 v.2.2.1.1 (4 * v.2.2.1.1).toNatClampNeg v.2.2.1.2.2.1 v.2.2.1.2.1 v.2.2.1.2.2.2)) ++ (laW K lq 1 v.1))) (va_A (((rsW K xq xl mq cq iq sq xLang xCount) ++ (mkW K mq m0 m1 m2 m3 m5 m6 m7 m8 m9 kHeads kTails kNext kSlots kReached kClassOf kFinerOf kMarkOf kFirstOf kMarkSlots kClasses)) ++ (laW K lq 1 oF)) sz)) (fun _ _ _ => False) 8 353 (va_A (((rsW K xq xl mq cq iq sq xLang xCount) ++ (mkW K mq m0 m1 m2 m3 m5 m6 m7 m8 m9 kHeads kTails kNext kSlots kReached kClassOf kFinerOf kMarkOf kFirstOf kMarkSlots kClasses)) ++ (laW K lq 1 oF)) sz) := by
  unfold f_La_or at hf
  obtain ⟨u, eu, hf⟩ := obd hf
  refine vx_ofWH (cc := b_La_or) (maxL := 5) (ret := (some .int)) (hh := [(0, 10, 13, 13), (0, 10, 17, 15), (0, 10, 21, 25)]) (by decide) rfl ?_
  intro p e s m args below meth c s₁ B hml hv
  obtain ⟨⟨⟨rfl, hsz, hP, hK, hD0⟩, hX, hZ, hT0⟩, hC⟩ := hv
  subst hsz
  have hx := B.exec
  have hb := B.bytes
  have hts : ∀ w ∈ gW, w.before _ s = true := fun w hw => atoms_spec (ws := w0_La_or) B.pre w (List.mem_cons_of_mem _ hw)
  have htab : c.exceptionTable.toList = tableOf [(0, 10, 13, 13), (0, 10, 17, 15), (0, 10, 21, 25)] := vx_table (x := y_La_or) B (atoms_spec (ws := w0_La_or) B.pre _ List.mem_cons_self)
  have hown : s.vm.findClass "RegularSolverLaw" = some m.cls := findClass_of_methodNamed B.named
  have hD := hD0.self (sz := s.heap.size)
  generalize hAe : va_A (((rsW K xq xl mq cq iq sq xLang xCount) ++ (mkW K mq m0 m1 m2 m3 m5 m6 m7 m8 m9 kHeads kTails kNext kSlots kReached kClassOf kFinerOf kMarkOf kFirstOf kMarkSlots kClasses)) ++ (laW K lq 1 oF)) s.heap.size = A at hD hZ hT0 ⊢
  have hA : ∀ q : Nat, s.heap.size ≤ q → A q := fun q h => by rw [← hAe]; exact Or.inr h
  have hS : va_S A s.heap s.heap [] := va_S.rf
  have hl := lv_entry [.ref xq, .int p0, .int p1, .ref lq] (n := 5) (Nat.le_of_ble_eq_true rfl)
  rw [lg_entry_eq]
  generalize (lg_sl [.ref xq, .int p0, .int p1, .ref lq] ++ List.replicate (5 - (lg_sl [.ref xq, .int p0, .int p1, .ref lq]).length) Slot.unset).toArray = ls at hl ⊢
  refine x_gen (P := fun H => W p l e _ s m _ below meth c H [] 0 0 _ _) ?_
  intro H hHe
  rw [← hHe] at hP
  have hS : va_S A s.heap H [] := by rw [hHe]; exact hS
  have hT0 : ∀ (q i : Nat), i < 60 → xLang i = some q → va_P D vwCl (auT K T q) H ∧ gAw A (auT K T q) := by rw [hHe]; exact hT0
  refine lv_aload_n hx hb d_La_or_0 rfl (lv_at hl 3 rfl) ?_
  refine lv_iconst (v := 0) hx hb d_La_or_1 (by decide) ?_
  refine lv_aload_n hx hb d_La_or_2 rfl (lv_at hl 0 rfl) ?_
  refine lv_iload_n hx hb d_La_or_3 rfl (lv_at hl 1 rfl) ?_
  refine lv_iload_n hx hb d_La_or_4 rfl (lv_at hl 2 rfl) ?_
  refine x_call (vx_runV (As := [.int p0, .int p1]) (rest := [.int 0, .ref lq]) ⟨hx, hb, hml, hown, hts⟩ (c_RS_or l hl0 H.size eu) (gV 2 hts cd_RS_or ml_La_27 im_RS_or se_RS_or ini_RS rfl rfl pd_RS_or ⟨Nat.le_of_ble_eq_true rfl, Nat.le_of_ble_eq_true rfl⟩) ⟨xPre_blind, va_recv hK (vaL (vaL hP)) (ci := 10) (q0 := 0) rfl rfl, xPre_of (vaL hP) hK (vdL hD) hS hA hX hZ hT0⟩ rfl rfl hl.1 rfl (lv_room (Nat.le_of_ble_eq_true rfl)) d_La_or_5 ⟨(by decide : 0 + 8 ≤ 8), (by decide : 0 + 353 ≤ 353)⟩) (vdL hD) hS hA (fun E x ex g ce q9 H1 locs hP1 hD1 hk1 hS1 hq1 hq2 hq3 => ?_) (fun v ev g H1 locs hP1 hD1 hk1 hS1 => ?_)
  · subst ex
    obtain ⟨hP, hD⟩ := va_keepR hP hD (va_sub (vdL hD) hS hA) hk1 hP1 hD1
    have hS := hS1
    generalize H1 = H at hP hS hq1 ⊢
    replace hf : (if E = "java/lang/IllegalArgumentException" then some (.inl (1, x)) else if E = "java/lang/IndexOutOfBoundsException" then some (.inl (2, x)) else if E = "java/lang/UnsupportedOperationException" then some (.inl (3, x)) else none) = some r := hf
    by_cases h0 : E = "java/lang/IllegalArgumentException"
    · subst h0
      rw [if_pos rfl] at hf
      have hr := (Option.some.inj hf).symm
      refine vx_catch (name := "java/lang/IllegalArgumentException") hown [] ⟨0, 10, 13, 13⟩ [⟨0, 10, 17, 15⟩, ⟨0, 10, 21, 25⟩] htab (fun z hz => nomatch hz) rfl (by decide) (hts _ cl_La_13) (va_Nw.use rfl (hZ.2.2.2 _ (by decide +kernel))) hq1 hq2 hq3 ?_
      refine lv_astore (lv' := [(4, .ref q9), (0, .ref xq), (1, .int p0), (2, .int p1), (3, .ref lq)]) hx hb d_La_or_13 hl (by decide) rfl (fun ls hl => ?_)
      refine lv_iconst (v := 1) hx hb d_La_or_15 (by decide) ?_
      exact vx_ret (W.iret hx hb B.returns (fun t ht hW => Or.inl ⟨_, hr, ⟨g, rfl, by rw [ht]; exact hP, va_K.moved hW.alike hK, hD⟩, hS.F ht⟩) hS.2.2 d_La_or_16 (hlocks := B.notSynchronized))
    rw [if_neg h0] at hf
    by_cases h1 : E = "java/lang/IndexOutOfBoundsException"
    · subst h1
      rw [if_pos rfl] at hf
      have hr := (Option.some.inj hf).symm
      refine vx_catch (name := "java/lang/IndexOutOfBoundsException") hown [⟨0, 10, 13, 13⟩] ⟨0, 10, 17, 15⟩ [⟨0, 10, 21, 25⟩] htab (fun z hz => by simp only [List.mem_cons, List.not_mem_nil, or_false] at hz; rcases hz with rfl; exact Or.inr ⟨by decide, "java/lang/IllegalArgumentException", hts _ cl_La_13, hC ("java/lang/IndexOutOfBoundsException", "java/lang/IllegalArgumentException") (by decide)⟩) rfl (by decide) (hts _ cl_La_15) (va_Nw.use rfl (hZ.2.2.2 _ (by decide +kernel))) hq1 hq2 hq3 ?_
      refine lv_astore (lv' := [(4, .ref q9), (0, .ref xq), (1, .int p0), (2, .int p1), (3, .ref lq)]) hx hb d_La_or_17 hl (by decide) rfl (fun ls hl => ?_)
      refine lv_iconst (v := 2) hx hb d_La_or_19 (by decide) ?_
      exact vx_ret (W.iret hx hb B.returns (fun t ht hW => Or.inl ⟨_, hr, ⟨g, rfl, by rw [ht]; exact hP, va_K.moved hW.alike hK, hD⟩, hS.F ht⟩) hS.2.2 d_La_or_20 (hlocks := B.notSynchronized))
    rw [if_neg h1] at hf
    by_cases h2 : E = "java/lang/UnsupportedOperationException"
    · subst h2
      rw [if_pos rfl] at hf
      have hr := (Option.some.inj hf).symm
      refine vx_catch (name := "java/lang/UnsupportedOperationException") hown [⟨0, 10, 13, 13⟩, ⟨0, 10, 17, 15⟩] ⟨0, 10, 21, 25⟩ [] htab (fun z hz => by
      simp only [List.mem_cons, List.not_mem_nil, or_false] at hz
      rcases hz with rfl | rfl
      · exact Or.inr ⟨by decide, "java/lang/IllegalArgumentException", hts _ cl_La_13, hC ("java/lang/UnsupportedOperationException", "java/lang/IllegalArgumentException") (by decide)⟩
      · exact Or.inr ⟨by decide, "java/lang/IndexOutOfBoundsException", hts _ cl_La_15, hC ("java/lang/UnsupportedOperationException", "java/lang/IndexOutOfBoundsException") (by decide)⟩
      ) rfl (by decide) (hts _ cl_La_25) (va_Nw.use rfl (hZ.2.2.2 _ (by decide +kernel))) hq1 hq2 hq3 ?_
      refine lv_astore (lv' := [(4, .ref q9), (0, .ref xq), (1, .int p0), (2, .int p1), (3, .ref lq)]) hx hb d_La_or_21 hl (by decide) rfl (fun ls hl => ?_)
      refine lv_iconst (v := 3) hx hb d_La_or_23 (by decide) ?_
      exact vx_ret (W.iret hx hb B.returns (fun t ht hW => Or.inl ⟨_, hr, ⟨g, rfl, by rw [ht]; exact hP, va_K.moved hW.alike hK, hD⟩, hS.F ht⟩) hS.2.2 d_La_or_24 (hlocks := B.notSynchronized))
    rw [if_neg h2] at hf
    exact nomatch hf
  · subst ev
    have hr := (Option.some.inj hf).symm
    obtain ⟨hP, hD⟩ := va_keepR hP hD (va_sub (vdL hD) hS hA) hk1 hP1 hD1
    have hS := hS1
    generalize H1 = H at hP hS ⊢
    refine lv_i2l (v := v.1.toInt64) hx hb d_La_or_8 rfl ?_
    refine va_last hx hb hK hP hD hS 15 1 rfl rfl (gin_in (by decide)) d_La_or_9 (fun H locs hP hD hS => ?_)
    refine lv_goto (tgt := 25) hx hb d_La_or_10 (by decide) ?_
    refine lv_iconst (v := 0) hx hb d_La_or_25 (by decide) ?_
    exact vx_ret (W.iret hx hb B.returns (fun t ht hW => Or.inr ⟨_, hr, ⟨g, rfl, by rw [ht]; exact hP, va_K.moved hW.alike hK, hD⟩, hS.F ht⟩) hS.2.2 d_La_or_26 (hlocks := B.notSynchronized))
def f_La_and (n : Nat) (p0 : Int32) (p1 : Int32) (xLang : Nat → Option Nat) (xCount : Int32) (kHeads : Nat → Int32) (kTails : Nat → Int64) (kNext : Nat → Int32) (kSlots : Nat → Int32) (kReached : Int32) (kClassOf : Nat → Int32) (kFinerOf : Nat → Int32) (kMarkOf : Nat → Int32) (kFirstOf : Nat → Int32) (kMarkSlots : Nat → Int32) (kClasses : Int32) (T : auTab) (oF : Nat → Int64) : Option ((Int32 × ((Nat → Int32) × (Nat → Int64) × (Nat → Int32) × (Nat → Int32) × Int32 × (Nat → Int32) × (Nat → Int32) × (Nat → Int32) × (Nat → Int32) × (Nat → Int32) × Int32)) ⊕ ((Nat → Int64) × (Int32 × auP × Int32 × (Nat → Int32) × (Nat → Int64) × (Nat → Int32) × (Nat → Int32) × Int32 × (Nat → Int32) × (Nat → Int32) × (Nat → Int32) × (Nat → Int32) × (Nat → Int32) × Int32))) :=
  (f_RS_and n p0 p1 xLang xCount kHeads kTails kNext kSlots kReached kClassOf kFinerOf kMarkOf kFirstOf kMarkSlots kClasses T).bind fun u => u.elim (fun x => if x.1 = "java/lang/IllegalArgumentException" then some (.inl (1, x.2)) else if x.1 = "java/lang/IndexOutOfBoundsException" then some (.inl (2, x.2)) else if x.1 = "java/lang/UnsupportedOperationException" then some (.inl (3, x.2)) else none) fun v => some (.inr (vp_updL oF (0 : Int32).toNatClampNeg v.1.toInt64, v))
set_option maxHeartbeats 400000 in
set_option maxRecDepth 100000 in
theorem c_La_and (l : Launch) (hl0 : l.stackTraces = false) {D : va_G} {K : Nat → ClassId} {T : auTab} {n : Nat} {xq : Nat} {xl : Nat} {mq : Nat} {cq : Nat} {iq : Nat} {sq : Nat} {m0 : Nat} {m1 : Nat} {m2 : Nat} {m3 : Nat} {m5 : Nat} {m6 : Nat} {m7 : Nat} {m8 : Nat} {m9 : Nat} {xLang : Nat → Option Nat} {xCount : Int32} {kHeads : Nat → Int32} {kTails : Nat → Int64} {kNext : Nat → Int32} {kSlots : Nat → Int32} {kReached : Int32} {kClassOf : Nat → Int32} {kFinerOf : Nat → Int32} {kMarkOf : Nat → Int32} {kFirstOf : Nat → Int32} {kMarkSlots : Nat → Int32} {kClasses : Int32} {p0 : Int32} {p1 : Int32} {lq : Nat} {oF : Nat → Int64} {r : (Int32 × ((Nat → Int32) × (Nat → Int64) × (Nat → Int32) × (Nat → Int32) × Int32 × (Nat → Int32) × (Nat → Int32) × (Nat → Int32) × (Nat → Int32) × (Nat → Int32) × Int32)) ⊕ ((Nat → Int64) × (Int32 × auP × Int32 × (Nat → Int32) × (Nat → Int64) × (Nat → Int32) × (Nat → Int32) × Int32 × (Nat → Int32) × (Nat → Int32) × (Nat → Int32) × (Nat → Int32) × (Nat → Int32) × Int32))} (sz : Nat) (hf : f_La_and n p0 p1 xLang xCount kHeads kTails kNext kSlots kReached kClassOf kFinerOf kMarkOf kFirstOf kMarkSlots kClasses T oF = some r) : vx_Met l y_La_and w0_La_and ({ frames := 8, cells := 8, slots := 353, locals := 135 }) (yPre D K T [.ref xq, .int p0, .int p1, .ref lq] (((rsW K xq xl mq cq iq sq xLang xCount) ++ (mkW K mq m0 m1 m2 m3 m5 m6 m7 m8 m9 kHeads kTails kNext kSlots kReached kClassOf kFinerOf kMarkOf kFirstOf kMarkSlots kClasses)) ++ (laW K lq 1 oF)) 60 xLang sz) (yPost D K r (fun u (g : Nat × Nat) => (((rsW K xq xl mq cq iq sq xLang xCount) ++ (mkW K mq m0 m1 m2 m3 g.1 g.2 m7 m8 m9 u.1 u.2.1 u.2.2.1 u.2.2.2.1 u.2.2.2.2.1 u.2.2.2.2.2.1 u.2.2.2.2.2.2.1 u.2.2.2.2.2.2.2.1 u.2.2.2.2.2.2.2.2.1 u.2.2.2.2.2.2.2.2.2.1 u.2.2.2.2.2.2.2.2.2.2)) ++ (laW K lq 1 oF))) (fun v (g : Nat × Nat × Nat × Nat × Nat) => ((((rsW K xq xl mq cq iq sq (va_up xLang xCount.toNatClampNeg (some g.2.2.1)) v.2.2.2.1) ++ (mkW K mq m0 m1 m2 m3 g.1 g.2.1 m7 m8 m9 v.2.2.2.2.1 v.2.2.2.2.2.1 v.2.2.2.2.2.2.1 v.2.2.2.2.2.2.2.1 v.2.2.2.2.2.2.2.2.1 v.2.2.2.2.2.2.2.2.2.1 v.2.2.2.2.2.2.2.2.2.2.1 v.2.2.2.2.2.2.2.2.2.2.2.1 v.2.2.2.2.2.2.2.2.2.2.2.2.1 v.2.2.2.2.2.2.2.2.2.2.2.2.2.1 v.2.2.2.2.2.2.2.2.2.2.2.2.2.2)) ++ (auW K g.2.2.1 g.2.2.2.1 g.2.2.2.2 v.2.2.1.1 (4 * v.2.2.1.1).toNatClampNeg v.2.2.1.2.2.1 v.2.2.1.2.1 v.2.2.1.2.2.2)) ++ (laW K lq 1 v.1))) (va_A (((rsW K xq xl mq cq iq sq xLang xCount) ++ (mkW K mq m0 m1 m2 m3 m5 m6 m7 m8 m9 kHeads kTails kNext kSlots kReached kClassOf kFinerOf kMarkOf kFirstOf kMarkSlots kClasses)) ++ (laW K lq 1 oF)) sz)) (fun _ _ _ => False) 8 353 (va_A (((rsW K xq xl mq cq iq sq xLang xCount) ++ (mkW K mq m0 m1 m2 m3 m5 m6 m7 m8 m9 kHeads kTails kNext kSlots kReached kClassOf kFinerOf kMarkOf kFirstOf kMarkSlots kClasses)) ++ (laW K lq 1 oF)) sz) := by
  unfold f_La_and at hf
  obtain ⟨u, eu, hf⟩ := obd hf
  refine vx_ofWH (cc := b_La_and) (maxL := 5) (ret := (some .int)) (hh := [(0, 10, 13, 13), (0, 10, 17, 15), (0, 10, 21, 25)]) (by decide) rfl ?_
  intro p e s m args below meth c s₁ B hml hv
  obtain ⟨⟨⟨rfl, hsz, hP, hK, hD0⟩, hX, hZ, hT0⟩, hC⟩ := hv
  subst hsz
  have hx := B.exec
  have hb := B.bytes
  have hts : ∀ w ∈ gW, w.before _ s = true := fun w hw => atoms_spec (ws := w0_La_and) B.pre w (List.mem_cons_of_mem _ hw)
  have htab : c.exceptionTable.toList = tableOf [(0, 10, 13, 13), (0, 10, 17, 15), (0, 10, 21, 25)] := vx_table (x := y_La_and) B (atoms_spec (ws := w0_La_and) B.pre _ List.mem_cons_self)
  have hown : s.vm.findClass "RegularSolverLaw" = some m.cls := findClass_of_methodNamed B.named
  have hD := hD0.self (sz := s.heap.size)
  generalize hAe : va_A (((rsW K xq xl mq cq iq sq xLang xCount) ++ (mkW K mq m0 m1 m2 m3 m5 m6 m7 m8 m9 kHeads kTails kNext kSlots kReached kClassOf kFinerOf kMarkOf kFirstOf kMarkSlots kClasses)) ++ (laW K lq 1 oF)) s.heap.size = A at hD hZ hT0 ⊢
  have hA : ∀ q : Nat, s.heap.size ≤ q → A q := fun q h => by rw [← hAe]; exact Or.inr h
  have hS : va_S A s.heap s.heap [] := va_S.rf
  have hl := lv_entry [.ref xq, .int p0, .int p1, .ref lq] (n := 5) (Nat.le_of_ble_eq_true rfl)
  rw [lg_entry_eq]
  generalize (lg_sl [.ref xq, .int p0, .int p1, .ref lq] ++ List.replicate (5 - (lg_sl [.ref xq, .int p0, .int p1, .ref lq]).length) Slot.unset).toArray = ls at hl ⊢
  refine x_gen (P := fun H => W p l e _ s m _ below meth c H [] 0 0 _ _) ?_
  intro H hHe
  rw [← hHe] at hP
  have hS : va_S A s.heap H [] := by rw [hHe]; exact hS
  have hT0 : ∀ (q i : Nat), i < 60 → xLang i = some q → va_P D vwCl (auT K T q) H ∧ gAw A (auT K T q) := by rw [hHe]; exact hT0
  refine lv_aload_n hx hb d_La_and_0 rfl (lv_at hl 3 rfl) ?_
  refine lv_iconst (v := 0) hx hb d_La_and_1 (by decide) ?_
  refine lv_aload_n hx hb d_La_and_2 rfl (lv_at hl 0 rfl) ?_
  refine lv_iload_n hx hb d_La_and_3 rfl (lv_at hl 1 rfl) ?_
  refine lv_iload_n hx hb d_La_and_4 rfl (lv_at hl 2 rfl) ?_
  refine x_call (vx_runV (As := [.int p0, .int p1]) (rest := [.int 0, .ref lq]) ⟨hx, hb, hml, hown, hts⟩ (c_RS_and l hl0 H.size eu) (gV 2 hts cd_RS_and ml_La_30 im_RS_and se_RS_and ini_RS rfl rfl pd_RS_and ⟨Nat.le_of_ble_eq_true rfl, Nat.le_of_ble_eq_true rfl⟩) ⟨xPre_blind, va_recv hK (vaL (vaL hP)) (ci := 10) (q0 := 0) rfl rfl, xPre_of (vaL hP) hK (vdL hD) hS hA hX hZ hT0⟩ rfl rfl hl.1 rfl (lv_room (Nat.le_of_ble_eq_true rfl)) d_La_and_5 ⟨(by decide : 0 + 8 ≤ 8), (by decide : 0 + 353 ≤ 353)⟩) (vdL hD) hS hA (fun E x ex g ce q9 H1 locs hP1 hD1 hk1 hS1 hq1 hq2 hq3 => ?_) (fun v ev g H1 locs hP1 hD1 hk1 hS1 => ?_)
  · subst ex
    obtain ⟨hP, hD⟩ := va_keepR hP hD (va_sub (vdL hD) hS hA) hk1 hP1 hD1
    have hS := hS1
    generalize H1 = H at hP hS hq1 ⊢
    replace hf : (if E = "java/lang/IllegalArgumentException" then some (.inl (1, x)) else if E = "java/lang/IndexOutOfBoundsException" then some (.inl (2, x)) else if E = "java/lang/UnsupportedOperationException" then some (.inl (3, x)) else none) = some r := hf
    by_cases h0 : E = "java/lang/IllegalArgumentException"
    · subst h0
      rw [if_pos rfl] at hf
      have hr := (Option.some.inj hf).symm
      refine vx_catch (name := "java/lang/IllegalArgumentException") hown [] ⟨0, 10, 13, 13⟩ [⟨0, 10, 17, 15⟩, ⟨0, 10, 21, 25⟩] htab (fun z hz => nomatch hz) rfl (by decide) (hts _ cl_La_13) (va_Nw.use rfl (hZ.2.2.2 _ (by decide +kernel))) hq1 hq2 hq3 ?_
      refine lv_astore (lv' := [(4, .ref q9), (0, .ref xq), (1, .int p0), (2, .int p1), (3, .ref lq)]) hx hb d_La_and_13 hl (by decide) rfl (fun ls hl => ?_)
      refine lv_iconst (v := 1) hx hb d_La_and_15 (by decide) ?_
      exact vx_ret (W.iret hx hb B.returns (fun t ht hW => Or.inl ⟨_, hr, ⟨g, rfl, by rw [ht]; exact hP, va_K.moved hW.alike hK, hD⟩, hS.F ht⟩) hS.2.2 d_La_and_16 (hlocks := B.notSynchronized))
    rw [if_neg h0] at hf
    by_cases h1 : E = "java/lang/IndexOutOfBoundsException"
    · subst h1
      rw [if_pos rfl] at hf
      have hr := (Option.some.inj hf).symm
      refine vx_catch (name := "java/lang/IndexOutOfBoundsException") hown [⟨0, 10, 13, 13⟩] ⟨0, 10, 17, 15⟩ [⟨0, 10, 21, 25⟩] htab (fun z hz => by simp only [List.mem_cons, List.not_mem_nil, or_false] at hz; rcases hz with rfl; exact Or.inr ⟨by decide, "java/lang/IllegalArgumentException", hts _ cl_La_13, hC ("java/lang/IndexOutOfBoundsException", "java/lang/IllegalArgumentException") (by decide)⟩) rfl (by decide) (hts _ cl_La_15) (va_Nw.use rfl (hZ.2.2.2 _ (by decide +kernel))) hq1 hq2 hq3 ?_
      refine lv_astore (lv' := [(4, .ref q9), (0, .ref xq), (1, .int p0), (2, .int p1), (3, .ref lq)]) hx hb d_La_and_17 hl (by decide) rfl (fun ls hl => ?_)
      refine lv_iconst (v := 2) hx hb d_La_and_19 (by decide) ?_
      exact vx_ret (W.iret hx hb B.returns (fun t ht hW => Or.inl ⟨_, hr, ⟨g, rfl, by rw [ht]; exact hP, va_K.moved hW.alike hK, hD⟩, hS.F ht⟩) hS.2.2 d_La_and_20 (hlocks := B.notSynchronized))
    rw [if_neg h1] at hf
    by_cases h2 : E = "java/lang/UnsupportedOperationException"
    · subst h2
      rw [if_pos rfl] at hf
      have hr := (Option.some.inj hf).symm
      refine vx_catch (name := "java/lang/UnsupportedOperationException") hown [⟨0, 10, 13, 13⟩, ⟨0, 10, 17, 15⟩] ⟨0, 10, 21, 25⟩ [] htab (fun z hz => by
      simp only [List.mem_cons, List.not_mem_nil, or_false] at hz
      rcases hz with rfl | rfl
      · exact Or.inr ⟨by decide, "java/lang/IllegalArgumentException", hts _ cl_La_13, hC ("java/lang/UnsupportedOperationException", "java/lang/IllegalArgumentException") (by decide)⟩
      · exact Or.inr ⟨by decide, "java/lang/IndexOutOfBoundsException", hts _ cl_La_15, hC ("java/lang/UnsupportedOperationException", "java/lang/IndexOutOfBoundsException") (by decide)⟩
      ) rfl (by decide) (hts _ cl_La_25) (va_Nw.use rfl (hZ.2.2.2 _ (by decide +kernel))) hq1 hq2 hq3 ?_
      refine lv_astore (lv' := [(4, .ref q9), (0, .ref xq), (1, .int p0), (2, .int p1), (3, .ref lq)]) hx hb d_La_and_21 hl (by decide) rfl (fun ls hl => ?_)
      refine lv_iconst (v := 3) hx hb d_La_and_23 (by decide) ?_
      exact vx_ret (W.iret hx hb B.returns (fun t ht hW => Or.inl ⟨_, hr, ⟨g, rfl, by rw [ht]; exact hP, va_K.moved hW.alike hK, hD⟩, hS.F ht⟩) hS.2.2 d_La_and_24 (hlocks := B.notSynchronized))
    rw [if_neg h2] at hf
    exact nomatch hf
  · subst ev
    have hr := (Option.some.inj hf).symm
    obtain ⟨hP, hD⟩ := va_keepR hP hD (va_sub (vdL hD) hS hA) hk1 hP1 hD1
    have hS := hS1
    generalize H1 = H at hP hS ⊢
    refine lv_i2l (v := v.1.toInt64) hx hb d_La_and_8 rfl ?_
    refine va_last hx hb hK hP hD hS 15 1 rfl rfl (gin_in (by decide)) d_La_and_9 (fun H locs hP hD hS => ?_)
    refine lv_goto (tgt := 25) hx hb d_La_and_10 (by decide) ?_
    refine lv_iconst (v := 0) hx hb d_La_and_25 (by decide) ?_
    exact vx_ret (W.iret hx hb B.returns (fun t ht hW => Or.inr ⟨_, hr, ⟨g, rfl, by rw [ht]; exact hP, va_K.moved hW.alike hK, hD⟩, hS.F ht⟩) hS.2.2 d_La_and_26 (hlocks := B.notSynchronized))
def f_La_not (n : Nat) (p0 : Int32) (xLang : Nat → Option Nat) (xCount : Int32) (T : auTab) (oF : Nat → Int64) : Option ((Int32 × (Unit)) ⊕ ((Nat → Int64) × (Int32 × Nat × Int64 × (Nat → Int64) × Int32))) :=
  (f_RS_not n p0 xLang xCount T).bind fun u => u.elim (fun x => if x.1 = "java/lang/IllegalArgumentException" then some (.inl (1, x.2)) else if x.1 = "java/lang/IndexOutOfBoundsException" then some (.inl (2, x.2)) else none) fun v => some (.inr (vp_updL oF (0 : Int32).toNatClampNeg v.1.toInt64, v))
set_option maxHeartbeats 400000 in
set_option maxRecDepth 100000 in
theorem c_La_not (l : Launch) (hl0 : l.stackTraces = false) {D : va_G} {K : Nat → ClassId} {T : auTab} {n : Nat} {xq : Nat} {xl : Nat} {mq : Nat} {cq : Nat} {iq : Nat} {sq : Nat} {xLang : Nat → Option Nat} {xCount : Int32} {p0 : Int32} {lq : Nat} {oF : Nat → Int64} {r : (Int32 × (Unit)) ⊕ ((Nat → Int64) × (Int32 × Nat × Int64 × (Nat → Int64) × Int32))} (sz : Nat) (hf : f_La_not n p0 xLang xCount T oF = some r) : vx_Met l y_La_not w0_La_not ({ frames := 8, cells := 4, slots := 80, locals := 124 }) (yPre D K T [.ref xq, .int p0, .ref lq] ((rsW K xq xl mq cq iq sq xLang xCount) ++ (laW K lq 1 oF)) 60 xLang sz) (yPost D K r (fun u (g : Unit) => ((rsW K xq xl mq cq iq sq xLang xCount) ++ (laW K lq 1 oF))) (fun v (g : Nat × Nat) => (((rsW K xq xl mq cq iq sq (va_up xLang xCount.toNatClampNeg (some g.1)) v.2.2.2.2.2) ++ (auoW K g.1 (T v.2.2.1).1 g.2 (T v.2.2.1).2.2.1 v.2.2.2.1 v.2.2.2.2.1)) ++ (laW K lq 1 v.1))) (va_A ((rsW K xq xl mq cq iq sq xLang xCount) ++ (laW K lq 1 oF)) sz)) (fun _ _ _ => False) 4 80 (va_A ((rsW K xq xl mq cq iq sq xLang xCount) ++ (laW K lq 1 oF)) sz) := by
  unfold f_La_not at hf
  obtain ⟨u, eu, hf⟩ := obd hf
  refine vx_ofWH (cc := b_La_not) (maxL := 4) (ret := (some .int)) (hh := [(0, 9, 12, 13), (0, 9, 15, 15)]) (by decide) rfl ?_
  intro p e s m args below meth c s₁ B hml hv
  obtain ⟨⟨⟨rfl, hsz, hP, hK, hD0⟩, hX, hZ, hT0⟩, hC⟩ := hv
  subst hsz
  have hx := B.exec
  have hb := B.bytes
  have hts : ∀ w ∈ gW, w.before _ s = true := fun w hw => atoms_spec (ws := w0_La_not) B.pre w (List.mem_cons_of_mem _ hw)
  have htab : c.exceptionTable.toList = tableOf [(0, 9, 12, 13), (0, 9, 15, 15)] := vx_table (x := y_La_not) B (atoms_spec (ws := w0_La_not) B.pre _ List.mem_cons_self)
  have hown : s.vm.findClass "RegularSolverLaw" = some m.cls := findClass_of_methodNamed B.named
  have hD := hD0.self (sz := s.heap.size)
  generalize hAe : va_A ((rsW K xq xl mq cq iq sq xLang xCount) ++ (laW K lq 1 oF)) s.heap.size = A at hD hZ hT0 ⊢
  have hA : ∀ q : Nat, s.heap.size ≤ q → A q := fun q h => by rw [← hAe]; exact Or.inr h
  have hS : va_S A s.heap s.heap [] := va_S.rf
  have hl := lv_entry [.ref xq, .int p0, .ref lq] (n := 4) (Nat.le_of_ble_eq_true rfl)
  rw [lg_entry_eq]
  generalize (lg_sl [.ref xq, .int p0, .ref lq] ++ List.replicate (4 - (lg_sl [.ref xq, .int p0, .ref lq]).length) Slot.unset).toArray = ls at hl ⊢
  refine x_gen (P := fun H => W p l e _ s m _ below meth c H [] 0 0 _ _) ?_
  intro H hHe
  rw [← hHe] at hP
  have hS : va_S A s.heap H [] := by rw [hHe]; exact hS
  have hT0 : ∀ (q i : Nat), i < 60 → xLang i = some q → va_P D vwCl (auT K T q) H ∧ gAw A (auT K T q) := by rw [hHe]; exact hT0
  refine lv_aload_n hx hb d_La_not_0 rfl (lv_at hl 2 rfl) ?_
  refine lv_iconst (v := 0) hx hb d_La_not_1 (by decide) ?_
  refine lv_aload_n hx hb d_La_not_2 rfl (lv_at hl 0 rfl) ?_
  refine lv_iload_n hx hb d_La_not_3 rfl (lv_at hl 1 rfl) ?_
  refine x_call (vx_runV (As := [.int p0]) (rest := [.int 0, .ref lq]) ⟨hx, hb, hml, hown, hts⟩ (c_RS_not l hl0 H.size eu) (gV 1 hts cd_RS_not ml_La_33 im_RS_not se_RS_not ini_RS rfl rfl pd_RS_not ⟨Nat.le_of_ble_eq_true rfl, Nat.le_of_ble_eq_true rfl⟩) ⟨xPre_blind, va_recv hK (vaL hP) (ci := 10) (q0 := 0) rfl rfl, xPre_of (vaL hP) hK (vdL hD) hS hA hX hZ hT0⟩ rfl rfl hl.1 rfl (lv_room (Nat.le_of_ble_eq_true rfl)) d_La_not_4 ⟨(by decide : 0 + 4 ≤ 4), (by decide : 0 + 80 ≤ 80)⟩) (vdL hD) hS hA (fun E x ex g ce q9 H1 locs hP1 hD1 hk1 hS1 hq1 hq2 hq3 => ?_) (fun v ev g H1 locs hP1 hD1 hk1 hS1 => ?_)
  · subst ex
    obtain ⟨hP, hD⟩ := va_keepR hP hD (va_sub (vdL hD) hS hA) hk1 hP1 hD1
    have hS := hS1
    generalize H1 = H at hP hS hq1 ⊢
    replace hf : (if E = "java/lang/IllegalArgumentException" then some (.inl (1, x)) else if E = "java/lang/IndexOutOfBoundsException" then some (.inl (2, x)) else none) = some r := hf
    by_cases h0 : E = "java/lang/IllegalArgumentException"
    · subst h0
      rw [if_pos rfl] at hf
      have hr := (Option.some.inj hf).symm
      refine vx_catch (name := "java/lang/IllegalArgumentException") hown [] ⟨0, 9, 12, 13⟩ [⟨0, 9, 15, 15⟩] htab (fun z hz => nomatch hz) rfl (by decide) (hts _ cl_La_13) (va_Nw.use rfl (hZ.2.2.2 _ (by decide +kernel))) hq1 hq2 hq3 ?_
      refine lv_astore_n (lv' := [(3, .ref q9), (0, .ref xq), (1, .int p0), (2, .ref lq)]) hx hb d_La_not_12 rfl hl (by decide) rfl (fun ls hl => ?_)
      refine lv_iconst (v := 1) hx hb d_La_not_13 (by decide) ?_
      exact vx_ret (W.iret hx hb B.returns (fun t ht hW => Or.inl ⟨_, hr, ⟨g, rfl, by rw [ht]; exact hP, va_K.moved hW.alike hK, hD⟩, hS.F ht⟩) hS.2.2 d_La_not_14 (hlocks := B.notSynchronized))
    rw [if_neg h0] at hf
    by_cases h1 : E = "java/lang/IndexOutOfBoundsException"
    · subst h1
      rw [if_pos rfl] at hf
      have hr := (Option.some.inj hf).symm
      refine vx_catch (name := "java/lang/IndexOutOfBoundsException") hown [⟨0, 9, 12, 13⟩] ⟨0, 9, 15, 15⟩ [] htab (fun z hz => by simp only [List.mem_cons, List.not_mem_nil, or_false] at hz; rcases hz with rfl; exact Or.inr ⟨by decide, "java/lang/IllegalArgumentException", hts _ cl_La_13, hC ("java/lang/IndexOutOfBoundsException", "java/lang/IllegalArgumentException") (by decide)⟩) rfl (by decide) (hts _ cl_La_15) (va_Nw.use rfl (hZ.2.2.2 _ (by decide +kernel))) hq1 hq2 hq3 ?_
      refine lv_astore_n (lv' := [(3, .ref q9), (0, .ref xq), (1, .int p0), (2, .ref lq)]) hx hb d_La_not_15 rfl hl (by decide) rfl (fun ls hl => ?_)
      refine lv_iconst (v := 2) hx hb d_La_not_16 (by decide) ?_
      exact vx_ret (W.iret hx hb B.returns (fun t ht hW => Or.inl ⟨_, hr, ⟨g, rfl, by rw [ht]; exact hP, va_K.moved hW.alike hK, hD⟩, hS.F ht⟩) hS.2.2 d_La_not_17 (hlocks := B.notSynchronized))
    rw [if_neg h1] at hf
    exact nomatch hf
  · subst ev
    have hr := (Option.some.inj hf).symm
    obtain ⟨hP, hD⟩ := va_keepR hP hD (va_sub (vdL hD) hS hA) hk1 hP1 hD1
    have hS := hS1
    generalize H1 = H at hP hS ⊢
    refine lv_i2l (v := v.1.toInt64) hx hb d_La_not_7 rfl ?_
    refine va_last hx hb hK hP hD hS 4 1 rfl rfl (gin_in (by decide)) d_La_not_8 (fun H locs hP hD hS => ?_)
    refine lv_goto (tgt := 18) hx hb d_La_not_9 (by decide) ?_
    refine lv_iconst (v := 0) hx hb d_La_not_18 (by decide) ?_
    exact vx_ret (W.iret hx hb B.returns (fun t ht hW => Or.inr ⟨_, hr, ⟨g, rfl, by rw [ht]; exact hP, va_K.moved hW.alike hK, hD⟩, hS.F ht⟩) hS.2.2 d_La_not_19 (hlocks := B.notSynchronized))
def f_La_again (n : Nat) (p0 : Int32) (xLang : Nat → Option Nat) (xCount : Int32) (kHeads : Nat → Int32) (kTails : Nat → Int64) (kNext : Nat → Int32) (kSlots : Nat → Int32) (kReached : Int32) (kClassOf : Nat → Int32) (kFinerOf : Nat → Int32) (kMarkOf : Nat → Int32) (kFirstOf : Nat → Int32) (kMarkSlots : Nat → Int32) (kClasses : Int32) (T : auTab) (oF : Nat → Int64) : Option ((Int32 × ((Nat → Int32) × (Nat → Int64) × (Nat → Int32) × (Nat → Int32) × Int32 × (Nat → Int32) × (Nat → Int32) × (Nat → Int32) × (Nat → Int32) × (Nat → Int32) × Int32)) ⊕ ((Nat → Int64) × (Int32 × auP × Int32 × (Nat → Int32) × (Nat → Int64) × (Nat → Int32) × (Nat → Int32) × Int32 × (Nat → Int32) × (Nat → Int32) × (Nat → Int32) × (Nat → Int32) × (Nat → Int32) × Int32))) :=
  (f_RS_again n p0 xLang xCount kHeads kTails kNext kSlots kReached kClassOf kFinerOf kMarkOf kFirstOf kMarkSlots kClasses T).bind fun u => u.elim (fun x => if x.1 = "java/lang/IllegalArgumentException" then some (.inl (1, x.2)) else if x.1 = "java/lang/IndexOutOfBoundsException" then some (.inl (2, x.2)) else if x.1 = "java/lang/UnsupportedOperationException" then some (.inl (3, x.2)) else none) fun v => some (.inr (vp_updL oF (0 : Int32).toNatClampNeg v.1.toInt64, v))
set_option maxHeartbeats 400000 in
set_option maxRecDepth 100000 in
theorem c_La_again (l : Launch) (hl0 : l.stackTraces = false) {D : va_G} {K : Nat → ClassId} {T : auTab} {n : Nat} {xq : Nat} {xl : Nat} {mq : Nat} {cq : Nat} {iq : Nat} {sq : Nat} {m0 : Nat} {m1 : Nat} {m2 : Nat} {m3 : Nat} {m5 : Nat} {m6 : Nat} {m7 : Nat} {m8 : Nat} {m9 : Nat} {xLang : Nat → Option Nat} {xCount : Int32} {kHeads : Nat → Int32} {kTails : Nat → Int64} {kNext : Nat → Int32} {kSlots : Nat → Int32} {kReached : Int32} {kClassOf : Nat → Int32} {kFinerOf : Nat → Int32} {kMarkOf : Nat → Int32} {kFirstOf : Nat → Int32} {kMarkSlots : Nat → Int32} {kClasses : Int32} {p0 : Int32} {lq : Nat} {oF : Nat → Int64} {r : (Int32 × ((Nat → Int32) × (Nat → Int64) × (Nat → Int32) × (Nat → Int32) × Int32 × (Nat → Int32) × (Nat → Int32) × (Nat → Int32) × (Nat → Int32) × (Nat → Int32) × Int32)) ⊕ ((Nat → Int64) × (Int32 × auP × Int32 × (Nat → Int32) × (Nat → Int64) × (Nat → Int32) × (Nat → Int32) × Int32 × (Nat → Int32) × (Nat → Int32) × (Nat → Int32) × (Nat → Int32) × (Nat → Int32) × Int32))} (sz : Nat) (hf : f_La_again n p0 xLang xCount kHeads kTails kNext kSlots kReached kClassOf kFinerOf kMarkOf kFirstOf kMarkSlots kClasses T oF = some r) : vx_Met l y_La_again w0_La_again ({ frames := 8, cells := 7, slots := 345, locals := 142 }) (yPre D K T [.ref xq, .int p0, .ref lq] (((rsW K xq xl mq cq iq sq xLang xCount) ++ (mkW K mq m0 m1 m2 m3 m5 m6 m7 m8 m9 kHeads kTails kNext kSlots kReached kClassOf kFinerOf kMarkOf kFirstOf kMarkSlots kClasses)) ++ (laW K lq 1 oF)) 60 xLang sz) (yPost D K r (fun u (g : Nat × Nat) => (((rsW K xq xl mq cq iq sq xLang xCount) ++ (mkW K mq m0 m1 m2 m3 g.1 g.2 m7 m8 m9 u.1 u.2.1 u.2.2.1 u.2.2.2.1 u.2.2.2.2.1 u.2.2.2.2.2.1 u.2.2.2.2.2.2.1 u.2.2.2.2.2.2.2.1 u.2.2.2.2.2.2.2.2.1 u.2.2.2.2.2.2.2.2.2.1 u.2.2.2.2.2.2.2.2.2.2)) ++ (laW K lq 1 oF))) (fun v (g : Nat × Nat × Nat × Nat × Nat) => ((((rsW K xq xl mq cq iq sq (va_up xLang xCount.toNatClampNeg (some g.2.2.1)) v.2.2.2.1) ++ (mkW K mq m0 m1 m2 m3 g.1 g.2.1 m7 m8 m9 v.2.2.2.2.1 v.2.2.2.2.2.1 v.2.2.2.2.2.2.1 v.2.2.2.2.2.2.2.1 v.2.2.2.2.2.2.2.2.1 v.2.2.2.2.2.2.2.2.2.1 v.2.2.2.2.2.2.2.2.2.2.1 v.2.2.2.2.2.2.2.2.2.2.2.1 v.2.2.2.2.2.2.2.2.2.2.2.2.1 v.2.2.2.2.2.2.2.2.2.2.2.2.2.1 v.2.2.2.2.2.2.2.2.2.2.2.2.2.2)) ++ (auW K g.2.2.1 g.2.2.2.1 g.2.2.2.2 v.2.2.1.1 (4 * v.2.2.1.1).toNatClampNeg v.2.2.1.2.2.1 v.2.2.1.2.1 v.2.2.1.2.2.2)) ++ (laW K lq 1 v.1))) (va_A (((rsW K xq xl mq cq iq sq xLang xCount) ++ (mkW K mq m0 m1 m2 m3 m5 m6 m7 m8 m9 kHeads kTails kNext kSlots kReached kClassOf kFinerOf kMarkOf kFirstOf kMarkSlots kClasses)) ++ (laW K lq 1 oF)) sz)) (fun _ _ _ => False) 7 345 (va_A (((rsW K xq xl mq cq iq sq xLang xCount) ++ (mkW K mq m0 m1 m2 m3 m5 m6 m7 m8 m9 kHeads kTails kNext kSlots kReached kClassOf kFinerOf kMarkOf kFirstOf kMarkSlots kClasses)) ++ (laW K lq 1 oF)) sz) := by
  unfold f_La_again at hf
  obtain ⟨u, eu, hf⟩ := obd hf
  refine vx_ofWH (cc := b_La_again) (maxL := 4) (ret := (some .int)) (hh := [(0, 9, 12, 13), (0, 9, 15, 15), (0, 9, 18, 25)]) (by decide) rfl ?_
  intro p e s m args below meth c s₁ B hml hv
  obtain ⟨⟨⟨rfl, hsz, hP, hK, hD0⟩, hX, hZ, hT0⟩, hC⟩ := hv
  subst hsz
  have hx := B.exec
  have hb := B.bytes
  have hts : ∀ w ∈ gW, w.before _ s = true := fun w hw => atoms_spec (ws := w0_La_again) B.pre w (List.mem_cons_of_mem _ hw)
  have htab : c.exceptionTable.toList = tableOf [(0, 9, 12, 13), (0, 9, 15, 15), (0, 9, 18, 25)] := vx_table (x := y_La_again) B (atoms_spec (ws := w0_La_again) B.pre _ List.mem_cons_self)
  have hown : s.vm.findClass "RegularSolverLaw" = some m.cls := findClass_of_methodNamed B.named
  have hD := hD0.self (sz := s.heap.size)
  generalize hAe : va_A (((rsW K xq xl mq cq iq sq xLang xCount) ++ (mkW K mq m0 m1 m2 m3 m5 m6 m7 m8 m9 kHeads kTails kNext kSlots kReached kClassOf kFinerOf kMarkOf kFirstOf kMarkSlots kClasses)) ++ (laW K lq 1 oF)) s.heap.size = A at hD hZ hT0 ⊢
  have hA : ∀ q : Nat, s.heap.size ≤ q → A q := fun q h => by rw [← hAe]; exact Or.inr h
  have hS : va_S A s.heap s.heap [] := va_S.rf
  have hl := lv_entry [.ref xq, .int p0, .ref lq] (n := 4) (Nat.le_of_ble_eq_true rfl)
  rw [lg_entry_eq]
  generalize (lg_sl [.ref xq, .int p0, .ref lq] ++ List.replicate (4 - (lg_sl [.ref xq, .int p0, .ref lq]).length) Slot.unset).toArray = ls at hl ⊢
  refine x_gen (P := fun H => W p l e _ s m _ below meth c H [] 0 0 _ _) ?_
  intro H hHe
  rw [← hHe] at hP
  have hS : va_S A s.heap H [] := by rw [hHe]; exact hS
  have hT0 : ∀ (q i : Nat), i < 60 → xLang i = some q → va_P D vwCl (auT K T q) H ∧ gAw A (auT K T q) := by rw [hHe]; exact hT0
  refine lv_aload_n hx hb d_La_again_0 rfl (lv_at hl 2 rfl) ?_
  refine lv_iconst (v := 0) hx hb d_La_again_1 (by decide) ?_
  refine lv_aload_n hx hb d_La_again_2 rfl (lv_at hl 0 rfl) ?_
  refine lv_iload_n hx hb d_La_again_3 rfl (lv_at hl 1 rfl) ?_
  refine x_call (vx_runV (As := [.int p0]) (rest := [.int 0, .ref lq]) ⟨hx, hb, hml, hown, hts⟩ (c_RS_again l hl0 H.size eu) (gV 1 hts cd_RS_again ml_La_36 im_RS_again se_RS_again ini_RS rfl rfl pd_RS_again ⟨Nat.le_of_ble_eq_true rfl, Nat.le_of_ble_eq_true rfl⟩) ⟨xPre_blind, va_recv hK (vaL (vaL hP)) (ci := 10) (q0 := 0) rfl rfl, xPre_of (vaL hP) hK (vdL hD) hS hA hX hZ hT0⟩ rfl rfl hl.1 rfl (lv_room (Nat.le_of_ble_eq_true rfl)) d_La_again_4 ⟨(by decide : 0 + 7 ≤ 7), (by decide : 0 + 345 ≤ 345)⟩) (vdL hD) hS hA (fun E x ex g ce q9 H1 locs hP1 hD1 hk1 hS1 hq1 hq2 hq3 => ?_) (fun v ev g H1 locs hP1 hD1 hk1 hS1 => ?_)
  · subst ex
    obtain ⟨hP, hD⟩ := va_keepR hP hD (va_sub (vdL hD) hS hA) hk1 hP1 hD1
    have hS := hS1
    generalize H1 = H at hP hS hq1 ⊢
    replace hf : (if E = "java/lang/IllegalArgumentException" then some (.inl (1, x)) else if E = "java/lang/IndexOutOfBoundsException" then some (.inl (2, x)) else if E = "java/lang/UnsupportedOperationException" then some (.inl (3, x)) else none) = some r := hf
    by_cases h0 : E = "java/lang/IllegalArgumentException"
    · subst h0
      rw [if_pos rfl] at hf
      have hr := (Option.some.inj hf).symm
      refine vx_catch (name := "java/lang/IllegalArgumentException") hown [] ⟨0, 9, 12, 13⟩ [⟨0, 9, 15, 15⟩, ⟨0, 9, 18, 25⟩] htab (fun z hz => nomatch hz) rfl (by decide) (hts _ cl_La_13) (va_Nw.use rfl (hZ.2.2.2 _ (by decide +kernel))) hq1 hq2 hq3 ?_
      refine lv_astore_n (lv' := [(3, .ref q9), (0, .ref xq), (1, .int p0), (2, .ref lq)]) hx hb d_La_again_12 rfl hl (by decide) rfl (fun ls hl => ?_)
      refine lv_iconst (v := 1) hx hb d_La_again_13 (by decide) ?_
      exact vx_ret (W.iret hx hb B.returns (fun t ht hW => Or.inl ⟨_, hr, ⟨g, rfl, by rw [ht]; exact hP, va_K.moved hW.alike hK, hD⟩, hS.F ht⟩) hS.2.2 d_La_again_14 (hlocks := B.notSynchronized))
    rw [if_neg h0] at hf
    by_cases h1 : E = "java/lang/IndexOutOfBoundsException"
    · subst h1
      rw [if_pos rfl] at hf
      have hr := (Option.some.inj hf).symm
      refine vx_catch (name := "java/lang/IndexOutOfBoundsException") hown [⟨0, 9, 12, 13⟩] ⟨0, 9, 15, 15⟩ [⟨0, 9, 18, 25⟩] htab (fun z hz => by simp only [List.mem_cons, List.not_mem_nil, or_false] at hz; rcases hz with rfl; exact Or.inr ⟨by decide, "java/lang/IllegalArgumentException", hts _ cl_La_13, hC ("java/lang/IndexOutOfBoundsException", "java/lang/IllegalArgumentException") (by decide)⟩) rfl (by decide) (hts _ cl_La_15) (va_Nw.use rfl (hZ.2.2.2 _ (by decide +kernel))) hq1 hq2 hq3 ?_
      refine lv_astore_n (lv' := [(3, .ref q9), (0, .ref xq), (1, .int p0), (2, .ref lq)]) hx hb d_La_again_15 rfl hl (by decide) rfl (fun ls hl => ?_)
      refine lv_iconst (v := 2) hx hb d_La_again_16 (by decide) ?_
      exact vx_ret (W.iret hx hb B.returns (fun t ht hW => Or.inl ⟨_, hr, ⟨g, rfl, by rw [ht]; exact hP, va_K.moved hW.alike hK, hD⟩, hS.F ht⟩) hS.2.2 d_La_again_17 (hlocks := B.notSynchronized))
    rw [if_neg h1] at hf
    by_cases h2 : E = "java/lang/UnsupportedOperationException"
    · subst h2
      rw [if_pos rfl] at hf
      have hr := (Option.some.inj hf).symm
      refine vx_catch (name := "java/lang/UnsupportedOperationException") hown [⟨0, 9, 12, 13⟩, ⟨0, 9, 15, 15⟩] ⟨0, 9, 18, 25⟩ [] htab (fun z hz => by
      simp only [List.mem_cons, List.not_mem_nil, or_false] at hz
      rcases hz with rfl | rfl
      · exact Or.inr ⟨by decide, "java/lang/IllegalArgumentException", hts _ cl_La_13, hC ("java/lang/UnsupportedOperationException", "java/lang/IllegalArgumentException") (by decide)⟩
      · exact Or.inr ⟨by decide, "java/lang/IndexOutOfBoundsException", hts _ cl_La_15, hC ("java/lang/UnsupportedOperationException", "java/lang/IndexOutOfBoundsException") (by decide)⟩
      ) rfl (by decide) (hts _ cl_La_25) (va_Nw.use rfl (hZ.2.2.2 _ (by decide +kernel))) hq1 hq2 hq3 ?_
      refine lv_astore_n (lv' := [(3, .ref q9), (0, .ref xq), (1, .int p0), (2, .ref lq)]) hx hb d_La_again_18 rfl hl (by decide) rfl (fun ls hl => ?_)
      refine lv_iconst (v := 3) hx hb d_La_again_19 (by decide) ?_
      exact vx_ret (W.iret hx hb B.returns (fun t ht hW => Or.inl ⟨_, hr, ⟨g, rfl, by rw [ht]; exact hP, va_K.moved hW.alike hK, hD⟩, hS.F ht⟩) hS.2.2 d_La_again_20 (hlocks := B.notSynchronized))
    rw [if_neg h2] at hf
    exact nomatch hf
  · subst ev
    have hr := (Option.some.inj hf).symm
    obtain ⟨hP, hD⟩ := va_keepR hP hD (va_sub (vdL hD) hS hA) hk1 hP1 hD1
    have hS := hS1
    generalize H1 = H at hP hS ⊢
    refine lv_i2l (v := v.1.toInt64) hx hb d_La_again_7 rfl ?_
    refine va_last hx hb hK hP hD hS 15 1 rfl rfl (gin_in (by decide)) d_La_again_8 (fun H locs hP hD hS => ?_)
    refine lv_goto (tgt := 21) hx hb d_La_again_9 (by decide) ?_
    refine lv_iconst (v := 0) hx hb d_La_again_21 (by decide) ?_
    exact vx_ret (W.iret hx hb B.returns (fun t ht hW => Or.inr ⟨_, hr, ⟨g, rfl, by rw [ht]; exact hP, va_K.moved hW.alike hK, hD⟩, hS.F ht⟩) hS.2.2 d_La_again_22 (hlocks := B.notSynchronized))
def f_La_automaton (n : Nat) (p0 : Int32) (p1 : Int32) (p2 : Int32) (xLang : Nat → Option Nat) (xCount : Int32) (T : auTab) (oF : Nat → Int64) : Option ((Int32 × (Unit)) ⊕ ((Nat → Int64) × (Int32))) :=
  (f_RS_automaton n p0 p1 p2 xLang xCount T).bind fun u => u.elim (fun x => if x.1 = "java/lang/IllegalArgumentException" then some (.inl (1, x.2)) else if x.1 = "java/lang/IndexOutOfBoundsException" then some (.inl (2, x.2)) else none) fun v => some (.inr (vp_updL oF (0 : Int32).toNatClampNeg v.toInt64, v))
set_option maxHeartbeats 400000 in
set_option maxRecDepth 100000 in
theorem c_La_automaton (l : Launch) (hl0 : l.stackTraces = false) {D : va_G} {K : Nat → ClassId} {T : auTab} {n : Nat} {xq : Nat} {xl : Nat} {mq : Nat} {cq : Nat} {iq : Nat} {sq : Nat} {xLang : Nat → Option Nat} {xCount : Int32} {p0 : Int32} {p1 : Int32} {p2 : Int32} {lq : Nat} {oF : Nat → Int64} {r : (Int32 × (Unit)) ⊕ ((Nat → Int64) × (Int32))} (sz : Nat) (hf : f_La_automaton n p0 p1 p2 xLang xCount T oF = some r) : vx_Met l y_La_automaton w0_La_automaton ({ frames := 8, cells := 2, slots := 12, locals := 127 }) (yPre D K T [.ref xq, .int p0, .int p1, .int p2, .ref lq] ((rsW K xq xl mq cq iq sq xLang xCount) ++ (laW K lq 1 oF)) 60 xLang sz) (yPost D K r (fun u (g : Unit) => ((rsW K xq xl mq cq iq sq xLang xCount) ++ (laW K lq 1 oF))) (fun v (g : Unit) => (((rsW K xq xl mq cq iq sq xLang xCount)) ++ (laW K lq 1 v.1))) (va_A ((rsW K xq xl mq cq iq sq xLang xCount) ++ (laW K lq 1 oF)) sz)) (fun _ _ _ => False) 2 12 (va_A ((rsW K xq xl mq cq iq sq xLang xCount) ++ (laW K lq 1 oF)) sz) := by
  unfold f_La_automaton at hf
  obtain ⟨u, eu, hf⟩ := obd hf
  refine vx_ofWH (cc := b_La_automaton) (maxL := 6) (ret := (some .int)) (hh := [(0, 12, 15, 13), (0, 12, 19, 15)]) (by decide) rfl ?_
  intro p e s m args below meth c s₁ B hml hv
  obtain ⟨⟨⟨rfl, hsz, hP, hK, hD0⟩, hX, hZ, hT0⟩, hC⟩ := hv
  subst hsz
  have hx := B.exec
  have hb := B.bytes
  have hts : ∀ w ∈ gW, w.before _ s = true := fun w hw => atoms_spec (ws := w0_La_automaton) B.pre w (List.mem_cons_of_mem _ hw)
  have htab : c.exceptionTable.toList = tableOf [(0, 12, 15, 13), (0, 12, 19, 15)] := vx_table (x := y_La_automaton) B (atoms_spec (ws := w0_La_automaton) B.pre _ List.mem_cons_self)
  have hown : s.vm.findClass "RegularSolverLaw" = some m.cls := findClass_of_methodNamed B.named
  have hD := hD0.self (sz := s.heap.size)
  generalize hAe : va_A ((rsW K xq xl mq cq iq sq xLang xCount) ++ (laW K lq 1 oF)) s.heap.size = A at hD hZ hT0 ⊢
  have hA : ∀ q : Nat, s.heap.size ≤ q → A q := fun q h => by rw [← hAe]; exact Or.inr h
  have hS : va_S A s.heap s.heap [] := va_S.rf
  have hl := lv_entry [.ref xq, .int p0, .int p1, .int p2, .ref lq] (n := 6) (Nat.le_of_ble_eq_true rfl)
  rw [lg_entry_eq]
  generalize (lg_sl [.ref xq, .int p0, .int p1, .int p2, .ref lq] ++ List.replicate (6 - (lg_sl [.ref xq, .int p0, .int p1, .int p2, .ref lq]).length) Slot.unset).toArray = ls at hl ⊢
  refine x_gen (P := fun H => W p l e _ s m _ below meth c H [] 0 0 _ _) ?_
  intro H hHe
  rw [← hHe] at hP
  have hS : va_S A s.heap H [] := by rw [hHe]; exact hS
  have hT0 : ∀ (q i : Nat), i < 60 → xLang i = some q → va_P D vwCl (auT K T q) H ∧ gAw A (auT K T q) := by rw [hHe]; exact hT0
  refine lv_aload hx hb d_La_automaton_0 (lv_at hl 4 rfl) ?_
  refine lv_iconst (v := 0) hx hb d_La_automaton_2 (by decide) ?_
  refine lv_aload_n hx hb d_La_automaton_3 rfl (lv_at hl 0 rfl) ?_
  refine lv_iload_n hx hb d_La_automaton_4 rfl (lv_at hl 1 rfl) ?_
  refine lv_iload_n hx hb d_La_automaton_5 rfl (lv_at hl 2 rfl) ?_
  refine lv_iload_n hx hb d_La_automaton_6 rfl (lv_at hl 3 rfl) ?_
  refine x_call (vx_runV (As := [.int p0, .int p1, .int p2]) (rest := [.int 0, .ref lq]) ⟨hx, hb, hml, hown, hts⟩ (c_RS_automaton l hl0 H.size eu) (gV 3 hts cd_RS_automaton ml_La_39 im_RS_automaton se_RS_automaton ini_RS rfl rfl pd_RS_automaton ⟨Nat.le_of_ble_eq_true rfl, Nat.le_of_ble_eq_true rfl⟩) ⟨xPre_blind, va_recv hK (vaL hP) (ci := 10) (q0 := 0) rfl rfl, xPre_of (vaL hP) hK (vdL hD) hS hA hX hZ hT0⟩ rfl rfl hl.1 rfl (lv_room (Nat.le_of_ble_eq_true rfl)) d_La_automaton_7 ⟨(by decide : 0 + 2 ≤ 2), (by decide : 0 + 12 ≤ 12)⟩) (vdL hD) hS hA (fun E x ex g ce q9 H1 locs hP1 hD1 hk1 hS1 hq1 hq2 hq3 => ?_) (fun v ev g H1 locs hP1 hD1 hk1 hS1 => ?_)
  · subst ex
    obtain ⟨hP, hD⟩ := va_keepR hP hD (va_sub (vdL hD) hS hA) hk1 hP1 hD1
    have hS := hS1
    generalize H1 = H at hP hS hq1 ⊢
    replace hf : (if E = "java/lang/IllegalArgumentException" then some (.inl (1, x)) else if E = "java/lang/IndexOutOfBoundsException" then some (.inl (2, x)) else none) = some r := hf
    by_cases h0 : E = "java/lang/IllegalArgumentException"
    · subst h0
      rw [if_pos rfl] at hf
      have hr := (Option.some.inj hf).symm
      refine vx_catch (name := "java/lang/IllegalArgumentException") hown [] ⟨0, 12, 15, 13⟩ [⟨0, 12, 19, 15⟩] htab (fun z hz => nomatch hz) rfl (by decide) (hts _ cl_La_13) (va_Nw.use rfl (hZ.2.2.2 _ (by decide +kernel))) hq1 hq2 hq3 ?_
      refine lv_astore (lv' := [(5, .ref q9), (0, .ref xq), (1, .int p0), (2, .int p1), (3, .int p2), (4, .ref lq)]) hx hb d_La_automaton_15 hl (by decide) rfl (fun ls hl => ?_)
      refine lv_iconst (v := 1) hx hb d_La_automaton_17 (by decide) ?_
      exact vx_ret (W.iret hx hb B.returns (fun t ht hW => Or.inl ⟨_, hr, ⟨g, rfl, by rw [ht]; exact hP, va_K.moved hW.alike hK, hD⟩, hS.F ht⟩) hS.2.2 d_La_automaton_18 (hlocks := B.notSynchronized))
    rw [if_neg h0] at hf
    by_cases h1 : E = "java/lang/IndexOutOfBoundsException"
    · subst h1
      rw [if_pos rfl] at hf
      have hr := (Option.some.inj hf).symm
      refine vx_catch (name := "java/lang/IndexOutOfBoundsException") hown [⟨0, 12, 15, 13⟩] ⟨0, 12, 19, 15⟩ [] htab (fun z hz => by simp only [List.mem_cons, List.not_mem_nil, or_false] at hz; rcases hz with rfl; exact Or.inr ⟨by decide, "java/lang/IllegalArgumentException", hts _ cl_La_13, hC ("java/lang/IndexOutOfBoundsException", "java/lang/IllegalArgumentException") (by decide)⟩) rfl (by decide) (hts _ cl_La_15) (va_Nw.use rfl (hZ.2.2.2 _ (by decide +kernel))) hq1 hq2 hq3 ?_
      refine lv_astore (lv' := [(5, .ref q9), (0, .ref xq), (1, .int p0), (2, .int p1), (3, .int p2), (4, .ref lq)]) hx hb d_La_automaton_19 hl (by decide) rfl (fun ls hl => ?_)
      refine lv_iconst (v := 2) hx hb d_La_automaton_21 (by decide) ?_
      exact vx_ret (W.iret hx hb B.returns (fun t ht hW => Or.inl ⟨_, hr, ⟨g, rfl, by rw [ht]; exact hP, va_K.moved hW.alike hK, hD⟩, hS.F ht⟩) hS.2.2 d_La_automaton_22 (hlocks := B.notSynchronized))
    rw [if_neg h1] at hf
    exact nomatch hf
  · subst ev
    have hr := (Option.some.inj hf).symm
    obtain ⟨hP, hD⟩ := va_keepR hP hD (va_sub (vdL hD) hS hA) hk1 hP1 hD1
    have hS := hS1
    generalize H1 = H at hP hS ⊢
    refine lv_i2l (v := v.toInt64) hx hb d_La_automaton_10 rfl ?_
    refine va_last hx hb hK hP hD hS 2 1 rfl rfl (gin_in (by decide)) d_La_automaton_11 (fun H locs hP hD hS => ?_)
    refine lv_goto (tgt := 23) hx hb d_La_automaton_12 (by decide) ?_
    refine lv_iconst (v := 0) hx hb d_La_automaton_23 (by decide) ?_
    exact vx_ret (W.iret hx hb B.returns (fun t ht hW => Or.inr ⟨_, hr, ⟨g, rfl, by rw [ht]; exact hP, va_K.moved hW.alike hK, hD⟩, hS.F ht⟩) hS.2.2 d_La_automaton_24 (hlocks := B.notSynchronized))
def f_La_has (n : Nat) (p0 : Int32) (p1 : Int32) (p2 : Int64) (xLang : Nat → Option Nat) (xCount : Int32) (T : auTab) (oF : Nat → Int64) : Option ((Int32 × (Unit)) ⊕ ((Nat → Int64) × (Bool))) :=
  (f_RS_has n p0 p1 p2 xLang xCount T).bind fun u => u.elim (fun x => if x.1 = "java/lang/IllegalArgumentException" then some (.inl (1, x.2)) else none) fun v => some (.inr (vp_updL oF (0 : Int32).toNatClampNeg (if v = true then 1 else 0), v))
set_option maxHeartbeats 400000 in
set_option maxRecDepth 100000 in
theorem c_La_has (l : Launch) (hl0 : l.stackTraces = false) {D : va_G} {K : Nat → ClassId} {T : auTab} {n : Nat} {xq : Nat} {xl : Nat} {mq : Nat} {cq : Nat} {iq : Nat} {sq : Nat} {xLang : Nat → Option Nat} {xCount : Int32} {p0 : Int32} {p1 : Int32} {p2 : Int64} {lq : Nat} {oF : Nat → Int64} {r : (Int32 × (Unit)) ⊕ ((Nat → Int64) × (Bool))} (sz : Nat) (hf : f_La_has n p0 p1 p2 xLang xCount T oF = some r) : vx_Met l y_La_has w0_La_has ({ frames := 8, cells := 3, slots := 18, locals := 128 }) (yPre D K T [.ref xq, .int p0, .int p1, .long p2, .ref lq] ((rsW K xq xl mq cq iq sq xLang xCount) ++ (laW K lq 1 oF)) 60 xLang sz) (yPost D K r (fun u (g : Unit) => ((rsW K xq xl mq cq iq sq xLang xCount) ++ (laW K lq 1 oF))) (fun v (g : Unit) => (((rsW K xq xl mq cq iq sq xLang xCount)) ++ (laW K lq 1 v.1))) (va_A ((rsW K xq xl mq cq iq sq xLang xCount) ++ (laW K lq 1 oF)) sz)) (fun _ _ _ => False) 3 18 (va_A ((rsW K xq xl mq cq iq sq xLang xCount) ++ (laW K lq 1 oF)) sz) := by
  unfold f_La_has at hf
  obtain ⟨u, eu, hf⟩ := obd hf
  refine vx_ofWH (cc := b_La_has) (maxL := 7) (ret := (some .int)) (hh := [(0, 19, 22, 13)]) (by decide) rfl ?_
  intro p e s m args below meth c s₁ B hml hv
  obtain ⟨⟨⟨rfl, hsz, hP, hK, hD0⟩, hX, hZ, hT0⟩, hC⟩ := hv
  subst hsz
  have hx := B.exec
  have hb := B.bytes
  have hts : ∀ w ∈ gW, w.before _ s = true := fun w hw => atoms_spec (ws := w0_La_has) B.pre w (List.mem_cons_of_mem _ hw)
  have htab : c.exceptionTable.toList = tableOf [(0, 19, 22, 13)] := vx_table (x := y_La_has) B (atoms_spec (ws := w0_La_has) B.pre _ List.mem_cons_self)
  have hown : s.vm.findClass "RegularSolverLaw" = some m.cls := findClass_of_methodNamed B.named
  have hD := hD0.self (sz := s.heap.size)
  generalize hAe : va_A ((rsW K xq xl mq cq iq sq xLang xCount) ++ (laW K lq 1 oF)) s.heap.size = A at hD hZ hT0 ⊢
  have hA : ∀ q : Nat, s.heap.size ≤ q → A q := fun q h => by rw [← hAe]; exact Or.inr h
  have hS : va_S A s.heap s.heap [] := va_S.rf
  have hl := lv_entry [.ref xq, .int p0, .int p1, .long p2, .ref lq] (n := 7) (Nat.le_of_ble_eq_true rfl)
  rw [lg_entry_eq]
  generalize (lg_sl [.ref xq, .int p0, .int p1, .long p2, .ref lq] ++ List.replicate (7 - (lg_sl [.ref xq, .int p0, .int p1, .long p2, .ref lq]).length) Slot.unset).toArray = ls at hl ⊢
  refine x_gen (P := fun H => W p l e _ s m _ below meth c H [] 0 0 _ _) ?_
  intro H hHe
  rw [← hHe] at hP
  have hS : va_S A s.heap H [] := by rw [hHe]; exact hS
  have hT0 : ∀ (q i : Nat), i < 60 → xLang i = some q → va_P D vwCl (auT K T q) H ∧ gAw A (auT K T q) := by rw [hHe]; exact hT0
  refine lv_aload hx hb d_La_has_0 (lv_at hl 4 rfl) ?_
  refine lv_iconst (v := 0) hx hb d_La_has_2 (by decide) ?_
  refine lv_aload_n hx hb d_La_has_3 rfl (lv_at hl 0 rfl) ?_
  refine lv_iload_n hx hb d_La_has_4 rfl (lv_at hl 1 rfl) ?_
  refine lv_iload_n hx hb d_La_has_5 rfl (lv_at hl 2 rfl) ?_
  refine lv_lload_n hx hb d_La_has_6 rfl (lv_at hl 3 rfl) ?_
  refine x_call (vx_runV (As := [.int p0, .int p1, .long p2]) (rest := [.int 0, .ref lq]) ⟨hx, hb, hml, hown, hts⟩ (c_RS_has l hl0 H.size eu) (gV 3 hts cd_RS_has ml_La_43 im_RS_has se_RS_has ini_RS rfl rfl pd_RS_has ⟨Nat.le_of_ble_eq_true rfl, Nat.le_of_ble_eq_true rfl⟩) ⟨xPre_blind, va_recv hK (vaL hP) (ci := 10) (q0 := 0) rfl rfl, xPre_of (vaL hP) hK (vdL hD) hS hA hX hZ hT0⟩ rfl rfl hl.1 rfl (lv_room (Nat.le_of_ble_eq_true rfl)) d_La_has_7 ⟨(by decide : 0 + 3 ≤ 3), (by decide : 0 + 18 ≤ 18)⟩) (vdL hD) hS hA (fun E x ex g ce q9 H1 locs hP1 hD1 hk1 hS1 hq1 hq2 hq3 => ?_) (fun v ev g H1 locs hP1 hD1 hk1 hS1 => ?_)
  · subst ex
    obtain ⟨hP, hD⟩ := va_keepR hP hD (va_sub (vdL hD) hS hA) hk1 hP1 hD1
    have hS := hS1
    generalize H1 = H at hP hS hq1 ⊢
    replace hf : (if E = "java/lang/IllegalArgumentException" then some (.inl (1, x)) else none) = some r := hf
    by_cases h0 : E = "java/lang/IllegalArgumentException"
    · subst h0
      rw [if_pos rfl] at hf
      have hr := (Option.some.inj hf).symm
      refine vx_catch (name := "java/lang/IllegalArgumentException") hown [] ⟨0, 19, 22, 13⟩ [] htab (fun z hz => nomatch hz) rfl (by decide) (hts _ cl_La_13) (va_Nw.use rfl (hZ.2.2.2 _ (by decide +kernel))) hq1 hq2 hq3 ?_
      refine lv_astore (lv' := [(6, .ref q9), (0, .ref xq), (1, .int p0), (2, .int p1), (3, .long p2), (5, .ref lq)]) hx hb d_La_has_22 hl (by decide) rfl (fun ls hl => ?_)
      refine lv_iconst (v := 1) hx hb d_La_has_24 (by decide) ?_
      exact vx_ret (W.iret hx hb B.returns (fun t ht hW => Or.inl ⟨_, hr, ⟨g, rfl, by rw [ht]; exact hP, va_K.moved hW.alike hK, hD⟩, hS.F ht⟩) hS.2.2 d_La_has_25 (hlocks := B.notSynchronized))
    rw [if_neg h0] at hf
    exact nomatch hf
  · subst ev
    have hr := (Option.some.inj hf).symm
    obtain ⟨hP, hD⟩ := va_keepR hP hD (va_sub (vdL hD) hS hA) hk1 hP1 hD1
    have hS := hS1
    generalize H1 = H at hP hS ⊢
    refine bz_eq (tgt := 17) hx hb d_La_has_10 (by decide) (fun cc => ?_) (fun cc => ?_)
    · rw [if_neg cc] at hr
      refine lv_lconst (v := 0) hx hb d_La_has_17 (by decide) ?_
      refine va_last hx hb hK hP hD hS 2 1 rfl rfl (gin_in (by decide)) d_La_has_18 (fun H locs hP hD hS => ?_)
      refine lv_goto (tgt := 26) hx hb d_La_has_19 (by decide) ?_
      refine lv_iconst (v := 0) hx hb d_La_has_26 (by decide) ?_
      exact vx_ret (W.iret hx hb B.returns (fun t ht hW => Or.inr ⟨_, hr, ⟨g, rfl, by rw [ht]; exact hP, va_K.moved hW.alike hK, hD⟩, hS.F ht⟩) hS.2.2 d_La_has_27 (hlocks := B.notSynchronized))
    · rw [if_pos cc] at hr
      refine lv_lconst (v := 1) hx hb d_La_has_13 (by decide) ?_
      refine lv_goto (tgt := 18) hx hb d_La_has_14 (by decide) ?_
      refine va_last hx hb hK hP hD hS 2 1 rfl rfl (gin_in (by decide)) d_La_has_18 (fun H locs hP hD hS => ?_)
      refine lv_goto (tgt := 26) hx hb d_La_has_19 (by decide) ?_
      refine lv_iconst (v := 0) hx hb d_La_has_26 (by decide) ?_
      exact vx_ret (W.iret hx hb B.returns (fun t ht hW => Or.inr ⟨_, hr, ⟨g, rfl, by rw [ht]; exact hP, va_K.moved hW.alike hK, hD⟩, hS.F ht⟩) hS.2.2 d_La_has_27 (hlocks := B.notSynchronized))
def f_La_words (n : Nat) (p0 : Int32) (p1 : Int32) (xLang : Nat → Option Nat) (xCount : Int32) (cCounts : Nat → Int64) (cLonger : Nat → Int64) (T : auTab) (oF : Nat → Int64) : Option ((Int32 × ((Nat → Int64) × (Nat → Int64))) ⊕ ((Nat → Int64) × (Int64 × (Nat → Int64) × (Nat → Int64)))) :=
  (f_RS_words n p0 p1 xLang xCount cCounts cLonger T).bind fun u => u.elim (fun x => if x.1 = "java/lang/IllegalArgumentException" then some (.inl (1, x.2)) else none) fun v => some (.inr (vp_updL oF (0 : Int32).toNatClampNeg v.1, v))
set_option maxHeartbeats 400000 in
set_option maxRecDepth 100000 in
theorem c_La_words (l : Launch) (hl0 : l.stackTraces = false) {D : va_G} {K : Nat → ClassId} {T : auTab} {n : Nat} {xq : Nat} {xl : Nat} {mq : Nat} {cq : Nat} {iq : Nat} {sq : Nat} {c1 : Nat} {c2 : Nat} {xLang : Nat → Option Nat} {xCount : Int32} {cCounts : Nat → Int64} {cLonger : Nat → Int64} {p0 : Int32} {p1 : Int32} {lq : Nat} {oF : Nat → Int64} {r : (Int32 × ((Nat → Int64) × (Nat → Int64))) ⊕ ((Nat → Int64) × (Int64 × (Nat → Int64) × (Nat → Int64)))} (sz : Nat) (hf : f_La_words n p0 p1 xLang xCount cCounts cLonger T oF = some r) : vx_Met l y_La_words w0_La_words ({ frames := 8, cells := 2, slots := 12, locals := 126 }) (yPre D K T [.ref xq, .int p0, .int p1, .ref lq] (((rsW K xq xl mq cq iq sq xLang xCount) ++ (coW K cq c1 c2 cCounts cLonger)) ++ (laW K lq 1 oF)) 60 xLang sz) (yPost D K r (fun u (g : Nat × Nat) => (((rsW K xq xl mq cq iq sq xLang xCount) ++ (coW K cq g.1 g.2 u.1 u.2)) ++ (laW K lq 1 oF))) (fun v (g : Nat × Nat) => ((((rsW K xq xl mq cq iq sq xLang xCount) ++ (coW K cq g.1 g.2 v.2.2.1 v.2.2.2))) ++ (laW K lq 1 v.1))) (va_A (((rsW K xq xl mq cq iq sq xLang xCount) ++ (coW K cq c1 c2 cCounts cLonger)) ++ (laW K lq 1 oF)) sz)) (fun _ _ _ => False) 2 12 (va_A (((rsW K xq xl mq cq iq sq xLang xCount) ++ (coW K cq c1 c2 cCounts cLonger)) ++ (laW K lq 1 oF)) sz) := by
  unfold f_La_words at hf
  obtain ⟨u, eu, hf⟩ := obd hf
  refine vx_ofWH (cc := b_La_words) (maxL := 5) (ret := (some .int)) (hh := [(0, 9, 12, 13)]) (by decide) rfl ?_
  intro p e s m args below meth c s₁ B hml hv
  obtain ⟨⟨⟨rfl, hsz, hP, hK, hD0⟩, hX, hZ, hT0⟩, hC⟩ := hv
  subst hsz
  have hx := B.exec
  have hb := B.bytes
  have hts : ∀ w ∈ gW, w.before _ s = true := fun w hw => atoms_spec (ws := w0_La_words) B.pre w (List.mem_cons_of_mem _ hw)
  have htab : c.exceptionTable.toList = tableOf [(0, 9, 12, 13)] := vx_table (x := y_La_words) B (atoms_spec (ws := w0_La_words) B.pre _ List.mem_cons_self)
  have hown : s.vm.findClass "RegularSolverLaw" = some m.cls := findClass_of_methodNamed B.named
  have hD := hD0.self (sz := s.heap.size)
  generalize hAe : va_A (((rsW K xq xl mq cq iq sq xLang xCount) ++ (coW K cq c1 c2 cCounts cLonger)) ++ (laW K lq 1 oF)) s.heap.size = A at hD hZ hT0 ⊢
  have hA : ∀ q : Nat, s.heap.size ≤ q → A q := fun q h => by rw [← hAe]; exact Or.inr h
  have hS : va_S A s.heap s.heap [] := va_S.rf
  have hl := lv_entry [.ref xq, .int p0, .int p1, .ref lq] (n := 5) (Nat.le_of_ble_eq_true rfl)
  rw [lg_entry_eq]
  generalize (lg_sl [.ref xq, .int p0, .int p1, .ref lq] ++ List.replicate (5 - (lg_sl [.ref xq, .int p0, .int p1, .ref lq]).length) Slot.unset).toArray = ls at hl ⊢
  refine x_gen (P := fun H => W p l e _ s m _ below meth c H [] 0 0 _ _) ?_
  intro H hHe
  rw [← hHe] at hP
  have hS : va_S A s.heap H [] := by rw [hHe]; exact hS
  have hT0 : ∀ (q i : Nat), i < 60 → xLang i = some q → va_P D vwCl (auT K T q) H ∧ gAw A (auT K T q) := by rw [hHe]; exact hT0
  refine lv_aload_n hx hb d_La_words_0 rfl (lv_at hl 3 rfl) ?_
  refine lv_iconst (v := 0) hx hb d_La_words_1 (by decide) ?_
  refine lv_aload_n hx hb d_La_words_2 rfl (lv_at hl 0 rfl) ?_
  refine lv_iload_n hx hb d_La_words_3 rfl (lv_at hl 1 rfl) ?_
  refine lv_iload_n hx hb d_La_words_4 rfl (lv_at hl 2 rfl) ?_
  refine x_call (vx_runV (As := [.int p0, .int p1]) (rest := [.int 0, .ref lq]) ⟨hx, hb, hml, hown, hts⟩ (c_RS_words l hl0 H.size eu) (gV 2 hts cd_RS_words ml_La_47 im_RS_words se_RS_words ini_RS rfl rfl pd_RS_words ⟨Nat.le_of_ble_eq_true rfl, Nat.le_of_ble_eq_true rfl⟩) ⟨xPre_blind, va_recv hK (vaL (vaL hP)) (ci := 10) (q0 := 0) rfl rfl, xPre_of (vaL hP) hK (vdL hD) hS hA hX hZ hT0⟩ rfl rfl hl.1 rfl (lv_room (Nat.le_of_ble_eq_true rfl)) d_La_words_5 ⟨(by decide : 0 + 2 ≤ 2), (by decide : 0 + 12 ≤ 12)⟩) (vdL hD) hS hA (fun E x ex g ce q9 H1 locs hP1 hD1 hk1 hS1 hq1 hq2 hq3 => ?_) (fun v ev g H1 locs hP1 hD1 hk1 hS1 => ?_)
  · subst ex
    obtain ⟨hP, hD⟩ := va_keepR hP hD (va_sub (vdL hD) hS hA) hk1 hP1 hD1
    have hS := hS1
    generalize H1 = H at hP hS hq1 ⊢
    replace hf : (if E = "java/lang/IllegalArgumentException" then some (.inl (1, x)) else none) = some r := hf
    by_cases h0 : E = "java/lang/IllegalArgumentException"
    · subst h0
      rw [if_pos rfl] at hf
      have hr := (Option.some.inj hf).symm
      refine vx_catch (name := "java/lang/IllegalArgumentException") hown [] ⟨0, 9, 12, 13⟩ [] htab (fun z hz => nomatch hz) rfl (by decide) (hts _ cl_La_13) (va_Nw.use rfl (hZ.2.2.2 _ (by decide +kernel))) hq1 hq2 hq3 ?_
      refine lv_astore (lv' := [(4, .ref q9), (0, .ref xq), (1, .int p0), (2, .int p1), (3, .ref lq)]) hx hb d_La_words_12 hl (by decide) rfl (fun ls hl => ?_)
      refine lv_iconst (v := 1) hx hb d_La_words_14 (by decide) ?_
      exact vx_ret (W.iret hx hb B.returns (fun t ht hW => Or.inl ⟨_, hr, ⟨g, rfl, by rw [ht]; exact hP, va_K.moved hW.alike hK, hD⟩, hS.F ht⟩) hS.2.2 d_La_words_15 (hlocks := B.notSynchronized))
    rw [if_neg h0] at hf
    exact nomatch hf
  · subst ev
    have hr := (Option.some.inj hf).symm
    obtain ⟨hP, hD⟩ := va_keepR hP hD (va_sub (vdL hD) hS hA) hk1 hP1 hD1
    have hS := hS1
    generalize H1 = H at hP hS ⊢
    refine va_last hx hb hK hP hD hS 5 1 rfl rfl (gin_in (by decide)) d_La_words_8 (fun H locs hP hD hS => ?_)
    refine lv_goto (tgt := 16) hx hb d_La_words_9 (by decide) ?_
    refine lv_iconst (v := 0) hx hb d_La_words_16 (by decide) ?_
    exact vx_ret (W.iret hx hb B.returns (fun t ht hW => Or.inr ⟨_, hr, ⟨g, rfl, by rw [ht]; exact hP, va_K.moved hW.alike hK, hD⟩, hS.F ht⟩) hS.2.2 d_La_words_17 (hlocks := B.notSynchronized))
def f_La_first (n : Nat) (p0 : Int32) (p1 : Int32) (xLang : Nat → Option Nat) (xCount : Int32) (T : auTab) (oF : Nat → Int64) : Option ((Int32 × (Unit)) ⊕ ((Nat → Int64) × (Int64))) :=
  (f_RS_first n p0 p1 xLang xCount T).bind fun u => u.elim (fun x => if x.1 = "java/lang/IllegalArgumentException" then some (.inl (1, x.2)) else if x.1 = "java/lang/UnsupportedOperationException" then some (.inl (2, x.2)) else none) fun v => some (.inr (vp_updL oF (0 : Int32).toNatClampNeg v, v))
set_option maxHeartbeats 400000 in
set_option maxRecDepth 100000 in
theorem c_La_first (l : Launch) (hl0 : l.stackTraces = false) {D : va_G} {K : Nat → ClassId} {T : auTab} {n : Nat} {xq : Nat} {xl : Nat} {mq : Nat} {cq : Nat} {iq : Nat} {sq : Nat} {xLang : Nat → Option Nat} {xCount : Int32} {p0 : Int32} {p1 : Int32} {lq : Nat} {oF : Nat → Int64} {r : (Int32 × (Unit)) ⊕ ((Nat → Int64) × (Int64))} (sz : Nat) (hf : f_La_first n p0 p1 xLang xCount T oF = some r) : vx_Met l y_La_first w0_La_first ({ frames := 8, cells := 3, slots := 18, locals := 126 }) (yPre D K T [.ref xq, .int p0, .int p1, .ref lq] ((rsW K xq xl mq cq iq sq xLang xCount) ++ (laW K lq 1 oF)) 60 xLang sz) (yPost D K r (fun u (g : Unit) => ((rsW K xq xl mq cq iq sq xLang xCount) ++ (laW K lq 1 oF))) (fun v (g : Unit) => (((rsW K xq xl mq cq iq sq xLang xCount)) ++ (laW K lq 1 v.1))) (va_A ((rsW K xq xl mq cq iq sq xLang xCount) ++ (laW K lq 1 oF)) sz)) (fun _ _ _ => False) 3 18 (va_A ((rsW K xq xl mq cq iq sq xLang xCount) ++ (laW K lq 1 oF)) sz) := by
  unfold f_La_first at hf
  obtain ⟨u, eu, hf⟩ := obd hf
  refine vx_ofWH (cc := b_La_first) (maxL := 5) (ret := (some .int)) (hh := [(0, 9, 12, 13), (0, 9, 16, 25)]) (by decide) rfl ?_
  intro p e s m args below meth c s₁ B hml hv
  obtain ⟨⟨⟨rfl, hsz, hP, hK, hD0⟩, hX, hZ, hT0⟩, hC⟩ := hv
  subst hsz
  have hx := B.exec
  have hb := B.bytes
  have hts : ∀ w ∈ gW, w.before _ s = true := fun w hw => atoms_spec (ws := w0_La_first) B.pre w (List.mem_cons_of_mem _ hw)
  have htab : c.exceptionTable.toList = tableOf [(0, 9, 12, 13), (0, 9, 16, 25)] := vx_table (x := y_La_first) B (atoms_spec (ws := w0_La_first) B.pre _ List.mem_cons_self)
  have hown : s.vm.findClass "RegularSolverLaw" = some m.cls := findClass_of_methodNamed B.named
  have hD := hD0.self (sz := s.heap.size)
  generalize hAe : va_A ((rsW K xq xl mq cq iq sq xLang xCount) ++ (laW K lq 1 oF)) s.heap.size = A at hD hZ hT0 ⊢
  have hA : ∀ q : Nat, s.heap.size ≤ q → A q := fun q h => by rw [← hAe]; exact Or.inr h
  have hS : va_S A s.heap s.heap [] := va_S.rf
  have hl := lv_entry [.ref xq, .int p0, .int p1, .ref lq] (n := 5) (Nat.le_of_ble_eq_true rfl)
  rw [lg_entry_eq]
  generalize (lg_sl [.ref xq, .int p0, .int p1, .ref lq] ++ List.replicate (5 - (lg_sl [.ref xq, .int p0, .int p1, .ref lq]).length) Slot.unset).toArray = ls at hl ⊢
  refine x_gen (P := fun H => W p l e _ s m _ below meth c H [] 0 0 _ _) ?_
  intro H hHe
  rw [← hHe] at hP
  have hS : va_S A s.heap H [] := by rw [hHe]; exact hS
  have hT0 : ∀ (q i : Nat), i < 60 → xLang i = some q → va_P D vwCl (auT K T q) H ∧ gAw A (auT K T q) := by rw [hHe]; exact hT0
  refine lv_aload_n hx hb d_La_first_0 rfl (lv_at hl 3 rfl) ?_
  refine lv_iconst (v := 0) hx hb d_La_first_1 (by decide) ?_
  refine lv_aload_n hx hb d_La_first_2 rfl (lv_at hl 0 rfl) ?_
  refine lv_iload_n hx hb d_La_first_3 rfl (lv_at hl 1 rfl) ?_
  refine lv_iload_n hx hb d_La_first_4 rfl (lv_at hl 2 rfl) ?_
  refine x_call (vx_runV (As := [.int p0, .int p1]) (rest := [.int 0, .ref lq]) ⟨hx, hb, hml, hown, hts⟩ (c_RS_first l hl0 H.size eu) (gV 2 hts cd_RS_first ml_La_51 im_RS_first se_RS_first ini_RS rfl rfl pd_RS_first ⟨Nat.le_of_ble_eq_true rfl, Nat.le_of_ble_eq_true rfl⟩) ⟨xPre_blind, va_recv hK (vaL hP) (ci := 10) (q0 := 0) rfl rfl, xPre_of (vaL hP) hK (vdL hD) hS hA hX hZ hT0⟩ rfl rfl hl.1 rfl (lv_room (Nat.le_of_ble_eq_true rfl)) d_La_first_5 ⟨(by decide : 0 + 3 ≤ 3), (by decide : 0 + 18 ≤ 18)⟩) (vdL hD) hS hA (fun E x ex g ce q9 H1 locs hP1 hD1 hk1 hS1 hq1 hq2 hq3 => ?_) (fun v ev g H1 locs hP1 hD1 hk1 hS1 => ?_)
  · subst ex
    obtain ⟨hP, hD⟩ := va_keepR hP hD (va_sub (vdL hD) hS hA) hk1 hP1 hD1
    have hS := hS1
    generalize H1 = H at hP hS hq1 ⊢
    replace hf : (if E = "java/lang/IllegalArgumentException" then some (.inl (1, x)) else if E = "java/lang/UnsupportedOperationException" then some (.inl (2, x)) else none) = some r := hf
    by_cases h0 : E = "java/lang/IllegalArgumentException"
    · subst h0
      rw [if_pos rfl] at hf
      have hr := (Option.some.inj hf).symm
      refine vx_catch (name := "java/lang/IllegalArgumentException") hown [] ⟨0, 9, 12, 13⟩ [⟨0, 9, 16, 25⟩] htab (fun z hz => nomatch hz) rfl (by decide) (hts _ cl_La_13) (va_Nw.use rfl (hZ.2.2.2 _ (by decide +kernel))) hq1 hq2 hq3 ?_
      refine lv_astore (lv' := [(4, .ref q9), (0, .ref xq), (1, .int p0), (2, .int p1), (3, .ref lq)]) hx hb d_La_first_12 hl (by decide) rfl (fun ls hl => ?_)
      refine lv_iconst (v := 1) hx hb d_La_first_14 (by decide) ?_
      exact vx_ret (W.iret hx hb B.returns (fun t ht hW => Or.inl ⟨_, hr, ⟨g, rfl, by rw [ht]; exact hP, va_K.moved hW.alike hK, hD⟩, hS.F ht⟩) hS.2.2 d_La_first_15 (hlocks := B.notSynchronized))
    rw [if_neg h0] at hf
    by_cases h1 : E = "java/lang/UnsupportedOperationException"
    · subst h1
      rw [if_pos rfl] at hf
      have hr := (Option.some.inj hf).symm
      refine vx_catch (name := "java/lang/UnsupportedOperationException") hown [⟨0, 9, 12, 13⟩] ⟨0, 9, 16, 25⟩ [] htab (fun z hz => by simp only [List.mem_cons, List.not_mem_nil, or_false] at hz; rcases hz with rfl; exact Or.inr ⟨by decide, "java/lang/IllegalArgumentException", hts _ cl_La_13, hC ("java/lang/UnsupportedOperationException", "java/lang/IllegalArgumentException") (by decide)⟩) rfl (by decide) (hts _ cl_La_25) (va_Nw.use rfl (hZ.2.2.2 _ (by decide +kernel))) hq1 hq2 hq3 ?_
      refine lv_astore (lv' := [(4, .ref q9), (0, .ref xq), (1, .int p0), (2, .int p1), (3, .ref lq)]) hx hb d_La_first_16 hl (by decide) rfl (fun ls hl => ?_)
      refine lv_iconst (v := 2) hx hb d_La_first_18 (by decide) ?_
      exact vx_ret (W.iret hx hb B.returns (fun t ht hW => Or.inl ⟨_, hr, ⟨g, rfl, by rw [ht]; exact hP, va_K.moved hW.alike hK, hD⟩, hS.F ht⟩) hS.2.2 d_La_first_19 (hlocks := B.notSynchronized))
    rw [if_neg h1] at hf
    exact nomatch hf
  · subst ev
    have hr := (Option.some.inj hf).symm
    obtain ⟨hP, hD⟩ := va_keepR hP hD (va_sub (vdL hD) hS hA) hk1 hP1 hD1
    have hS := hS1
    generalize H1 = H at hP hS ⊢
    refine va_last hx hb hK hP hD hS 2 1 rfl rfl (gin_in (by decide)) d_La_first_8 (fun H locs hP hD hS => ?_)
    refine lv_goto (tgt := 20) hx hb d_La_first_9 (by decide) ?_
    refine lv_iconst (v := 0) hx hb d_La_first_20 (by decide) ?_
    exact vx_ret (W.iret hx hb B.returns (fun t ht hW => Or.inr ⟨_, hr, ⟨g, rfl, by rw [ht]; exact hP, va_K.moved hW.alike hK, hD⟩, hS.F ht⟩) hS.2.2 d_La_first_21 (hlocks := B.notSynchronized))
def f_La_shortest (n : Nat) (p0 : Int32) (xLang : Nat → Option Nat) (xCount : Int32) (T : auTab) (oF : Nat → Int64) : Option ((Int32 × (Unit)) ⊕ ((Nat → Int64) × (Int32))) :=
  (f_RS_shortest n p0 xLang xCount T).bind fun u => u.elim (fun x => if x.1 = "java/lang/IllegalArgumentException" then some (.inl (1, x.2)) else none) fun v => some (.inr (vp_updL oF (0 : Int32).toNatClampNeg v.toInt64, v))
set_option maxHeartbeats 400000 in
set_option maxRecDepth 100000 in
theorem c_La_shortest (l : Launch) (hl0 : l.stackTraces = false) {D : va_G} {K : Nat → ClassId} {T : auTab} {n : Nat} {xq : Nat} {xl : Nat} {mq : Nat} {cq : Nat} {iq : Nat} {sq : Nat} {xLang : Nat → Option Nat} {xCount : Int32} {p0 : Int32} {lq : Nat} {oF : Nat → Int64} {r : (Int32 × (Unit)) ⊕ ((Nat → Int64) × (Int32))} (sz : Nat) (hf : f_La_shortest n p0 xLang xCount T oF = some r) : vx_Met l y_La_shortest w0_La_shortest ({ frames := 8, cells := 1, slots := 6, locals := 124 }) (yPre D K T [.ref xq, .int p0, .ref lq] ((rsW K xq xl mq cq iq sq xLang xCount) ++ (laW K lq 1 oF)) 60 xLang sz) (yPost D K r (fun u (g : Unit) => ((rsW K xq xl mq cq iq sq xLang xCount) ++ (laW K lq 1 oF))) (fun v (g : Unit) => (((rsW K xq xl mq cq iq sq xLang xCount)) ++ (laW K lq 1 v.1))) (va_A ((rsW K xq xl mq cq iq sq xLang xCount) ++ (laW K lq 1 oF)) sz)) (fun _ _ _ => False) 1 6 (va_A ((rsW K xq xl mq cq iq sq xLang xCount) ++ (laW K lq 1 oF)) sz) := by
  unfold f_La_shortest at hf
  obtain ⟨u, eu, hf⟩ := obd hf
  refine vx_ofWH (cc := b_La_shortest) (maxL := 4) (ret := (some .int)) (hh := [(0, 9, 12, 13)]) (by decide) rfl ?_
  intro p e s m args below meth c s₁ B hml hv
  obtain ⟨⟨⟨rfl, hsz, hP, hK, hD0⟩, hX, hZ, hT0⟩, hC⟩ := hv
  subst hsz
  have hx := B.exec
  have hb := B.bytes
  have hts : ∀ w ∈ gW, w.before _ s = true := fun w hw => atoms_spec (ws := w0_La_shortest) B.pre w (List.mem_cons_of_mem _ hw)
  have htab : c.exceptionTable.toList = tableOf [(0, 9, 12, 13)] := vx_table (x := y_La_shortest) B (atoms_spec (ws := w0_La_shortest) B.pre _ List.mem_cons_self)
  have hown : s.vm.findClass "RegularSolverLaw" = some m.cls := findClass_of_methodNamed B.named
  have hD := hD0.self (sz := s.heap.size)
  generalize hAe : va_A ((rsW K xq xl mq cq iq sq xLang xCount) ++ (laW K lq 1 oF)) s.heap.size = A at hD hZ hT0 ⊢
  have hA : ∀ q : Nat, s.heap.size ≤ q → A q := fun q h => by rw [← hAe]; exact Or.inr h
  have hS : va_S A s.heap s.heap [] := va_S.rf
  have hl := lv_entry [.ref xq, .int p0, .ref lq] (n := 4) (Nat.le_of_ble_eq_true rfl)
  rw [lg_entry_eq]
  generalize (lg_sl [.ref xq, .int p0, .ref lq] ++ List.replicate (4 - (lg_sl [.ref xq, .int p0, .ref lq]).length) Slot.unset).toArray = ls at hl ⊢
  refine x_gen (P := fun H => W p l e _ s m _ below meth c H [] 0 0 _ _) ?_
  intro H hHe
  rw [← hHe] at hP
  have hS : va_S A s.heap H [] := by rw [hHe]; exact hS
  have hT0 : ∀ (q i : Nat), i < 60 → xLang i = some q → va_P D vwCl (auT K T q) H ∧ gAw A (auT K T q) := by rw [hHe]; exact hT0
  refine lv_aload_n hx hb d_La_shortest_0 rfl (lv_at hl 2 rfl) ?_
  refine lv_iconst (v := 0) hx hb d_La_shortest_1 (by decide) ?_
  refine lv_aload_n hx hb d_La_shortest_2 rfl (lv_at hl 0 rfl) ?_
  refine lv_iload_n hx hb d_La_shortest_3 rfl (lv_at hl 1 rfl) ?_
  refine x_call (vx_runV (As := [.int p0]) (rest := [.int 0, .ref lq]) ⟨hx, hb, hml, hown, hts⟩ (c_RS_shortest l hl0 H.size eu) (gV 1 hts cd_RS_shortest ml_La_54 im_RS_shortest se_RS_shortest ini_RS rfl rfl pd_RS_shortest ⟨Nat.le_of_ble_eq_true rfl, Nat.le_of_ble_eq_true rfl⟩) ⟨xPre_blind, va_recv hK (vaL hP) (ci := 10) (q0 := 0) rfl rfl, xPre_of (vaL hP) hK (vdL hD) hS hA hX hZ hT0⟩ rfl rfl hl.1 rfl (lv_room (Nat.le_of_ble_eq_true rfl)) d_La_shortest_4 ⟨(by decide : 0 + 1 ≤ 1), (by decide : 0 + 6 ≤ 6)⟩) (vdL hD) hS hA (fun E x ex g ce q9 H1 locs hP1 hD1 hk1 hS1 hq1 hq2 hq3 => ?_) (fun v ev g H1 locs hP1 hD1 hk1 hS1 => ?_)
  · subst ex
    obtain ⟨hP, hD⟩ := va_keepR hP hD (va_sub (vdL hD) hS hA) hk1 hP1 hD1
    have hS := hS1
    generalize H1 = H at hP hS hq1 ⊢
    replace hf : (if E = "java/lang/IllegalArgumentException" then some (.inl (1, x)) else none) = some r := hf
    by_cases h0 : E = "java/lang/IllegalArgumentException"
    · subst h0
      rw [if_pos rfl] at hf
      have hr := (Option.some.inj hf).symm
      refine vx_catch (name := "java/lang/IllegalArgumentException") hown [] ⟨0, 9, 12, 13⟩ [] htab (fun z hz => nomatch hz) rfl (by decide) (hts _ cl_La_13) (va_Nw.use rfl (hZ.2.2.2 _ (by decide +kernel))) hq1 hq2 hq3 ?_
      refine lv_astore_n (lv' := [(3, .ref q9), (0, .ref xq), (1, .int p0), (2, .ref lq)]) hx hb d_La_shortest_12 rfl hl (by decide) rfl (fun ls hl => ?_)
      refine lv_iconst (v := 1) hx hb d_La_shortest_13 (by decide) ?_
      exact vx_ret (W.iret hx hb B.returns (fun t ht hW => Or.inl ⟨_, hr, ⟨g, rfl, by rw [ht]; exact hP, va_K.moved hW.alike hK, hD⟩, hS.F ht⟩) hS.2.2 d_La_shortest_14 (hlocks := B.notSynchronized))
    rw [if_neg h0] at hf
    exact nomatch hf
  · subst ev
    have hr := (Option.some.inj hf).symm
    obtain ⟨hP, hD⟩ := va_keepR hP hD (va_sub (vdL hD) hS hA) hk1 hP1 hD1
    have hS := hS1
    generalize H1 = H at hP hS ⊢
    refine lv_i2l (v := v.toInt64) hx hb d_La_shortest_7 rfl ?_
    refine va_last hx hb hK hP hD hS 2 1 rfl rfl (gin_in (by decide)) d_La_shortest_8 (fun H locs hP hD hS => ?_)
    refine lv_goto (tgt := 15) hx hb d_La_shortest_9 (by decide) ?_
    refine lv_iconst (v := 0) hx hb d_La_shortest_15 (by decide) ?_
    exact vx_ret (W.iret hx hb B.returns (fun t ht hW => Or.inr ⟨_, hr, ⟨g, rfl, by rw [ht]; exact hP, va_K.moved hW.alike hK, hD⟩, hS.F ht⟩) hS.2.2 d_La_shortest_16 (hlocks := B.notSynchronized))
def f_La_within (n : Nat) (p0 : Int32) (p1 : Int32) (xLang : Nat → Option Nat) (xCount : Int32) (iSeen : Nat → Int64) (iWaiting : Nat → Int64) (T : auTab) (oF : Nat → Int64) : Option ((Int32 × ((Nat → Int64) × (Nat → Int64))) ⊕ ((Nat → Int64) × (Bool × (Nat → Int64) × (Nat → Int64)))) :=
  (f_RS_within n p0 p1 xLang xCount iSeen iWaiting T).bind fun u => u.elim (fun x => if x.1 = "java/lang/IllegalArgumentException" then some (.inl (1, x.2)) else none) fun v => some (.inr (vp_updL oF (0 : Int32).toNatClampNeg (if v.1 = true then 1 else 0), v))
set_option maxHeartbeats 400000 in
set_option maxRecDepth 100000 in
theorem c_La_within (l : Launch) (hl0 : l.stackTraces = false) {D : va_G} {K : Nat → ClassId} {T : auTab} {n : Nat} {xq : Nat} {xl : Nat} {mq : Nat} {cq : Nat} {iq : Nat} {sq : Nat} {i1 : Nat} {i2 : Nat} {xLang : Nat → Option Nat} {xCount : Int32} {iSeen : Nat → Int64} {iWaiting : Nat → Int64} {p0 : Int32} {p1 : Int32} {lq : Nat} {oF : Nat → Int64} {r : (Int32 × ((Nat → Int64) × (Nat → Int64))) ⊕ ((Nat → Int64) × (Bool × (Nat → Int64) × (Nat → Int64)))} (sz : Nat) (hf : f_La_within n p0 p1 xLang xCount iSeen iWaiting T oF = some r) : vx_Met l y_La_within w0_La_within ({ frames := 8, cells := 2, slots := 12, locals := 125 }) (yPre D K T [.ref xq, .int p0, .int p1, .ref lq] (((rsW K xq xl mq cq iq sq xLang xCount) ++ (inW K iq i1 i2 iSeen iWaiting)) ++ (laW K lq 1 oF)) 60 xLang sz) (yPost D K r (fun u (g : Unit) => (((rsW K xq xl mq cq iq sq xLang xCount) ++ (inW K iq i1 i2 u.1 u.2)) ++ (laW K lq 1 oF))) (fun v (g : Unit) => ((((rsW K xq xl mq cq iq sq xLang xCount) ++ (inW K iq i1 i2 v.2.2.1 v.2.2.2))) ++ (laW K lq 1 v.1))) (va_A (((rsW K xq xl mq cq iq sq xLang xCount) ++ (inW K iq i1 i2 iSeen iWaiting)) ++ (laW K lq 1 oF)) sz)) (fun _ _ _ => False) 2 12 (va_A (((rsW K xq xl mq cq iq sq xLang xCount) ++ (inW K iq i1 i2 iSeen iWaiting)) ++ (laW K lq 1 oF)) sz) := by
  unfold f_La_within at hf
  obtain ⟨u, eu, hf⟩ := obd hf
  refine vx_ofWH (cc := b_La_within) (maxL := 5) (ret := (some .int)) (hh := [(0, 17, 20, 13)]) (by decide) rfl ?_
  intro p e s m args below meth c s₁ B hml hv
  obtain ⟨⟨⟨rfl, hsz, hP, hK, hD0⟩, hX, hZ, hT0⟩, hC⟩ := hv
  subst hsz
  have hx := B.exec
  have hb := B.bytes
  have hts : ∀ w ∈ gW, w.before _ s = true := fun w hw => atoms_spec (ws := w0_La_within) B.pre w (List.mem_cons_of_mem _ hw)
  have htab : c.exceptionTable.toList = tableOf [(0, 17, 20, 13)] := vx_table (x := y_La_within) B (atoms_spec (ws := w0_La_within) B.pre _ List.mem_cons_self)
  have hown : s.vm.findClass "RegularSolverLaw" = some m.cls := findClass_of_methodNamed B.named
  have hD := hD0.self (sz := s.heap.size)
  generalize hAe : va_A (((rsW K xq xl mq cq iq sq xLang xCount) ++ (inW K iq i1 i2 iSeen iWaiting)) ++ (laW K lq 1 oF)) s.heap.size = A at hD hZ hT0 ⊢
  have hA : ∀ q : Nat, s.heap.size ≤ q → A q := fun q h => by rw [← hAe]; exact Or.inr h
  have hS : va_S A s.heap s.heap [] := va_S.rf
  have hl := lv_entry [.ref xq, .int p0, .int p1, .ref lq] (n := 5) (Nat.le_of_ble_eq_true rfl)
  rw [lg_entry_eq]
  generalize (lg_sl [.ref xq, .int p0, .int p1, .ref lq] ++ List.replicate (5 - (lg_sl [.ref xq, .int p0, .int p1, .ref lq]).length) Slot.unset).toArray = ls at hl ⊢
  refine x_gen (P := fun H => W p l e _ s m _ below meth c H [] 0 0 _ _) ?_
  intro H hHe
  rw [← hHe] at hP
  have hS : va_S A s.heap H [] := by rw [hHe]; exact hS
  have hT0 : ∀ (q i : Nat), i < 60 → xLang i = some q → va_P D vwCl (auT K T q) H ∧ gAw A (auT K T q) := by rw [hHe]; exact hT0
  refine lv_aload_n hx hb d_La_within_0 rfl (lv_at hl 3 rfl) ?_
  refine lv_iconst (v := 0) hx hb d_La_within_1 (by decide) ?_
  refine lv_aload_n hx hb d_La_within_2 rfl (lv_at hl 0 rfl) ?_
  refine lv_iload_n hx hb d_La_within_3 rfl (lv_at hl 1 rfl) ?_
  refine lv_iload_n hx hb d_La_within_4 rfl (lv_at hl 2 rfl) ?_
  refine x_call (vx_runV (As := [.int p0, .int p1]) (rest := [.int 0, .ref lq]) ⟨hx, hb, hml, hown, hts⟩ (c_RS_within l hl0 H.size eu) (gV 2 hts cd_RS_within ml_La_57 im_RS_within se_RS_within ini_RS rfl rfl pd_RS_within ⟨Nat.le_of_ble_eq_true rfl, Nat.le_of_ble_eq_true rfl⟩) ⟨xPre_blind, va_recv hK (vaL (vaL hP)) (ci := 10) (q0 := 0) rfl rfl, xPre_of (vaL hP) hK (vdL hD) hS hA hX hZ hT0⟩ rfl rfl hl.1 rfl (lv_room (Nat.le_of_ble_eq_true rfl)) d_La_within_5 ⟨(by decide : 0 + 2 ≤ 2), (by decide : 0 + 12 ≤ 12)⟩) (vdL hD) hS hA (fun E x ex g ce q9 H1 locs hP1 hD1 hk1 hS1 hq1 hq2 hq3 => ?_) (fun v ev g H1 locs hP1 hD1 hk1 hS1 => ?_)
  · subst ex
    obtain ⟨hP, hD⟩ := va_keepR hP hD (va_sub (vdL hD) hS hA) hk1 hP1 hD1
    have hS := hS1
    generalize H1 = H at hP hS hq1 ⊢
    replace hf : (if E = "java/lang/IllegalArgumentException" then some (.inl (1, x)) else none) = some r := hf
    by_cases h0 : E = "java/lang/IllegalArgumentException"
    · subst h0
      rw [if_pos rfl] at hf
      have hr := (Option.some.inj hf).symm
      refine vx_catch (name := "java/lang/IllegalArgumentException") hown [] ⟨0, 17, 20, 13⟩ [] htab (fun z hz => nomatch hz) rfl (by decide) (hts _ cl_La_13) (va_Nw.use rfl (hZ.2.2.2 _ (by decide +kernel))) hq1 hq2 hq3 ?_
      refine lv_astore (lv' := [(4, .ref q9), (0, .ref xq), (1, .int p0), (2, .int p1), (3, .ref lq)]) hx hb d_La_within_20 hl (by decide) rfl (fun ls hl => ?_)
      refine lv_iconst (v := 1) hx hb d_La_within_22 (by decide) ?_
      exact vx_ret (W.iret hx hb B.returns (fun t ht hW => Or.inl ⟨_, hr, ⟨g, rfl, by rw [ht]; exact hP, va_K.moved hW.alike hK, hD⟩, hS.F ht⟩) hS.2.2 d_La_within_23 (hlocks := B.notSynchronized))
    rw [if_neg h0] at hf
    exact nomatch hf
  · subst ev
    have hr := (Option.some.inj hf).symm
    obtain ⟨hP, hD⟩ := va_keepR hP hD (va_sub (vdL hD) hS hA) hk1 hP1 hD1
    have hS := hS1
    generalize H1 = H at hP hS ⊢
    refine bz_eq (tgt := 15) hx hb d_La_within_8 (by decide) (fun cc => ?_) (fun cc => ?_)
    · rw [if_neg cc] at hr
      refine lv_lconst (v := 0) hx hb d_La_within_15 (by decide) ?_
      refine va_last hx hb hK hP hD hS 5 1 rfl rfl (gin_in (by decide)) d_La_within_16 (fun H locs hP hD hS => ?_)
      refine lv_goto (tgt := 24) hx hb d_La_within_17 (by decide) ?_
      refine lv_iconst (v := 0) hx hb d_La_within_24 (by decide) ?_
      exact vx_ret (W.iret hx hb B.returns (fun t ht hW => Or.inr ⟨_, hr, ⟨g, rfl, by rw [ht]; exact hP, va_K.moved hW.alike hK, hD⟩, hS.F ht⟩) hS.2.2 d_La_within_25 (hlocks := B.notSynchronized))
    · rw [if_pos cc] at hr
      refine lv_lconst (v := 1) hx hb d_La_within_11 (by decide) ?_
      refine lv_goto (tgt := 16) hx hb d_La_within_12 (by decide) ?_
      refine va_last hx hb hK hP hD hS 5 1 rfl rfl (gin_in (by decide)) d_La_within_16 (fun H locs hP hD hS => ?_)
      refine lv_goto (tgt := 24) hx hb d_La_within_17 (by decide) ?_
      refine lv_iconst (v := 0) hx hb d_La_within_24 (by decide) ?_
      exact vx_ret (W.iret hx hb B.returns (fun t ht hW => Or.inr ⟨_, hr, ⟨g, rfl, by rw [ht]; exact hP, va_K.moved hW.alike hK, hD⟩, hS.F ht⟩) hS.2.2 d_La_within_25 (hlocks := B.notSynchronized))
def f_La_variable (n : Nat) (p0 : Int32) (p1 : Int32) (xLang : Nat → Option Nat) (xCount : Int32) (sAssigned : Nat → Option Nat) : Option ((Int32 × ((Nat → Option Nat))) ⊕ ((Nat → Option Nat))) :=
  (f_RS_variable n p0 p1 xLang xCount sAssigned).bind fun u => u.elim (fun x => if x.1 = "java/lang/IllegalArgumentException" then some (.inl (1, x.2)) else none) fun v => some (.inr v)
set_option maxHeartbeats 400000 in
set_option maxRecDepth 100000 in
theorem c_La_variable (l : Launch) (hl0 : l.stackTraces = false) {D : va_G} {K : Nat → ClassId} {T : auTab} {n : Nat} {xq : Nat} {xl : Nat} {mq : Nat} {cq : Nat} {iq : Nat} {sq : Nat} {sA : Nat} {sF : Nat} {sLe : Nat} {sMo : Nat} {sAl : Nat} {sRL : Nat} {sRM : Nat} {sLn : Nat} {sKL : Nat} {sKW : Nat} {fF : Nat → Nat} {fL : Nat → Nat} {fM : Nat → Nat} {xLang : Nat → Option Nat} {xCount : Int32} {sAssigned : Nat → Option Nat} {sLeast : Nat → Int32} {sMost : Nat → Int32} {sCount : Int32} {sAllowed : Nat → Int64} {sLengths : Nat → Int32} {sKept : Bool} {sKeptLengths : Nat → Int32} {sKeptWords : Nat → Int64} {gF : Nat → Nat → Int32} {gL : Nat → Nat → Int32} {gM : Nat → Nat → Int32} {p0 : Int32} {p1 : Int32}  {r : (Int32 × ((Nat → Option Nat))) ⊕ ((Nat → Option Nat))} (sz : Nat) (hf : f_La_variable n p0 p1 xLang xCount sAssigned = some r) : vx_Met l y_La_variable w0_La_variable ({ frames := 8, cells := 2, slots := 12, locals := 126 }) (yPre D K T [.ref xq, .int p0, .int p1] ((rsW K xq xl mq cq iq sq xLang xCount) ++ (sgW K sq sA sF sLe sMo sAl sRL sRM sLn sKL sKW fF fL fM sAssigned sLeast sMost sCount sAllowed sLengths sKept sKeptLengths sKeptWords gF gL gM)) 60 xLang sz) (yPost D K r (fun u (g : Unit) => ((rsW K xq xl mq cq iq sq xLang xCount) ++ (sgW K sq sA sF sLe sMo sAl sRL sRM sLn sKL sKW fF fL fM u sLeast sMost sCount sAllowed sLengths sKept sKeptLengths sKeptWords gF gL gM))) (fun v (g : Unit) => ((rsW K xq xl mq cq iq sq xLang xCount) ++ (sgW K sq sA sF sLe sMo sAl sRL sRM sLn sKL sKW fF fL fM v sLeast sMost sCount sAllowed sLengths sKept sKeptLengths sKeptWords gF gL gM))) (va_A ((rsW K xq xl mq cq iq sq xLang xCount) ++ (sgW K sq sA sF sLe sMo sAl sRL sRM sLn sKL sKW fF fL fM sAssigned sLeast sMost sCount sAllowed sLengths sKept sKeptLengths sKeptWords gF gL gM)) sz)) (fun _ _ _ => False) 2 12 (va_A ((rsW K xq xl mq cq iq sq xLang xCount) ++ (sgW K sq sA sF sLe sMo sAl sRL sRM sLn sKL sKW fF fL fM sAssigned sLeast sMost sCount sAllowed sLengths sKept sKeptLengths sKeptWords gF gL gM)) sz) := by
  unfold f_La_variable at hf
  obtain ⟨u, eu, hf⟩ := obd hf
  refine vx_ofWH (cc := b_La_variable) (maxL := 4) (ret := (some .int)) (hh := [(0, 6, 9, 13)]) (by decide) rfl ?_
  intro p e s m args below meth c s₁ B hml hv
  obtain ⟨⟨⟨rfl, hsz, hP, hK, hD0⟩, hX, hZ, hT0⟩, hC⟩ := hv
  subst hsz
  have hx := B.exec
  have hb := B.bytes
  have hts : ∀ w ∈ gW, w.before _ s = true := fun w hw => atoms_spec (ws := w0_La_variable) B.pre w (List.mem_cons_of_mem _ hw)
  have htab : c.exceptionTable.toList = tableOf [(0, 6, 9, 13)] := vx_table (x := y_La_variable) B (atoms_spec (ws := w0_La_variable) B.pre _ List.mem_cons_self)
  have hown : s.vm.findClass "RegularSolverLaw" = some m.cls := findClass_of_methodNamed B.named
  have hD := hD0.self (sz := s.heap.size)
  generalize hAe : va_A ((rsW K xq xl mq cq iq sq xLang xCount) ++ (sgW K sq sA sF sLe sMo sAl sRL sRM sLn sKL sKW fF fL fM sAssigned sLeast sMost sCount sAllowed sLengths sKept sKeptLengths sKeptWords gF gL gM)) s.heap.size = A at hD hZ hT0 ⊢
  have hA : ∀ q : Nat, s.heap.size ≤ q → A q := fun q h => by rw [← hAe]; exact Or.inr h
  have hS : va_S A s.heap s.heap [] := va_S.rf
  have hl := lv_entry [.ref xq, .int p0, .int p1] (n := 4) (Nat.le_of_ble_eq_true rfl)
  rw [lg_entry_eq]
  generalize (lg_sl [.ref xq, .int p0, .int p1] ++ List.replicate (4 - (lg_sl [.ref xq, .int p0, .int p1]).length) Slot.unset).toArray = ls at hl ⊢
  refine x_gen (P := fun H => W p l e _ s m _ below meth c H [] 0 0 _ _) ?_
  intro H hHe
  rw [← hHe] at hP
  have hS : va_S A s.heap H [] := by rw [hHe]; exact hS
  have hT0 : ∀ (q i : Nat), i < 60 → xLang i = some q → va_P D vwCl (auT K T q) H ∧ gAw A (auT K T q) := by rw [hHe]; exact hT0
  refine lv_aload_n hx hb d_La_variable_0 rfl (lv_at hl 0 rfl) ?_
  refine lv_iload_n hx hb d_La_variable_1 rfl (lv_at hl 1 rfl) ?_
  refine lv_iload_n hx hb d_La_variable_2 rfl (lv_at hl 2 rfl) ?_
  refine x_call (vx_runV (As := [.int p0, .int p1]) (rest := []) ⟨hx, hb, hml, hown, hts⟩ (c_RS_variable l hl0 H.size eu) (gV 2 hts cd_RS_variable ml_La_61 im_RS_variable se_RS_variable ini_RS rfl rfl pd_RS_variable ⟨Nat.le_of_ble_eq_true rfl, Nat.le_of_ble_eq_true rfl⟩) ⟨xPre_blind, va_recv hK (vaL hP) (ci := 10) (q0 := 0) rfl rfl, xPre_of hP hK hD hS hA hX hZ hT0⟩ rfl rfl hl.1 rfl (lv_room (Nat.le_of_ble_eq_true rfl)) d_La_variable_3 ⟨(by decide : 0 + 2 ≤ 2), (by decide : 0 + 12 ≤ 12)⟩) hD hS hA (fun E x ex g ce q9 H1 locs hP1 hD1 hk1 hS1 hq1 hq2 hq3 => ?_) (fun v ev g H1 locs hP1 hD1 hk1 hS1 => ?_)
  · subst ex
    obtain ⟨hP, hD⟩ : _ ∧ _ := ⟨hP1, hD1.weaken (B := A) (fun _ q _ h => va_sub hD hS hA q.1 h)⟩
    have hS := hS1
    generalize H1 = H at hP hS hq1 ⊢
    replace hf : (if E = "java/lang/IllegalArgumentException" then some (.inl (1, x)) else none) = some r := hf
    by_cases h0 : E = "java/lang/IllegalArgumentException"
    · subst h0
      rw [if_pos rfl] at hf
      have hr := (Option.some.inj hf).symm
      refine vx_catch (name := "java/lang/IllegalArgumentException") hown [] ⟨0, 6, 9, 13⟩ [] htab (fun z hz => nomatch hz) rfl (by decide) (hts _ cl_La_13) (va_Nw.use rfl (hZ.2.2.2 _ (by decide +kernel))) hq1 hq2 hq3 ?_
      refine lv_astore_n (lv' := [(3, .ref q9), (0, .ref xq), (1, .int p0), (2, .int p1)]) hx hb d_La_variable_9 rfl hl (by decide) rfl (fun ls hl => ?_)
      refine lv_iconst (v := 1) hx hb d_La_variable_10 (by decide) ?_
      exact vx_ret (W.iret hx hb B.returns (fun t ht hW => Or.inl ⟨_, hr, ⟨g, rfl, by rw [ht]; exact hP, va_K.moved hW.alike hK, hD⟩, hS.F ht⟩) hS.2.2 d_La_variable_11 (hlocks := B.notSynchronized))
    rw [if_neg h0] at hf
    exact nomatch hf
  · subst ev
    have hr := (Option.some.inj hf).symm
    obtain ⟨hP, hD⟩ : _ ∧ _ := ⟨hP1, hD1.weaken (B := A) (fun _ q _ h => va_sub hD hS hA q.1 h)⟩
    have hS := hS1
    generalize H1 = H at hP hS ⊢
    refine lv_goto (tgt := 12) hx hb d_La_variable_6 (by decide) ?_
    refine lv_iconst (v := 0) hx hb d_La_variable_12 (by decide) ?_
    exact vx_ret (W.iret hx hb B.returns (fun t ht hW => Or.inr ⟨_, hr, ⟨g, rfl, by rw [ht]; exact hP, va_K.moved hW.alike hK, hD⟩, hS.F ht⟩) hS.2.2 d_La_variable_13 (hlocks := B.notSynchronized))
def f_La_bound (n : Nat) (p0 : Int32) (p1 : Int32) (p2 : Int32) (p3 : Int32) (p4 : Int32) (p5 : Int32) (sLeast : Nat → Int32) (sMost : Nat → Int32) (sCount : Int32) (gF : Nat → Nat → Int32) (oF : Nat → Int64) : Option ((Int32 × ((Nat → Int32) × (Nat → Int32) × Int32 × (Nat → Nat → Int32))) ⊕ ((Nat → Int64) × (Int32 × (Nat → Int32) × (Nat → Int32) × Int32 × (Nat → Nat → Int32)))) :=
  (f_RS_bound n p0 p1 p2 p3 p4 p5 sLeast sMost sCount gF).bind fun u => u.elim (fun x => if x.1 = "java/lang/IllegalArgumentException" then some (.inl (1, x.2)) else if x.1 = "java/lang/IndexOutOfBoundsException" then some (.inl (2, x.2)) else none) fun v => some (.inr (vp_updL oF (0 : Int32).toNatClampNeg v.1.toInt64, v))
set_option maxHeartbeats 400000 in
set_option maxRecDepth 100000 in
theorem c_La_bound (l : Launch) (hl0 : l.stackTraces = false) {D : va_G} {K : Nat → ClassId} {T : auTab} {n : Nat} {xq : Nat} {xl : Nat} {mq : Nat} {cq : Nat} {iq : Nat} {sq : Nat} {sA : Nat} {sF : Nat} {sLe : Nat} {sMo : Nat} {sAl : Nat} {sRL : Nat} {sRM : Nat} {sLn : Nat} {sKL : Nat} {sKW : Nat} {fF : Nat → Nat} {fL : Nat → Nat} {fM : Nat → Nat} {xLang : Nat → Option Nat} {xCount : Int32} {sAssigned : Nat → Option Nat} {sLeast : Nat → Int32} {sMost : Nat → Int32} {sCount : Int32} {sAllowed : Nat → Int64} {sLengths : Nat → Int32} {sKept : Bool} {sKeptLengths : Nat → Int32} {sKeptWords : Nat → Int64} {gF : Nat → Nat → Int32} {gL : Nat → Nat → Int32} {gM : Nat → Nat → Int32} {p0 : Int32} {p1 : Int32} {p2 : Int32} {p3 : Int32} {p4 : Int32} {p5 : Int32} {lq : Nat} {oF : Nat → Int64} {r : (Int32 × ((Nat → Int32) × (Nat → Int32) × Int32 × (Nat → Nat → Int32))) ⊕ ((Nat → Int64) × (Int32 × (Nat → Int32) × (Nat → Int32) × Int32 × (Nat → Nat → Int32)))} (sz : Nat) (hf : f_La_bound n p0 p1 p2 p3 p4 p5 sLeast sMost sCount gF oF = some r) : vx_Met l y_La_bound w0_La_bound ({ frames := 9, cells := 5, slots := 30, locals := 150 }) (yPre D K T [.ref xq, .int p0, .int p1, .int p2, .int p3, .int p4, .int p5, .ref lq] (((rsW K xq xl mq cq iq sq xLang xCount) ++ (sgW K sq sA sF sLe sMo sAl sRL sRM sLn sKL sKW fF fL fM sAssigned sLeast sMost sCount sAllowed sLengths sKept sKeptLengths sKeptWords gF gL gM)) ++ (laW K lq 1 oF)) 0 (fun _ => none) sz) (yPost D K r (fun u (g : Unit) => (((rsW K xq xl mq cq iq sq xLang xCount) ++ (sgW K sq sA sF sLe sMo sAl sRL sRM sLn sKL sKW fF fL fM sAssigned u.1 u.2.1 u.2.2.1 sAllowed sLengths sKept sKeptLengths sKeptWords u.2.2.2 gL gM)) ++ (laW K lq 1 oF))) (fun v (g : Unit) => ((((rsW K xq xl mq cq iq sq xLang xCount) ++ (sgW K sq sA sF sLe sMo sAl sRL sRM sLn sKL sKW fF fL fM sAssigned v.2.2.1 v.2.2.2.1 v.2.2.2.2.1 sAllowed sLengths sKept sKeptLengths sKeptWords v.2.2.2.2.2 gL gM))) ++ (laW K lq 1 v.1))) (va_A (((rsW K xq xl mq cq iq sq xLang xCount) ++ (sgW K sq sA sF sLe sMo sAl sRL sRM sLn sKL sKW fF fL fM sAssigned sLeast sMost sCount sAllowed sLengths sKept sKeptLengths sKeptWords gF gL gM)) ++ (laW K lq 1 oF)) sz)) (fun _ _ _ => False) 5 30 (va_A (((rsW K xq xl mq cq iq sq xLang xCount) ++ (sgW K sq sA sF sLe sMo sAl sRL sRM sLn sKL sKW fF fL fM sAssigned sLeast sMost sCount sAllowed sLengths sKept sKeptLengths sKeptWords gF gL gM)) ++ (laW K lq 1 oF)) sz) := by
  unfold f_La_bound at hf
  obtain ⟨u, eu, hf⟩ := obd hf
  refine vx_ofWH (cc := b_La_bound) (maxL := 9) (ret := (some .int)) (hh := [(0, 18, 21, 13), (0, 18, 25, 15)]) (by decide) rfl ?_
  intro p e s m args below meth c s₁ B hml hv
  obtain ⟨⟨⟨rfl, hsz, hP, hK, hD0⟩, hX, hZ, hT0⟩, hC⟩ := hv
  subst hsz
  have hx := B.exec
  have hb := B.bytes
  have hts : ∀ w ∈ gW, w.before _ s = true := fun w hw => atoms_spec (ws := w0_La_bound) B.pre w (List.mem_cons_of_mem _ hw)
  have htab : c.exceptionTable.toList = tableOf [(0, 18, 21, 13), (0, 18, 25, 15)] := vx_table (x := y_La_bound) B (atoms_spec (ws := w0_La_bound) B.pre _ List.mem_cons_self)
  have hown : s.vm.findClass "RegularSolverLaw" = some m.cls := findClass_of_methodNamed B.named
  have hD := hD0.self (sz := s.heap.size)
  generalize hAe : va_A (((rsW K xq xl mq cq iq sq xLang xCount) ++ (sgW K sq sA sF sLe sMo sAl sRL sRM sLn sKL sKW fF fL fM sAssigned sLeast sMost sCount sAllowed sLengths sKept sKeptLengths sKeptWords gF gL gM)) ++ (laW K lq 1 oF)) s.heap.size = A at hD hZ hT0 ⊢
  have hA : ∀ q : Nat, s.heap.size ≤ q → A q := fun q h => by rw [← hAe]; exact Or.inr h
  have hS : va_S A s.heap s.heap [] := va_S.rf
  have hl := lv_entry [.ref xq, .int p0, .int p1, .int p2, .int p3, .int p4, .int p5, .ref lq] (n := 9) (Nat.le_of_ble_eq_true rfl)
  rw [lg_entry_eq]
  generalize (lg_sl [.ref xq, .int p0, .int p1, .int p2, .int p3, .int p4, .int p5, .ref lq] ++ List.replicate (9 - (lg_sl [.ref xq, .int p0, .int p1, .int p2, .int p3, .int p4, .int p5, .ref lq]).length) Slot.unset).toArray = ls at hl ⊢
  refine x_gen (P := fun H => W p l e _ s m _ below meth c H [] 0 0 _ _) ?_
  intro H hHe
  rw [← hHe] at hP
  have hS : va_S A s.heap H [] := by rw [hHe]; exact hS
  have hT0 : ∀ (q i : Nat), i < 0 → (fun _ => none) i = some q → va_P D vwCl (auT K T q) H ∧ gAw A (auT K T q) := by rw [hHe]; exact hT0
  refine lv_aload hx hb d_La_bound_0 (lv_at hl 7 rfl) ?_
  refine lv_iconst (v := 0) hx hb d_La_bound_2 (by decide) ?_
  refine lv_aload_n hx hb d_La_bound_3 rfl (lv_at hl 0 rfl) ?_
  refine lv_iload_n hx hb d_La_bound_4 rfl (lv_at hl 1 rfl) ?_
  refine lv_iload_n hx hb d_La_bound_5 rfl (lv_at hl 2 rfl) ?_
  refine lv_iload_n hx hb d_La_bound_6 rfl (lv_at hl 3 rfl) ?_
  refine lv_iload hx hb d_La_bound_7 (lv_at hl 4 rfl) ?_
  refine lv_iload hx hb d_La_bound_9 (lv_at hl 5 rfl) ?_
  refine lv_iload hx hb d_La_bound_11 (lv_at hl 6 rfl) ?_
  refine x_call (vx_runV (As := [.int p0, .int p1, .int p2, .int p3, .int p4, .int p5]) (rest := [.int 0, .ref lq]) ⟨hx, hb, hml, hown, hts⟩ (c_RS_bound l hl0 H.size eu) (gV 6 hts cd_RS_bound ml_La_65 im_RS_bound se_RS_bound ini_RS rfl rfl pd_RS_bound ⟨Nat.le_of_ble_eq_true rfl, Nat.le_of_ble_eq_true rfl⟩) ⟨xPre_blind, va_recv hK (vaL (vaL hP)) (ci := 10) (q0 := 0) rfl rfl, xPre_of (vaL hP) hK (vdL hD) hS hA hX hZ hT0⟩ rfl rfl hl.1 rfl (lv_room (Nat.le_of_ble_eq_true rfl)) d_La_bound_13 ⟨(by decide : 0 + 5 ≤ 5), (by decide : 0 + 30 ≤ 30)⟩) (vdL hD) hS hA (fun E x ex g ce q9 H1 locs hP1 hD1 hk1 hS1 hq1 hq2 hq3 => ?_) (fun v ev g H1 locs hP1 hD1 hk1 hS1 => ?_)
  · subst ex
    obtain ⟨hP, hD⟩ := va_keepR hP hD (va_sub (vdL hD) hS hA) hk1 hP1 hD1
    have hS := hS1
    generalize H1 = H at hP hS hq1 ⊢
    replace hf : (if E = "java/lang/IllegalArgumentException" then some (.inl (1, x)) else if E = "java/lang/IndexOutOfBoundsException" then some (.inl (2, x)) else none) = some r := hf
    by_cases h0 : E = "java/lang/IllegalArgumentException"
    · subst h0
      rw [if_pos rfl] at hf
      have hr := (Option.some.inj hf).symm
      refine vx_catch (name := "java/lang/IllegalArgumentException") hown [] ⟨0, 18, 21, 13⟩ [⟨0, 18, 25, 15⟩] htab (fun z hz => nomatch hz) rfl (by decide) (hts _ cl_La_13) (va_Nw.use rfl (hZ.2.2.2 _ (by decide +kernel))) hq1 hq2 hq3 ?_
      refine lv_astore (lv' := [(8, .ref q9), (0, .ref xq), (1, .int p0), (2, .int p1), (3, .int p2), (4, .int p3), (5, .int p4), (6, .int p5), (7, .ref lq)]) hx hb d_La_bound_21 hl (by decide) rfl (fun ls hl => ?_)
      refine lv_iconst (v := 1) hx hb d_La_bound_23 (by decide) ?_
      exact vx_ret (W.iret hx hb B.returns (fun t ht hW => Or.inl ⟨_, hr, ⟨g, rfl, by rw [ht]; exact hP, va_K.moved hW.alike hK, hD⟩, hS.F ht⟩) hS.2.2 d_La_bound_24 (hlocks := B.notSynchronized))
    rw [if_neg h0] at hf
    by_cases h1 : E = "java/lang/IndexOutOfBoundsException"
    · subst h1
      rw [if_pos rfl] at hf
      have hr := (Option.some.inj hf).symm
      refine vx_catch (name := "java/lang/IndexOutOfBoundsException") hown [⟨0, 18, 21, 13⟩] ⟨0, 18, 25, 15⟩ [] htab (fun z hz => by simp only [List.mem_cons, List.not_mem_nil, or_false] at hz; rcases hz with rfl; exact Or.inr ⟨by decide, "java/lang/IllegalArgumentException", hts _ cl_La_13, hC ("java/lang/IndexOutOfBoundsException", "java/lang/IllegalArgumentException") (by decide)⟩) rfl (by decide) (hts _ cl_La_15) (va_Nw.use rfl (hZ.2.2.2 _ (by decide +kernel))) hq1 hq2 hq3 ?_
      refine lv_astore (lv' := [(8, .ref q9), (0, .ref xq), (1, .int p0), (2, .int p1), (3, .int p2), (4, .int p3), (5, .int p4), (6, .int p5), (7, .ref lq)]) hx hb d_La_bound_25 hl (by decide) rfl (fun ls hl => ?_)
      refine lv_iconst (v := 2) hx hb d_La_bound_27 (by decide) ?_
      exact vx_ret (W.iret hx hb B.returns (fun t ht hW => Or.inl ⟨_, hr, ⟨g, rfl, by rw [ht]; exact hP, va_K.moved hW.alike hK, hD⟩, hS.F ht⟩) hS.2.2 d_La_bound_28 (hlocks := B.notSynchronized))
    rw [if_neg h1] at hf
    exact nomatch hf
  · subst ev
    have hr := (Option.some.inj hf).symm
    obtain ⟨hP, hD⟩ := va_keepR hP hD (va_sub (vdL hD) hS hA) hk1 hP1 hD1
    have hS := hS1
    generalize H1 = H at hP hS ⊢
    refine lv_i2l (v := v.1.toInt64) hx hb d_La_bound_16 rfl ?_
    refine va_last hx hb hK hP hD hS 37 1 rfl rfl (gin_in (by decide)) d_La_bound_17 (fun H locs hP hD hS => ?_)
    refine lv_goto (tgt := 29) hx hb d_La_bound_18 (by decide) ?_
    refine lv_iconst (v := 0) hx hb d_La_bound_29 (by decide) ?_
    exact vx_ret (W.iret hx hb B.returns (fun t ht hW => Or.inr ⟨_, hr, ⟨g, rfl, by rw [ht]; exact hP, va_K.moved hW.alike hK, hD⟩, hS.F ht⟩) hS.2.2 d_La_bound_30 (hlocks := B.notSynchronized))
def f_La_solve (n : Nat) (p0 : Int32) (sAssigned : Nat → Option Nat) (sLeast : Nat → Int32) (sMost : Nat → Int32) (sCount : Int32) (sAllowed : Nat → Int64) (sLengths : Nat → Int32) (sKept : Bool) (sKeptLengths : Nat → Int32) (sKeptWords : Nat → Int64) (gF : Nat → Nat → Int32) (gL : Nat → Nat → Int32) (gM : Nat → Nat → Int32) (T : auTab) (oF : Nat → Int64) : Option ((Int32 × ((Nat → Int64) × (Nat → Int32) × Bool × (Nat → Int32) × (Nat → Int64) × (Nat → Nat → Int32) × (Nat → Nat → Int32))) ⊕ ((Nat → Int64) × (Bool × (Nat → Int64) × (Nat → Int32) × Bool × (Nat → Int32) × (Nat → Int64) × (Nat → Nat → Int32) × (Nat → Nat → Int32)))) :=
  (f_RS_solve n p0 sAssigned sLeast sMost sCount sAllowed sLengths sKept sKeptLengths sKeptWords gF gL gM T).bind fun u => u.elim (fun x => if x.1 = "java/lang/IllegalArgumentException" then some (.inl (1, x.2)) else none) fun v => some (.inr (vp_updL oF (0 : Int32).toNatClampNeg (if v.1 = true then 1 else 0), v))
set_option maxHeartbeats 400000 in
set_option maxRecDepth 100000 in
theorem c_La_solve (l : Launch) (hl0 : l.stackTraces = false) {D : va_G} {K : Nat → ClassId} {T : auTab} {n : Nat} {xq : Nat} {xl : Nat} {mq : Nat} {cq : Nat} {iq : Nat} {sq : Nat} {sA : Nat} {sF : Nat} {sLe : Nat} {sMo : Nat} {sAl : Nat} {sRL : Nat} {sRM : Nat} {sLn : Nat} {sKL : Nat} {sKW : Nat} {fF : Nat → Nat} {fL : Nat → Nat} {fM : Nat → Nat} {xLang : Nat → Option Nat} {xCount : Int32} {sAssigned : Nat → Option Nat} {sLeast : Nat → Int32} {sMost : Nat → Int32} {sCount : Int32} {sAllowed : Nat → Int64} {sLengths : Nat → Int32} {sKept : Bool} {sKeptLengths : Nat → Int32} {sKeptWords : Nat → Int64} {gF : Nat → Nat → Int32} {gL : Nat → Nat → Int32} {gM : Nat → Nat → Int32} {p0 : Int32} {lq : Nat} {oF : Nat → Int64} {r : (Int32 × ((Nat → Int64) × (Nat → Int32) × Bool × (Nat → Int32) × (Nat → Int64) × (Nat → Nat → Int32) × (Nat → Nat → Int32))) ⊕ ((Nat → Int64) × (Bool × (Nat → Int64) × (Nat → Int32) × Bool × (Nat → Int32) × (Nat → Int64) × (Nat → Nat → Int32) × (Nat → Nat → Int32)))} (sz : Nat) (hf : f_La_solve n p0 sAssigned sLeast sMost sCount sAllowed sLengths sKept sKeptLengths sKeptWords gF gL gM T oF = some r) : vx_Met l y_La_solve w0_La_solve ({ frames := 12, cells := 1, slots := 6, locals := 288 }) (yPre D K T [.ref xq, .int p0, .ref lq] (((rsW K xq xl mq cq iq sq xLang xCount) ++ (sgW K sq sA sF sLe sMo sAl sRL sRM sLn sKL sKW fF fL fM sAssigned sLeast sMost sCount sAllowed sLengths sKept sKeptLengths sKeptWords gF gL gM)) ++ (laW K lq 1 oF)) 4 sAssigned sz) (yPost D K r (fun u (g : Unit) => (((rsW K xq xl mq cq iq sq xLang xCount) ++ (sgW K sq sA sF sLe sMo sAl sRL sRM sLn sKL sKW fF fL fM sAssigned sLeast sMost sCount u.1 u.2.1 u.2.2.1 u.2.2.2.1 u.2.2.2.2.1 gF u.2.2.2.2.2.1 u.2.2.2.2.2.2)) ++ (laW K lq 1 oF))) (fun v (g : Unit) => ((((rsW K xq xl mq cq iq sq xLang xCount) ++ (sgW K sq sA sF sLe sMo sAl sRL sRM sLn sKL sKW fF fL fM sAssigned sLeast sMost sCount v.2.2.1 v.2.2.2.1 v.2.2.2.2.1 v.2.2.2.2.2.1 v.2.2.2.2.2.2.1 gF v.2.2.2.2.2.2.2.1 v.2.2.2.2.2.2.2.2))) ++ (laW K lq 1 v.1))) (va_A (((rsW K xq xl mq cq iq sq xLang xCount) ++ (sgW K sq sA sF sLe sMo sAl sRL sRM sLn sKL sKW fF fL fM sAssigned sLeast sMost sCount sAllowed sLengths sKept sKeptLengths sKeptWords gF gL gM)) ++ (laW K lq 1 oF)) sz)) (fun _ _ _ => False) 1 6 (va_A (((rsW K xq xl mq cq iq sq xLang xCount) ++ (sgW K sq sA sF sLe sMo sAl sRL sRM sLn sKL sKW fF fL fM sAssigned sLeast sMost sCount sAllowed sLengths sKept sKeptLengths sKeptWords gF gL gM)) ++ (laW K lq 1 oF)) sz) := by
  unfold f_La_solve at hf
  obtain ⟨u, eu, hf⟩ := obd hf
  refine vx_ofWH (cc := b_La_solve) (maxL := 4) (ret := (some .int)) (hh := [(0, 16, 19, 13)]) (by decide) rfl ?_
  intro p e s m args below meth c s₁ B hml hv
  obtain ⟨⟨⟨rfl, hsz, hP, hK, hD0⟩, hX, hZ, hT0⟩, hC⟩ := hv
  subst hsz
  have hx := B.exec
  have hb := B.bytes
  have hts : ∀ w ∈ gW, w.before _ s = true := fun w hw => atoms_spec (ws := w0_La_solve) B.pre w (List.mem_cons_of_mem _ hw)
  have htab : c.exceptionTable.toList = tableOf [(0, 16, 19, 13)] := vx_table (x := y_La_solve) B (atoms_spec (ws := w0_La_solve) B.pre _ List.mem_cons_self)
  have hown : s.vm.findClass "RegularSolverLaw" = some m.cls := findClass_of_methodNamed B.named
  have hD := hD0.self (sz := s.heap.size)
  generalize hAe : va_A (((rsW K xq xl mq cq iq sq xLang xCount) ++ (sgW K sq sA sF sLe sMo sAl sRL sRM sLn sKL sKW fF fL fM sAssigned sLeast sMost sCount sAllowed sLengths sKept sKeptLengths sKeptWords gF gL gM)) ++ (laW K lq 1 oF)) s.heap.size = A at hD hZ hT0 ⊢
  have hA : ∀ q : Nat, s.heap.size ≤ q → A q := fun q h => by rw [← hAe]; exact Or.inr h
  have hS : va_S A s.heap s.heap [] := va_S.rf
  have hl := lv_entry [.ref xq, .int p0, .ref lq] (n := 4) (Nat.le_of_ble_eq_true rfl)
  rw [lg_entry_eq]
  generalize (lg_sl [.ref xq, .int p0, .ref lq] ++ List.replicate (4 - (lg_sl [.ref xq, .int p0, .ref lq]).length) Slot.unset).toArray = ls at hl ⊢
  refine x_gen (P := fun H => W p l e _ s m _ below meth c H [] 0 0 _ _) ?_
  intro H hHe
  rw [← hHe] at hP
  have hS : va_S A s.heap H [] := by rw [hHe]; exact hS
  have hT0 : ∀ (q i : Nat), i < 4 → sAssigned i = some q → va_P D vwCl (auT K T q) H ∧ gAw A (auT K T q) := by rw [hHe]; exact hT0
  refine lv_aload_n hx hb d_La_solve_0 rfl (lv_at hl 2 rfl) ?_
  refine lv_iconst (v := 0) hx hb d_La_solve_1 (by decide) ?_
  refine lv_aload_n hx hb d_La_solve_2 rfl (lv_at hl 0 rfl) ?_
  refine lv_iload_n hx hb d_La_solve_3 rfl (lv_at hl 1 rfl) ?_
  refine x_call (vx_runV (As := [.int p0]) (rest := [.int 0, .ref lq]) ⟨hx, hb, hml, hown, hts⟩ (c_RS_solve l hl0 H.size eu) (gV 1 hts cd_RS_solve ml_La_69 im_RS_solve se_RS_solve ini_RS rfl rfl pd_RS_solve ⟨Nat.le_of_ble_eq_true rfl, Nat.le_of_ble_eq_true rfl⟩) ⟨xPre_blind, va_recv hK (vaL (vaL hP)) (ci := 10) (q0 := 0) rfl rfl, xPre_of (vaL hP) hK (vdL hD) hS hA hX hZ hT0⟩ rfl rfl hl.1 rfl (lv_room (Nat.le_of_ble_eq_true rfl)) d_La_solve_4 ⟨(by decide : 0 + 1 ≤ 1), (by decide : 0 + 6 ≤ 6)⟩) (vdL hD) hS hA (fun E x ex g ce q9 H1 locs hP1 hD1 hk1 hS1 hq1 hq2 hq3 => ?_) (fun v ev g H1 locs hP1 hD1 hk1 hS1 => ?_)
  · subst ex
    obtain ⟨hP, hD⟩ := va_keepR hP hD (va_sub (vdL hD) hS hA) hk1 hP1 hD1
    have hS := hS1
    generalize H1 = H at hP hS hq1 ⊢
    replace hf : (if E = "java/lang/IllegalArgumentException" then some (.inl (1, x)) else none) = some r := hf
    by_cases h0 : E = "java/lang/IllegalArgumentException"
    · subst h0
      rw [if_pos rfl] at hf
      have hr := (Option.some.inj hf).symm
      refine vx_catch (name := "java/lang/IllegalArgumentException") hown [] ⟨0, 16, 19, 13⟩ [] htab (fun z hz => nomatch hz) rfl (by decide) (hts _ cl_La_13) (va_Nw.use rfl (hZ.2.2.2 _ (by decide +kernel))) hq1 hq2 hq3 ?_
      refine lv_astore_n (lv' := [(3, .ref q9), (0, .ref xq), (1, .int p0), (2, .ref lq)]) hx hb d_La_solve_19 rfl hl (by decide) rfl (fun ls hl => ?_)
      refine lv_iconst (v := 1) hx hb d_La_solve_20 (by decide) ?_
      exact vx_ret (W.iret hx hb B.returns (fun t ht hW => Or.inl ⟨_, hr, ⟨g, rfl, by rw [ht]; exact hP, va_K.moved hW.alike hK, hD⟩, hS.F ht⟩) hS.2.2 d_La_solve_21 (hlocks := B.notSynchronized))
    rw [if_neg h0] at hf
    exact nomatch hf
  · subst ev
    have hr := (Option.some.inj hf).symm
    obtain ⟨hP, hD⟩ := va_keepR hP hD (va_sub (vdL hD) hS hA) hk1 hP1 hD1
    have hS := hS1
    generalize H1 = H at hP hS ⊢
    refine bz_eq (tgt := 14) hx hb d_La_solve_7 (by decide) (fun cc => ?_) (fun cc => ?_)
    · rw [if_neg cc] at hr
      refine lv_lconst (v := 0) hx hb d_La_solve_14 (by decide) ?_
      refine va_last hx hb hK hP hD hS 37 1 rfl rfl (gin_in (by decide)) d_La_solve_15 (fun H locs hP hD hS => ?_)
      refine lv_goto (tgt := 22) hx hb d_La_solve_16 (by decide) ?_
      refine lv_iconst (v := 0) hx hb d_La_solve_22 (by decide) ?_
      exact vx_ret (W.iret hx hb B.returns (fun t ht hW => Or.inr ⟨_, hr, ⟨g, rfl, by rw [ht]; exact hP, va_K.moved hW.alike hK, hD⟩, hS.F ht⟩) hS.2.2 d_La_solve_23 (hlocks := B.notSynchronized))
    · rw [if_pos cc] at hr
      refine lv_lconst (v := 1) hx hb d_La_solve_10 (by decide) ?_
      refine lv_goto (tgt := 15) hx hb d_La_solve_11 (by decide) ?_
      refine va_last hx hb hK hP hD hS 37 1 rfl rfl (gin_in (by decide)) d_La_solve_15 (fun H locs hP hD hS => ?_)
      refine lv_goto (tgt := 22) hx hb d_La_solve_16 (by decide) ?_
      refine lv_iconst (v := 0) hx hb d_La_solve_22 (by decide) ?_
      exact vx_ret (W.iret hx hb B.returns (fun t ht hW => Or.inr ⟨_, hr, ⟨g, rfl, by rw [ht]; exact hP, va_K.moved hW.alike hK, hD⟩, hS.F ht⟩) hS.2.2 d_La_solve_23 (hlocks := B.notSynchronized))
def f_La_length (n : Nat) (p0 : Int32) (sKept : Bool) (sKeptLengths : Nat → Int32) (oF : Nat → Int64) : Option ((Int32 × (Unit)) ⊕ ((Nat → Int64) × (Int32))) :=
  (f_RS_length n p0 sKept sKeptLengths).bind fun u => u.elim (fun x => if x.1 = "java/lang/IllegalArgumentException" then some (.inl (1, x.2)) else if x.1 = "java/lang/IllegalStateException" then some (.inl (2, x.2)) else none) fun v => some (.inr (vp_updL oF (0 : Int32).toNatClampNeg v.toInt64, v))
set_option maxHeartbeats 400000 in
set_option maxRecDepth 100000 in
theorem c_La_length (l : Launch) (hl0 : l.stackTraces = false) {D : va_G} {K : Nat → ClassId} {T : auTab} {n : Nat} {xq : Nat} {xl : Nat} {mq : Nat} {cq : Nat} {iq : Nat} {sq : Nat} {sA : Nat} {sF : Nat} {sLe : Nat} {sMo : Nat} {sAl : Nat} {sRL : Nat} {sRM : Nat} {sLn : Nat} {sKL : Nat} {sKW : Nat} {fF : Nat → Nat} {fL : Nat → Nat} {fM : Nat → Nat} {xLang : Nat → Option Nat} {xCount : Int32} {sAssigned : Nat → Option Nat} {sLeast : Nat → Int32} {sMost : Nat → Int32} {sCount : Int32} {sAllowed : Nat → Int64} {sLengths : Nat → Int32} {sKept : Bool} {sKeptLengths : Nat → Int32} {sKeptWords : Nat → Int64} {gF : Nat → Nat → Int32} {gL : Nat → Nat → Int32} {gM : Nat → Nat → Int32} {p0 : Int32} {lq : Nat} {oF : Nat → Int64} {r : (Int32 × (Unit)) ⊕ ((Nat → Int64) × (Int32))} (sz : Nat) (hf : f_La_length n p0 sKept sKeptLengths oF = some r) : vx_Met l y_La_length w0_La_length ({ frames := 8, cells := 2, slots := 12, locals := 125 }) (yPre D K T [.ref xq, .int p0, .ref lq] (((rsW K xq xl mq cq iq sq xLang xCount) ++ (sgW K sq sA sF sLe sMo sAl sRL sRM sLn sKL sKW fF fL fM sAssigned sLeast sMost sCount sAllowed sLengths sKept sKeptLengths sKeptWords gF gL gM)) ++ (laW K lq 1 oF)) 0 (fun _ => none) sz) (yPost D K r (fun u (g : Unit) => (((rsW K xq xl mq cq iq sq xLang xCount) ++ (sgW K sq sA sF sLe sMo sAl sRL sRM sLn sKL sKW fF fL fM sAssigned sLeast sMost sCount sAllowed sLengths sKept sKeptLengths sKeptWords gF gL gM)) ++ (laW K lq 1 oF))) (fun v (g : Unit) => ((((rsW K xq xl mq cq iq sq xLang xCount) ++ (sgW K sq sA sF sLe sMo sAl sRL sRM sLn sKL sKW fF fL fM sAssigned sLeast sMost sCount sAllowed sLengths sKept sKeptLengths sKeptWords gF gL gM))) ++ (laW K lq 1 v.1))) (va_A (((rsW K xq xl mq cq iq sq xLang xCount) ++ (sgW K sq sA sF sLe sMo sAl sRL sRM sLn sKL sKW fF fL fM sAssigned sLeast sMost sCount sAllowed sLengths sKept sKeptLengths sKeptWords gF gL gM)) ++ (laW K lq 1 oF)) sz)) (fun _ _ _ => False) 2 12 (va_A (((rsW K xq xl mq cq iq sq xLang xCount) ++ (sgW K sq sA sF sLe sMo sAl sRL sRM sLn sKL sKW fF fL fM sAssigned sLeast sMost sCount sAllowed sLengths sKept sKeptLengths sKeptWords gF gL gM)) ++ (laW K lq 1 oF)) sz) := by
  unfold f_La_length at hf
  obtain ⟨u, eu, hf⟩ := obd hf
  refine vx_ofWH (cc := b_La_length) (maxL := 4) (ret := (some .int)) (hh := [(0, 9, 12, 13), (0, 9, 15, 76)]) (by decide) rfl ?_
  intro p e s m args below meth c s₁ B hml hv
  obtain ⟨⟨⟨rfl, hsz, hP, hK, hD0⟩, hX, hZ, hT0⟩, hC⟩ := hv
  subst hsz
  have hx := B.exec
  have hb := B.bytes
  have hts : ∀ w ∈ gW, w.before _ s = true := fun w hw => atoms_spec (ws := w0_La_length) B.pre w (List.mem_cons_of_mem _ hw)
  have htab : c.exceptionTable.toList = tableOf [(0, 9, 12, 13), (0, 9, 15, 76)] := vx_table (x := y_La_length) B (atoms_spec (ws := w0_La_length) B.pre _ List.mem_cons_self)
  have hown : s.vm.findClass "RegularSolverLaw" = some m.cls := findClass_of_methodNamed B.named
  have hD := hD0.self (sz := s.heap.size)
  generalize hAe : va_A (((rsW K xq xl mq cq iq sq xLang xCount) ++ (sgW K sq sA sF sLe sMo sAl sRL sRM sLn sKL sKW fF fL fM sAssigned sLeast sMost sCount sAllowed sLengths sKept sKeptLengths sKeptWords gF gL gM)) ++ (laW K lq 1 oF)) s.heap.size = A at hD hZ hT0 ⊢
  have hA : ∀ q : Nat, s.heap.size ≤ q → A q := fun q h => by rw [← hAe]; exact Or.inr h
  have hS : va_S A s.heap s.heap [] := va_S.rf
  have hl := lv_entry [.ref xq, .int p0, .ref lq] (n := 4) (Nat.le_of_ble_eq_true rfl)
  rw [lg_entry_eq]
  generalize (lg_sl [.ref xq, .int p0, .ref lq] ++ List.replicate (4 - (lg_sl [.ref xq, .int p0, .ref lq]).length) Slot.unset).toArray = ls at hl ⊢
  refine x_gen (P := fun H => W p l e _ s m _ below meth c H [] 0 0 _ _) ?_
  intro H hHe
  rw [← hHe] at hP
  have hS : va_S A s.heap H [] := by rw [hHe]; exact hS
  have hT0 : ∀ (q i : Nat), i < 0 → (fun _ => none) i = some q → va_P D vwCl (auT K T q) H ∧ gAw A (auT K T q) := by rw [hHe]; exact hT0
  refine lv_aload_n hx hb d_La_length_0 rfl (lv_at hl 2 rfl) ?_
  refine lv_iconst (v := 0) hx hb d_La_length_1 (by decide) ?_
  refine lv_aload_n hx hb d_La_length_2 rfl (lv_at hl 0 rfl) ?_
  refine lv_iload_n hx hb d_La_length_3 rfl (lv_at hl 1 rfl) ?_
  refine x_call (vx_runV (As := [.int p0]) (rest := [.int 0, .ref lq]) ⟨hx, hb, hml, hown, hts⟩ (c_RS_length l hl0 H.size eu) (gV 1 hts cd_RS_length ml_La_73 im_RS_length se_RS_length ini_RS rfl rfl pd_RS_length ⟨Nat.le_of_ble_eq_true rfl, Nat.le_of_ble_eq_true rfl⟩) ⟨xPre_blind, va_recv hK (vaL (vaL hP)) (ci := 10) (q0 := 0) rfl rfl, xPre_of (vaL hP) hK (vdL hD) hS hA hX hZ hT0⟩ rfl rfl hl.1 rfl (lv_room (Nat.le_of_ble_eq_true rfl)) d_La_length_4 ⟨(by decide : 0 + 2 ≤ 2), (by decide : 0 + 12 ≤ 12)⟩) (vdL hD) hS hA (fun E x ex g ce q9 H1 locs hP1 hD1 hk1 hS1 hq1 hq2 hq3 => ?_) (fun v ev g H1 locs hP1 hD1 hk1 hS1 => ?_)
  · subst ex
    obtain ⟨hP, hD⟩ := va_keepR hP hD (va_sub (vdL hD) hS hA) hk1 hP1 hD1
    have hS := hS1
    generalize H1 = H at hP hS hq1 ⊢
    replace hf : (if E = "java/lang/IllegalArgumentException" then some (.inl (1, x)) else if E = "java/lang/IllegalStateException" then some (.inl (2, x)) else none) = some r := hf
    by_cases h0 : E = "java/lang/IllegalArgumentException"
    · subst h0
      rw [if_pos rfl] at hf
      have hr := (Option.some.inj hf).symm
      refine vx_catch (name := "java/lang/IllegalArgumentException") hown [] ⟨0, 9, 12, 13⟩ [⟨0, 9, 15, 76⟩] htab (fun z hz => nomatch hz) rfl (by decide) (hts _ cl_La_13) (va_Nw.use rfl (hZ.2.2.2 _ (by decide +kernel))) hq1 hq2 hq3 ?_
      refine lv_astore_n (lv' := [(3, .ref q9), (0, .ref xq), (1, .int p0), (2, .ref lq)]) hx hb d_La_length_12 rfl hl (by decide) rfl (fun ls hl => ?_)
      refine lv_iconst (v := 1) hx hb d_La_length_13 (by decide) ?_
      exact vx_ret (W.iret hx hb B.returns (fun t ht hW => Or.inl ⟨_, hr, ⟨g, rfl, by rw [ht]; exact hP, va_K.moved hW.alike hK, hD⟩, hS.F ht⟩) hS.2.2 d_La_length_14 (hlocks := B.notSynchronized))
    rw [if_neg h0] at hf
    by_cases h1 : E = "java/lang/IllegalStateException"
    · subst h1
      rw [if_pos rfl] at hf
      have hr := (Option.some.inj hf).symm
      refine vx_catch (name := "java/lang/IllegalStateException") hown [⟨0, 9, 12, 13⟩] ⟨0, 9, 15, 76⟩ [] htab (fun z hz => by simp only [List.mem_cons, List.not_mem_nil, or_false] at hz; rcases hz with rfl; exact Or.inr ⟨by decide, "java/lang/IllegalArgumentException", hts _ cl_La_13, hC ("java/lang/IllegalStateException", "java/lang/IllegalArgumentException") (by decide)⟩) rfl (by decide) (hts _ cl_La_76) (va_Nw.use rfl (hZ.2.2.2 _ (by decide +kernel))) hq1 hq2 hq3 ?_
      refine lv_astore_n (lv' := [(3, .ref q9), (0, .ref xq), (1, .int p0), (2, .ref lq)]) hx hb d_La_length_15 rfl hl (by decide) rfl (fun ls hl => ?_)
      refine lv_iconst (v := 2) hx hb d_La_length_16 (by decide) ?_
      exact vx_ret (W.iret hx hb B.returns (fun t ht hW => Or.inl ⟨_, hr, ⟨g, rfl, by rw [ht]; exact hP, va_K.moved hW.alike hK, hD⟩, hS.F ht⟩) hS.2.2 d_La_length_17 (hlocks := B.notSynchronized))
    rw [if_neg h1] at hf
    exact nomatch hf
  · subst ev
    have hr := (Option.some.inj hf).symm
    obtain ⟨hP, hD⟩ := va_keepR hP hD (va_sub (vdL hD) hS hA) hk1 hP1 hD1
    have hS := hS1
    generalize H1 = H at hP hS ⊢
    refine lv_i2l (v := v.toInt64) hx hb d_La_length_7 rfl ?_
    refine va_last hx hb hK hP hD hS 37 1 rfl rfl (gin_in (by decide)) d_La_length_8 (fun H locs hP hD hS => ?_)
    refine lv_goto (tgt := 18) hx hb d_La_length_9 (by decide) ?_
    refine lv_iconst (v := 0) hx hb d_La_length_18 (by decide) ?_
    exact vx_ret (W.iret hx hb B.returns (fun t ht hW => Or.inr ⟨_, hr, ⟨g, rfl, by rw [ht]; exact hP, va_K.moved hW.alike hK, hD⟩, hS.F ht⟩) hS.2.2 d_La_length_19 (hlocks := B.notSynchronized))
def f_La_word (n : Nat) (p0 : Int32) (sKept : Bool) (sKeptWords : Nat → Int64) (oF : Nat → Int64) : Option ((Int32 × (Unit)) ⊕ ((Nat → Int64) × (Int64))) :=
  (f_RS_word n p0 sKept sKeptWords).bind fun u => u.elim (fun x => if x.1 = "java/lang/IllegalArgumentException" then some (.inl (1, x.2)) else if x.1 = "java/lang/IllegalStateException" then some (.inl (2, x.2)) else none) fun v => some (.inr (vp_updL oF (0 : Int32).toNatClampNeg v, v))
set_option maxHeartbeats 400000 in
set_option maxRecDepth 100000 in
theorem c_La_word (l : Launch) (hl0 : l.stackTraces = false) {D : va_G} {K : Nat → ClassId} {T : auTab} {n : Nat} {xq : Nat} {xl : Nat} {mq : Nat} {cq : Nat} {iq : Nat} {sq : Nat} {sA : Nat} {sF : Nat} {sLe : Nat} {sMo : Nat} {sAl : Nat} {sRL : Nat} {sRM : Nat} {sLn : Nat} {sKL : Nat} {sKW : Nat} {fF : Nat → Nat} {fL : Nat → Nat} {fM : Nat → Nat} {xLang : Nat → Option Nat} {xCount : Int32} {sAssigned : Nat → Option Nat} {sLeast : Nat → Int32} {sMost : Nat → Int32} {sCount : Int32} {sAllowed : Nat → Int64} {sLengths : Nat → Int32} {sKept : Bool} {sKeptLengths : Nat → Int32} {sKeptWords : Nat → Int64} {gF : Nat → Nat → Int32} {gL : Nat → Nat → Int32} {gM : Nat → Nat → Int32} {p0 : Int32} {lq : Nat} {oF : Nat → Int64} {r : (Int32 × (Unit)) ⊕ ((Nat → Int64) × (Int64))} (sz : Nat) (hf : f_La_word n p0 sKept sKeptWords oF = some r) : vx_Met l y_La_word w0_La_word ({ frames := 8, cells := 2, slots := 12, locals := 125 }) (yPre D K T [.ref xq, .int p0, .ref lq] (((rsW K xq xl mq cq iq sq xLang xCount) ++ (sgW K sq sA sF sLe sMo sAl sRL sRM sLn sKL sKW fF fL fM sAssigned sLeast sMost sCount sAllowed sLengths sKept sKeptLengths sKeptWords gF gL gM)) ++ (laW K lq 1 oF)) 0 (fun _ => none) sz) (yPost D K r (fun u (g : Unit) => (((rsW K xq xl mq cq iq sq xLang xCount) ++ (sgW K sq sA sF sLe sMo sAl sRL sRM sLn sKL sKW fF fL fM sAssigned sLeast sMost sCount sAllowed sLengths sKept sKeptLengths sKeptWords gF gL gM)) ++ (laW K lq 1 oF))) (fun v (g : Unit) => ((((rsW K xq xl mq cq iq sq xLang xCount) ++ (sgW K sq sA sF sLe sMo sAl sRL sRM sLn sKL sKW fF fL fM sAssigned sLeast sMost sCount sAllowed sLengths sKept sKeptLengths sKeptWords gF gL gM))) ++ (laW K lq 1 v.1))) (va_A (((rsW K xq xl mq cq iq sq xLang xCount) ++ (sgW K sq sA sF sLe sMo sAl sRL sRM sLn sKL sKW fF fL fM sAssigned sLeast sMost sCount sAllowed sLengths sKept sKeptLengths sKeptWords gF gL gM)) ++ (laW K lq 1 oF)) sz)) (fun _ _ _ => False) 2 12 (va_A (((rsW K xq xl mq cq iq sq xLang xCount) ++ (sgW K sq sA sF sLe sMo sAl sRL sRM sLn sKL sKW fF fL fM sAssigned sLeast sMost sCount sAllowed sLengths sKept sKeptLengths sKeptWords gF gL gM)) ++ (laW K lq 1 oF)) sz) := by
  unfold f_La_word at hf
  obtain ⟨u, eu, hf⟩ := obd hf
  refine vx_ofWH (cc := b_La_word) (maxL := 4) (ret := (some .int)) (hh := [(0, 8, 11, 13), (0, 8, 14, 76)]) (by decide) rfl ?_
  intro p e s m args below meth c s₁ B hml hv
  obtain ⟨⟨⟨rfl, hsz, hP, hK, hD0⟩, hX, hZ, hT0⟩, hC⟩ := hv
  subst hsz
  have hx := B.exec
  have hb := B.bytes
  have hts : ∀ w ∈ gW, w.before _ s = true := fun w hw => atoms_spec (ws := w0_La_word) B.pre w (List.mem_cons_of_mem _ hw)
  have htab : c.exceptionTable.toList = tableOf [(0, 8, 11, 13), (0, 8, 14, 76)] := vx_table (x := y_La_word) B (atoms_spec (ws := w0_La_word) B.pre _ List.mem_cons_self)
  have hown : s.vm.findClass "RegularSolverLaw" = some m.cls := findClass_of_methodNamed B.named
  have hD := hD0.self (sz := s.heap.size)
  generalize hAe : va_A (((rsW K xq xl mq cq iq sq xLang xCount) ++ (sgW K sq sA sF sLe sMo sAl sRL sRM sLn sKL sKW fF fL fM sAssigned sLeast sMost sCount sAllowed sLengths sKept sKeptLengths sKeptWords gF gL gM)) ++ (laW K lq 1 oF)) s.heap.size = A at hD hZ hT0 ⊢
  have hA : ∀ q : Nat, s.heap.size ≤ q → A q := fun q h => by rw [← hAe]; exact Or.inr h
  have hS : va_S A s.heap s.heap [] := va_S.rf
  have hl := lv_entry [.ref xq, .int p0, .ref lq] (n := 4) (Nat.le_of_ble_eq_true rfl)
  rw [lg_entry_eq]
  generalize (lg_sl [.ref xq, .int p0, .ref lq] ++ List.replicate (4 - (lg_sl [.ref xq, .int p0, .ref lq]).length) Slot.unset).toArray = ls at hl ⊢
  refine x_gen (P := fun H => W p l e _ s m _ below meth c H [] 0 0 _ _) ?_
  intro H hHe
  rw [← hHe] at hP
  have hS : va_S A s.heap H [] := by rw [hHe]; exact hS
  have hT0 : ∀ (q i : Nat), i < 0 → (fun _ => none) i = some q → va_P D vwCl (auT K T q) H ∧ gAw A (auT K T q) := by rw [hHe]; exact hT0
  refine lv_aload_n hx hb d_La_word_0 rfl (lv_at hl 2 rfl) ?_
  refine lv_iconst (v := 0) hx hb d_La_word_1 (by decide) ?_
  refine lv_aload_n hx hb d_La_word_2 rfl (lv_at hl 0 rfl) ?_
  refine lv_iload_n hx hb d_La_word_3 rfl (lv_at hl 1 rfl) ?_
  refine x_call (vx_runV (As := [.int p0]) (rest := [.int 0, .ref lq]) ⟨hx, hb, hml, hown, hts⟩ (c_RS_word l hl0 H.size eu) (gV 1 hts cd_RS_word ml_La_78 im_RS_word se_RS_word ini_RS rfl rfl pd_RS_word ⟨Nat.le_of_ble_eq_true rfl, Nat.le_of_ble_eq_true rfl⟩) ⟨xPre_blind, va_recv hK (vaL (vaL hP)) (ci := 10) (q0 := 0) rfl rfl, xPre_of (vaL hP) hK (vdL hD) hS hA hX hZ hT0⟩ rfl rfl hl.1 rfl (lv_room (Nat.le_of_ble_eq_true rfl)) d_La_word_4 ⟨(by decide : 0 + 2 ≤ 2), (by decide : 0 + 12 ≤ 12)⟩) (vdL hD) hS hA (fun E x ex g ce q9 H1 locs hP1 hD1 hk1 hS1 hq1 hq2 hq3 => ?_) (fun v ev g H1 locs hP1 hD1 hk1 hS1 => ?_)
  · subst ex
    obtain ⟨hP, hD⟩ := va_keepR hP hD (va_sub (vdL hD) hS hA) hk1 hP1 hD1
    have hS := hS1
    generalize H1 = H at hP hS hq1 ⊢
    replace hf : (if E = "java/lang/IllegalArgumentException" then some (.inl (1, x)) else if E = "java/lang/IllegalStateException" then some (.inl (2, x)) else none) = some r := hf
    by_cases h0 : E = "java/lang/IllegalArgumentException"
    · subst h0
      rw [if_pos rfl] at hf
      have hr := (Option.some.inj hf).symm
      refine vx_catch (name := "java/lang/IllegalArgumentException") hown [] ⟨0, 8, 11, 13⟩ [⟨0, 8, 14, 76⟩] htab (fun z hz => nomatch hz) rfl (by decide) (hts _ cl_La_13) (va_Nw.use rfl (hZ.2.2.2 _ (by decide +kernel))) hq1 hq2 hq3 ?_
      refine lv_astore_n (lv' := [(3, .ref q9), (0, .ref xq), (1, .int p0), (2, .ref lq)]) hx hb d_La_word_11 rfl hl (by decide) rfl (fun ls hl => ?_)
      refine lv_iconst (v := 1) hx hb d_La_word_12 (by decide) ?_
      exact vx_ret (W.iret hx hb B.returns (fun t ht hW => Or.inl ⟨_, hr, ⟨g, rfl, by rw [ht]; exact hP, va_K.moved hW.alike hK, hD⟩, hS.F ht⟩) hS.2.2 d_La_word_13 (hlocks := B.notSynchronized))
    rw [if_neg h0] at hf
    by_cases h1 : E = "java/lang/IllegalStateException"
    · subst h1
      rw [if_pos rfl] at hf
      have hr := (Option.some.inj hf).symm
      refine vx_catch (name := "java/lang/IllegalStateException") hown [⟨0, 8, 11, 13⟩] ⟨0, 8, 14, 76⟩ [] htab (fun z hz => by simp only [List.mem_cons, List.not_mem_nil, or_false] at hz; rcases hz with rfl; exact Or.inr ⟨by decide, "java/lang/IllegalArgumentException", hts _ cl_La_13, hC ("java/lang/IllegalStateException", "java/lang/IllegalArgumentException") (by decide)⟩) rfl (by decide) (hts _ cl_La_76) (va_Nw.use rfl (hZ.2.2.2 _ (by decide +kernel))) hq1 hq2 hq3 ?_
      refine lv_astore_n (lv' := [(3, .ref q9), (0, .ref xq), (1, .int p0), (2, .ref lq)]) hx hb d_La_word_14 rfl hl (by decide) rfl (fun ls hl => ?_)
      refine lv_iconst (v := 2) hx hb d_La_word_15 (by decide) ?_
      exact vx_ret (W.iret hx hb B.returns (fun t ht hW => Or.inl ⟨_, hr, ⟨g, rfl, by rw [ht]; exact hP, va_K.moved hW.alike hK, hD⟩, hS.F ht⟩) hS.2.2 d_La_word_16 (hlocks := B.notSynchronized))
    rw [if_neg h1] at hf
    exact nomatch hf
  · subst ev
    have hr := (Option.some.inj hf).symm
    obtain ⟨hP, hD⟩ := va_keepR hP hD (va_sub (vdL hD) hS hA) hk1 hP1 hD1
    have hS := hS1
    generalize H1 = H at hP hS ⊢
    refine va_last hx hb hK hP hD hS 37 1 rfl rfl (gin_in (by decide)) d_La_word_7 (fun H locs hP hD hS => ?_)
    refine lv_goto (tgt := 17) hx hb d_La_word_8 (by decide) ?_
    refine lv_iconst (v := 0) hx hb d_La_word_17 (by decide) ?_
    exact vx_ret (W.iret hx hb B.returns (fun t ht hW => Or.inr ⟨_, hr, ⟨g, rfl, by rw [ht]; exact hP, va_K.moved hW.alike hK, hD⟩, hS.F ht⟩) hS.2.2 d_La_word_18 (hlocks := B.notSynchronized))
