section MyWorlds
theorem vaL {D : va_G} {cl : List vw_C} {a b : va_W} {H : Heap} (h : va_P D cl (a ++ b) H) : va_P D cl a H := fun k q hk => h k q (by rw [List.getElem?_append_left (List.getElem?_eq_some_iff.mp hk).1]; exact hk)
theorem vaR {D : va_G} {cl : List vw_C} {a b : va_W} {H : Heap} (h : va_P D cl (a ++ b) H) : va_P D cl b H := fun k q hk => h (a.length + k) q (by rw [List.getElem?_append_right (by omega), Nat.add_sub_cancel_left]; exact hk)
theorem vaC {D : va_G} {cl : List vw_C} {ws : va_W} {H : Heap} {q : Nat × va_E} (h : va_P D cl ws H) (k : Nat) (hk : ws[k]? = some q) : va_P D cl [q] H := fun j x hx => by
  match j, hx with
  | 0, hx => cases hx; exact h k q hk
theorem vdL {A : Nat → Prop} {a b : va_W} (h : va_D A (a ++ b)) : va_D A a := ⟨fun i j p q hi hj hpq => h.1 i j p q (by rw [List.getElem?_append_left (List.getElem?_eq_some_iff.mp hi).1]; exact hi) (by rw [List.getElem?_append_left (List.getElem?_eq_some_iff.mp hj).1]; exact hj) hpq, fun k q hk => h.2 k q (by rw [List.getElem?_append_left (List.getElem?_eq_some_iff.mp hk).1]; exact hk)⟩
theorem vdR {A : Nat → Prop} {a b : va_W} (h : va_D A (a ++ b)) : va_D A b := ⟨fun i j p q hi hj hpq => by
    have := h.1 (a.length + i) (a.length + j) p q (by rw [List.getElem?_append_right (by omega), Nat.add_sub_cancel_left]; exact hi) (by rw [List.getElem?_append_right (by omega), Nat.add_sub_cancel_left]; exact hj) hpq
    omega, fun k q hk => h.2 (a.length + k) q (by rw [List.getElem?_append_right (by omega), Nat.add_sub_cancel_left]; exact hk)⟩
theorem vdX {A : Nat → Prop} {a b : va_W} (h : va_D A (a ++ b)) : ∀ (i j : Nat) (p q : Nat × va_E), a[i]? = some p → b[j]? = some q → p.1 ≠ q.1 := fun i j p q hi hj hpq => by
  have hl := (List.getElem?_eq_some_iff.mp hi).1
  have := h.1 i (a.length + j) p q (by rw [List.getElem?_append_left hl]; exact hi) (by rw [List.getElem?_append_right (by omega), Nat.add_sub_cancel_left]; exact hj) hpq
  omega
theorem vdC {A : Nat → Prop} {ws : va_W} {q : Nat × va_E} (h : va_D A ws) (k : Nat) (hk : ws[k]? = some q) : va_D A [q] := ⟨fun i j x y hi hj _ => by
    match i, j, hi, hj with
    | 0, 0, _, _ => rfl, fun j x hx => by
    match j, hx with
    | 0, hx => cases hx; exact h.2 k q hk⟩
/-- cells that are only looked at lie outside of what may change -/
def gAw (A : Nat → Prop) (rs : va_W) : Prop := ∀ (k : Nat) (q : Nat × va_E), rs[k]? = some q → ¬ A q.1
theorem ro_of {D : va_G} {cl : List vw_C} {rs : va_W} {H0 : Heap} {A : Nat → Prop} (hR : va_P D cl rs H0) (hw : gAw A rs) {H : Heap} {locs : List Loc} (hS : va_S A H0 H locs) : va_P D cl rs H := hR.kept (fun k q hk => hS.2.1 q.1 (hR k q hk).lt (hw k q hk))
theorem gAw.mono {A B : Nat → Prop} {rs : va_W} (h : gAw A rs) (hAB : ∀ q, B q → A q) : gAw B rs := fun k q hk hb => h k q hk (hAB _ hb)
theorem gAw.left {A : Nat → Prop} {a b : va_W} (h : gAw A (a ++ b)) : gAw A a := fun k q hk => h k q (by rw [List.getElem?_append_left (List.getElem?_eq_some_iff.mp hk).1]; exact hk)
theorem gAw.right {A : Nat → Prop} {a b : va_W} (h : gAw A (a ++ b)) : gAw A b := fun k q hk => h (a.length + k) q (by rw [List.getElem?_append_right (by omega), Nat.add_sub_cancel_left]; exact hk)
theorem gAw.app {A : Nat → Prop} {a b : va_W} (h1 : gAw A a) (h2 : gAw A b) : gAw A (a ++ b) := fun k q hk => by
  by_cases hl : k < a.length
  · rw [List.getElem?_append_left hl] at hk; exact h1 k q hk
  · rw [List.getElem?_append_right (by omega)] at hk; exact h2 _ q hk
theorem gAw.cell {A : Nat → Prop} {ws : va_W} {q : Nat × va_E} (h : gAw A ws) (k : Nat) (hk : ws[k]? = some q) : gAw A [q] := fun j x hx => by
  match j, hx with
  | 0, hx => cases hx; exact h k q hk
/-- a method that writes ws and looks at rs -/
def wPreR (D : va_G) (K : Nat → ClassId) (av : List Value) (ws rs : va_W) (sz : Nat) : Array Value → State → Prop := fun v U => v = av.toArray ∧ U.heap.size = sz ∧ va_P D vwCl ws U.heap ∧ va_K D vwCl (tG K) U ∧ va_D (fun _ => True) ws ∧ va_P D vwCl rs U.heap ∧ gAw (va_A ws sz) rs
theorem wPreR_blind {D : va_G} {K : Nat → ClassId} {av : List Value} {ws rs : va_W} {sz : Nat} : FrameBlind (wPreR D K av ws rs sz) := by
  intro a U g mk h
  obtain ⟨h0, h1, h2, h3, h4⟩ := h
  exact ⟨h0, h1, h2, va_K.moved (u := U) (U := U.calling g mk a) (Vm.Alike.refl U.vm) h3, h4⟩
theorem va_sub {A : Nat → Prop} {ws : va_W} {H0 H : Heap} {locs : List Loc} (hD : va_D A ws) (hS : va_S A H0 H locs) (hA : ∀ q, H0.size ≤ q → A q) : ∀ q, va_A ws H.size q → A q := by
  intro q h
  rcases h with ⟨k, e', h⟩ | h
  · exact hD.2 k (q, e') h
  · exact hA q (Nat.le_trans hS.1 h)
theorem wPreR_of {D : va_G} {K : Nat → ClassId} {av : List Value} {ws rs : va_W} {s : State} {H0 H : Heap} {A : Nat → Prop} {locs : List Loc} (hP : va_P D vwCl ws H) (hK : va_K D vwCl (tG K) s) (hD : va_D A ws) (hS : va_S A H0 H locs) (hA : ∀ q, H0.size ≤ q → A q) (hR : va_P D vwCl rs H) (hw : gAw A rs) : ∀ U : State, U.heap = H → s.WarmedH U.vm → wPreR D K av ws rs H.size av.toArray U := fun _ hU hW => ⟨rfl, by rw [hU], by rw [hU]; exact hP, va_K.moved hW.alike hK, hD.weaken (fun _ _ _ _ => trivial), by rw [hU]; exact hR, hw.mono (va_sub hD hS hA)⟩
/-- an end whose cells lie at addresses g -/
def wPostG {γ : Type} (D : va_G) (K : Nat → ClassId) (r : γ → Option Value) (ws : γ → va_W) (A : Nat → Prop) : Array Value → State → Outcome → State → Prop := fun _ st oc t => (∃ g : γ, oc = .returned (r g) ∧ va_P D vwCl (ws g) t.heap ∧ va_K D vwCl (tG K) t ∧ va_D A (ws g)) ∧ va_F A st t
theorem wPost_G {D : va_G} {K : Nat → ClassId} {r : Option Value} {ws : va_W} {A : Nat → Prop} {av : Array Value} {st : State} {oc : Outcome} {t : State} (h : wPost D K r ws A av st oc t) : wPostG D K (fun _ : Unit => r) (fun _ => ws) A av st oc t := ⟨⟨(), h.1⟩, h.2⟩
theorem Met_G {l : Launch} {y : MethodName} {cs : List Cond} {rm : Room} {Pc : Array Value → State → Prop} {D : va_G} {K : Nat → ClassId} {r : Option Value} {ws : va_W} {A free : Nat → Prop} {mc ms : Nat} (h : Met l y cs rm Pc (wPost D K r ws A) mc ms free) : Met l y cs rm Pc (wPostG D K (fun _ : Unit => r) (fun _ => ws) A) mc ms free :=
  MetFree.mono h (fun _ _ h => h) (fun _ _ _ _ _ h => h) (fun _ _ _ _ _ h => ⟨wPost_G h.1, h.2⟩)
section
variable {p : Program} {l : Launch} {e : Env} {R : Room} {s : State} {m : MethodId} {args : Array Value} {below : List Frame} {meth : Method} {c : Code} {H : Heap} {locs : List Loc} {cells slots : Nat} {Q : State → Prop}
variable {pc : Nat} {ls : Array Slot} {rest st0 : List Value} {D : va_G} {A : Nat → Prop} {ws : va_W} {H0 : Heap}
/-- a call of a method that writes the cells wc, which lie in A; of the others nothing changes -/
theorem w_callA {γ : Type} {v : γ → Option Value} {av : Array Value} {K : Nat → ClassId} {wc : va_W} {ws' : γ → va_W} {mc ms : Nat} (hr : va_Run p l e R s m args below meth c H locs cells slots mc ms (F0 m pc ls st0) rest (wPostG D K v ws' (va_A wc H.size) av) (va_A wc H.size)) (hD : va_D A wc) (hS : va_S A H0 H locs) (hA : ∀ q, H0.size ≤ q → A q)
    (kk : ∀ (g : γ) (H1 : Heap) (locs1 : List Loc), va_P D vwCl (ws' g) H1 → va_D (va_A wc H.size) (ws' g) → (∀ q : Nat, q < H.size → ¬ va_A wc H.size q → H1[q]? = H[q]?) → va_S A H0 H1 locs1 → W p l e R s m args below meth c H1 locs1 (cells + mc) (slots + ms) Q (F0 m (pc + 3) ls ((v g).toList ++ rest))) : W p l e R s m args below meth c H locs cells slots Q (F0 m pc ls st0) := by
  have hF := va_sub hD hS hA
  intro T hT X
  obtain ⟨v', st₀, t, T', L, h0, X', hL, e1, e2, ⟨⟨g, hv, hp, hk0, hd⟩, hz, hk⟩, st⟩ := hr T hT X
  cases hv
  rw [h0] at hz hk
  obtain ⟨t2, a1, b1⟩ := kk g T'.heap (locs ++ L) (by rw [e1]; exact hp) hd (fun q h1 h2 => by rw [e1]; exact hk q h1 h2)
    ⟨Nat.le_trans hS.1 (by rw [e1]; exact hz), fun q h1 h2 => by rw [e1, hk q (Nat.lt_of_lt_of_le h1 hS.1) (fun z => h2 (hF q z))]; exact hS.2.1 q h1 h2, fun q hq => by
      rcases List.mem_append.mp hq with h | h
      · exact hS.2.2 q h
      · exact hF _ (hL q h)⟩ T' rfl X'
  exact ⟨t2, st t2 a1, b1⟩
theorem va_keepR {cl : List vw_C} {X Y X' : va_W} {H1 : Heap} (hP : va_P D cl (X ++ Y) H) (hD : va_D A (X ++ Y)) (hF : ∀ q, va_A X H.size q → A q) (hk : ∀ q : Nat, q < H.size → ¬ va_A X H.size q → H1[q]? = H[q]?) (hP1 : va_P D cl X' H1) (hD1 : va_D (va_A X H.size) X') : va_P D cl (X' ++ Y) H1 ∧ va_D A (X' ++ Y) := by
  have apart : ∀ (k : Nat) (q : Nat × va_E), Y[k]? = some q → q.1 < H.size ∧ ¬ va_A X H.size q.1 := by
    intro k q hq
    have hl := (vaR hP k q hq).lt
    refine ⟨hl, fun h => ?_⟩
    rcases h with ⟨i, e', h⟩ | h
    · exact vdX hD i k (q.1, e') q h hq rfl
    · omega
  exact ⟨va_P.app hP1 (fun k q hq => (vaR hP k q hq).kept (hk q.1 (apart k q hq).1 (apart k q hq).2)), va_D.app (hD1.weaken (fun k q _ h => hF q.1 h)) (vdR hD) (fun i j x y hx hy hxy => (apart j y hy).2 (hxy ▸ hD1.2 i x hx))⟩
theorem va_keepL {cl : List vw_C} {X Y Y' : va_W} {H1 : Heap} (hP : va_P D cl (X ++ Y) H) (hD : va_D A (X ++ Y)) (hF : ∀ q, va_A Y H.size q → A q) (hk : ∀ q : Nat, q < H.size → ¬ va_A Y H.size q → H1[q]? = H[q]?) (hP1 : va_P D cl Y' H1) (hD1 : va_D (va_A Y H.size) Y') : va_P D cl (X ++ Y') H1 ∧ va_D A (X ++ Y') := by
  have apart : ∀ (k : Nat) (q : Nat × va_E), X[k]? = some q → q.1 < H.size ∧ ¬ va_A Y H.size q.1 := by
    intro k q hq
    have hl := (vaL hP k q hq).lt
    refine ⟨hl, fun h => ?_⟩
    rcases h with ⟨i, e', h⟩ | h
    · exact vdX hD k i q (q.1, e') hq h rfl
    · omega
  exact ⟨va_P.app (fun k q hq => (vaL hP k q hq).kept (hk q.1 (apart k q hq).1 (apart k q hq).2)) hP1, va_D.app (vdL hD) (hD1.weaken (fun k q _ h => hF q.1 h)) (fun i j x y hx hy hxy => (apart i x hx).2 (hxy ▸ hD1.2 j y hy))⟩
/-- the callee's world is one cell of the caller's -/
theorem va_keepC {cl : List vw_C} {X : va_W} {H1 : Heap} {a : Nat} {e0 e1 : va_E} (k : Nat) (hk0 : X[k]? = some (a, e0)) (hP : va_P D cl X H) (hD : va_D A X) (hk : ∀ q : Nat, q < H.size → ¬ va_A [(a, e0)] H.size q → H1[q]? = H[q]?) (hP1 : va_P D cl [(a, e1)] H1) : va_P D cl (X.set k (a, e1)) H1 ∧ va_D A (X.set k (a, e1)) := by
  refine ⟨fun j q hj => ?_, hD.set hk0⟩
  have hl := (List.getElem?_eq_some_iff.mp hk0).1
  by_cases hjk : j = k
  · subst hjk
    rw [List.getElem?_set_self hl] at hj
    cases hj
    exact hP1 0 _ rfl
  · rw [List.getElem?_set_ne (Ne.symm hjk)] at hj
    refine (hP j q hj).kept (hk q.1 (hP j q hj).lt (fun h => ?_))
    rcases h with ⟨i, e', h⟩ | h
    · match i, h with
      | 0, h => cases h; exact hjk (hD.1 j k q _ hj hk0 rfl)
    · exact absurd (hP j q hj).lt (by omega)
end
end MyWorlds
