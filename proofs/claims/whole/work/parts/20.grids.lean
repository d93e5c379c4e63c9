/-! ARRAYS OF EIGHT ROWS OF INTS; an answer that may be null -/
theorem va_P0 {D : va_G} {cl : List vw_C} {H : Heap} : va_P D cl [] H := fun k q h => by simp at h
def oq {α β : Type} (x : Option β) (a : Option α) (f : β → Option α) : Option α := match x with
  | none => a
  | some y => f y
theorem oqn {α β : Type} {a : Option α} {f : β → Option α} {y : α} (h : oq (none : Option β) a f = some y) : a = some y := h
theorem oqs {α β : Type} {q : β} {a : Option α} {f : β → Option α} {y : α} (h : oq (some q) a f = some y) : f q = some y := h
theorem gin_lt {i : Int32} {n : Nat} (h : gin i n = true) : i.toNatClampNeg < n := by
  have h1 := gin_iff.mp h
  show i.toInt.toNat < n
  omega
def grW (K : Nat → ClassId) (f : Nat → Nat) (n : Nat) (g : Nat → Nat → Int32) : va_W := (List.range 8).map (fun i => (f i, .inl (K 0, n, .inl (g i))))
def gup (g : Nat → Nat → Int32) (i : Nat) (r : Nat → Int32) : Nat → Nat → Int32 := fun k => if k = i then r else g k
theorem gr_len {K : Nat → ClassId} {f : Nat → Nat} {n : Nat} {g : Nat → Nat → Int32} : (grW K f n g).length = 8 := by simp [grW]
theorem gr_at {K : Nat → ClassId} {f : Nat → Nat} {n : Nat} {g : Nat → Nat → Int32} {i : Nat} (hi : i < 8) : (grW K f n g)[i]? = some (f i, .inl (K 0, n, .inl (g i))) := by
  unfold grW
  rw [List.getElem?_map, List.getElem?_range hi]
  rfl
theorem gr_at' {X Y : va_W} {K : Nat → ClassId} {f : Nat → Nat} {n : Nat} {g : Nat → Nat → Int32} {i : Nat} (hi : i < 8) : (X ++ grW K f n g ++ Y)[X.length + i]? = some (f i, .inl (K 0, n, .inl (g i))) := by
  rw [List.getElem?_append_left (by rw [List.length_append, gr_len]; omega), List.getElem?_append_right (by omega), Nat.add_sub_cancel_left]
  exact gr_at hi
theorem gr_set0 {K : Nat → ClassId} {f : Nat → Nat} {n : Nat} {g : Nat → Nat → Int32} {i : Nat} {h : Nat → Int32} (hi : i < 8) : (grW K f n g).set i (f i, .inl (K 0, n, .inl h)) = grW K f n (gup g i h) := by
  apply List.ext_getElem?
  intro k
  by_cases hk : k < 8
  · rw [gr_at hk]
    by_cases hki : k = i
    · subst hki
      rw [List.getElem?_set_self (by rw [gr_len]; exact hk)]
      simp [gup]
    · rw [List.getElem?_set_ne (Ne.symm hki), gr_at hk]
      simp [gup, hki]
  · rw [List.getElem?_eq_none (by rw [List.length_set, gr_len]; omega), List.getElem?_eq_none (by rw [gr_len]; omega)]
theorem gr_set {X Y : va_W} {K : Nat → ClassId} {f : Nat → Nat} {n : Nat} {g : Nat → Nat → Int32} {i : Nat} {h : Nat → Int32} (hi : i < 8) : (X ++ grW K f n g ++ Y).set (X.length + i) (f i, .inl (K 0, n, .inl h)) = X ++ grW K f n (gup g i h) ++ Y := by
  rw [List.set_append_left _ _ (by rw [List.length_append, gr_len]; omega), List.set_append_right _ _ (by omega), Nat.add_sub_cancel_left, gr_set0 hi]
section
variable {p : Program} {l : Launch} {e : Env} {R : Room} {s : State} {m : MethodId} {args : Array Value} {below : List Frame} {meth : Method} {c : Code} {H : Heap} {locs : List Loc} {cells slots : Nat} {Q : State → Prop}
variable {cc : ByteArray} {pc : Nat} {ls : Array Slot} {rest : List Value} {D : va_G} {cl : List vw_C} {A : Nat → Prop} {a : Nat} {tys : List (ClassId × FieldType)} {ws : va_W} {H0 : Heap}
theorem gr_ald (hexec : p.tables.exec = Jvm.exec) (hb : c.code = cc) (hK : va_K D cl tys s) (hP : va_P D cl ws H) (q0 t0 : Nat) {cA : ClassId} {f : Nat → Nat} (ha : ws[q0]? = some (a, .inl (cA, 8, .inr (.inr (.inr (.inr (fun i => if i < 8 then some (f i) else none))))))) (ht : tys[t0]? = some (cA, .array .int)) {i : Int32} (hin : vp_in i 8) (hdg : decode cc pc = .ok (.aaload, 1))
    (kk : W p l e R s m args below meth c H locs cells slots Q (F0 m (pc + 1) ls (.ref (f i.toNatClampNeg) :: rest))) : W p l e R s m args below meth c H locs cells slots Q (F0 m pc ls (.int i :: .ref a :: rest)) := by
  have hlt : i.toNatClampNeg < 8 := Nat.not_le.mp fun q => hin (Or.inr q)
  refine W.aald (v := .ref (f i.toNatClampNeg)) (ty := .array .int) hexec hb (hP q0 _ ha) ((hK.2 t0 _ ht).1 8 (fun j => va_rf (if j < 8 then some (f j) else none))) rfl (fun q => by cases q) (by show ¬ (i < 0 ∨ (arrV _ _ _).slots.size ≤ _); rw [arrV_size]; exact hin) ?_ rfl rfl hdg kk
  show (arrV _ _ _).slots[_]? = _
  rw [arrV_read _ _ hlt]
  show some (va_rf (if i.toNatClampNeg < 8 then some (f i.toNatClampNeg) else none)) = _
  rw [if_pos hlt]
  rfl
theorem gr_ast (hexec : p.tables.exec = Jvm.exec) (hb : c.code = cc) (hK : va_K D cl tys s) {X Y : va_W} {K : Nat → ClassId} {f : Nat → Nat} {n : Nat} {g : Nat → Nat → Int32} (hws : ws = X ++ grW K f n g ++ Y) (hP : va_P D cl ws H) (hD : va_D A ws) (hS : va_S A H0 H locs) (t0 : Nat) (ht : tys[t0]? = some (K 0, .int)) {i : Nat} (hi : i < 8) {j x : Int32} (hin : vp_in j n) (hdg : decode cc pc = .ok (.iastore, 1))
    (kk : ∀ (H1 : Heap) (locs1 : List Loc), va_P D cl (X ++ grW K f n (gup g i (upd (g i) j.toNatClampNeg x)) ++ Y) H1 → va_D A (X ++ grW K f n (gup g i (upd (g i) j.toNatClampNeg x)) ++ Y) → va_S A H0 H1 locs1 → W p l e R s m args below meth c H1 locs1 cells slots Q (F0 m (pc + 1) ls rest)) : W p l e R s m args below meth c H locs cells slots Q (F0 m pc ls (.int x :: .int j :: .ref (f i) :: rest)) := by
  subst hws
  refine va_iast hexec hb hK hP hD hS (X.length + i) t0 (gr_at' hi) ht hin hdg (fun H1 locs1 h1 h2 h3 => ?_)
  rw [gr_set hi] at h1 h2
  exact kk H1 locs1 h1 h2 h3
end
/-- automata by their addresses: where next and ahead lie, states, next's length, next, last, ahead -/
abbrev auTab : Type := Nat → (Nat × Nat × Int32 × Nat × (Nat → Int32) × Int64 × (Nat → Int64))
abbrev auT (K : Nat → ClassId) (T : auTab) (q : Nat) : va_W := auW K q (T q).1 (T q).2.1 (T q).2.2.1 (T q).2.2.2.1 (T q).2.2.2.2.1 (T q).2.2.2.2.2.1 (T q).2.2.2.2.2.2
def withT (Pc : Array Value → State → Prop) (D : va_G) (K : Nat → ClassId) (T : auTab) (asg : Nat → Option Nat) (A : Nat → Prop) : Array Value → State → Prop := fun v U => Pc v U ∧ ∀ (q i : Nat), i < 4 → asg i = some q → va_P D vwCl (auT K T q) U.heap ∧ gAw A (auT K T q)
theorem withT_blind {Pc : Array Value → State → Prop} {D : va_G} {K : Nat → ClassId} {T : auTab} {asg : Nat → Option Nat} {A : Nat → Prop} (h : FrameBlind Pc) : FrameBlind (withT Pc D K T asg A) := fun a U g mk hp => ⟨h a U g mk hp.1, hp.2⟩
theorem withT_of {Pc : Array Value → State → Prop} {D : va_G} {K : Nat → ClassId} {T : auTab} {asg : Nat → Option Nat} {A : Nat → Prop} {ws : va_W} {H0 H : Heap} {locs : List Loc} {s : State} {av : Array Value} (h : ∀ U : State, U.heap = H → s.WarmedH U.vm → Pc av U) (hT : ∀ (q i : Nat), i < 4 → asg i = some q → ∀ (H : Heap) (locs : List Loc), va_S A H0 H locs → va_P D vwCl (auT K T q) H) (hTw : ∀ (q i : Nat), i < 4 → asg i = some q → gAw A (auT K T q)) (hD : va_D A ws) (hS : va_S A H0 H locs) (hA : ∀ q, H0.size ≤ q → A q) :
    ∀ U : State, U.heap = H → s.WarmedH U.vm → withT Pc D K T asg (va_A ws H.size) av U := fun U hU hW => ⟨h U hU hW, fun q i hi hq => ⟨by rw [hU]; exact hT q i hi hq H locs hS, (hTw q i hi hq).mono (va_sub hD hS hA)⟩⟩
