/-! MAKING: arrays and objects, at addresses that come with the world -/
theorem gAw_of {D : va_G} {cl : List vw_C} {A : Nat → Prop} {X Y : va_W} {H : Heap} (hP : va_P D cl (X ++ Y) H) (hD : va_D A (X ++ Y)) : gAw (va_A Y H.size) X := by
  intro k q hq h
  rcases h with ⟨i, e', h⟩ | h
  · exact vdX hD k i q (q.1, e') hq h rfl
  · exact absurd (vaL hP k q hq).lt (by omega)
theorem vswP {D : va_G} {cl : List vw_C} {X G : va_W} {x : Nat × va_E} {H : Heap} (h : va_P D cl ((X ++ G) ++ [x]) H) : va_P D cl ((X ++ [x]) ++ G) H := va_P.app (va_P.app (vaL (vaL h)) (vaR h)) (vaR (vaL h))
theorem vswD {A : Nat → Prop} {X G : va_W} {x : Nat × va_E} (h : va_D A ((X ++ G) ++ [x])) : va_D A ((X ++ [x]) ++ G) := by
  have h2 := vr_layD (X := X) (pl := G) (x := x) (rows := []) (by rw [List.append_nil]; exact h)
  rw [List.append_nil] at h2
  exact h2
theorem vr_g {K : Nat → ClassId} {r : Nat → Nat} {f : Nat → va_E} {n : Nat} {g : Nat → Int32} : va_pl ([] ++ (List.range 8).map r) (vr_up f ((List.range 8).map r) (.inl (K 0, n, .inl g))) = grW K r n (fun _ => g) := by
  unfold va_pl grW
  rw [List.nil_append, List.map_map]
  refine List.map_congr_left fun i hi => ?_
  show (r i, vr_up f ((List.range 8).map r) _ (r i)) = _
  rw [vr_up_in (List.mem_map_of_mem hi)]
theorem va_nil {A : Nat → Prop} : va_D A ([] : va_W) := ⟨fun i j p q h => by simp at h, fun k q h => by simp at h⟩
section
variable {p : Program} {l : Launch} {e : Env} {R : Room} {s : State} {m : MethodId} {args : Array Value} {below : List Frame} {meth : Method} {c : Code} {H : Heap} {locs : List Loc} {cells slots : Nat} {Q : State → Prop}
variable {cc : ByteArray} {pc : Nat} {ls : Array Slot} {rest : List Value} {D : va_G} {A : Nat → Prop} {a : Nat} {ws : va_W} {H0 : Heap} {K : Nat → ClassId}
theorem g_newa (hexec : p.tables.exec = Jvm.exec) (hb : c.code = cc) {atype : ArrayType} (harr : (Cond.arrayClass (newarray.typeOf atype)).before args s = true) {ty : FieldType} (hty : newarray.typeOf atype = ty) (t0 : Nat) (ht : (tG K)[t0]? = some (K t0, ty)) (hra : ∀ x : ClassId, va_RA s x ty → s.vm.findClass ("[" ++ ty.toString) = some x) (hK : va_K D vwCl (tG K) s) (hP : va_P D vwCl ws H) (hD : va_D A ws) (hS : va_S A H0 H locs) (hA : ∀ q, H0.size ≤ q → A q)
    {n : Int32} {N' : Nat} {a0 : vp_A} (ha : ∀ cA : ClassId, vp_cell cA a0 = arrV cA N' (fun _ => defaultValue ty)) (hn : ¬ n < 0) (hN : n.toNatClampNeg = N') (hbytes : N' * componentBytes ty ≤ 536870912) (hcells : cells + 1 ≤ R.cells) (hslots : slots + N' ≤ R.slots) (hdg : decode cc pc = .ok (.newarray atype, 2))
    (kk : ∀ (q : Nat) (H1 : Heap), va_P D vwCl (ws ++ [(q, .inl (K t0, a0))]) H1 → va_D A (ws ++ [(q, .inl (K t0, a0))]) → va_S A H0 H1 locs →
      W p l e R s m args below meth c H1 locs (cells + 1) (slots + N') Q (F0 m (pc + 2) ls (.ref q :: rest))) : W p l e R s m args below meth c H locs cells slots Q (F0 m pc ls (.int n :: rest)) := by
  refine va_newa hexec hb harr hty hK hP hD hS hA ha hn hN hbytes hcells hslots hdg (fun q cA H1 hK1 hP1 hD1 hS1 => ?_)
  have h1 := hra _ (hK1.2 (tG K).length (cA, ty) (by rw [List.getElem?_append_right (Nat.le_refl _), Nat.sub_self]; rfl)).2
  have h2 := hra _ (hK.2 t0 _ ht).2
  have h3 : cA = K t0 := Option.some.inj (h1.symm.trans h2)
  subst h3
  exact kk q H1 hP1 hD1 hS1
theorem g_newq (hexec : p.tables.exec = Jvm.exec) (hb : c.code = cc) {own : String} {index : Nat} (hown : s.vm.findClass own = some m.cls) (hclink : (Cond.classLink own index "RegularSolver$Automaton").before args s = true) (hover : va_AO "RegularSolver$Automaton" s) (hK : va_K D vwCl (tG K) s) (hP : va_P D vwCl ws H) (hD : va_D A ws) (hS : va_S A H0 H locs) (hA : ∀ q, H0.size ≤ q → A q)
    {n : Int32} {N' : Nat} (hn : ¬ n < 0) (hN : n.toNatClampNeg = N') (hbytes : N' * 4 ≤ 536870912) (hcells : cells + 1 ≤ R.cells) (hslots : slots + N' ≤ R.slots) (hdg : decode cc pc = .ok (.anewarray index, 3))
    (kk : ∀ (q : Nat) (H1 : Heap), va_P D vwCl (ws ++ [(q, .inl (K 3, N', .inr (.inr (.inr (.inr (fun _ => none))))))]) H1 → va_D A (ws ++ [(q, .inl (K 3, N', .inr (.inr (.inr (.inr (fun _ => none))))))]) → va_S A H0 H1 locs →
      W p l e R s m args below meth c H1 locs (cells + 1) (slots + N') Q (F0 m (pc + 3) ls (.ref q :: rest))) : W p l e R s m args below meth c H locs cells slots Q (F0 m pc ls (.int n :: rest)) := by
  refine va_newq hexec hb hown hclink hover hK hP hD hS hA hn hN hbytes hcells hslots hdg (fun q cA H1 hK1 hP1 hD1 hS1 => ?_)
  obtain ⟨_, _, _, _, _, h1⟩ := (hK1.2 (tG K).length (cA, .object "RegularSolver$Automaton") (by rw [List.getElem?_append_right (Nat.le_refl _), Nat.sub_self]; rfl)).2
  obtain ⟨_, _, _, _, _, h2⟩ := (hK.2 3 (K 3, .object "RegularSolver$Automaton") rfl).2
  have h3 : cA = K 3 := Option.some.inj (h1.symm.trans h2)
  subst h3
  exact kk q H1 hP1 hD1 hS1
theorem g_mna (hexec : p.tables.exec = Jvm.exec) (hb : c.code = cc) {X G : va_W} {own : String} {index : Nat} (hown : s.vm.findClass own = some m.cls) (hclink : (Cond.classLink own index "[[I").before args s = true) (hover : va_AOA .int s) (harr : (Cond.arrayClass .int).before args s = true)
    (hK : va_K D vwCl (tG K) s) (hP : va_P D vwCl (X ++ G) H) (hD : va_D A (X ++ G)) (hS : va_S A H0 H locs) (hA : ∀ q, H0.size ≤ q → A q) {k : Int32} {M : Nat} (hk : ¬ k < 0) (hM : k.toNatClampNeg = M) (hb2 : M * componentBytes .int ≤ 536870912) (hcells : cells + (1 + 8) ≤ R.cells) (hslots : slots + (8 + 8 * M) ≤ R.slots) (hdg : decode cc pc = .ok (.multianewarray index 2, 4))
    (kk : ∀ (q : Nat) (r : Nat → Nat) (H1 : Heap), va_P D vwCl ((X ++ [(q, .inl (K 4, 8, .inr (.inr (.inr (.inr (fun i => if i < 8 then some (r i) else none))))))]) ++ (G ++ grW K r M (fun _ _ => 0))) H1 → va_D A ((X ++ [(q, .inl (K 4, 8, .inr (.inr (.inr (.inr (fun i => if i < 8 then some (r i) else none))))))]) ++ (G ++ grW K r M (fun _ _ => 0))) → va_S A H0 H1 locs →
      W p l e R s m args below meth c H1 locs (cells + 1 + 8) (slots + 8 + 8 * M) Q (F0 m (pc + 4) ls (.ref q :: rest))) : W p l e R s m args below meth c H locs cells slots Q (F0 m pc ls (.int k :: .int 8 :: rest)) := by
  have e1 : "[" ++ (FieldType.array .int).toString = "[[I" := by decide +kernel
  have e2 : (FieldType.array .int).toString = "[" ++ FieldType.int.toString := by decide +kernel
  have hcy : s.vm.findClass (FieldType.array .int).toString = some (K 0) := by rw [e2]; exact (hK.2 0 (K 0, .int) rfl).2
  refine va_mna (X := X ++ G) (L := []) (f := fun _ => .inr (0, [])) (ty := .int) (cy := K 0) (N' := 8) (K' := M) (z := (M, .inl (fun _ => 0))) hexec hb hown (by rw [e1]; exact hclink) hover harr hcy hK (by simpa [va_pl] using hP) (by simpa [va_pl] using hD) hS hA (by decide) hk (by decide) hM (by decide) hb2 (by simp [componentBytes] at hb2; omega) rfl rfl hcells hslots (fun _ => ?_) hdg (fun q r cA H1 _ _ hK1 hP1 hD1 hS1 => ?_)
  · exact arrV_new _ M (.int 0)
  · have h1 : va_RA s cA (.array .int) := (hK1.2 (tG K).length (cA, .array .int) (by rw [List.getElem?_append_right (Nat.le_refl _), Nat.sub_self]; rfl)).2
    have h2 : va_RA s (K 4) (.array .int) := (hK.2 4 (K 4, .array .int) rfl).2
    have h3 : cA = K 4 := Option.some.inj (Eq.trans (Eq.symm h1) h2)
    subst h3
    rw [vr_g] at hP1 hD1
    have hP2 := vr_lay (X := X) (pl := G) hP1
    have hD2 := vr_layD (X := X) (pl := G) hD1
    exact kk q r H1 hP2 hD2 hS1
end
