theorem zz_cp : ∀ q ∈ gCp, Cond.not (.castable q.1 q.2) ∈ flatC (Jvm.Cond.and given_1 narrow_1) := by decide +kernel
theorem zz_st : ∀ q ∈ gZs, Cond.exactly (.string "RegularSolver" q.1) "java/lang/String" ∈ flatC (Jvm.Cond.and given_1 narrow_1) := by decide +kernel
theorem zz_sr : ∀ q ∈ gZs, Cond.stringRef "RegularSolver" q.1 q.2 ∈ lw_tbl := by decide +kernel
theorem zz_zw : ∀ w ∈ gZw, w ∈ lw_tbl := by decide +kernel
theorem zz_xd : ∀ x ∈ gXd, Cond.declares x ∈ lw_tbl := by decide +kernel
theorem zz_xm : ∀ q ∈ gXm, Cond.methodLinkNest q.1 q.2.1 q.2.2 "RegularSolver" ∈ lw_tbl := by decide +kernel
theorem zz_u : Cond.isRef (.static Bundle.tN "UNASSIGNED_STACK" Bundle.steD) ∈ flatC (Jvm.Cond.and given_1 narrow_1) := by decide +kernel
theorem zz_s : Cond.isRef (.static Bundle.tN "SUPPRESSED_SENTINEL" Bundle.listD) ∈ flatC (Jvm.Cond.and given_1 narrow_1) := by decide +kernel
theorem arr_at {args : Array Value} {s : State} {ty : FieldType} (h : (Cond.arrayClass ty).before args s = true) : ∃ cA : ClassId, ArrOfT s cA ty ∧ s.vm.findClass ("[" ++ ty.toString) = some cA := by
  obtain ⟨cA, kA, comp, h1, h2, h3⟩ := Cond.arrayClass_spec h
  exact ⟨cA, fun n z => ⟨fun k h => (by cases h), kA, h2, comp, h3⟩, h1⟩
section
variable {args : Array Value} {s : State}
theorem st_X (hts : ∀ w ∈ lw_tbl, w.before args s = true) : gX s := ⟨fun x hx => va_Nw.of rfl (hts _ (zz_xd x hx)), fun q hq => va_Nw.of rfl (hts _ (zz_xm q hq)), va_AO.of (hts _ (by decide +kernel)), va_AOA.of (hts _ (by decide +kernel))⟩
theorem st_C (hgv : (Jvm.Cond.and given_1 narrow_1).before args s = true) : gC s := fun q hq => va_Nc.of (flat_of_before _ hgv _ (zz_cp q hq))
theorem st_Z (hts : ∀ w ∈ lw_tbl, w.before args s = true) (hgv : (Jvm.Cond.and given_1 narrow_1).before args s = true) {A : Nat → Prop} (hA : ∀ a : Nat, a < s.heap.size → ¬ A a) : gZ A s s.heap := by
  refine ⟨vx_Zqof (hts _ (by decide +kernel)) (hts _ (by decide +kernel)) (flat_of_before _ hgv _ zz_u) hA, vx_Zqof (hts _ (by decide +kernel)) (hts _ (by decide +kernel)) (flat_of_before _ hgv _ zz_s) hA, fun q hq => ?_, fun w hw => va_Nw.of (gZw_tab w hw) (hts _ (zz_zw w hw))⟩
  obtain ⟨a, c, cell, k, q1, -⟩ := Cond.exactly_spec (flat_of_before _ hgv _ (zz_st q hq))
  exact ⟨a, vk_R.of (hts _ (zz_sr q hq)) q1⟩
theorem st_K (hts : ∀ w ∈ lw_tbl, w.before args s = true) : ∃ (D : va_G) (K : Nat → ClassId), va_K D vwCl (tG K) s := by
  have hg : ∀ w ∈ gW, w.before args s = true := fun w hw => hts w (gW_tbl w hw)
  obtain ⟨c0, i0, hn0⟩ := u_known (C := R_Mo) (T := T_Mo) (N := 29) (n := 29) hg in_Mo (hts (Cond.instantiable R_Mo 29) (by decide +kernel))
  obtain ⟨c1, i1, hn1⟩ := u_known (C := R_Au) (T := T_Au) (N := 4) (n := 4) hg in_Au (hts (Cond.instantiable R_Au 4) (by decide +kernel))
  obtain ⟨c2, i2, hn2⟩ := u_known (C := R_Br) (T := T_Br) (N := 4) (n := 4) hg in_Br (hts (Cond.instantiable R_Br 4) (by decide +kernel))
  obtain ⟨c3, i3, hn3⟩ := u_known (C := R_Ch) (T := T_Ch) (N := 4) (n := 4) hg in_Ch (hts (Cond.instantiable R_Ch 4) (by decide +kernel))
  obtain ⟨c4, i4, hn4⟩ := u_known (C := R_Pa) (T := T_Pa) (N := 5) (n := 5) hg in_Pa (hts (Cond.instantiable R_Pa 5) (by decide +kernel))
  obtain ⟨c5, i5, hn5⟩ := u_known (C := R_Re) (T := T_Re) (N := 3) (n := 3) hg in_Re (hts (Cond.instantiable R_Re 3) (by decide +kernel))
  obtain ⟨c6, i6, hn6⟩ := u_known (C := R_Mk) (T := T_Mk) (N := 11) (n := 11) hg in_Mk (hts (Cond.instantiable R_Mk 11) (by decide +kernel))
  obtain ⟨c7, i7, hn7⟩ := u_known (C := R_Co) (T := T_Co) (N := 2) (n := 2) hg in_Co (hts (Cond.instantiable R_Co 2) (by decide +kernel))
  obtain ⟨c8, i8, hn8⟩ := u_known (C := R_In) (T := T_In) (N := 2) (n := 2) hg in_In (hts (Cond.instantiable R_In 2) (by decide +kernel))
  obtain ⟨c9, i9, hn9⟩ := u_known (C := R_Se) (T := T_Se) (N := 12) (n := 12) hg in_Se (hts (Cond.instantiable R_Se 12) (by decide +kernel))
  obtain ⟨c10, i10, hn10⟩ := u_known (C := R_RS) (T := T_RS) (N := 6) (n := 6) hg in_RS (hts (Cond.instantiable R_RS 6) (by decide +kernel))
  obtain ⟨a0, x0, y0⟩ := arr_at (ty := .int) (hts _ (by decide +kernel))
  obtain ⟨a1, x1, y1⟩ := arr_at (ty := .long) (hts _ (by decide +kernel))
  obtain ⟨a2, x2, y2⟩ := arr_at (ty := .boolean) (hts _ (by decide +kernel))
  obtain ⟨comp3, a3, k3, z1, -, z2, z3, z4⟩ := Cond.arrayOver_spec (hts (Cond.arrayOver (.object "RegularSolver$Automaton")) (by decide +kernel))
  obtain ⟨comp4, a4, k4, u1, u2, u3, u4⟩ := Cond.arrayOver_specA (hts (Cond.arrayOver (.array .int)) (by decide +kernel))
  refine ⟨(fun k => match k with | 0 => c0 | 1 => c1 | 2 => c2 | 3 => c3 | 4 => c4 | 5 => c5 | 6 => c6 | 7 => c7 | 8 => c8 | 9 => c9 | _ => c10, fun k => match k with | 0 => i0 | 1 => i1 | 2 => i2 | 3 => i3 | 4 => i4 | 5 => i5 | 6 => i6 | 7 => i7 | 8 => i8 | 9 => i9 | _ => i10), fun k => match k with | 0 => a0 | 1 => a1 | 2 => a2 | 3 => a3 | _ => a4, ?_, ?_⟩
  · intro k q hq
    match k, hq with
    | 0, hq => cases hq; exact hn0
    | 1, hq => cases hq; exact hn1
    | 2, hq => cases hq; exact hn2
    | 3, hq => cases hq; exact hn3
    | 4, hq => cases hq; exact hn4
    | 5, hq => cases hq; exact hn5
    | 6, hq => cases hq; exact hn6
    | 7, hq => cases hq; exact hn7
    | 8, hq => cases hq; exact hn8
    | 9, hq => cases hq; exact hn9
    | 10, hq => cases hq; exact hn10
    | k + 11, hq => simp [vwCl] at hq
  · intro k q hq
    match k, hq with
    | 0, hq => cases hq; exact ⟨x0, y0⟩
    | 1, hq => cases hq; exact ⟨x1, y1⟩
    | 2, hq => cases hq; exact ⟨x2, y2⟩
    | 3, hq => cases hq; exact ⟨fun N z => ⟨(fun k h => by cases h), k3, z2, comp3, z3⟩, k3, comp3, z2, z3, z1, z4⟩
    | 4, hq => cases hq; exact ⟨fun N z => ⟨(fun k h => by cases h), k4, u2, comp4, u3⟩, u4⟩
    | k + 5, hq => simp [tG] at hq
end
theorem li_in {j L : Nat} (hL : L ≤ 3584) (h : 7 * j + 7 ≤ L) (k : Int32) (hk : 0 ≤ k ∧ k ≤ 6) : vp_in (nI (7 * j) + k) L := by
  obtain ⟨n, hn, rfl⟩ : ∃ n : Nat, n ≤ 6 ∧ k = nI n := by
    refine ⟨k.toInt.toNat, ?_, ?_⟩
    · have h1 := Int32.le_iff_toInt_le.mp hk.1
      have h2 := Int32.le_iff_toInt_le.mp hk.2
      simp at h1 h2
      omega
    · have h1 := Int32.le_iff_toInt_le.mp hk.1
      have h2 := Int32.le_iff_toInt_le.mp hk.2
      simp at h1 h2
      apply Int32.toInt_inj.mp
      rw [nI_toInt (by omega)]
      omega
  rw [nI_add]
  exact nI_in (by omega) (by omega)
theorem li_gt {j L : Nat} (hL : L ≤ 3584) (hj : 7 * j ≤ 7168) : (Int32.ofNat L - 7 < nI (7 * j)) ↔ L < 7 * j + 7 := by
  rw [Int32.lt_iff_toInt_lt, nI_toInt (by omega)]
  have h1 : (Int32.ofNat L - 7).toInt = (L : Int) - 7 := by
    rw [Int32.toInt_sub]
    have h2 : (Int32.ofNat L).toInt = (L : Int) := nI_toInt (by omega)
    rw [h2]
    have h3 : (7 : Int32).toInt = 7 := rfl
    rw [h3]
    rw [Int.bmod_eq_of_le (by omega) (by omega)]
  rw [h1]
  omega
theorem cl_La_8 : (Cond.classLink "RegularSolverLaw" 8 "RegularSolver") ∈ gW := gm 23 (by decide +kernel) (by decide +kernel)
theorem it_RS : (Cond.instantiable "RegularSolver" 6) ∈ gW := gm 24 (by decide +kernel) (by decide +kernel)
theorem cl_La_83 : (Cond.classLink "RegularSolverLaw" 83 "RegularSolverModel") ∈ gW := gm 834 (by decide +kernel) (by decide +kernel)
theorem it_Mo : (Cond.instantiable "RegularSolverModel" 29) ∈ gW := gm 835 (by decide +kernel) (by decide +kernel)
theorem ml_La_82 : (Cond.methodLink "RegularSolverLaw" 82 ({ cls := "RegularSolver", name := "<init>", desc := "()V" } : MethodName)) ∈ gW := gm 25 (by decide +kernel) (by decide +kernel)
theorem im_RS_init : (Cond.instanceMethod ({ cls := "RegularSolver", name := "<init>", desc := "()V" } : MethodName)) ∈ gW := gm 26 (by decide +kernel) (by decide +kernel)
theorem ml_La_85 : (Cond.methodLink "RegularSolverLaw" 85 ({ cls := "RegularSolverModel", name := "<init>", desc := "()V" } : MethodName)) ∈ gW := gm 836 (by decide +kernel) (by decide +kernel)
theorem im_Mo_init : (Cond.instanceMethod ({ cls := "RegularSolverModel", name := "<init>", desc := "()V" } : MethodName)) ∈ gW := gm 837 (by decide +kernel) (by decide +kernel)
set_option maxHeartbeats 1000000 in
set_option maxRecDepth 100000 in
theorem law_loop {p : Program} {l : Launch} {e : Env} {s : State} {m : MethodId} {args : Array Value} {below : List Frame} {meth : Method} {c : Code} {Q : State → Prop} {A : Nat → Prop} {n : Nat} {Rel : CCon → auTab → RCon → Prop} {D : va_G} {K : Nat → ClassId} {xq : Nat} {xl : Nat} {mq : Nat} {cq : Nat} {iq : Nat} {sq : Nat} {m0 : Nat} {m1 : Nat} {m2 : Nat} {m3 : Nat} {m7 : Nat} {m8 : Nat} {m9 : Nat} {i1 : Nat} {i2 : Nat} {sA : Nat} {sF : Nat} {sLe : Nat} {sMo : Nat} {sAl : Nat} {sRL : Nat} {sRM : Nat} {sLn : Nat} {sKL : Nat} {sKW : Nat} {fF : Nat → Nat} {fL : Nat → Nat} {fM : Nat → Nat} {lq : Nat} {h : Nat} {a : Nat → Nat} {b L : Nat} {xs : Nat → Int32} (hx : p.tables.exec = Jvm.exec) (hb : c.code = code) (hml : c.maxLocals = 8) (hts : ∀ w ∈ gW, w.before args s = true) (hown : s.vm.findClass "RegularSolverLaw" = some m.cls) (hl0 : l.stackTraces = false) (hK : va_K D vwCl (tG K) s) (hX : gX s) (hZ : gZ A s s.heap) (hC : gC s) (hA : ∀ q, s.heap.size ≤ q → A q) (hXb : va_X b L xs s s.heap) (hbl : b < s.heap.size) (hAb : ¬ A b)  (hL : L ≤ 3584) (s0 : sim_letters n Rel) (s1 : sim_empty n Rel) (s2 : sim_then n Rel) (s3 : sim_or n Rel) (s4 : sim_and n Rel) (s5 : sim_not n Rel) (s6 : sim_again n Rel) (s7 : sim_automaton n Rel) (s8 : sim_has n Rel) (s9 : sim_words n Rel) (s10 : sim_first n Rel) (s11 : sim_shortest n Rel) (s12 : sim_within n Rel) (s13 : sim_variable n Rel) (s14 : sim_bound n Rel) (s15 : sim_clear n Rel) (s16 : sim_solve n Rel) (s17 : sim_length n Rel) (s18 : sim_word n Rel) (ke : ∀ (H : Heap) (locs : List Loc) (ls : Array Slot) (j : Nat), j ≤ 512 → va_S A s.heap H locs → W p l e room_1 s m args below meth c H locs (1000 + 32 * j) (100000 + 512 * j) Q (F0 m 1369 ls [])) : ∀ (k j : Nat), L < 7 * (j + k) + 7 → j ≤ 512 → ∀ (m5 m6 c1 c2 : Nat) (C : CCon) (T : auTab) (r : RCon) (o : Nat → Int64) (Zs : va_W) (H : Heap) (locs : List Loc) (ls : Array Slot), Rel C T r → LPw D K A s.heap xq xl mq cq iq sq m0 m1 m2 m3 m5 m6 m7 m8 m9 c1 c2 i1 i2 sA sF sLe sMo sAl sRL sRM sLn sKL sKW fF fL fM lq h a C T r o Zs H locs → lv_has ls 8 [(4, .int (nI (7 * j))), (3, .ref lq), (2, .ref h), (1, .ref xq), (0, .ref b)] → W p l e room_1 s m args below meth c H locs (1000 + 32 * j) (100000 + 512 * j) Q (F0 m 23 ls []) := by
  intro k
  induction k with
  | zero =>
    intro j hk hj m5 m6 c1 c2 C T r o Zs H locs ls hrel hLP hl
    refine lv_iload hx hb d_La_law_23 (lv_at hl 0 rfl) ?_
    refine lv_aload_n hx hb d_La_law_25 rfl (lv_at hl 4 rfl) ?_
    refine va_slen hx hb hXb hbl hAb hLP.2.2.1 d_La_law_26 ?_
    refine lv_bipush (v := 7) hx hb d_La_law_27 (by decide) ?_
    refine lv_isub hx hb d_La_law_29 ?_
    refine lv_icmp_gt (tgt := 1369) hx hb d_La_law_30 (by decide) (fun hgt => ke H locs ls j hj hLP.2.2.1) (fun hgt => ?_)
    have hge : 7 * j + 7 ≤ L := Nat.not_lt.mp (fun h => hgt ((li_gt hL (by omega)).mpr h))
    exact absurd hge (by omega)
  | succ k ih =>
    intro j hk hj m5 m6 c1 c2 C T r o Zs H locs ls hrel hLP hl
    refine lv_iload hx hb d_La_law_23 (lv_at hl 0 rfl) ?_
    refine lv_aload_n hx hb d_La_law_25 rfl (lv_at hl 4 rfl) ?_
    refine va_slen hx hb hXb hbl hAb hLP.2.2.1 d_La_law_26 ?_
    refine lv_bipush (v := 7) hx hb d_La_law_27 (by decide) ?_
    refine lv_isub hx hb d_La_law_29 ?_
    refine lv_icmp_gt (tgt := 1369) hx hb d_La_law_30 (by decide) (fun hgt => ke H locs ls j hj hLP.2.2.1) (fun hgt => ?_)
    have hge : 7 * j + 7 ≤ L := Nat.not_lt.mp (fun h => hgt ((li_gt hL (by omega)).mpr h))
    have hin := li_in hL hge
    refine lv_aload_n hx hb d_La_law_33 rfl (lv_at hl 4 rfl) ?_
    refine lv_iload hx hb d_La_law_34 (lv_at hl 0 rfl) ?_
    refine va_sld hx hb hXb hbl hAb hLP.2.2.1 (nI_in (by omega) (by omega)) d_La_law_36 ?_
    refine lv_bipush (v := 31) hx hb d_La_law_37 (by decide) ?_
    refine lv_iand hx hb d_La_law_39 ?_
    generalize hsw : xs (nI (7 * j)).toNatClampNeg &&& 31 = sw
    have hRc : 1000 + 32 * j + 32 ≤ 601024 := by omega
    have hRs : 100000 + 512 * j + 512 ≤ 7293034 := by omega
    have kk : ∀ (m5 : Nat) (m6 : Nat) (c1 : Nat) (c2 : Nat) (C : CCon) (T : auTab) (r : RCon) (o : Nat → Int64) (Zs : va_W) (H : Heap) (locs : List Loc) (ls : Array Slot), Rel C T r → LPw D K A s.heap xq xl mq cq iq sq m0 m1 m2 m3 m5 m6 m7 m8 m9 c1 c2 i1 i2 sA sF sLe sMo sAl sRL sRM sLn sKL sKW fF fL fM lq h a C T r o Zs H locs → lv_has ls 8 [(4, .int (nI (7 * j))), (3, .ref lq), (2, .ref h), (1, .ref xq), (0, .ref b)] → W p l e room_1 s m args below meth c H locs (1000 + 32 * j + 32) (100000 + 512 * j + 512) Q (F0 m 1363 ls []) := by
      intro m5 m6 c1 c2 C T r o Zs H locs ls hrel hLP hl
      refine lv_iinc (v := nI (7 * j) + 7) (lv' := [(4, .int (nI (7 * j) + 7)), (3, .ref lq), (2, .ref h), (1, .ref xq), (0, .ref b)]) hx hb d_La_law_1363 hl (k := 0) rfl rfl (by decide) rfl (fun ls hl => ?_)
      refine lv_goto (tgt := 23) hx hb d_La_law_1366 (by decide) ?_
      have e7 : nI (7 * j) + 7 = nI (7 * (j + 1)) := nI_add (7 * j) 7
      rw [e7] at hl
      exact ih (j + 1) (by omega) (by omega) m5 m6 c1 c2 C T r o Zs H locs ls hrel hLP hl
    by_cases cz0 : sw = 0
    · refine lv_tableIn (tgt := 132) (off := 92) hx hb d_La_law_40 (by rw [cz0]; decide) (by rw [cz0]; decide) (by rw [cz0]; rfl) (by decide) ?_
      exact law_letters hx hb hml hts hown hl0 hK hX hZ hC hA hXb hbl hAb hin hRc hRs s0 hrel hLP hl kk
    by_cases cz1 : sw = 1
    · refine lv_tableIn (tgt := 188) (off := 148) hx hb d_La_law_40 (by rw [cz1]; decide) (by rw [cz1]; decide) (by rw [cz1]; rfl) (by decide) ?_
      exact law_empty hx hb hml hts hown hl0 hK hX hZ hC hA hXb hbl hAb hin hRc hRs s1 hrel hLP hl kk
    by_cases cz2 : sw = 2
    · refine lv_tableIn (tgt := 232) (off := 192) hx hb d_La_law_40 (by rw [cz2]; decide) (by rw [cz2]; decide) (by rw [cz2]; rfl) (by decide) ?_
      exact law_then hx hb hml hts hown hl0 hK hX hZ hC hA hXb hbl hAb hin hRc hRs s2 hrel hLP hl kk
    by_cases cz3 : sw = 3
    · refine lv_tableIn (tgt := 300) (off := 260) hx hb d_La_law_40 (by rw [cz3]; decide) (by rw [cz3]; decide) (by rw [cz3]; rfl) (by decide) ?_
      exact law_or hx hb hml hts hown hl0 hK hX hZ hC hA hXb hbl hAb hin hRc hRs s3 hrel hLP hl kk
    by_cases cz4 : sw = 4
    · refine lv_tableIn (tgt := 368) (off := 328) hx hb d_La_law_40 (by rw [cz4]; decide) (by rw [cz4]; decide) (by rw [cz4]; rfl) (by decide) ?_
      exact law_and hx hb hml hts hown hl0 hK hX hZ hC hA hXb hbl hAb hin hRc hRs s4 hrel hLP hl kk
    by_cases cz5 : sw = 5
    · refine lv_tableIn (tgt := 436) (off := 396) hx hb d_La_law_40 (by rw [cz5]; decide) (by rw [cz5]; decide) (by rw [cz5]; rfl) (by decide) ?_
      exact law_not hx hb hml hts hown hl0 hK hX hZ hC hA hXb hbl hAb hin hRc hRs s5 hrel hLP hl kk
    by_cases cz6 : sw = 6
    · refine lv_tableIn (tgt := 492) (off := 452) hx hb d_La_law_40 (by rw [cz6]; decide) (by rw [cz6]; decide) (by rw [cz6]; rfl) (by decide) ?_
      exact law_again hx hb hml hts hown hl0 hK hX hZ hC hA hXb hbl hAb hin hRc hRs s6 hrel hLP hl kk
    by_cases cz7 : sw = 7
    · refine lv_tableIn (tgt := 548) (off := 508) hx hb d_La_law_40 (by rw [cz7]; decide) (by rw [cz7]; decide) (by rw [cz7]; rfl) (by decide) ?_
      exact law_automaton hx hb hml hts hown hl0 hK hX hZ hC hA hXb hbl hAb hin hRc hRs s7 hrel hLP hl kk
    by_cases cz8 : sw = 8
    · refine lv_tableIn (tgt := 628) (off := 588) hx hb d_La_law_40 (by rw [cz8]; decide) (by rw [cz8]; decide) (by rw [cz8]; rfl) (by decide) ?_
      exact law_has hx hb hml hts hown hl0 hK hX hZ hC hA hXb hbl hAb hin hRc hRs s8 hrel hLP hl kk
    by_cases cz9 : sw = 9
    · refine lv_tableIn (tgt := 747) (off := 707) hx hb d_La_law_40 (by rw [cz9]; decide) (by rw [cz9]; decide) (by rw [cz9]; rfl) (by decide) ?_
      exact law_words hx hb hml hts hown hl0 hK hX hZ hC hA hXb hbl hAb hin hRc hRs s9 hrel hLP hl kk
    by_cases cz10 : sw = 10
    · refine lv_tableIn (tgt := 814) (off := 774) hx hb d_La_law_40 (by rw [cz10]; decide) (by rw [cz10]; decide) (by rw [cz10]; rfl) (by decide) ?_
      exact law_first hx hb hml hts hown hl0 hK hX hZ hC hA hXb hbl hAb hin hRc hRs s10 hrel hLP hl kk
    by_cases cz11 : sw = 11
    · refine lv_tableIn (tgt := 881) (off := 841) hx hb d_La_law_40 (by rw [cz11]; decide) (by rw [cz11]; decide) (by rw [cz11]; rfl) (by decide) ?_
      exact law_shortest hx hb hml hts hown hl0 hK hX hZ hC hA hXb hbl hAb hin hRc hRs s11 hrel hLP hl kk
    by_cases cz12 : sw = 12
    · refine lv_tableIn (tgt := 937) (off := 897) hx hb d_La_law_40 (by rw [cz12]; decide) (by rw [cz12]; decide) (by rw [cz12]; rfl) (by decide) ?_
      exact law_within hx hb hml hts hown hl0 hK hX hZ hC hA hXb hbl hAb hin hRc hRs s12 hrel hLP hl kk
    by_cases cz13 : sw = 13
    · refine lv_tableIn (tgt := 1012) (off := 972) hx hb d_La_law_40 (by rw [cz13]; decide) (by rw [cz13]; decide) (by rw [cz13]; rfl) (by decide) ?_
      exact law_variable hx hb hml hts hown hl0 hK hX hZ hC hA hXb hbl hAb hin hRc hRs s13 hrel hLP hl kk
    by_cases cz14 : sw = 14
    · refine lv_tableIn (tgt := 1060) (off := 1020) hx hb d_La_law_40 (by rw [cz14]; decide) (by rw [cz14]; decide) (by rw [cz14]; rfl) (by decide) ?_
      exact law_bound hx hb hml hts hown hl0 hK hX hZ hC hA hXb hbl hAb hin hRc hRs s14 hrel hLP hl kk
    by_cases cz15 : sw = 15
    · refine lv_tableIn (tgt := 1178) (off := 1138) hx hb d_La_law_40 (by rw [cz15]; decide) (by rw [cz15]; decide) (by rw [cz15]; rfl) (by decide) ?_
      exact law_clear hx hb hml hts hown hl0 hK hX hZ hC hA hXb hbl hAb hin hRc hRs s15 hrel hLP hl kk
    by_cases cz16 : sw = 16
    · refine lv_tableIn (tgt := 1189) (off := 1149) hx hb d_La_law_40 (by rw [cz16]; decide) (by rw [cz16]; decide) (by rw [cz16]; rfl) (by decide) ?_
      exact law_solve hx hb hml hts hown hl0 hK hX hZ hC hA hXb hbl hAb hin hRc hRs s16 hrel hLP hl kk
    by_cases cz17 : sw = 17
    · refine lv_tableIn (tgt := 1252) (off := 1212) hx hb d_La_law_40 (by rw [cz17]; decide) (by rw [cz17]; decide) (by rw [cz17]; rfl) (by decide) ?_
      exact law_length hx hb hml hts hown hl0 hK hX hZ hC hA hXb hbl hAb hin hRc hRs s17 hrel hLP hl kk
    by_cases cz18 : sw = 18
    · refine lv_tableIn (tgt := 1308) (off := 1268) hx hb d_La_law_40 (by rw [cz18]; decide) (by rw [cz18]; decide) (by rw [cz18]; rfl) (by decide) ?_
      exact law_word hx hb hml hts hown hl0 hK hX hZ hC hA hXb hbl hAb hin hRc hRs s18 hrel hLP hl kk
    refine lv_tableOut (tgt := 1363) hx hb d_La_law_40 (sw_out 19 (by decide) (by decide) (fun j hj => by match j, hj with | 0, _ => exact cz0 | 1, _ => exact cz1 | 2, _ => exact cz2 | 3, _ => exact cz3 | 4, _ => exact cz4 | 5, _ => exact cz5 | 6, _ => exact cz6 | 7, _ => exact cz7 | 8, _ => exact cz8 | 9, _ => exact cz9 | 10, _ => exact cz10 | 11, _ => exact cz11 | 12, _ => exact cz12 | 13, _ => exact cz13 | 14, _ => exact cz14 | 15, _ => exact cz15 | 16, _ => exact cz16 | 17, _ => exact cz17 | 18, _ => exact cz18 | q + 19, h9 => exact absurd h9 (by omega))) (by decide) ?_
    exact W.widen (k := 1000 + 32 * j + 32) (n := 100000 + 512 * j + 512) (by omega) (by omega) (kk m5 m6 c1 c2 C T r o Zs H locs ls hrel hLP hl)
def C0 : CCon := ((fun _ => none), 0, (fun _ => 0), (fun _ => 0), (fun _ => 0), (fun _ => 0), 0, (fun _ => 0), (fun _ => 0), (fun _ => 0), (fun _ => 0), (fun _ => 0), 0, (fun _ => 0), (fun _ => 0), (fun _ => 0), (fun _ => 0), (fun _ => none), (fun _ => 0), (fun _ => 0), 0, (fun _ => 0), (fun _ => 0), false, (fun _ => 0), (fun _ => 0), (fun _ _ => 0), (fun _ _ => 0), (fun _ _ => 0))
def R0 : RCon := (0, 0, 0, (fun _ => 0), (fun _ => 0), (fun _ => false), (fun _ => 0), (fun _ => 0), (fun _ => 0), (fun _ => 0), (fun _ => 0), (fun _ => 0), (fun _ => 0), (fun _ => false), 0, (upd (upd (upd (upd (fun _ => 0) (0 : Int32).toNatClampNeg (-1)) (1 : Int32).toNatClampNeg (-1)) (2 : Int32).toNatClampNeg (-1)) (3 : Int32).toNatClampNeg (-1)), (fun _ => 0), (fun _ => 0), (fun _ => 0), (fun _ => 0), (fun _ => 0), false, (fun _ => 0), (fun _ => 0), (fun _ => 0), (fun _ => false), (fun _ => 0), (fun _ => false), (fun _ => 0))
/-! THE CLAIM OUT OF ONE WALK OF THE LAW'S BODY. Your part is whole_start (and what it stands on); all else here is the same for every law, but numbers. -/
def R_law : String := "RegularSolverLaw"
def lw_P (b : Addr) (xs : List Int32) (args : Array Value) (s : State) : Prop := args = #[.ref b] ∧ s.IntsAt b xs ∧ xs.length ≤ 3584 ∧ (Jvm.Cond.and given_1 narrow_1).before args s = true
def lw_Q (_ : Array Value) (s : State) (o : Outcome) (t : State) : Prop := o = .returned (some (.int 1)) ∧ Framed s o t [] 601024 7293034
def lw_Z (below : List Frame) (a : Array Value) (s : State) : State → Prop := fun t => ∃ o, t.status = .running ∧ Ended t below o ∧ lw_Q a s o t
/-- the law's own end, with 1 on the stack, nothing written that was there before, its room as the claim has it -/
theorem lw_ret {p : Program} {l : Launch} {e : Env} {s : State} {m : MethodId} {below : List Frame} {meth : Method} {c : Code} {b : Nat} (hx : p.tables.exec = Jvm.exec) (hb : c.code = code) (hr : meth.sig.returnType = ret) (hlocks : meth.locks = false) {pc : Nat} {H : Heap} {ls : Array Slot} (hdg : decode code pc = .ok (.ireturn, 1)) : W p l e room_1 s m #[Value.ref b] below meth c H [] 601024 7293034 (lw_Z below #[Value.ref b] s) (F0 m pc ls [.int 1]) := by
  intro T hT X
  obtain ⟨fs, hret, hrun, hended, hW, hframe⟩ := X.leave (v := some (.int 1)) (hlocks := hlocks) (fun h => by rw [hr] at h; cases h)
  have hmeth' : T.vm.method? m = some meth := X.method'
  refine ⟨T.setFrames fs, ?_, .returned (some (.int 1)), hrun, hended, rfl, ⟨_, rfl⟩, hW, hframe⟩
  jvm_step X.here [X.here.top, hx, hb, hdg, hmeth', hr, ret, narrow_b1]
  (try refine ⟨rfl, ?_⟩); (try refine ⟨rfl, ?_⟩)
  first | (intro acts; rw [hret _ acts rfl rfl rfl]) | rw [hret _ _ rfl rfl rfl]
  exact Steps.refl _
/-- what holds at the law's entry: the machine, the code, the tables' words (any of lw_tbl by 'hts w (by decide +kernel)'), the script of L ints xs at the cell b, what the Statement gives of the start (any of its parts by flat_of_before) -/
def lw_At (p : Program) (s : State) (m : MethodId) (meth : Method) (c : Code) (b L : Nat) (xs : Nat → Int32) : Prop :=
  p.tables.exec = Jvm.exec ∧ c.code = code ∧ meth.sig.returnType = ret ∧ c.maxLocals = 8 ∧ s.vm.findClass R_law = some m.cls ∧ (∀ w ∈ lw_tbl, w.before #[Value.ref b] s = true) ∧ va_X b L xs s s.heap ∧ b < s.heap.size ∧ meth.locks = false ∧ (Jvm.Cond.and given_1 narrow_1).before #[Value.ref b] s = true
set_option maxHeartbeats 1000000 in
set_option maxRecDepth 100000 in
theorem whole_of {p : Program} {e : Env} {s : State} {m : MethodId} {below : List Frame} {meth : Method} {c : Code} (l : Launch) (hl0 : l.stackTraces = false) {b L : Nat} {xs : Nat → Int32} (hL : L ≤ 3584) (C9 : lw_At p s m meth c b L xs) {n : Nat} {Rel : CCon → auTab → RCon → Prop} (s0 : sim_letters n Rel) (s1 : sim_empty n Rel) (s2 : sim_then n Rel) (s3 : sim_or n Rel) (s4 : sim_and n Rel) (s5 : sim_not n Rel) (s6 : sim_again n Rel) (s7 : sim_automaton n Rel) (s8 : sim_has n Rel) (s9 : sim_words n Rel) (s10 : sim_first n Rel) (s11 : sim_shortest n Rel) (s12 : sim_within n Rel) (s13 : sim_variable n Rel) (s14 : sim_bound n Rel) (s15 : sim_clear n Rel) (s16 : sim_solve n Rel) (s17 : sim_length n Rel) (s18 : sim_word n Rel) (hrel0 : ∀ T : auTab, Rel C0 T R0) : W p l e room_1 s m #[Value.ref b] below meth c s.heap [] 0 0 (lw_Z below #[Value.ref b] s) (entryFrame m ([Value.ref b] : List Value).toArray 8) := by
  obtain ⟨hx, hb, hr, hml, hown, htl, hXb, hbl, hlocks, hgv⟩ := id C9
  have hown : s.vm.findClass "RegularSolverLaw" = some m.cls := hown
  have hts : ∀ w ∈ gW, w.before #[Value.ref b] s = true := fun w hw => htl w (gW_tbl w hw)
  obtain ⟨D, K, hK⟩ := st_K htl
  have hX := st_X htl
  have hC := st_C hgv
  have hA : ∀ q : Nat, s.heap.size ≤ q → (fun q : Nat => s.heap.size ≤ q) q := fun _ h => h
  have hZ : gZ (fun q : Nat => s.heap.size ≤ q) s s.heap := st_Z htl hgv (fun a h => Nat.not_le.mpr h)
  have hAb : ¬ (fun q : Nat => s.heap.size ≤ q) b := Nat.not_le.mpr hbl
  have hfg : ∀ (H : Heap) (locs : List Loc), va_S (fun q : Nat => s.heap.size ≤ q) s.heap H locs → ∀ q ∈ locs, s.heap.size ≤ q.base := fun _ _ h q hq => h.2.2 q hq
  generalize hAe : (fun q : Nat => s.heap.size ≤ q) = A at hA hZ hAb hfg
  have hS : va_S A s.heap s.heap [] := va_S.rf
  have hP : va_P D vwCl [] s.heap := va_P0
  have hD : va_D A [] := va_nil
  have hl := lv_entry ([.ref b]) (n := 8) (Nat.le_of_ble_eq_true rfl)
  rw [lg_entry_eq]
  generalize (lg_sl ([.ref b]) ++ List.replicate (8 - (lg_sl ([.ref b])).length) Slot.unset).toArray = ls at hl ⊢
  have hl : lv_has ls 8 [(0, .ref b)] := hl
  refine va_new (ci := 10) (fs := [.null, .int 0, .null, .null, .null, .null]) (C := R_RS) (T := T_RS) (N := 6) hx hb hts in_RS t_RS t_RS_ok hown (hts _ cl_La_8) (hts _ it_RS) (hts _ ini_RS) hK hP hD hS hA rfl (by decide) (Nat.le_of_ble_eq_true rfl) (Nat.le_of_ble_eq_true rfl) d_La_law_0 (fun xq H hP hD hS => ?_)
  have hP : va_P D vwCl [(xq, .inr (10, [.null, .int 0, .null, .null, .null, .null]))] H := hP
  have hD : va_D A [(xq, .inr (10, [.null, .int 0, .null, .null, .null, .null]))] := hD
  refine lv_dup hx hb d_La_law_3 rfl ?_
  refine w_callA (va_runI (As := []) (rest := [.ref xq]) ⟨hx, hb, hml, hown, hts⟩ (c_RS_init l H.size) (gI 0 hts cd_RS_init ml_La_82 im_RS_init ini_RS rfl rfl rfl pd_RS_init ⟨Nat.le_of_ble_eq_true rfl, Nat.le_of_ble_eq_true rfl⟩) ⟨withX_blind wPre_blind, withX_of (wPre_of hP hK hD) hX⟩ rfl rfl hl.1 rfl (lv_room (Nat.le_of_ble_eq_true rfl)) d_La_law_4 ⟨Nat.le_of_ble_eq_true rfl, Nat.le_of_ble_eq_true rfl⟩) hD hS hA (fun g H1 locs hP1 hD1 hk1 hS1 => ?_)
  have hD1 := hD1.weaken (B := A) (fun _ q _ h => va_sub hD hS hA q.1 h)
  have hS := hS1
  generalize H1 = H at hP1 hS ⊢
  have hP : va_P D vwCl (((((rsW K xq g.1 g.2.1 g.2.2.2.1 g.2.2.2.2.2.1 g.2.2.2.2.2.2.2.1 (fun _ => none) 0) ++ (mkW K g.2.1 (g.2.2.1 0) (g.2.2.1 1) (g.2.2.1 2) (g.2.2.1 3) (g.2.2.1 4) (g.2.2.1 5) (g.2.2.1 6) (g.2.2.1 7) (g.2.2.1 8) (fun _ => 0) (fun _ => 0) (fun _ => 0) (fun _ => 0) 0 (fun _ => 0) (fun _ => 0) (fun _ => 0) (fun _ => 0) (fun _ => 0) 0)) ++ (coW K g.2.2.2.1 g.2.2.2.2.1.1 g.2.2.2.2.1.2 (fun _ => 0) (fun _ => 0))) ++ (inW K g.2.2.2.2.2.1 g.2.2.2.2.2.2.1.1 g.2.2.2.2.2.2.1.2 (fun _ => 0) (fun _ => 0))) ++ (((seW K g.2.2.2.2.2.2.2.1 (g.2.2.2.2.2.2.2.2.1 0) (g.2.2.2.2.2.2.2.2.1 1) (g.2.2.2.2.2.2.2.2.1 2) (g.2.2.2.2.2.2.2.2.1 3) (g.2.2.2.2.2.2.2.2.1 4) (g.2.2.2.2.2.2.2.2.1 5) (g.2.2.2.2.2.2.2.2.1 6) (g.2.2.2.2.2.2.2.2.1 7) (g.2.2.2.2.2.2.2.2.1 8) (g.2.2.2.2.2.2.2.2.1 9) (g.2.2.2.2.2.2.2.2.2 0) (g.2.2.2.2.2.2.2.2.2 1) (g.2.2.2.2.2.2.2.2.2 2) (fun _ => none) (fun _ => 0) (fun _ => 0) 0 (fun _ => 0) (fun _ => 0) false (fun _ => 0) (fun _ => 0)) ++ (grW K (g.2.2.2.2.2.2.2.2.2 0) 4 (fun _ _ => 0))) ++ (grW K (g.2.2.2.2.2.2.2.2.2 1) 5 (fun _ _ => 0)) ++ (grW K (g.2.2.2.2.2.2.2.2.2 2) 5 (fun _ _ => 0)))) H := by simpa only [List.append_assoc] using hP1
  have hD : va_D A (((((rsW K xq g.1 g.2.1 g.2.2.2.1 g.2.2.2.2.2.1 g.2.2.2.2.2.2.2.1 (fun _ => none) 0) ++ (mkW K g.2.1 (g.2.2.1 0) (g.2.2.1 1) (g.2.2.1 2) (g.2.2.1 3) (g.2.2.1 4) (g.2.2.1 5) (g.2.2.1 6) (g.2.2.1 7) (g.2.2.1 8) (fun _ => 0) (fun _ => 0) (fun _ => 0) (fun _ => 0) 0 (fun _ => 0) (fun _ => 0) (fun _ => 0) (fun _ => 0) (fun _ => 0) 0)) ++ (coW K g.2.2.2.1 g.2.2.2.2.1.1 g.2.2.2.2.1.2 (fun _ => 0) (fun _ => 0))) ++ (inW K g.2.2.2.2.2.1 g.2.2.2.2.2.2.1.1 g.2.2.2.2.2.2.1.2 (fun _ => 0) (fun _ => 0))) ++ (((seW K g.2.2.2.2.2.2.2.1 (g.2.2.2.2.2.2.2.2.1 0) (g.2.2.2.2.2.2.2.2.1 1) (g.2.2.2.2.2.2.2.2.1 2) (g.2.2.2.2.2.2.2.2.1 3) (g.2.2.2.2.2.2.2.2.1 4) (g.2.2.2.2.2.2.2.2.1 5) (g.2.2.2.2.2.2.2.2.1 6) (g.2.2.2.2.2.2.2.2.1 7) (g.2.2.2.2.2.2.2.2.1 8) (g.2.2.2.2.2.2.2.2.1 9) (g.2.2.2.2.2.2.2.2.2 0) (g.2.2.2.2.2.2.2.2.2 1) (g.2.2.2.2.2.2.2.2.2 2) (fun _ => none) (fun _ => 0) (fun _ => 0) 0 (fun _ => 0) (fun _ => 0) false (fun _ => 0) (fun _ => 0)) ++ (grW K (g.2.2.2.2.2.2.2.2.2 0) 4 (fun _ _ => 0))) ++ (grW K (g.2.2.2.2.2.2.2.2.2 1) 5 (fun _ _ => 0)) ++ (grW K (g.2.2.2.2.2.2.2.2.2 2) 5 (fun _ _ => 0)))) := by simpa only [List.append_assoc] using hD1
  have hP : va_P D vwCl (((((rsW K xq g.1 g.2.1 g.2.2.2.1 g.2.2.2.2.2.1 g.2.2.2.2.2.2.2.1 (fun _ => none) 0) ++ (mkW K g.2.1 (g.2.2.1 0) (g.2.2.1 1) (g.2.2.1 2) (g.2.2.1 3) (g.2.2.1 4) (g.2.2.1 5) (g.2.2.1 6) (g.2.2.1 7) (g.2.2.1 8) (fun _ => 0) (fun _ => 0) (fun _ => 0) (fun _ => 0) 0 (fun _ => 0) (fun _ => 0) (fun _ => 0) (fun _ => 0) (fun _ => 0) 0)) ++ (coW K g.2.2.2.1 g.2.2.2.2.1.1 g.2.2.2.2.1.2 (fun _ => 0) (fun _ => 0))) ++ (inW K g.2.2.2.2.2.1 g.2.2.2.2.2.2.1.1 g.2.2.2.2.2.2.1.2 (fun _ => 0) (fun _ => 0))) ++ (sgW K g.2.2.2.2.2.2.2.1 (g.2.2.2.2.2.2.2.2.1 0) (g.2.2.2.2.2.2.2.2.1 1) (g.2.2.2.2.2.2.2.2.1 2) (g.2.2.2.2.2.2.2.2.1 3) (g.2.2.2.2.2.2.2.2.1 4) (g.2.2.2.2.2.2.2.2.1 5) (g.2.2.2.2.2.2.2.2.1 6) (g.2.2.2.2.2.2.2.2.1 7) (g.2.2.2.2.2.2.2.2.1 8) (g.2.2.2.2.2.2.2.2.1 9) (g.2.2.2.2.2.2.2.2.2 0) (g.2.2.2.2.2.2.2.2.2 1) (g.2.2.2.2.2.2.2.2.2 2) (fun _ => none) (fun _ => 0) (fun _ => 0) 0 (fun _ => 0) (fun _ => 0) false (fun _ => 0) (fun _ => 0) (fun _ _ => 0) (fun _ _ => 0) (fun _ _ => 0))) H := hP
  have hD : va_D A (((((rsW K xq g.1 g.2.1 g.2.2.2.1 g.2.2.2.2.2.1 g.2.2.2.2.2.2.2.1 (fun _ => none) 0) ++ (mkW K g.2.1 (g.2.2.1 0) (g.2.2.1 1) (g.2.2.1 2) (g.2.2.1 3) (g.2.2.1 4) (g.2.2.1 5) (g.2.2.1 6) (g.2.2.1 7) (g.2.2.1 8) (fun _ => 0) (fun _ => 0) (fun _ => 0) (fun _ => 0) 0 (fun _ => 0) (fun _ => 0) (fun _ => 0) (fun _ => 0) (fun _ => 0) 0)) ++ (coW K g.2.2.2.1 g.2.2.2.2.1.1 g.2.2.2.2.1.2 (fun _ => 0) (fun _ => 0))) ++ (inW K g.2.2.2.2.2.1 g.2.2.2.2.2.2.1.1 g.2.2.2.2.2.2.1.2 (fun _ => 0) (fun _ => 0))) ++ (sgW K g.2.2.2.2.2.2.2.1 (g.2.2.2.2.2.2.2.2.1 0) (g.2.2.2.2.2.2.2.2.1 1) (g.2.2.2.2.2.2.2.2.1 2) (g.2.2.2.2.2.2.2.2.1 3) (g.2.2.2.2.2.2.2.2.1 4) (g.2.2.2.2.2.2.2.2.1 5) (g.2.2.2.2.2.2.2.2.1 6) (g.2.2.2.2.2.2.2.2.1 7) (g.2.2.2.2.2.2.2.2.1 8) (g.2.2.2.2.2.2.2.2.1 9) (g.2.2.2.2.2.2.2.2.2 0) (g.2.2.2.2.2.2.2.2.2 1) (g.2.2.2.2.2.2.2.2.2 2) (fun _ => none) (fun _ => 0) (fun _ => 0) 0 (fun _ => 0) (fun _ => 0) false (fun _ => 0) (fun _ => 0) (fun _ _ => 0) (fun _ _ => 0) (fun _ _ => 0))) := hD
  refine lv_astore_n (lv' := [(1, .ref xq), (0, .ref b)]) hx hb d_La_law_7 rfl hl (by decide) rfl (fun ls hl => ?_)
  refine va_new (ci := 0) (fs := [.int 0, .int 0, .int 0, .null, .null, .null, .null, .null, .null, .null, .null, .null, .null, .null, .int 0, .null, .null, .null, .null, .null, .null, .int (bI false), .null, .null, .null, .null, .null, .null, .null]) (C := R_Mo) (T := T_Mo) (N := 29) hx hb hts in_Mo t_Mo t_Mo_ok hown (hts _ cl_La_83) (hts _ it_Mo) (hts _ ini_Mo) hK hP hD hS hA rfl (by decide) (Nat.le_of_ble_eq_true rfl) (Nat.le_of_ble_eq_true rfl) d_La_law_8 (fun h H hP hD hS => ?_)
  have hP : va_P D vwCl ((((((rsW K xq g.1 g.2.1 g.2.2.2.1 g.2.2.2.2.2.1 g.2.2.2.2.2.2.2.1 (fun _ => none) 0) ++ (mkW K g.2.1 (g.2.2.1 0) (g.2.2.1 1) (g.2.2.1 2) (g.2.2.1 3) (g.2.2.1 4) (g.2.2.1 5) (g.2.2.1 6) (g.2.2.1 7) (g.2.2.1 8) (fun _ => 0) (fun _ => 0) (fun _ => 0) (fun _ => 0) 0 (fun _ => 0) (fun _ => 0) (fun _ => 0) (fun _ => 0) (fun _ => 0) 0)) ++ (coW K g.2.2.2.1 g.2.2.2.2.1.1 g.2.2.2.2.1.2 (fun _ => 0) (fun _ => 0))) ++ (inW K g.2.2.2.2.2.1 g.2.2.2.2.2.2.1.1 g.2.2.2.2.2.2.1.2 (fun _ => 0) (fun _ => 0))) ++ (sgW K g.2.2.2.2.2.2.2.1 (g.2.2.2.2.2.2.2.2.1 0) (g.2.2.2.2.2.2.2.2.1 1) (g.2.2.2.2.2.2.2.2.1 2) (g.2.2.2.2.2.2.2.2.1 3) (g.2.2.2.2.2.2.2.2.1 4) (g.2.2.2.2.2.2.2.2.1 5) (g.2.2.2.2.2.2.2.2.1 6) (g.2.2.2.2.2.2.2.2.1 7) (g.2.2.2.2.2.2.2.2.1 8) (g.2.2.2.2.2.2.2.2.1 9) (g.2.2.2.2.2.2.2.2.2 0) (g.2.2.2.2.2.2.2.2.2 1) (g.2.2.2.2.2.2.2.2.2 2) (fun _ => none) (fun _ => 0) (fun _ => 0) 0 (fun _ => 0) (fun _ => 0) false (fun _ => 0) (fun _ => 0) (fun _ _ => 0) (fun _ _ => 0) (fun _ _ => 0))) ++ [(h, .inr (0, [.int 0, .int 0, .int 0, .null, .null, .null, .null, .null, .null, .null, .null, .null, .null, .null, .int 0, .null, .null, .null, .null, .null, .null, .int (bI false), .null, .null, .null, .null, .null, .null, .null]))]) H := hP
  have hD : va_D A ((((((rsW K xq g.1 g.2.1 g.2.2.2.1 g.2.2.2.2.2.1 g.2.2.2.2.2.2.2.1 (fun _ => none) 0) ++ (mkW K g.2.1 (g.2.2.1 0) (g.2.2.1 1) (g.2.2.1 2) (g.2.2.1 3) (g.2.2.1 4) (g.2.2.1 5) (g.2.2.1 6) (g.2.2.1 7) (g.2.2.1 8) (fun _ => 0) (fun _ => 0) (fun _ => 0) (fun _ => 0) 0 (fun _ => 0) (fun _ => 0) (fun _ => 0) (fun _ => 0) (fun _ => 0) 0)) ++ (coW K g.2.2.2.1 g.2.2.2.2.1.1 g.2.2.2.2.1.2 (fun _ => 0) (fun _ => 0))) ++ (inW K g.2.2.2.2.2.1 g.2.2.2.2.2.2.1.1 g.2.2.2.2.2.2.1.2 (fun _ => 0) (fun _ => 0))) ++ (sgW K g.2.2.2.2.2.2.2.1 (g.2.2.2.2.2.2.2.2.1 0) (g.2.2.2.2.2.2.2.2.1 1) (g.2.2.2.2.2.2.2.2.1 2) (g.2.2.2.2.2.2.2.2.1 3) (g.2.2.2.2.2.2.2.2.1 4) (g.2.2.2.2.2.2.2.2.1 5) (g.2.2.2.2.2.2.2.2.1 6) (g.2.2.2.2.2.2.2.2.1 7) (g.2.2.2.2.2.2.2.2.1 8) (g.2.2.2.2.2.2.2.2.1 9) (g.2.2.2.2.2.2.2.2.2 0) (g.2.2.2.2.2.2.2.2.2 1) (g.2.2.2.2.2.2.2.2.2 2) (fun _ => none) (fun _ => 0) (fun _ => 0) 0 (fun _ => 0) (fun _ => 0) false (fun _ => 0) (fun _ => 0) (fun _ _ => 0) (fun _ _ => 0) (fun _ _ => 0))) ++ [(h, .inr (0, [.int 0, .int 0, .int 0, .null, .null, .null, .null, .null, .null, .null, .null, .null, .null, .null, .int 0, .null, .null, .null, .null, .null, .null, .int (bI false), .null, .null, .null, .null, .null, .null, .null]))]) := hD
  refine lv_dup hx hb d_La_law_11 rfl ?_
  refine w_callA (va_runI (As := []) (rest := [.ref h]) ⟨hx, hb, hml, hown, hts⟩ (c_Mo_init l H.size) (gI 0 hts cd_Mo_init ml_La_85 im_Mo_init ini_Mo rfl rfl rfl pd_Mo_init ⟨Nat.le_of_ble_eq_true rfl, Nat.le_of_ble_eq_true rfl⟩) ⟨wPre_blind, wPre_of (vaR hP) hK (vdR hD)⟩ rfl rfl hl.1 rfl (lv_room (Nat.le_of_ble_eq_true rfl)) d_La_law_12 ⟨Nat.le_of_ble_eq_true rfl, Nat.le_of_ble_eq_true rfl⟩) (vdR hD) hS hA (fun a H1 locs hP1 hD1 hk1 hS1 => ?_)
  obtain ⟨hP, hD⟩ := va_keepL hP hD (va_sub (vdR hD) hS hA) hk1 hP1 hD1
  have hS := hS1
  generalize H1 = H at hP hS ⊢
  have hP : va_P D vwCl ((((((rsW K xq g.1 g.2.1 g.2.2.2.1 g.2.2.2.2.2.1 g.2.2.2.2.2.2.2.1 (fun _ => none) 0) ++ (mkW K g.2.1 (g.2.2.1 0) (g.2.2.1 1) (g.2.2.1 2) (g.2.2.1 3) (g.2.2.1 4) (g.2.2.1 5) (g.2.2.1 6) (g.2.2.1 7) (g.2.2.1 8) (fun _ => 0) (fun _ => 0) (fun _ => 0) (fun _ => 0) 0 (fun _ => 0) (fun _ => 0) (fun _ => 0) (fun _ => 0) (fun _ => 0) 0)) ++ (coW K g.2.2.2.1 g.2.2.2.2.1.1 g.2.2.2.2.1.2 (fun _ => 0) (fun _ => 0))) ++ (inW K g.2.2.2.2.2.1 g.2.2.2.2.2.2.1.1 g.2.2.2.2.2.2.1.2 (fun _ => 0) (fun _ => 0))) ++ (sgW K g.2.2.2.2.2.2.2.1 (g.2.2.2.2.2.2.2.2.1 0) (g.2.2.2.2.2.2.2.2.1 1) (g.2.2.2.2.2.2.2.2.1 2) (g.2.2.2.2.2.2.2.2.1 3) (g.2.2.2.2.2.2.2.2.1 4) (g.2.2.2.2.2.2.2.2.1 5) (g.2.2.2.2.2.2.2.2.1 6) (g.2.2.2.2.2.2.2.2.1 7) (g.2.2.2.2.2.2.2.2.1 8) (g.2.2.2.2.2.2.2.2.1 9) (g.2.2.2.2.2.2.2.2.2 0) (g.2.2.2.2.2.2.2.2.2 1) (g.2.2.2.2.2.2.2.2.2 2) (fun _ => none) (fun _ => 0) (fun _ => 0) 0 (fun _ => 0) (fun _ => 0) false (fun _ => 0) (fun _ => 0) (fun _ _ => 0) (fun _ _ => 0) (fun _ _ => 0))) ++ (moW K h a 0 0 0 (fun _ => 0) (fun _ => 0) (fun _ => false) (fun _ => 0) (fun _ => 0) (fun _ => 0) (fun _ => 0) (fun _ => 0) (fun _ => 0) (fun _ => 0) (fun _ => false) 0 (upd (upd (upd (upd (fun _ => 0) (0 : Int32).toNatClampNeg (-1)) (1 : Int32).toNatClampNeg (-1)) (2 : Int32).toNatClampNeg (-1)) (3 : Int32).toNatClampNeg (-1)) (fun _ => 0) (fun _ => 0) (fun _ => 0) (fun _ => 0) (fun _ => 0) false (fun _ => 0) (fun _ => 0) (fun _ => 0) (fun _ => false) (fun _ => 0) (fun _ => false) (fun _ => 0))) H := hP
  have hD : va_D A ((((((rsW K xq g.1 g.2.1 g.2.2.2.1 g.2.2.2.2.2.1 g.2.2.2.2.2.2.2.1 (fun _ => none) 0) ++ (mkW K g.2.1 (g.2.2.1 0) (g.2.2.1 1) (g.2.2.1 2) (g.2.2.1 3) (g.2.2.1 4) (g.2.2.1 5) (g.2.2.1 6) (g.2.2.1 7) (g.2.2.1 8) (fun _ => 0) (fun _ => 0) (fun _ => 0) (fun _ => 0) 0 (fun _ => 0) (fun _ => 0) (fun _ => 0) (fun _ => 0) (fun _ => 0) 0)) ++ (coW K g.2.2.2.1 g.2.2.2.2.1.1 g.2.2.2.2.1.2 (fun _ => 0) (fun _ => 0))) ++ (inW K g.2.2.2.2.2.1 g.2.2.2.2.2.2.1.1 g.2.2.2.2.2.2.1.2 (fun _ => 0) (fun _ => 0))) ++ (sgW K g.2.2.2.2.2.2.2.1 (g.2.2.2.2.2.2.2.2.1 0) (g.2.2.2.2.2.2.2.2.1 1) (g.2.2.2.2.2.2.2.2.1 2) (g.2.2.2.2.2.2.2.2.1 3) (g.2.2.2.2.2.2.2.2.1 4) (g.2.2.2.2.2.2.2.2.1 5) (g.2.2.2.2.2.2.2.2.1 6) (g.2.2.2.2.2.2.2.2.1 7) (g.2.2.2.2.2.2.2.2.1 8) (g.2.2.2.2.2.2.2.2.1 9) (g.2.2.2.2.2.2.2.2.2 0) (g.2.2.2.2.2.2.2.2.2 1) (g.2.2.2.2.2.2.2.2.2 2) (fun _ => none) (fun _ => 0) (fun _ => 0) 0 (fun _ => 0) (fun _ => 0) false (fun _ => 0) (fun _ => 0) (fun _ _ => 0) (fun _ _ => 0) (fun _ _ => 0))) ++ (moW K h a 0 0 0 (fun _ => 0) (fun _ => 0) (fun _ => false) (fun _ => 0) (fun _ => 0) (fun _ => 0) (fun _ => 0) (fun _ => 0) (fun _ => 0) (fun _ => 0) (fun _ => false) 0 (upd (upd (upd (upd (fun _ => 0) (0 : Int32).toNatClampNeg (-1)) (1 : Int32).toNatClampNeg (-1)) (2 : Int32).toNatClampNeg (-1)) (3 : Int32).toNatClampNeg (-1)) (fun _ => 0) (fun _ => 0) (fun _ => 0) (fun _ => 0) (fun _ => 0) false (fun _ => 0) (fun _ => 0) (fun _ => 0) (fun _ => false) (fun _ => 0) (fun _ => false) (fun _ => 0))) := hD
  refine lv_astore_n (lv' := [(2, .ref h), (1, .ref xq), (0, .ref b)]) hx hb d_La_law_15 rfl hl (by decide) rfl (fun ls hl => ?_)
  refine lv_iconst (v := 1) hx hb d_La_law_16 (by decide) ?_
  refine g_newa (atype := .long) (ty := .long) hx hb (hts _ ac_long) rfl 1 rfl (fun _ h => h) hK hP hD hS hA (N' := 1) (a0 := (1, .inr (.inl (fun _ => 0)))) (fun _ => rfl) (by decide) (by decide) (by decide) (Nat.le_of_ble_eq_true rfl) (Nat.le_of_ble_eq_true rfl) d_La_law_17 (fun lq H hP hD hS => ?_)
  have hP := vswP hP
  have hD := vswD hD
  refine lv_astore_n (lv' := [(3, .ref lq), (2, .ref h), (1, .ref xq), (0, .ref b)]) hx hb d_La_law_19 rfl hl (by decide) rfl (fun ls hl => ?_)
  refine lv_iconst (v := 0) hx hb d_La_law_20 (by decide) ?_
  refine lv_istore (lv' := [(4, .int 0), (3, .ref lq), (2, .ref h), (1, .ref xq), (0, .ref b)]) hx hb d_La_law_21 hl (by decide) rfl (fun ls hl => ?_)
  refine W.widen (k := 1000 + 32 * 0) (n := 100000 + 512 * 0) (Nat.le_of_ble_eq_true rfl) (Nat.le_of_ble_eq_true rfl) ?_
  have hP : va_P D vwCl (LW K xq g.1 g.2.1 g.2.2.2.1 g.2.2.2.2.2.1 g.2.2.2.2.2.2.2.1 (g.2.2.1 0) (g.2.2.1 1) (g.2.2.1 2) (g.2.2.1 3) (g.2.2.1 4) (g.2.2.1 5) (g.2.2.1 6) (g.2.2.1 7) (g.2.2.1 8) g.2.2.2.2.1.1 g.2.2.2.2.1.2 g.2.2.2.2.2.2.1.1 g.2.2.2.2.2.2.1.2 (g.2.2.2.2.2.2.2.2.1 0) (g.2.2.2.2.2.2.2.2.1 1) (g.2.2.2.2.2.2.2.2.1 2) (g.2.2.2.2.2.2.2.2.1 3) (g.2.2.2.2.2.2.2.2.1 4) (g.2.2.2.2.2.2.2.2.1 5) (g.2.2.2.2.2.2.2.2.1 6) (g.2.2.2.2.2.2.2.2.1 7) (g.2.2.2.2.2.2.2.2.1 8) (g.2.2.2.2.2.2.2.2.1 9) (g.2.2.2.2.2.2.2.2.2 0) (g.2.2.2.2.2.2.2.2.2 1) (g.2.2.2.2.2.2.2.2.2 2) lq h a C0 R0 (fun _ => 0) ++ []) H := by rw [List.append_nil]; exact hP
  have hD : va_D A (LW K xq g.1 g.2.1 g.2.2.2.1 g.2.2.2.2.2.1 g.2.2.2.2.2.2.2.1 (g.2.2.1 0) (g.2.2.1 1) (g.2.2.1 2) (g.2.2.1 3) (g.2.2.1 4) (g.2.2.1 5) (g.2.2.1 6) (g.2.2.1 7) (g.2.2.1 8) g.2.2.2.2.1.1 g.2.2.2.2.1.2 g.2.2.2.2.2.2.1.1 g.2.2.2.2.2.2.1.2 (g.2.2.2.2.2.2.2.2.1 0) (g.2.2.2.2.2.2.2.2.1 1) (g.2.2.2.2.2.2.2.2.1 2) (g.2.2.2.2.2.2.2.2.1 3) (g.2.2.2.2.2.2.2.2.1 4) (g.2.2.2.2.2.2.2.2.1 5) (g.2.2.2.2.2.2.2.2.1 6) (g.2.2.2.2.2.2.2.2.1 7) (g.2.2.2.2.2.2.2.2.1 8) (g.2.2.2.2.2.2.2.2.1 9) (g.2.2.2.2.2.2.2.2.2 0) (g.2.2.2.2.2.2.2.2.2 1) (g.2.2.2.2.2.2.2.2.2 2) lq h a C0 R0 (fun _ => 0) ++ []) := by rw [List.append_nil]; exact hD
  refine law_loop (i1 := g.2.2.2.2.2.2.1.1) (i2 := g.2.2.2.2.2.2.1.2) (h := h) (a := a) (lq := lq) hx hb hml hts hown hl0 hK hX hZ hC hA hXb hbl hAb hL s0 s1 s2 s3 s4 s5 s6 s7 s8 s9 s10 s11 s12 s13 s14 s15 s16 s17 s18 (fun H locs ls j hj hS => ?_) 512 0 (by omega) (by omega) (g.2.2.1 4) (g.2.2.1 5) g.2.2.2.2.1.1 g.2.2.2.2.1.2 C0 (fun _ => (0, 0, 0, 0, fun _ => 0, 0, fun _ => 0)) R0 (fun _ => 0) [] H _ ls (hrel0 _) ⟨hP, hD, hS, ?_⟩ hl
  · refine lv_iconst (v := 1) hx hb d_La_law_1369 (by decide) ?_
    refine va_forget (hfg H locs hS) ?_
    refine W.widen (k := 601024) (n := 7293034) (by omega) (by omega) ?_
    exact lw_ret hx hb hr hlocks d_La_law_1370
  · intro q hq
    rcases hq with ⟨i, -, hi⟩ | ⟨i, -, hi⟩
    · exact nomatch hi
    · exact nomatch hi
