theorem ini_Pa : (Cond.initialized "RegularSolver$Pairs") ∈ gW := gm 18 (by decide +kernel) (by decide +kernel)
theorem im_Pa_begin : (Cond.instanceMethod ({ cls := "RegularSolver$Pairs", name := "begin", desc := "()V" } : MethodName)) ∈ gW := gm 341 (by decide +kernel) (by decide +kernel)
theorem sa_Pa_begin : (Cond.selects "RegularSolver$Pairs" ({ cls := "RegularSolver$Way", name := "begin", desc := "()V" } : MethodName) ({ cls := "RegularSolver$Pairs", name := "begin", desc := "()V" } : MethodName)) ∈ gW := gm 340 (by decide +kernel) (by decide +kernel)
theorem im_Pa_go : (Cond.instanceMethod ({ cls := "RegularSolver$Pairs", name := "go", desc := "(IJI)V" } : MethodName)) ∈ gW := gm 374 (by decide +kernel) (by decide +kernel)
theorem sa_Pa_go : (Cond.selects "RegularSolver$Pairs" ({ cls := "RegularSolver$Way", name := "go", desc := "(IJI)V" } : MethodName) ({ cls := "RegularSolver$Pairs", name := "go", desc := "(IJI)V" } : MethodName)) ∈ gW := gm 373 (by decide +kernel) (by decide +kernel)
theorem im_Pa_endsAt : (Cond.instanceMethod ({ cls := "RegularSolver$Pairs", name := "endsAt", desc := "(IJ)Z" } : MethodName)) ∈ gW := gm 404 (by decide +kernel) (by decide +kernel)
theorem sa_Pa_endsAt : (Cond.selects "RegularSolver$Pairs" ({ cls := "RegularSolver$Way", name := "endsAt", desc := "(IJ)Z" } : MethodName) ({ cls := "RegularSolver$Pairs", name := "endsAt", desc := "(IJ)Z" } : MethodName)) ∈ gW := gm 403 (by decide +kernel) (by decide +kernel)
section
variable {p : Program} {l : Launch} {e : Env} {R : Room} {s : State} {m : MethodId} {args : Array Value} {below : List Frame} {meth : Method} {c : Code} {H : Heap} {locs : List Loc} {cells slots : Nat} {Q : State → Prop} {A : Nat → Prop} {H0 : Heap}
variable {n : Nat} {D : va_G} {K : Nat → ClassId} {mq : Nat} {m0 : Nat} {m1 : Nat} {m2 : Nat} {m3 : Nat} {m5 : Nat} {m6 : Nat} {m7 : Nat} {m8 : Nat} {m9 : Nat} {wq : Nat} {q1 : Nat} {q2 : Nat} {an1 : Nat} {aa1 : Nat} {an2 : Nat} {aa2 : Nat} {kHeads : Nat → Int32} {kTails : Nat → Int64} {kNext : Nat → Int32} {kSlots : Nat → Int32} {kReached : Int32} {kClassOf : Nat → Int32} {kFinerOf : Nat → Int32} {kMarkOf : Nat → Int32} {kFirstOf : Nat → Int32} {kMarkSlots : Nat → Int32} {kClasses : Int32} {wHead : Int32} {wTail : Int64} {pBoth : Bool} {aStates1 : Int32} {aNl1 : Nat} {aNext1 : Nat → Int32} {aLast1 : Int64} {aAhead1 : Nat → Int64} {aStates2 : Int32} {aNl2 : Nat} {aNext2 : Nat → Int32} {aLast2 : Int64} {aAhead2 : Nat → Int64}
def f_Mk_follow_Pa_49 (n : Nat) (v2 : Int32) (aNl1 : Nat) (aNext1 : Nat → Int32) (aNl2 : Nat) (aNext2 : Nat → Int32) : Nat → Int32 → (Nat → Int32) → (Nat → Int64) → (Nat → Int32) → (Nat → Int32) → Int32 → Int32 → Int64 → Option ((Bool × (Nat → Int32) × (Nat → Int64) × (Nat → Int32) × (Nat → Int32) × Int32 × Int32 × Int64) ⊕ (Int32 × (Nat → Int32) × (Nat → Int64) × (Nat → Int32) × (Nat → Int32) × Int32 × Int32 × Int64))
  | 0, _, _, _, _, _, _, _, _ => none
  | k + 1, v3, kHeads, kTails, kNext, kSlots, kReached, wHead, wTail =>
    if 4 ≤ v3 then
      some (.inr (v3, kHeads, kTails, kNext, kSlots, kReached, wHead, wTail))
    else
      ogd (gin v2 800) <|
      ogd (gin v2 800) <|
      (f_Pa_go n (kHeads v2.toNatClampNeg) (kTails v2.toNatClampNeg) v3 aNl1 aNext1 aNl2 aNext2).bind fun u24 =>
      (f_Mk_numberOf n u24.1 u24.2 kHeads kTails kSlots kReached).bind fun u26 =>
      if u26.1 = (-1) then
        some (.inl (false, u26.2.1, u26.2.2.1, kNext, u26.2.2.2.1, u26.2.2.2.2, u24.1, u24.2))
      else
        ogd (gin ((4 * v2) + v3) 3200) <|
        f_Mk_follow_Pa_49 n v2 aNl1 aNext1 aNl2 aNext2 k (v3 + 1) u26.2.1 u26.2.2.1 (upd kNext ((4 * v2) + v3).toNatClampNeg u26.1) u26.2.2.2.1 u26.2.2.2.2 u24.1 u24.2
set_option maxHeartbeats 4000000 in
set_option maxRecDepth 100000 in
theorem w_Mk_follow_Pa_49  {v2 : Int32} (hx : p.tables.exec = Jvm.exec) (hb : c.code = b_Mk_follow) (hml : c.maxLocals = 5) (hts : ∀ w ∈ gW, w.before args s = true) (hown : s.vm.findClass "RegularSolver$Maker" = some m.cls) (hK : va_K D vwCl (tG K) s) (hX : gX s) (hO1 : ∀ (H : Heap) (locs : List Loc), va_S A H0 H locs → va_P D vwCl (auW K q1 an1 aa1 aStates1 aNl1 aNext1 aLast1 aAhead1) H) (hw1 : gAw A (auW K q1 an1 aa1 aStates1 aNl1 aNext1 aLast1 aAhead1)) (hO2 : ∀ (H : Heap) (locs : List Loc), va_S A H0 H locs → va_P D vwCl (auW K q2 an2 aa2 aStates2 aNl2 aNext2 aLast2 aAhead2) H) (hw2 : gAw A (auW K q2 an2 aa2 aStates2 aNl2 aNext2 aLast2 aAhead2)) (hRf : 2 ≤ R.frames) (hRl : 50 ≤ R.locals) (hRc : cells ≤ R.cells) (hRs : slots ≤ R.slots) (hA : ∀ q, H0.size ≤ q → A q)  {out : (Bool × (Nat → Int32) × (Nat → Int64) × (Nat → Int32) × (Nat → Int32) × Int32 × Int32 × Int64) ⊕ (Int32 × (Nat → Int32) × (Nat → Int64) × (Nat → Int32) × (Nat → Int32) × Int32 × Int32 × Int64)} (Kr : ∀ (r : Bool × (Nat → Int32) × (Nat → Int64) × (Nat → Int32) × (Nat → Int32) × Int32 × Int32 × Int64), out = .inl r → ∀ (m5 : Nat) (m6 : Nat), ∀ (pc : Nat) (ls : Array Slot) (H : Heap) (locs : List Loc), decode b_Mk_follow pc = .ok (.ireturn, 1) → va_P D vwCl ((mkW K mq m0 m1 m2 m3 m5 m6 m7 m8 m9 r.2.1 r.2.2.1 r.2.2.2.1 r.2.2.2.2.1 r.2.2.2.2.2.1 kClassOf kFinerOf kMarkOf kFirstOf kMarkSlots kClasses) ++ (paW K wq q1 q2 r.2.2.2.2.2.2.1 r.2.2.2.2.2.2.2 pBoth)) H → va_D A ((mkW K mq m0 m1 m2 m3 m5 m6 m7 m8 m9 r.2.1 r.2.2.1 r.2.2.2.1 r.2.2.2.2.1 r.2.2.2.2.2.1 kClassOf kFinerOf kMarkOf kFirstOf kMarkSlots kClasses) ++ (paW K wq q1 q2 r.2.2.2.2.2.2.1 r.2.2.2.2.2.2.2 pBoth)) → va_S A H0 H locs → W p l e R s m args below meth c H locs cells slots Q (F0 m pc ls [.int (bI r.1)])) (Kx : ∀ (u : Int32 × (Nat → Int32) × (Nat → Int64) × (Nat → Int32) × (Nat → Int32) × Int32 × Int32 × Int64), out = .inr u → ∀ (m5 : Nat) (m6 : Nat), ∀ (ls : Array Slot) (H : Heap) (locs : List Loc), va_P D vwCl ((mkW K mq m0 m1 m2 m3 m5 m6 m7 m8 m9 u.2.1 u.2.2.1 u.2.2.2.1 u.2.2.2.2.1 u.2.2.2.2.2.1 kClassOf kFinerOf kMarkOf kFirstOf kMarkSlots kClasses) ++ (paW K wq q1 q2 u.2.2.2.2.2.2.1 u.2.2.2.2.2.2.2 pBoth)) H → va_D A ((mkW K mq m0 m1 m2 m3 m5 m6 m7 m8 m9 u.2.1 u.2.2.1 u.2.2.2.1 u.2.2.2.2.1 u.2.2.2.2.2.1 kClassOf kFinerOf kMarkOf kFirstOf kMarkSlots kClasses) ++ (paW K wq q1 q2 u.2.2.2.2.2.2.1 u.2.2.2.2.2.2.2 pBoth)) → va_S A H0 H locs → lv_has ls 5 [(2, .int v2), (0, .ref mq), (1, .ref wq)] → W p l e R s m args below meth c H locs cells slots Q (F0 m 111 ls [])) :
    ∀ (k : Nat) (v3 : Int32) (kHeads : Nat → Int32) (kTails : Nat → Int64) (kNext : Nat → Int32) (kSlots : Nat → Int32) (kReached : Int32) (wHead : Int32) (wTail : Int64), f_Mk_follow_Pa_49 n v2 aNl1 aNext1 aNl2 aNext2 k v3 kHeads kTails kNext kSlots kReached wHead wTail = some out → ∀ (m5 : Nat) (m6 : Nat), ∀ (ls : Array Slot) (H : Heap) (locs : List Loc), va_P D vwCl ((mkW K mq m0 m1 m2 m3 m5 m6 m7 m8 m9 kHeads kTails kNext kSlots kReached kClassOf kFinerOf kMarkOf kFirstOf kMarkSlots kClasses) ++ (paW K wq q1 q2 wHead wTail pBoth)) H → va_D A ((mkW K mq m0 m1 m2 m3 m5 m6 m7 m8 m9 kHeads kTails kNext kSlots kReached kClassOf kFinerOf kMarkOf kFirstOf kMarkSlots kClasses) ++ (paW K wq q1 q2 wHead wTail pBoth)) → va_S A H0 H locs → lv_has ls 5 [(3, .int v3), (2, .int v2), (0, .ref mq), (1, .ref wq)] → W p l e R s m args below meth c H locs cells slots Q (F0 m 49 ls []) := by
  intro k
  induction k with
  | zero => intro _ _ _ _ _ _ _ _ hf; exact nomatch (show none = some out from hf)
  | succ k ih =>
    intro v3 kHeads kTails kNext kSlots kReached wHead wTail hf m5 m6 ls H locs hP hD hS hl
    rw [f_Mk_follow_Pa_49] at hf
    refine lv_iload_n hx hb d_Mk_follow_49 rfl (lv_at hl 0 rfl) ?_
    refine lv_iconst (v := 4) hx hb d_Mk_follow_50 (by decide) ?_
    refine lv_icmp_ge (tgt := 111) hx hb d_Mk_follow_51 (by decide) (fun c21 => ?_) (fun c21 => ?_)
    · rw [if_pos c21] at hf
      exact Kx _ (Option.some.inj hf).symm _ _ _ _ _ hP hD hS (show lv_has ls 5 [(2, .int v2), (0, .ref mq), (1, .ref wq)] from lv_sub hl [1, 2, 3] rfl)
    · rw [if_neg c21] at hf
      refine lv_aload_n hx hb d_Mk_follow_54 rfl (lv_at hl 3 rfl) ?_
      refine lv_aload_n hx hb d_Mk_follow_55 rfl (lv_at hl 2 rfl) ?_
      refine va_get (D := D) (ci := 6) (v := .ref m0) (C := R_Mk) (T := T_Mk) (N := 11) hx hb hts in_Mk hown hK hP 0 rfl rfl 0 (by decide) (hts _ fl_Mk_11) (fun _ h9 => h9) rfl d_Mk_follow_56 ?_
      refine lv_iload_n hx hb d_Mk_follow_59 rfl (lv_at hl 1 rfl) ?_
      obtain ⟨g22, hf⟩ := ogi hf
      refine va_iald hx hb hK hP 1 0 rfl rfl (gin_in g22) d_Mk_follow_60 ?_
      refine lv_aload_n hx hb d_Mk_follow_61 rfl (lv_at hl 2 rfl) ?_
      refine va_get (D := D) (ci := 6) (v := .ref m1) (C := R_Mk) (T := T_Mk) (N := 11) hx hb hts in_Mk hown hK hP 0 rfl rfl 1 (by decide) (hts _ fl_Mk_15) (fun _ h9 => h9) rfl d_Mk_follow_62 ?_
      refine lv_iload_n hx hb d_Mk_follow_65 rfl (lv_at hl 1 rfl) ?_
      obtain ⟨g23, hf⟩ := ogi hf
      refine va_lald hx hb hK hP 2 1 rfl rfl (gin_in g23) d_Mk_follow_66 ?_
      refine lv_iload_n hx hb d_Mk_follow_67 rfl (lv_at hl 0 rfl) ?_
      obtain ⟨u24, eu24, hf⟩ := obd hf
      refine w_callA (va_runU (As := [.int (kHeads v2.toNatClampNeg), .long (kTails v2.toNatClampNeg), .int v3]) (rest := []) ⟨hx, hb, hml, hown, hts⟩ (Met_G (c_Pa_go l H.size eu24)) (gA (owner := "RegularSolver$Way") 3 hts hX cd_Pa_go ml_Mk_85 im_Pa_go sm_go sa_Pa_go ini_Pa (by decide +kernel) rfl rfl (by decide +kernel) ⟨Nat.le_trans (Nat.le_of_ble_eq_true rfl) hRf, Nat.le_trans (Nat.le_of_ble_eq_true rfl) hRl⟩) ⟨wPreR_blind, va_recv hK (vaR hP) (ci := 4) (q0 := 0) rfl rfl, wPreR_of (vaR hP) hK (vdR hD) hS hA (va_P.app (hO1 _ _ hS) (hO2 _ _ hS)) (gAw.app hw1 hw2)⟩ rfl rfl hl.1 rfl (lv_room (Nat.le_of_ble_eq_true rfl)) d_Mk_follow_68 ⟨hRc, hRs⟩) (vdR hD) hS hA (fun g25 H1 locs hP1 hD1 hk1 hS1 => ?_)
      obtain ⟨hP, hD⟩ := va_keepL hP hD (va_sub (vdR hD) hS hA) hk1 hP1 hD1
      have hS := hS1
      generalize H1 = H at hP hS ⊢
      have hP : va_P D vwCl ((mkW K mq m0 m1 m2 m3 m5 m6 m7 m8 m9 kHeads kTails kNext kSlots kReached kClassOf kFinerOf kMarkOf kFirstOf kMarkSlots kClasses) ++ (paW K wq q1 q2 u24.1 u24.2 pBoth)) H := hP
      have hD : va_D A ((mkW K mq m0 m1 m2 m3 m5 m6 m7 m8 m9 kHeads kTails kNext kSlots kReached kClassOf kFinerOf kMarkOf kFirstOf kMarkSlots kClasses) ++ (paW K wq q1 q2 u24.1 u24.2 pBoth)) := hD
      refine lv_aload_n hx hb d_Mk_follow_71 rfl (lv_at hl 2 rfl) ?_
      refine lv_aload_n hx hb d_Mk_follow_72 rfl (lv_at hl 3 rfl) ?_
      refine va_get (D := D) (ci := 4) (v := .int u24.1) (C := R_Pa) (T := T_Pa) (N := 5) hx hb hts in_Pa hown hK hP 10 rfl rfl 0 (by decide) (hts _ fl_Mk_74) (fun _ h9 => h9) rfl d_Mk_follow_73 ?_
      refine lv_aload_n hx hb d_Mk_follow_76 rfl (lv_at hl 3 rfl) ?_
      refine va_get (D := D) (ci := 4) (v := .long u24.2) (C := R_Pa) (T := T_Pa) (N := 5) hx hb hts in_Pa hown hK hP 10 rfl rfl 1 (by decide) (hts _ fl_Mk_77) (fun _ h9 => h9) rfl d_Mk_follow_77 ?_
      obtain ⟨u26, eu26, hf⟩ := obd hf
      refine w_callA (va_runV (As := [.int u24.1, .long u24.2]) (rest := []) ⟨hx, hb, hml, hown, hts⟩ (c_Mk_numberOf l H.size eu26) (gV 2 hts cd_Mk_numberOf ml_Mk_81 im_Mk_numberOf se_Mk_numberOf ini_Mk rfl rfl pd_Mk_numberOf ⟨Nat.le_trans (Nat.le_of_ble_eq_true rfl) hRf, Nat.le_trans (Nat.le_of_ble_eq_true rfl) hRl⟩) ⟨wPre_blind, va_recv hK (vaL hP) (ci := 6) (q0 := 0) rfl rfl, wPre_of (vaL hP) hK (vdL hD)⟩ rfl rfl hl.1 rfl (lv_room (Nat.le_of_ble_eq_true rfl)) d_Mk_follow_80 ⟨hRc, hRs⟩) (vdL hD) hS hA (fun g27 H1 locs hP1 hD1 hk1 hS1 => ?_)
      obtain ⟨hP, hD⟩ := va_keepR hP hD (va_sub (vdL hD) hS hA) hk1 hP1 hD1
      have hS := hS1
      generalize H1 = H at hP hS ⊢
      have hP : va_P D vwCl ((mkW K mq m0 m1 m2 m3 g27.1 g27.2 m7 m8 m9 u26.2.1 u26.2.2.1 kNext u26.2.2.2.1 u26.2.2.2.2 kClassOf kFinerOf kMarkOf kFirstOf kMarkSlots kClasses) ++ (paW K wq q1 q2 u24.1 u24.2 pBoth)) H := hP
      have hD : va_D A ((mkW K mq m0 m1 m2 m3 g27.1 g27.2 m7 m8 m9 u26.2.1 u26.2.2.1 kNext u26.2.2.2.1 u26.2.2.2.2 kClassOf kFinerOf kMarkOf kFirstOf kMarkSlots kClasses) ++ (paW K wq q1 q2 u24.1 u24.2 pBoth)) := hD
      refine lv_istore (lv' := [(4, .int u26.1), (3, .int v3), (2, .int v2), (0, .ref mq), (1, .ref wq)]) hx hb d_Mk_follow_83 hl (by decide) rfl (fun ls hl => ?_)
      refine lv_iload hx hb d_Mk_follow_85 (lv_at hl 0 rfl) ?_
      refine lv_iconst (v := -1) hx hb d_Mk_follow_87 (by decide) ?_
      refine lv_icmp_ne (tgt := 93) hx hb d_Mk_follow_88 (by decide) (fun c28 => ?_) (fun c28 => ?_)
      · rw [if_neg c28] at hf
        refine lv_aload_n hx hb d_Mk_follow_93 rfl (lv_at hl 3 rfl) ?_
        refine va_get (D := D) (ci := 6) (v := .ref m2) (C := R_Mk) (T := T_Mk) (N := 11) hx hb hts in_Mk hown hK hP 0 rfl rfl 2 (by decide) (hts _ fl_Mk_19) (fun _ h9 => h9) rfl d_Mk_follow_94 ?_
        refine lv_iconst (v := 4) hx hb d_Mk_follow_97 (by decide) ?_
        refine lv_iload_n hx hb d_Mk_follow_98 rfl (lv_at hl 2 rfl) ?_
        refine lv_imul hx hb d_Mk_follow_99 ?_
        refine lv_iload_n hx hb d_Mk_follow_100 rfl (lv_at hl 1 rfl) ?_
        refine lv_iadd hx hb d_Mk_follow_101 ?_
        refine lv_iload hx hb d_Mk_follow_102 (lv_at hl 0 rfl) ?_
        obtain ⟨g29, hf⟩ := ogi hf
        refine va_iast hx hb hK hP hD hS 3 0 rfl rfl (gin_in g29) d_Mk_follow_104 (fun H locs hP hD hS => ?_)
        have hP : va_P D vwCl ((mkW K mq m0 m1 m2 m3 g27.1 g27.2 m7 m8 m9 u26.2.1 u26.2.2.1 (upd kNext ((4 * v2) + v3).toNatClampNeg u26.1) u26.2.2.2.1 u26.2.2.2.2 kClassOf kFinerOf kMarkOf kFirstOf kMarkSlots kClasses) ++ (paW K wq q1 q2 u24.1 u24.2 pBoth)) H := hP
        have hD : va_D A ((mkW K mq m0 m1 m2 m3 g27.1 g27.2 m7 m8 m9 u26.2.1 u26.2.2.1 (upd kNext ((4 * v2) + v3).toNatClampNeg u26.1) u26.2.2.2.1 u26.2.2.2.2 kClassOf kFinerOf kMarkOf kFirstOf kMarkSlots kClasses) ++ (paW K wq q1 q2 u24.1 u24.2 pBoth)) := hD
        refine lv_iinc (v := v3 + 1) (lv' := [(3, .int (v3 + 1)), (4, .int u26.1), (2, .int v2), (0, .ref mq), (1, .ref wq)]) hx hb d_Mk_follow_105 hl (k := 1) rfl (by first | rfl | (congr 1)) (by decide) rfl (fun ls hl => ?_)
        refine lv_goto (tgt := 49) hx hb d_Mk_follow_108 (by decide) ?_
        exact ih _ _ _ _ _ _ _ _ hf _ _ _ _ _ hP hD hS (show lv_has ls 5 [(3, .int (v3 + 1)), (2, .int v2), (0, .ref mq), (1, .ref wq)] from lv_sub hl [0, 2, 3, 4] rfl)
      · rw [if_pos c28] at hf
        refine lv_iconst (v := 0) hx hb d_Mk_follow_91 (by decide) ?_
        exact Kr _ (Option.some.inj hf).symm _ _ _ _ _ _ d_Mk_follow_92 hP hD hS
def f_Mk_follow_Pa_32 (n : Nat) (aNl1 : Nat) (aNext1 : Nat → Int32) (aNl2 : Nat) (aNext2 : Nat → Int32) : Nat → Int32 → (Nat → Int32) → (Nat → Int64) → (Nat → Int32) → (Nat → Int32) → Int32 → Int32 → Int64 → Option ((Bool × (Nat → Int32) × (Nat → Int64) × (Nat → Int32) × (Nat → Int32) × Int32 × Int32 × Int64) ⊕ (Int32 × (Nat → Int32) × (Nat → Int64) × (Nat → Int32) × (Nat → Int32) × Int32 × Int32 × Int64))
  | 0, _, _, _, _, _, _, _, _ => none
  | k + 1, v2, kHeads, kTails, kNext, kSlots, kReached, wHead, wTail =>
    if 800 ≤ v2 then
      some (.inr (v2, kHeads, kTails, kNext, kSlots, kReached, wHead, wTail))
    else
      if kReached ≤ v2 then
        some (.inr (v2, kHeads, kTails, kNext, kSlots, kReached, wHead, wTail))
      else
        (f_Mk_follow_Pa_49 n v2 aNl1 aNext1 aNl2 aNext2 n 0 kHeads kTails kNext kSlots kReached wHead wTail).bind fun u30 => u30.elim (fun r => some (.inl r)) fun x30 =>
        f_Mk_follow_Pa_32 n aNl1 aNext1 aNl2 aNext2 k (v2 + 1) x30.2.1 x30.2.2.1 x30.2.2.2.1 x30.2.2.2.2.1 x30.2.2.2.2.2.1 x30.2.2.2.2.2.2.1 x30.2.2.2.2.2.2.2
set_option maxHeartbeats 4000000 in
set_option maxRecDepth 100000 in
theorem w_Mk_follow_Pa_32   (hx : p.tables.exec = Jvm.exec) (hb : c.code = b_Mk_follow) (hml : c.maxLocals = 5) (hts : ∀ w ∈ gW, w.before args s = true) (hown : s.vm.findClass "RegularSolver$Maker" = some m.cls) (hK : va_K D vwCl (tG K) s) (hX : gX s) (hO1 : ∀ (H : Heap) (locs : List Loc), va_S A H0 H locs → va_P D vwCl (auW K q1 an1 aa1 aStates1 aNl1 aNext1 aLast1 aAhead1) H) (hw1 : gAw A (auW K q1 an1 aa1 aStates1 aNl1 aNext1 aLast1 aAhead1)) (hO2 : ∀ (H : Heap) (locs : List Loc), va_S A H0 H locs → va_P D vwCl (auW K q2 an2 aa2 aStates2 aNl2 aNext2 aLast2 aAhead2) H) (hw2 : gAw A (auW K q2 an2 aa2 aStates2 aNl2 aNext2 aLast2 aAhead2)) (hRf : 2 ≤ R.frames) (hRl : 50 ≤ R.locals) (hRc : cells ≤ R.cells) (hRs : slots ≤ R.slots) (hA : ∀ q, H0.size ≤ q → A q)  {out : (Bool × (Nat → Int32) × (Nat → Int64) × (Nat → Int32) × (Nat → Int32) × Int32 × Int32 × Int64) ⊕ (Int32 × (Nat → Int32) × (Nat → Int64) × (Nat → Int32) × (Nat → Int32) × Int32 × Int32 × Int64)} (Kr : ∀ (r : Bool × (Nat → Int32) × (Nat → Int64) × (Nat → Int32) × (Nat → Int32) × Int32 × Int32 × Int64), out = .inl r → ∀ (m5 : Nat) (m6 : Nat), ∀ (pc : Nat) (ls : Array Slot) (H : Heap) (locs : List Loc), decode b_Mk_follow pc = .ok (.ireturn, 1) → va_P D vwCl ((mkW K mq m0 m1 m2 m3 m5 m6 m7 m8 m9 r.2.1 r.2.2.1 r.2.2.2.1 r.2.2.2.2.1 r.2.2.2.2.2.1 kClassOf kFinerOf kMarkOf kFirstOf kMarkSlots kClasses) ++ (paW K wq q1 q2 r.2.2.2.2.2.2.1 r.2.2.2.2.2.2.2 pBoth)) H → va_D A ((mkW K mq m0 m1 m2 m3 m5 m6 m7 m8 m9 r.2.1 r.2.2.1 r.2.2.2.1 r.2.2.2.2.1 r.2.2.2.2.2.1 kClassOf kFinerOf kMarkOf kFirstOf kMarkSlots kClasses) ++ (paW K wq q1 q2 r.2.2.2.2.2.2.1 r.2.2.2.2.2.2.2 pBoth)) → va_S A H0 H locs → W p l e R s m args below meth c H locs cells slots Q (F0 m pc ls [.int (bI r.1)])) (Kx : ∀ (u : Int32 × (Nat → Int32) × (Nat → Int64) × (Nat → Int32) × (Nat → Int32) × Int32 × Int32 × Int64), out = .inr u → ∀ (m5 : Nat) (m6 : Nat), ∀ (ls : Array Slot) (H : Heap) (locs : List Loc), va_P D vwCl ((mkW K mq m0 m1 m2 m3 m5 m6 m7 m8 m9 u.2.1 u.2.2.1 u.2.2.2.1 u.2.2.2.2.1 u.2.2.2.2.2.1 kClassOf kFinerOf kMarkOf kFirstOf kMarkSlots kClasses) ++ (paW K wq q1 q2 u.2.2.2.2.2.2.1 u.2.2.2.2.2.2.2 pBoth)) H → va_D A ((mkW K mq m0 m1 m2 m3 m5 m6 m7 m8 m9 u.2.1 u.2.2.1 u.2.2.2.1 u.2.2.2.2.1 u.2.2.2.2.2.1 kClassOf kFinerOf kMarkOf kFirstOf kMarkSlots kClasses) ++ (paW K wq q1 q2 u.2.2.2.2.2.2.1 u.2.2.2.2.2.2.2 pBoth)) → va_S A H0 H locs → lv_has ls 5 [] → W p l e R s m args below meth c H locs cells slots Q (F0 m 117 ls [])) :
    ∀ (k : Nat) (v2 : Int32) (kHeads : Nat → Int32) (kTails : Nat → Int64) (kNext : Nat → Int32) (kSlots : Nat → Int32) (kReached : Int32) (wHead : Int32) (wTail : Int64), f_Mk_follow_Pa_32 n aNl1 aNext1 aNl2 aNext2 k v2 kHeads kTails kNext kSlots kReached wHead wTail = some out → ∀ (m5 : Nat) (m6 : Nat), ∀ (ls : Array Slot) (H : Heap) (locs : List Loc), va_P D vwCl ((mkW K mq m0 m1 m2 m3 m5 m6 m7 m8 m9 kHeads kTails kNext kSlots kReached kClassOf kFinerOf kMarkOf kFirstOf kMarkSlots kClasses) ++ (paW K wq q1 q2 wHead wTail pBoth)) H → va_D A ((mkW K mq m0 m1 m2 m3 m5 m6 m7 m8 m9 kHeads kTails kNext kSlots kReached kClassOf kFinerOf kMarkOf kFirstOf kMarkSlots kClasses) ++ (paW K wq q1 q2 wHead wTail pBoth)) → va_S A H0 H locs → lv_has ls 5 [(2, .int v2), (0, .ref mq), (1, .ref wq)] → W p l e R s m args below meth c H locs cells slots Q (F0 m 32 ls []) := by
  intro k
  induction k with
  | zero => intro _ _ _ _ _ _ _ _ hf; exact nomatch (show none = some out from hf)
  | succ k ih =>
    intro v2 kHeads kTails kNext kSlots kReached wHead wTail hf m5 m6 ls H locs hP hD hS hl
    rw [f_Mk_follow_Pa_32] at hf
    refine lv_iload_n hx hb d_Mk_follow_32 rfl (lv_at hl 0 rfl) ?_
    refine lv_sipush (v := 800) hx hb d_Mk_follow_33 (by decide) ?_
    refine lv_icmp_ge (tgt := 117) hx hb d_Mk_follow_36 (by decide) (fun c19 => ?_) (fun c19 => ?_)
    · rw [if_pos c19] at hf
      exact Kx _ (Option.some.inj hf).symm _ _ _ _ _ hP hD hS (show lv_has ls 5 [] from lv_sub hl [] rfl)
    · rw [if_neg c19] at hf
      refine lv_iload_n hx hb d_Mk_follow_39 rfl (lv_at hl 0 rfl) ?_
      refine lv_aload_n hx hb d_Mk_follow_40 rfl (lv_at hl 1 rfl) ?_
      refine va_get (D := D) (ci := 6) (v := .int kReached) (C := R_Mk) (T := T_Mk) (N := 11) hx hb hts in_Mk hown hK hP 0 rfl rfl 4 (by decide) (hts _ fl_Mk_25) (fun _ h9 => h9) rfl d_Mk_follow_41 ?_
      refine lv_icmp_ge (tgt := 117) hx hb d_Mk_follow_44 (by decide) (fun c20 => ?_) (fun c20 => ?_)
      · rw [if_pos c20] at hf
        exact Kx _ (Option.some.inj hf).symm _ _ _ _ _ hP hD hS (show lv_has ls 5 [] from lv_sub hl [] rfl)
      · rw [if_neg c20] at hf
        refine lv_iconst (v := 0) hx hb d_Mk_follow_47 (by decide) ?_
        refine lv_istore_n (lv' := [(3, .int 0), (2, .int v2), (0, .ref mq), (1, .ref wq)]) hx hb d_Mk_follow_48 rfl hl (by decide) rfl (fun ls hl => ?_)
        obtain ⟨u30, eu30, hf⟩ := obd hf
        refine w_Mk_follow_Pa_49 hx hb hml hts hown hK hX hO1 hw1 hO2 hw2 hRf hRl hRc hRs hA (fun r er m5 m6 pc ls H locs hd hP hD hS => Kr r (by subst er; exact (Option.some.inj hf).symm) m5 m6 pc ls H locs hd hP hD hS) (fun x30 eu m5 m6 ls H locs hP hD hS hl => ?_) _ _ _ _ _ _ _ _ _ eu30 _ _ _ _ _ hP hD hS (show lv_has ls 5 [(3, .int 0), (2, .int v2), (0, .ref mq), (1, .ref wq)] from lv_sub hl [0, 1, 2, 3] rfl)
        subst eu
        replace hf := oel hf
        refine lv_iinc (v := v2 + 1) (lv' := [(2, .int (v2 + 1)), (0, .ref mq), (1, .ref wq)]) hx hb d_Mk_follow_111 hl (k := 0) rfl (by first | rfl | (congr 1)) (by decide) rfl (fun ls hl => ?_)
        refine lv_goto (tgt := 32) hx hb d_Mk_follow_114 (by decide) ?_
        exact ih _ _ _ _ _ _ _ _ hf _ _ _ _ _ hP hD hS (show lv_has ls 5 [(2, .int (v2 + 1)), (0, .ref mq), (1, .ref wq)] from lv_sub hl [0, 1, 2] rfl)
def f_Mk_follow_Pa (n : Nat) (kHeads : Nat → Int32) (kTails : Nat → Int64) (kNext : Nat → Int32) (kSlots : Nat → Int32) (aNl1 : Nat) (aNext1 : Nat → Int32) (aNl2 : Nat) (aNext2 : Nat → Int32) : Option (Bool × (Nat → Int32) × (Nat → Int64) × (Nat → Int32) × (Nat → Int32) × Int32 × Int32 × Int64) :=
  (f_Ar_fillI n (-1) 2048 kSlots).bind fun u1 =>
  (f_Pa_begin n).bind fun u3 =>
  (f_Mk_numberOf n u3.1 u3.2 kHeads kTails u1 0).bind fun u5 =>
  (f_Mk_follow_Pa_32 n aNl1 aNext1 aNl2 aNext2 n 0 u5.2.1 u5.2.2.1 kNext u5.2.2.2.1 u5.2.2.2.2 u3.1 u3.2).bind fun u31 => u31.elim (fun r => some r) fun x31 =>
  some (true, x31.2.1, x31.2.2.1, x31.2.2.2.1, x31.2.2.2.2.1, x31.2.2.2.2.2.1, x31.2.2.2.2.2.2.1, x31.2.2.2.2.2.2.2)
set_option maxHeartbeats 4000000 in
set_option maxRecDepth 100000 in
theorem w_Mk_follow_Pa    (hx : p.tables.exec = Jvm.exec) (hb : c.code = b_Mk_follow) (hml : c.maxLocals = 5) (hts : ∀ w ∈ gW, w.before args s = true) (hown : s.vm.findClass "RegularSolver$Maker" = some m.cls) (hK : va_K D vwCl (tG K) s) (hX : gX s) (hO1 : ∀ (H : Heap) (locs : List Loc), va_S A H0 H locs → va_P D vwCl (auW K q1 an1 aa1 aStates1 aNl1 aNext1 aLast1 aAhead1) H) (hw1 : gAw A (auW K q1 an1 aa1 aStates1 aNl1 aNext1 aLast1 aAhead1)) (hO2 : ∀ (H : Heap) (locs : List Loc), va_S A H0 H locs → va_P D vwCl (auW K q2 an2 aa2 aStates2 aNl2 aNext2 aLast2 aAhead2) H) (hw2 : gAw A (auW K q2 an2 aa2 aStates2 aNl2 aNext2 aLast2 aAhead2)) (hRf : 2 ≤ R.frames) (hRl : 50 ≤ R.locals) (hRc : cells ≤ R.cells) (hRs : slots ≤ R.slots) (hA : ∀ q, H0.size ≤ q → A q) {out : Bool × (Nat → Int32) × (Nat → Int64) × (Nat → Int32) × (Nat → Int32) × Int32 × Int32 × Int64} (Kr : ∀ (r : Bool × (Nat → Int32) × (Nat → Int64) × (Nat → Int32) × (Nat → Int32) × Int32 × Int32 × Int64), out = r → ∀ (m5 : Nat) (m6 : Nat), ∀ (pc : Nat) (ls : Array Slot) (H : Heap) (locs : List Loc), decode b_Mk_follow pc = .ok (.ireturn, 1) → va_P D vwCl ((mkW K mq m0 m1 m2 m3 m5 m6 m7 m8 m9 r.2.1 r.2.2.1 r.2.2.2.1 r.2.2.2.2.1 r.2.2.2.2.2.1 kClassOf kFinerOf kMarkOf kFirstOf kMarkSlots kClasses) ++ (paW K wq q1 q2 r.2.2.2.2.2.2.1 r.2.2.2.2.2.2.2 pBoth)) H → va_D A ((mkW K mq m0 m1 m2 m3 m5 m6 m7 m8 m9 r.2.1 r.2.2.1 r.2.2.2.1 r.2.2.2.2.1 r.2.2.2.2.2.1 kClassOf kFinerOf kMarkOf kFirstOf kMarkSlots kClasses) ++ (paW K wq q1 q2 r.2.2.2.2.2.2.1 r.2.2.2.2.2.2.2 pBoth)) → va_S A H0 H locs → W p l e R s m args below meth c H locs cells slots Q (F0 m pc ls [.int (bI r.1)])) (hf : f_Mk_follow_Pa n kHeads kTails kNext kSlots aNl1 aNext1 aNl2 aNext2 = some out) (ls : Array Slot) (hP : va_P D vwCl ((mkW K mq m0 m1 m2 m3 m5 m6 m7 m8 m9 kHeads kTails kNext kSlots kReached kClassOf kFinerOf kMarkOf kFirstOf kMarkSlots kClasses) ++ (paW K wq q1 q2 wHead wTail pBoth)) H) (hD : va_D A ((mkW K mq m0 m1 m2 m3 m5 m6 m7 m8 m9 kHeads kTails kNext kSlots kReached kClassOf kFinerOf kMarkOf kFirstOf kMarkSlots kClasses) ++ (paW K wq q1 q2 wHead wTail pBoth))) (hS : va_S A H0 H locs) (hl : lv_has ls 5 [(0, .ref mq), (1, .ref wq)]) : W p l e R s m args below meth c H locs cells slots Q (F0 m 0 ls []) := by
  unfold f_Mk_follow_Pa at hf
  refine lv_aload_n hx hb d_Mk_follow_0 rfl (lv_at hl 0 rfl) ?_
  refine va_get (D := D) (ci := 6) (v := .ref m3) (C := R_Mk) (T := T_Mk) (N := 11) hx hb hts in_Mk hown hK hP 0 rfl rfl 3 (by decide) (hts _ fl_Mk_22) (fun _ h9 => h9) rfl d_Mk_follow_1 ?_
  refine lv_iconst (v := -1) hx hb d_Mk_follow_4 (by decide) ?_
  obtain ⟨u1, eu1, hf⟩ := obd hf
  refine w_callA (va_runS (As := [.ref m3, .int (-1)]) (rest := []) ⟨hx, hb, hml, hown, hts⟩ (Met_G (c_Ar_fillI l H.size eu1)) (gS 2 hts cd_Ar_fillI ml_Mk_63 st_Ar_fillI ini_Ar rfl rfl pd_Ar_fillI ⟨Nat.le_trans (Nat.le_of_ble_eq_true rfl) hRf, Nat.le_trans (Nat.le_of_ble_eq_true rfl) hRl⟩) ⟨wPre_blind, wPre_of (vaC hP 4 rfl) hK (vdC hD 4 rfl)⟩ rfl rfl hl.1 rfl (lv_room (Nat.le_of_ble_eq_true rfl)) d_Mk_follow_5 ⟨hRc, hRs⟩) (vdC hD 4 rfl) hS hA (fun g2 H1 locs hP1 hD1 hk1 hS1 => ?_)
  obtain ⟨hP, hD⟩ := va_keepC 4 rfl hP hD hk1 hP1
  have hS := hS1
  generalize H1 = H at hP hS ⊢
  have hP : va_P D vwCl ((mkW K mq m0 m1 m2 m3 m5 m6 m7 m8 m9 kHeads kTails kNext u1 kReached kClassOf kFinerOf kMarkOf kFirstOf kMarkSlots kClasses) ++ (paW K wq q1 q2 wHead wTail pBoth)) H := hP
  have hD : va_D A ((mkW K mq m0 m1 m2 m3 m5 m6 m7 m8 m9 kHeads kTails kNext u1 kReached kClassOf kFinerOf kMarkOf kFirstOf kMarkSlots kClasses) ++ (paW K wq q1 q2 wHead wTail pBoth)) := hD
  refine lv_aload_n hx hb d_Mk_follow_8 rfl (lv_at hl 0 rfl) ?_
  refine lv_iconst (v := 0) hx hb d_Mk_follow_9 (by decide) ?_
  refine va_put (D := D) (ci := 6) (v := .int 0) (ty := .int) (C := R_Mk) (T := T_Mk) (N := 11) hx hb hts in_Mk t_Mk t_Mk_ok n_Mk hown hK hP hD hS 0 rfl rfl 4 (by decide) (hts _ fl_Mk_25) (fun _ h9 => h9) rfl (by decide +kernel) rfl rfl (Nat.le_of_ble_eq_true rfl) d_Mk_follow_10 (fun H locs hP hD hS => ?_)
  have hP : va_P D vwCl ((mkW K mq m0 m1 m2 m3 m5 m6 m7 m8 m9 kHeads kTails kNext u1 0 kClassOf kFinerOf kMarkOf kFirstOf kMarkSlots kClasses) ++ (paW K wq q1 q2 wHead wTail pBoth)) H := hP
  have hD : va_D A ((mkW K mq m0 m1 m2 m3 m5 m6 m7 m8 m9 kHeads kTails kNext u1 0 kClassOf kFinerOf kMarkOf kFirstOf kMarkSlots kClasses) ++ (paW K wq q1 q2 wHead wTail pBoth)) := hD
  refine lv_aload_n hx hb d_Mk_follow_13 rfl (lv_at hl 1 rfl) ?_
  obtain ⟨u3, eu3, hf⟩ := obd hf
  refine w_callA (va_runU (As := []) (rest := []) ⟨hx, hb, hml, hown, hts⟩ (Met_G (c_Pa_begin l H.size eu3)) (gA (owner := "RegularSolver$Way") 0 hts hX cd_Pa_begin ml_Mk_69 im_Pa_begin sm_begin sa_Pa_begin ini_Pa (by decide +kernel) rfl rfl (by decide +kernel) ⟨Nat.le_trans (Nat.le_of_ble_eq_true rfl) hRf, Nat.le_trans (Nat.le_of_ble_eq_true rfl) hRl⟩) ⟨wPreR_blind, va_recv hK (vaR hP) (ci := 4) (q0 := 0) rfl rfl, wPreR_of (vaR hP) hK (vdR hD) hS hA (va_P.app (hO1 _ _ hS) (hO2 _ _ hS)) (gAw.app hw1 hw2)⟩ rfl rfl hl.1 rfl (lv_room (Nat.le_of_ble_eq_true rfl)) d_Mk_follow_14 ⟨hRc, hRs⟩) (vdR hD) hS hA (fun g4 H1 locs hP1 hD1 hk1 hS1 => ?_)
  obtain ⟨hP, hD⟩ := va_keepL hP hD (va_sub (vdR hD) hS hA) hk1 hP1 hD1
  have hS := hS1
  generalize H1 = H at hP hS ⊢
  have hP : va_P D vwCl ((mkW K mq m0 m1 m2 m3 m5 m6 m7 m8 m9 kHeads kTails kNext u1 0 kClassOf kFinerOf kMarkOf kFirstOf kMarkSlots kClasses) ++ (paW K wq q1 q2 u3.1 u3.2 pBoth)) H := hP
  have hD : va_D A ((mkW K mq m0 m1 m2 m3 m5 m6 m7 m8 m9 kHeads kTails kNext u1 0 kClassOf kFinerOf kMarkOf kFirstOf kMarkSlots kClasses) ++ (paW K wq q1 q2 u3.1 u3.2 pBoth)) := hD
  refine lv_aload_n hx hb d_Mk_follow_17 rfl (lv_at hl 0 rfl) ?_
  refine lv_aload_n hx hb d_Mk_follow_18 rfl (lv_at hl 1 rfl) ?_
  refine va_get (D := D) (ci := 4) (v := .int u3.1) (C := R_Pa) (T := T_Pa) (N := 5) hx hb hts in_Pa hown hK hP 10 rfl rfl 0 (by decide) (hts _ fl_Mk_74) (fun _ h9 => h9) rfl d_Mk_follow_19 ?_
  refine lv_aload_n hx hb d_Mk_follow_22 rfl (lv_at hl 1 rfl) ?_
  refine va_get (D := D) (ci := 4) (v := .long u3.2) (C := R_Pa) (T := T_Pa) (N := 5) hx hb hts in_Pa hown hK hP 10 rfl rfl 1 (by decide) (hts _ fl_Mk_77) (fun _ h9 => h9) rfl d_Mk_follow_23 ?_
  obtain ⟨u5, eu5, hf⟩ := obd hf
  refine w_callA (va_runV (As := [.int u3.1, .long u3.2]) (rest := []) ⟨hx, hb, hml, hown, hts⟩ (c_Mk_numberOf l H.size eu5) (gV 2 hts cd_Mk_numberOf ml_Mk_81 im_Mk_numberOf se_Mk_numberOf ini_Mk rfl rfl pd_Mk_numberOf ⟨Nat.le_trans (Nat.le_of_ble_eq_true rfl) hRf, Nat.le_trans (Nat.le_of_ble_eq_true rfl) hRl⟩) ⟨wPre_blind, va_recv hK (vaL hP) (ci := 6) (q0 := 0) rfl rfl, wPre_of (vaL hP) hK (vdL hD)⟩ rfl rfl hl.1 rfl (lv_room (Nat.le_of_ble_eq_true rfl)) d_Mk_follow_26 ⟨hRc, hRs⟩) (vdL hD) hS hA (fun g6 H1 locs hP1 hD1 hk1 hS1 => ?_)
  obtain ⟨hP, hD⟩ := va_keepR hP hD (va_sub (vdL hD) hS hA) hk1 hP1 hD1
  have hS := hS1
  generalize H1 = H at hP hS ⊢
  have hP : va_P D vwCl ((mkW K mq m0 m1 m2 m3 g6.1 g6.2 m7 m8 m9 u5.2.1 u5.2.2.1 kNext u5.2.2.2.1 u5.2.2.2.2 kClassOf kFinerOf kMarkOf kFirstOf kMarkSlots kClasses) ++ (paW K wq q1 q2 u3.1 u3.2 pBoth)) H := hP
  have hD : va_D A ((mkW K mq m0 m1 m2 m3 g6.1 g6.2 m7 m8 m9 u5.2.1 u5.2.2.1 kNext u5.2.2.2.1 u5.2.2.2.2 kClassOf kFinerOf kMarkOf kFirstOf kMarkSlots kClasses) ++ (paW K wq q1 q2 u3.1 u3.2 pBoth)) := hD
  refine lv_pop hx hb d_Mk_follow_29 rfl ?_
  refine lv_iconst (v := 0) hx hb d_Mk_follow_30 (by decide) ?_
  refine lv_istore_n (lv' := [(2, .int 0), (0, .ref mq), (1, .ref wq)]) hx hb d_Mk_follow_31 rfl hl (by decide) rfl (fun ls hl => ?_)
  obtain ⟨u31, eu31, hf⟩ := obd hf
  refine w_Mk_follow_Pa_32 hx hb hml hts hown hK hX hO1 hw1 hO2 hw2 hRf hRl hRc hRs hA (fun r er m5 m6 pc ls H locs hd hP hD hS => Kr r (by subst er; exact (Option.some.inj hf).symm) m5 m6 pc ls H locs hd hP hD hS) (fun x31 eu m5 m6 ls H locs hP hD hS hl => ?_) _ _ _ _ _ _ _ _ _ eu31 _ _ _ _ _ hP hD hS (show lv_has ls 5 [(2, .int 0), (0, .ref mq), (1, .ref wq)] from lv_sub hl [0, 1, 2] rfl)
  subst eu
  replace hf := oel hf
  refine lv_iconst (v := 1) hx hb d_Mk_follow_117 (by decide) ?_
  exact Kr _ (Option.some.inj hf).symm _ _ _ _ _ _ d_Mk_follow_118 hP hD hS
set_option maxHeartbeats 4000000 in
set_option maxRecDepth 100000 in
theorem c_Mk_follow_Pa (l : Launch)    {r : Bool × (Nat → Int32) × (Nat → Int64) × (Nat → Int32) × (Nat → Int32) × Int32 × Int32 × Int64} (sz : Nat) (hf : f_Mk_follow_Pa n kHeads kTails kNext kSlots aNl1 aNext1 aNl2 aNext2 = some r) : Met l y_Mk_follow w0_Mk_follow ({ frames := 2, cells := 0, slots := 0, locals := 50 }) (withX (wPreR D K [.ref mq, .ref wq] ((mkW K mq m0 m1 m2 m3 m5 m6 m7 m8 m9 kHeads kTails kNext kSlots kReached kClassOf kFinerOf kMarkOf kFirstOf kMarkSlots kClasses) ++ (paW K wq q1 q2 wHead wTail pBoth)) ((auW K q1 an1 aa1 aStates1 aNl1 aNext1 aLast1 aAhead1) ++ (auW K q2 an2 aa2 aStates2 aNl2 aNext2 aLast2 aAhead2)) sz)) (wPostG D K (fun _ : Nat × Nat => (some (.int (bI r.1)))) (fun g => ((mkW K mq m0 m1 m2 m3 g.1 g.2 m7 m8 m9 r.2.1 r.2.2.1 r.2.2.2.1 r.2.2.2.2.1 r.2.2.2.2.2.1 kClassOf kFinerOf kMarkOf kFirstOf kMarkSlots kClasses) ++ (paW K wq q1 q2 r.2.2.2.2.2.2.1 r.2.2.2.2.2.2.2 pBoth))) (va_A ((mkW K mq m0 m1 m2 m3 m5 m6 m7 m8 m9 kHeads kTails kNext kSlots kReached kClassOf kFinerOf kMarkOf kFirstOf kMarkSlots kClasses) ++ (paW K wq q1 q2 wHead wTail pBoth)) sz)) 0 0 (va_A ((mkW K mq m0 m1 m2 m3 m5 m6 m7 m8 m9 kHeads kTails kNext kSlots kReached kClassOf kFinerOf kMarkOf kFirstOf kMarkSlots kClasses) ++ (paW K wq q1 q2 wHead wTail pBoth)) sz) := by
  refine Met.ofW (cc := b_Mk_follow) (maxL := 5) (ret := (some .boolean)) (by decide) rfl ?_
  intro p e s m args below meth c s₁ B hml hv
  obtain ⟨hv, hX⟩ := hv
  obtain ⟨rfl, hsz, hP, hK, hD0, hR, hw⟩ := hv
  subst hsz
  have hl := lv_entry [.ref mq, .ref wq] (n := 5) (Nat.le_of_ble_eq_true rfl)
  rw [lg_entry_eq]
  generalize (lg_sl [.ref mq, .ref wq] ++ List.replicate (5 - (lg_sl [.ref mq, .ref wq]).length) Slot.unset).toArray = ls at hl ⊢
  refine w_Mk_follow_Pa (A := va_A ((mkW K mq m0 m1 m2 m3 m5 m6 m7 m8 m9 kHeads kTails kNext kSlots kReached kClassOf kFinerOf kMarkOf kFirstOf kMarkSlots kClasses) ++ (paW K wq q1 q2 wHead wTail pBoth)) s.heap.size) (H0 := s.heap) B.exec B.bytes hml (fun w hw => atoms_spec (ws := w0_Mk_follow) B.pre w (List.mem_cons_of_mem _ hw)) (findClass_of_methodNamed B.named) hK hX (fun _ _ hS => ro_of (vaL hR) (gAw.left hw) hS) (gAw.left hw) (fun _ _ hS => ro_of (vaR hR) (gAw.right hw) hS) (gAw.right hw) (Nat.le_refl _) (Nat.le_refl _) (Nat.zero_le _) (Nat.zero_le _) (fun q h => Or.inr h) (fun r er m5 m6 pc ls H locs hd hP hD hS => ?_) hf ls hP (hD0.self (sz := s.heap.size)) va_S.rf hl
  subst er
  exact W.zret B.exec B.bytes B.returns (bI_nar _) (fun t ht hW => ⟨⟨(m5, m6), rfl, by rw [ht]; exact hP, va_K.moved hW.alike hK, hD⟩, hS.F ht⟩) hS.2.2 hd (hlocks := B.notSynchronized)
end
section
variable {p : Program} {l : Launch} {e : Env} {R : Room} {s : State} {m : MethodId} {args : Array Value} {below : List Frame} {meth : Method} {c : Code} {H : Heap} {locs : List Loc} {cells slots : Nat} {Q : State → Prop} {A : Nat → Prop} {H0 : Heap}
variable {n : Nat} {D : va_G} {K : Nat → ClassId} {mq : Nat} {m0 : Nat} {m1 : Nat} {m2 : Nat} {m3 : Nat} {m5 : Nat} {m6 : Nat} {m7 : Nat} {m8 : Nat} {m9 : Nat} {wq : Nat} {q1 : Nat} {q2 : Nat} {an1 : Nat} {aa1 : Nat} {an2 : Nat} {aa2 : Nat} {kHeads : Nat → Int32} {kTails : Nat → Int64} {kNext : Nat → Int32} {kSlots : Nat → Int32} {kReached : Int32} {kClassOf : Nat → Int32} {kFinerOf : Nat → Int32} {kMarkOf : Nat → Int32} {kFirstOf : Nat → Int32} {kMarkSlots : Nat → Int32} {kClasses : Int32} {wHead : Int32} {wTail : Int64} {pBoth : Bool} {aStates1 : Int32} {aNl1 : Nat} {aNext1 : Nat → Int32} {aLast1 : Int64} {aAhead1 : Nat → Int64} {aStates2 : Int32} {aNl2 : Nat} {aNext2 : Nat → Int32} {aLast2 : Int64} {aAhead2 : Nat → Int64}
def f_Mk_splitByEnd_Pa_7 (n : Nat) (kHeads : Nat → Int32) (kTails : Nat → Int64) (kReached : Int32) (pBoth : Bool) (aLast1 : Int64) (aLast2 : Int64) : Nat → Int32 → (Nat → Int32) → Int32 → Option (Int32 × (Nat → Int32) × Int32)
  | 0, _, _, _ => none
  | k + 1, v2, kClassOf, kClasses =>
    if kReached ≤ v2 then
      some (v2, kClassOf, kClasses)
    else
      ogd (gin v2 800) <|
      ogd (gin v2 800) <|
      (f_Pa_endsAt n (kHeads v2.toNatClampNeg) (kTails v2.toNatClampNeg) pBoth aLast1 aLast2).bind fun u17 =>
      if u17 = true then
        ogd (gin v2 800) <|
        ogd (gin v2 800) <|
        ogd (gin 0 800) <|
        if ((upd kClassOf v2.toNatClampNeg 1) v2.toNatClampNeg) = ((upd kClassOf v2.toNatClampNeg 1) (0 : Int32).toNatClampNeg) then
          f_Mk_splitByEnd_Pa_7 n kHeads kTails kReached pBoth aLast1 aLast2 k (v2 + 1) (upd kClassOf v2.toNatClampNeg 1) kClasses
        else
          f_Mk_splitByEnd_Pa_7 n kHeads kTails kReached pBoth aLast1 aLast2 k (v2 + 1) (upd kClassOf v2.toNatClampNeg 1) 2
      else
        ogd (gin v2 800) <|
        ogd (gin v2 800) <|
        ogd (gin 0 800) <|
        if ((upd kClassOf v2.toNatClampNeg 0) v2.toNatClampNeg) = ((upd kClassOf v2.toNatClampNeg 0) (0 : Int32).toNatClampNeg) then
          f_Mk_splitByEnd_Pa_7 n kHeads kTails kReached pBoth aLast1 aLast2 k (v2 + 1) (upd kClassOf v2.toNatClampNeg 0) kClasses
        else
          f_Mk_splitByEnd_Pa_7 n kHeads kTails kReached pBoth aLast1 aLast2 k (v2 + 1) (upd kClassOf v2.toNatClampNeg 0) 2
set_option maxHeartbeats 4000000 in
set_option maxRecDepth 100000 in
theorem w_Mk_splitByEnd_Pa_7   (hx : p.tables.exec = Jvm.exec) (hb : c.code = b_Mk_splitByEnd) (hml : c.maxLocals = 3) (hts : ∀ w ∈ gW, w.before args s = true) (hown : s.vm.findClass "RegularSolver$Maker" = some m.cls) (hK : va_K D vwCl (tG K) s) (hX : gX s) (hO1 : ∀ (H : Heap) (locs : List Loc), va_S A H0 H locs → va_P D vwCl (auW K q1 an1 aa1 aStates1 aNl1 aNext1 aLast1 aAhead1) H) (hw1 : gAw A (auW K q1 an1 aa1 aStates1 aNl1 aNext1 aLast1 aAhead1)) (hO2 : ∀ (H : Heap) (locs : List Loc), va_S A H0 H locs → va_P D vwCl (auW K q2 an2 aa2 aStates2 aNl2 aNext2 aLast2 aAhead2) H) (hw2 : gAw A (auW K q2 an2 aa2 aStates2 aNl2 aNext2 aLast2 aAhead2)) (hRf : 2 ≤ R.frames) (hRl : 46 ≤ R.locals) (hRc : cells ≤ R.cells) (hRs : slots ≤ R.slots) (hA : ∀ q, H0.size ≤ q → A q)  {out : Int32 × (Nat → Int32) × Int32} (Kx : ∀ (u : Int32 × (Nat → Int32) × Int32), out = u → ∀ (m5 : Nat) (m6 : Nat), ∀ (ls : Array Slot) (H : Heap) (locs : List Loc), va_P D vwCl ((mkW K mq m0 m1 m2 m3 m5 m6 m7 m8 m9 kHeads kTails kNext kSlots kReached u.2.1 kFinerOf kMarkOf kFirstOf kMarkSlots u.2.2) ++ (paW K wq q1 q2 wHead wTail pBoth)) H → va_D A ((mkW K mq m0 m1 m2 m3 m5 m6 m7 m8 m9 kHeads kTails kNext kSlots kReached u.2.1 kFinerOf kMarkOf kFirstOf kMarkSlots u.2.2) ++ (paW K wq q1 q2 wHead wTail pBoth)) → va_S A H0 H locs → lv_has ls 3 [] → W p l e R s m args below meth c H locs cells slots Q (F0 m 71 ls [])) :
    ∀ (k : Nat) (v2 : Int32) (kClassOf : Nat → Int32) (kClasses : Int32), f_Mk_splitByEnd_Pa_7 n kHeads kTails kReached pBoth aLast1 aLast2 k v2 kClassOf kClasses = some out → ∀ (m5 : Nat) (m6 : Nat), ∀ (ls : Array Slot) (H : Heap) (locs : List Loc), va_P D vwCl ((mkW K mq m0 m1 m2 m3 m5 m6 m7 m8 m9 kHeads kTails kNext kSlots kReached kClassOf kFinerOf kMarkOf kFirstOf kMarkSlots kClasses) ++ (paW K wq q1 q2 wHead wTail pBoth)) H → va_D A ((mkW K mq m0 m1 m2 m3 m5 m6 m7 m8 m9 kHeads kTails kNext kSlots kReached kClassOf kFinerOf kMarkOf kFirstOf kMarkSlots kClasses) ++ (paW K wq q1 q2 wHead wTail pBoth)) → va_S A H0 H locs → lv_has ls 3 [(2, .int v2), (0, .ref mq), (1, .ref wq)] → W p l e R s m args below meth c H locs cells slots Q (F0 m 7 ls []) := by
  intro k
  induction k with
  | zero => intro _ _ _ hf; exact nomatch (show none = some out from hf)
  | succ k ih =>
    intro v2 kClassOf kClasses hf m5 m6 ls H locs hP hD hS hl
    rw [f_Mk_splitByEnd_Pa_7] at hf
    refine lv_iload_n hx hb d_Mk_splitByEnd_7 rfl (lv_at hl 0 rfl) ?_
    refine lv_aload_n hx hb d_Mk_splitByEnd_8 rfl (lv_at hl 1 rfl) ?_
    refine va_get (D := D) (ci := 6) (v := .int kReached) (C := R_Mk) (T := T_Mk) (N := 11) hx hb hts in_Mk hown hK hP 0 rfl rfl 4 (by decide) (hts _ fl_Mk_25) (fun _ h9 => h9) rfl d_Mk_splitByEnd_9 ?_
    refine lv_icmp_ge (tgt := 71) hx hb d_Mk_splitByEnd_12 (by decide) (fun c14 => ?_) (fun c14 => ?_)
    · rw [if_pos c14] at hf
      exact Kx _ (Option.some.inj hf).symm _ _ _ _ _ hP hD hS (show lv_has ls 3 [] from lv_sub hl [] rfl)
    · rw [if_neg c14] at hf
      refine lv_aload_n hx hb d_Mk_splitByEnd_15 rfl (lv_at hl 1 rfl) ?_
      refine va_get (D := D) (ci := 6) (v := .ref m5) (C := R_Mk) (T := T_Mk) (N := 11) hx hb hts in_Mk hown hK hP 0 rfl rfl 5 (by decide) (hts _ fl_Mk_29) (fun _ h9 => h9) rfl d_Mk_splitByEnd_16 ?_
      refine lv_iload_n hx hb d_Mk_splitByEnd_19 rfl (lv_at hl 0 rfl) ?_
      refine lv_aload_n hx hb d_Mk_splitByEnd_20 rfl (lv_at hl 2 rfl) ?_
      refine lv_aload_n hx hb d_Mk_splitByEnd_21 rfl (lv_at hl 1 rfl) ?_
      refine va_get (D := D) (ci := 6) (v := .ref m0) (C := R_Mk) (T := T_Mk) (N := 11) hx hb hts in_Mk hown hK hP 0 rfl rfl 0 (by decide) (hts _ fl_Mk_11) (fun _ h9 => h9) rfl d_Mk_splitByEnd_22 ?_
      refine lv_iload_n hx hb d_Mk_splitByEnd_25 rfl (lv_at hl 0 rfl) ?_
      obtain ⟨g15, hf⟩ := ogi hf
      refine va_iald hx hb hK hP 1 0 rfl rfl (gin_in g15) d_Mk_splitByEnd_26 ?_
      refine lv_aload_n hx hb d_Mk_splitByEnd_27 rfl (lv_at hl 1 rfl) ?_
      refine va_get (D := D) (ci := 6) (v := .ref m1) (C := R_Mk) (T := T_Mk) (N := 11) hx hb hts in_Mk hown hK hP 0 rfl rfl 1 (by decide) (hts _ fl_Mk_15) (fun _ h9 => h9) rfl d_Mk_splitByEnd_28 ?_
      refine lv_iload_n hx hb d_Mk_splitByEnd_31 rfl (lv_at hl 0 rfl) ?_
      obtain ⟨g16, hf⟩ := ogi hf
      refine va_lald hx hb hK hP 2 1 rfl rfl (gin_in g16) d_Mk_splitByEnd_32 ?_
      obtain ⟨u17, eu17, hf⟩ := obd hf
      refine p_call (va_Run.run (va_runU (As := [.int (kHeads v2.toNatClampNeg), .long (kTails v2.toNatClampNeg)]) (rest := [.int v2, .ref m5]) ⟨hx, hb, hml, hown, hts⟩ (c_Pa_endsAt l eu17) (gA (owner := "RegularSolver$Way") 2 hts hX cd_Pa_endsAt ml_Mk_95 im_Pa_endsAt sm_endsAt sa_Pa_endsAt ini_Pa (by decide +kernel) rfl rfl (by decide +kernel) ⟨Nat.le_trans (Nat.le_of_ble_eq_true rfl) hRf, Nat.le_trans (Nat.le_of_ble_eq_true rfl) hRl⟩) ⟨pPre_blind, va_recv hK (vaR hP) (ci := 4) (q0 := 0) rfl rfl, pPre_of (va_P.app (va_P.app (vaR hP) (hO1 _ _ hS)) (hO2 _ _ hS)) hK⟩ rfl rfl hl.1 rfl (lv_room (Nat.le_of_ble_eq_true rfl)) d_Mk_splitByEnd_33 ⟨hRc, hRs⟩)) ?_
      refine bz_eq (tgt := 43) hx hb d_Mk_splitByEnd_36 (by decide) (fun c18 => ?_) (fun c18 => ?_)
      · rw [if_neg c18] at hf
        refine lv_iconst (v := 0) hx hb d_Mk_splitByEnd_43 (by decide) ?_
        obtain ⟨g19, hf⟩ := ogi hf
        refine va_iast hx hb hK hP hD hS 5 0 rfl rfl (gin_in g19) d_Mk_splitByEnd_44 (fun H locs hP hD hS => ?_)
        have hP : va_P D vwCl ((mkW K mq m0 m1 m2 m3 m5 m6 m7 m8 m9 kHeads kTails kNext kSlots kReached (upd kClassOf v2.toNatClampNeg 0) kFinerOf kMarkOf kFirstOf kMarkSlots kClasses) ++ (paW K wq q1 q2 wHead wTail pBoth)) H := hP
        have hD : va_D A ((mkW K mq m0 m1 m2 m3 m5 m6 m7 m8 m9 kHeads kTails kNext kSlots kReached (upd kClassOf v2.toNatClampNeg 0) kFinerOf kMarkOf kFirstOf kMarkSlots kClasses) ++ (paW K wq q1 q2 wHead wTail pBoth)) := hD
        refine lv_aload_n hx hb d_Mk_splitByEnd_45 rfl (lv_at hl 1 rfl) ?_
        refine va_get (D := D) (ci := 6) (v := .ref m5) (C := R_Mk) (T := T_Mk) (N := 11) hx hb hts in_Mk hown hK hP 0 rfl rfl 5 (by decide) (hts _ fl_Mk_29) (fun _ h9 => h9) rfl d_Mk_splitByEnd_46 ?_
        refine lv_iload_n hx hb d_Mk_splitByEnd_49 rfl (lv_at hl 0 rfl) ?_
        obtain ⟨g20, hf⟩ := ogi hf
        refine va_iald hx hb hK hP 5 0 rfl rfl (gin_in g20) d_Mk_splitByEnd_50 ?_
        refine lv_aload_n hx hb d_Mk_splitByEnd_51 rfl (lv_at hl 1 rfl) ?_
        refine va_get (D := D) (ci := 6) (v := .ref m5) (C := R_Mk) (T := T_Mk) (N := 11) hx hb hts in_Mk hown hK hP 0 rfl rfl 5 (by decide) (hts _ fl_Mk_29) (fun _ h9 => h9) rfl d_Mk_splitByEnd_52 ?_
        refine lv_iconst (v := 0) hx hb d_Mk_splitByEnd_55 (by decide) ?_
        obtain ⟨g21, hf⟩ := ogi hf
        refine va_iald hx hb hK hP 5 0 rfl rfl (gin_in g21) d_Mk_splitByEnd_56 ?_
        refine lv_icmp_eq (tgt := 65) hx hb d_Mk_splitByEnd_57 (by decide) (fun c22 => ?_) (fun c22 => ?_)
        · rw [if_pos c22] at hf
          refine lv_iinc (v := v2 + 1) (lv' := [(2, .int (v2 + 1)), (0, .ref mq), (1, .ref wq)]) hx hb d_Mk_splitByEnd_65 hl (k := 0) rfl (by first | rfl | (congr 1)) (by decide) rfl (fun ls hl => ?_)
          refine lv_goto (tgt := 7) hx hb d_Mk_splitByEnd_68 (by decide) ?_
          exact ih _ _ _ hf _ _ _ _ _ hP hD hS (show lv_has ls 3 [(2, .int (v2 + 1)), (0, .ref mq), (1, .ref wq)] from lv_sub hl [0, 1, 2] rfl)
        · rw [if_neg c22] at hf
          refine lv_aload_n hx hb d_Mk_splitByEnd_60 rfl (lv_at hl 1 rfl) ?_
          refine lv_iconst (v := 2) hx hb d_Mk_splitByEnd_61 (by decide) ?_
          refine va_put (D := D) (ci := 6) (v := .int 2) (ty := .int) (C := R_Mk) (T := T_Mk) (N := 11) hx hb hts in_Mk t_Mk t_Mk_ok n_Mk hown hK hP hD hS 0 rfl rfl 10 (by decide) (hts _ fl_Mk_44) (fun _ h9 => h9) rfl (by decide +kernel) rfl rfl (Nat.le_of_ble_eq_true rfl) d_Mk_splitByEnd_62 (fun H locs hP hD hS => ?_)
          have hP : va_P D vwCl ((mkW K mq m0 m1 m2 m3 m5 m6 m7 m8 m9 kHeads kTails kNext kSlots kReached (upd kClassOf v2.toNatClampNeg 0) kFinerOf kMarkOf kFirstOf kMarkSlots 2) ++ (paW K wq q1 q2 wHead wTail pBoth)) H := hP
          have hD : va_D A ((mkW K mq m0 m1 m2 m3 m5 m6 m7 m8 m9 kHeads kTails kNext kSlots kReached (upd kClassOf v2.toNatClampNeg 0) kFinerOf kMarkOf kFirstOf kMarkSlots 2) ++ (paW K wq q1 q2 wHead wTail pBoth)) := hD
          refine lv_iinc (v := v2 + 1) (lv' := [(2, .int (v2 + 1)), (0, .ref mq), (1, .ref wq)]) hx hb d_Mk_splitByEnd_65 hl (k := 0) rfl (by first | rfl | (congr 1)) (by decide) rfl (fun ls hl => ?_)
          refine lv_goto (tgt := 7) hx hb d_Mk_splitByEnd_68 (by decide) ?_
          exact ih _ _ _ hf _ _ _ _ _ hP hD hS (show lv_has ls 3 [(2, .int (v2 + 1)), (0, .ref mq), (1, .ref wq)] from lv_sub hl [0, 1, 2] rfl)
      · rw [if_pos c18] at hf
        refine lv_iconst (v := 1) hx hb d_Mk_splitByEnd_39 (by decide) ?_
        refine lv_goto (tgt := 44) hx hb d_Mk_splitByEnd_40 (by decide) ?_
        obtain ⟨g23, hf⟩ := ogi hf
        refine va_iast hx hb hK hP hD hS 5 0 rfl rfl (gin_in g23) d_Mk_splitByEnd_44 (fun H locs hP hD hS => ?_)
        have hP : va_P D vwCl ((mkW K mq m0 m1 m2 m3 m5 m6 m7 m8 m9 kHeads kTails kNext kSlots kReached (upd kClassOf v2.toNatClampNeg 1) kFinerOf kMarkOf kFirstOf kMarkSlots kClasses) ++ (paW K wq q1 q2 wHead wTail pBoth)) H := hP
        have hD : va_D A ((mkW K mq m0 m1 m2 m3 m5 m6 m7 m8 m9 kHeads kTails kNext kSlots kReached (upd kClassOf v2.toNatClampNeg 1) kFinerOf kMarkOf kFirstOf kMarkSlots kClasses) ++ (paW K wq q1 q2 wHead wTail pBoth)) := hD
        refine lv_aload_n hx hb d_Mk_splitByEnd_45 rfl (lv_at hl 1 rfl) ?_
        refine va_get (D := D) (ci := 6) (v := .ref m5) (C := R_Mk) (T := T_Mk) (N := 11) hx hb hts in_Mk hown hK hP 0 rfl rfl 5 (by decide) (hts _ fl_Mk_29) (fun _ h9 => h9) rfl d_Mk_splitByEnd_46 ?_
        refine lv_iload_n hx hb d_Mk_splitByEnd_49 rfl (lv_at hl 0 rfl) ?_
        obtain ⟨g24, hf⟩ := ogi hf
        refine va_iald hx hb hK hP 5 0 rfl rfl (gin_in g24) d_Mk_splitByEnd_50 ?_
        refine lv_aload_n hx hb d_Mk_splitByEnd_51 rfl (lv_at hl 1 rfl) ?_
        refine va_get (D := D) (ci := 6) (v := .ref m5) (C := R_Mk) (T := T_Mk) (N := 11) hx hb hts in_Mk hown hK hP 0 rfl rfl 5 (by decide) (hts _ fl_Mk_29) (fun _ h9 => h9) rfl d_Mk_splitByEnd_52 ?_
        refine lv_iconst (v := 0) hx hb d_Mk_splitByEnd_55 (by decide) ?_
        obtain ⟨g25, hf⟩ := ogi hf
        refine va_iald hx hb hK hP 5 0 rfl rfl (gin_in g25) d_Mk_splitByEnd_56 ?_
        refine lv_icmp_eq (tgt := 65) hx hb d_Mk_splitByEnd_57 (by decide) (fun c26 => ?_) (fun c26 => ?_)
        · rw [if_pos c26] at hf
          refine lv_iinc (v := v2 + 1) (lv' := [(2, .int (v2 + 1)), (0, .ref mq), (1, .ref wq)]) hx hb d_Mk_splitByEnd_65 hl (k := 0) rfl (by first | rfl | (congr 1)) (by decide) rfl (fun ls hl => ?_)
          refine lv_goto (tgt := 7) hx hb d_Mk_splitByEnd_68 (by decide) ?_
          exact ih _ _ _ hf _ _ _ _ _ hP hD hS (show lv_has ls 3 [(2, .int (v2 + 1)), (0, .ref mq), (1, .ref wq)] from lv_sub hl [0, 1, 2] rfl)
        · rw [if_neg c26] at hf
          refine lv_aload_n hx hb d_Mk_splitByEnd_60 rfl (lv_at hl 1 rfl) ?_
          refine lv_iconst (v := 2) hx hb d_Mk_splitByEnd_61 (by decide) ?_
          refine va_put (D := D) (ci := 6) (v := .int 2) (ty := .int) (C := R_Mk) (T := T_Mk) (N := 11) hx hb hts in_Mk t_Mk t_Mk_ok n_Mk hown hK hP hD hS 0 rfl rfl 10 (by decide) (hts _ fl_Mk_44) (fun _ h9 => h9) rfl (by decide +kernel) rfl rfl (Nat.le_of_ble_eq_true rfl) d_Mk_splitByEnd_62 (fun H locs hP hD hS => ?_)
          have hP : va_P D vwCl ((mkW K mq m0 m1 m2 m3 m5 m6 m7 m8 m9 kHeads kTails kNext kSlots kReached (upd kClassOf v2.toNatClampNeg 1) kFinerOf kMarkOf kFirstOf kMarkSlots 2) ++ (paW K wq q1 q2 wHead wTail pBoth)) H := hP
          have hD : va_D A ((mkW K mq m0 m1 m2 m3 m5 m6 m7 m8 m9 kHeads kTails kNext kSlots kReached (upd kClassOf v2.toNatClampNeg 1) kFinerOf kMarkOf kFirstOf kMarkSlots 2) ++ (paW K wq q1 q2 wHead wTail pBoth)) := hD
          refine lv_iinc (v := v2 + 1) (lv' := [(2, .int (v2 + 1)), (0, .ref mq), (1, .ref wq)]) hx hb d_Mk_splitByEnd_65 hl (k := 0) rfl (by first | rfl | (congr 1)) (by decide) rfl (fun ls hl => ?_)
          refine lv_goto (tgt := 7) hx hb d_Mk_splitByEnd_68 (by decide) ?_
          exact ih _ _ _ hf _ _ _ _ _ hP hD hS (show lv_has ls 3 [(2, .int (v2 + 1)), (0, .ref mq), (1, .ref wq)] from lv_sub hl [0, 1, 2] rfl)
def f_Mk_splitByEnd_Pa (n : Nat) (kHeads : Nat → Int32) (kTails : Nat → Int64) (kReached : Int32) (kClassOf : Nat → Int32) (pBoth : Bool) (aLast1 : Int64) (aLast2 : Int64) : Option ((Nat → Int32) × Int32) :=
  (f_Mk_splitByEnd_Pa_7 n kHeads kTails kReached pBoth aLast1 aLast2 n 0 kClassOf 1).bind fun u27 =>
  some (u27.2.1, u27.2.2)
set_option maxHeartbeats 4000000 in
set_option maxRecDepth 100000 in
theorem w_Mk_splitByEnd_Pa    (hx : p.tables.exec = Jvm.exec) (hb : c.code = b_Mk_splitByEnd) (hml : c.maxLocals = 3) (hts : ∀ w ∈ gW, w.before args s = true) (hown : s.vm.findClass "RegularSolver$Maker" = some m.cls) (hK : va_K D vwCl (tG K) s) (hX : gX s) (hO1 : ∀ (H : Heap) (locs : List Loc), va_S A H0 H locs → va_P D vwCl (auW K q1 an1 aa1 aStates1 aNl1 aNext1 aLast1 aAhead1) H) (hw1 : gAw A (auW K q1 an1 aa1 aStates1 aNl1 aNext1 aLast1 aAhead1)) (hO2 : ∀ (H : Heap) (locs : List Loc), va_S A H0 H locs → va_P D vwCl (auW K q2 an2 aa2 aStates2 aNl2 aNext2 aLast2 aAhead2) H) (hw2 : gAw A (auW K q2 an2 aa2 aStates2 aNl2 aNext2 aLast2 aAhead2)) (hRf : 2 ≤ R.frames) (hRl : 46 ≤ R.locals) (hRc : cells ≤ R.cells) (hRs : slots ≤ R.slots) (hA : ∀ q, H0.size ≤ q → A q) {out : (Nat → Int32) × Int32} (Kr : ∀ (r : (Nat → Int32) × Int32), out = r → ∀ (m5 : Nat) (m6 : Nat), ∀ (pc : Nat) (ls : Array Slot) (H : Heap) (locs : List Loc), decode b_Mk_splitByEnd pc = .ok (.return_, 1) → va_P D vwCl ((mkW K mq m0 m1 m2 m3 m5 m6 m7 m8 m9 kHeads kTails kNext kSlots kReached r.1 kFinerOf kMarkOf kFirstOf kMarkSlots r.2) ++ (paW K wq q1 q2 wHead wTail pBoth)) H → va_D A ((mkW K mq m0 m1 m2 m3 m5 m6 m7 m8 m9 kHeads kTails kNext kSlots kReached r.1 kFinerOf kMarkOf kFirstOf kMarkSlots r.2) ++ (paW K wq q1 q2 wHead wTail pBoth)) → va_S A H0 H locs → W p l e R s m args below meth c H locs cells slots Q (F0 m pc ls [])) (hf : f_Mk_splitByEnd_Pa n kHeads kTails kReached kClassOf pBoth aLast1 aLast2 = some out) (ls : Array Slot) (hP : va_P D vwCl ((mkW K mq m0 m1 m2 m3 m5 m6 m7 m8 m9 kHeads kTails kNext kSlots kReached kClassOf kFinerOf kMarkOf kFirstOf kMarkSlots kClasses) ++ (paW K wq q1 q2 wHead wTail pBoth)) H) (hD : va_D A ((mkW K mq m0 m1 m2 m3 m5 m6 m7 m8 m9 kHeads kTails kNext kSlots kReached kClassOf kFinerOf kMarkOf kFirstOf kMarkSlots kClasses) ++ (paW K wq q1 q2 wHead wTail pBoth))) (hS : va_S A H0 H locs) (hl : lv_has ls 3 [(0, .ref mq), (1, .ref wq)]) : W p l e R s m args below meth c H locs cells slots Q (F0 m 0 ls []) := by
  unfold f_Mk_splitByEnd_Pa at hf
  refine lv_aload_n hx hb d_Mk_splitByEnd_0 rfl (lv_at hl 0 rfl) ?_
  refine lv_iconst (v := 1) hx hb d_Mk_splitByEnd_1 (by decide) ?_
  refine va_put (D := D) (ci := 6) (v := .int 1) (ty := .int) (C := R_Mk) (T := T_Mk) (N := 11) hx hb hts in_Mk t_Mk t_Mk_ok n_Mk hown hK hP hD hS 0 rfl rfl 10 (by decide) (hts _ fl_Mk_44) (fun _ h9 => h9) rfl (by decide +kernel) rfl rfl (Nat.le_of_ble_eq_true rfl) d_Mk_splitByEnd_2 (fun H locs hP hD hS => ?_)
  have hP : va_P D vwCl ((mkW K mq m0 m1 m2 m3 m5 m6 m7 m8 m9 kHeads kTails kNext kSlots kReached kClassOf kFinerOf kMarkOf kFirstOf kMarkSlots 1) ++ (paW K wq q1 q2 wHead wTail pBoth)) H := hP
  have hD : va_D A ((mkW K mq m0 m1 m2 m3 m5 m6 m7 m8 m9 kHeads kTails kNext kSlots kReached kClassOf kFinerOf kMarkOf kFirstOf kMarkSlots 1) ++ (paW K wq q1 q2 wHead wTail pBoth)) := hD
  refine lv_iconst (v := 0) hx hb d_Mk_splitByEnd_5 (by decide) ?_
  refine lv_istore_n (lv' := [(2, .int 0), (0, .ref mq), (1, .ref wq)]) hx hb d_Mk_splitByEnd_6 rfl hl (by decide) rfl (fun ls hl => ?_)
  obtain ⟨u27, eu27, hf⟩ := obd hf
  refine w_Mk_splitByEnd_Pa_7 hx hb hml hts hown hK hX hO1 hw1 hO2 hw2 hRf hRl hRc hRs hA  (fun u27q eu m5 m6 ls H locs hP hD hS hl => ?_) _ _ _ _ eu27 _ _ _ _ _ hP hD hS (show lv_has ls 3 [(2, .int 0), (0, .ref mq), (1, .ref wq)] from lv_sub hl [0, 1, 2] rfl)
  subst eu
  exact Kr _ (Option.some.inj hf).symm _ _ _ _ _ _ d_Mk_splitByEnd_71 hP hD hS
set_option maxHeartbeats 4000000 in
set_option maxRecDepth 100000 in
theorem c_Mk_splitByEnd_Pa (l : Launch)    {r : (Nat → Int32) × Int32} (sz : Nat) (hf : f_Mk_splitByEnd_Pa n kHeads kTails kReached kClassOf pBoth aLast1 aLast2 = some r) : Met l y_Mk_splitByEnd w0_Mk_splitByEnd ({ frames := 2, cells := 0, slots := 0, locals := 46 }) (withX (wPreR D K [.ref mq, .ref wq] ((mkW K mq m0 m1 m2 m3 m5 m6 m7 m8 m9 kHeads kTails kNext kSlots kReached kClassOf kFinerOf kMarkOf kFirstOf kMarkSlots kClasses) ++ (paW K wq q1 q2 wHead wTail pBoth)) ((auW K q1 an1 aa1 aStates1 aNl1 aNext1 aLast1 aAhead1) ++ (auW K q2 an2 aa2 aStates2 aNl2 aNext2 aLast2 aAhead2)) sz)) (wPostG D K (fun _ : Nat × Nat => none) (fun g => ((mkW K mq m0 m1 m2 m3 g.1 g.2 m7 m8 m9 kHeads kTails kNext kSlots kReached r.1 kFinerOf kMarkOf kFirstOf kMarkSlots r.2) ++ (paW K wq q1 q2 wHead wTail pBoth))) (va_A ((mkW K mq m0 m1 m2 m3 m5 m6 m7 m8 m9 kHeads kTails kNext kSlots kReached kClassOf kFinerOf kMarkOf kFirstOf kMarkSlots kClasses) ++ (paW K wq q1 q2 wHead wTail pBoth)) sz)) 0 0 (va_A ((mkW K mq m0 m1 m2 m3 m5 m6 m7 m8 m9 kHeads kTails kNext kSlots kReached kClassOf kFinerOf kMarkOf kFirstOf kMarkSlots kClasses) ++ (paW K wq q1 q2 wHead wTail pBoth)) sz) := by
  refine Met.ofW (cc := b_Mk_splitByEnd) (maxL := 3) (ret := none) (by decide) rfl ?_
  intro p e s m args below meth c s₁ B hml hv
  obtain ⟨hv, hX⟩ := hv
  obtain ⟨rfl, hsz, hP, hK, hD0, hR, hw⟩ := hv
  subst hsz
  have hl := lv_entry [.ref mq, .ref wq] (n := 3) (Nat.le_of_ble_eq_true rfl)
  rw [lg_entry_eq]
  generalize (lg_sl [.ref mq, .ref wq] ++ List.replicate (3 - (lg_sl [.ref mq, .ref wq]).length) Slot.unset).toArray = ls at hl ⊢
  refine w_Mk_splitByEnd_Pa (A := va_A ((mkW K mq m0 m1 m2 m3 m5 m6 m7 m8 m9 kHeads kTails kNext kSlots kReached kClassOf kFinerOf kMarkOf kFirstOf kMarkSlots kClasses) ++ (paW K wq q1 q2 wHead wTail pBoth)) s.heap.size) (H0 := s.heap) B.exec B.bytes hml (fun w hw => atoms_spec (ws := w0_Mk_splitByEnd) B.pre w (List.mem_cons_of_mem _ hw)) (findClass_of_methodNamed B.named) hK hX (fun _ _ hS => ro_of (vaL hR) (gAw.left hw) hS) (gAw.left hw) (fun _ _ hS => ro_of (vaR hR) (gAw.right hw) hS) (gAw.right hw) (Nat.le_refl _) (Nat.le_refl _) (Nat.zero_le _) (Nat.zero_le _) (fun q h => Or.inr h) (fun r er m5 m6 pc ls H locs hd hP hD hS => ?_) hf ls hP (hD0.self (sz := s.heap.size)) va_S.rf hl
  subst er
  exact W.vret B.exec B.bytes B.returns (fun t ht hW => ⟨⟨(m5, m6), rfl, by rw [ht]; exact hP, va_K.moved hW.alike hK, hD⟩, hS.F ht⟩) hS.2.2 hd (hlocks := B.notSynchronized)
end
