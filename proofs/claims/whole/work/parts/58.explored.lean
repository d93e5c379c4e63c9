/-! STAGE 2. THE REFERENCE'S EXPLORING, for each of the four -/
theorem enO_r {n S1 S2 i1 i2 : Nat} {mSize mGoes : Nat → Int32} {mLast : Nat → Bool} {g1 g2 : Nat → Nat → Nat} {f1 f2 : Nat → Bool} (w1 : WF S1 g1) (w2 : WF S2 g2) (hi1 : i1 < 60) (hi2 : i2 < 60) (hR1 : AuR i1 mSize mGoes mLast S1 g1 f1) (hR2 : AuR i2 mSize mGoes mLast S2 g2 f2) : ∀ x, VP S1 S2 x → f_Mo_ends n 0 (nI i1) (nI i2) x.1 x.2 mSize mLast = some (eO f1 f2 x) ∧ f_Mo_ends n 1 (nI i1) (nI i2) x.1 x.2 mSize mLast = some (eA f1 f2 x) := by
  intro x ⟨p, q, hp, hq, e⟩
  subst e
  have z1 := w1.2.1
  have z2 := w2.2.1
  unfold eO eA
  rw [show ((nI p, (nI q).toInt64) : wSt).1 = nI p from rfl, show ((nI p, (nI q).toInt64) : wSt).2 = (nI q).toInt64 from rfl, nI_nat (by omega), uN_nI (by omega)]
  constructor
  · rw [f_Mo_ends, if_pos rfl, il_r hi1 hR1.2.2 hp z1, sb_t, i32_nI, il_r hi2 hR2.2.2 hq z2, sb_t]
    cases f1 p <;> cases f2 q <;> rfl
  · rw [f_Mo_ends, if_neg (by decide), if_pos rfl, il_r hi1 hR1.2.2 hp z1, sb_t, i32_nI, il_r hi2 hR2.2.2 hq z2, sb_t]
    cases f1 p <;> cases f2 q <;> rfl
theorem stO_r {n S1 S2 i1 i2 : Nat} {mSize mGoes : Nat → Int32} {mLast : Nat → Bool} {g1 g2 : Nat → Nat → Nat} {f1 f2 : Nat → Bool} (w1 : WF S1 g1) (w2 : WF S2 g2) (hi1 : i1 < 60) (hi2 : i2 < 60) (hR1 : AuR i1 mSize mGoes mLast S1 g1 f1) (hR2 : AuR i2 mSize mGoes mLast S2 g2 f2) : StepR n 0 (nI i1) (nI i2) mSize mGoes mLast (dlP g1 g2) (eO f1 f2) (VP S1 S2) := by
  intro x k l K L R En Nx W hx hk hl he
  have hVd := vP_s w1 w2 x l hx hl
  have hen := (enO_r (n := n) w1 w2 hi1 hi2 hR1 hR2 _ hVd).1
  obtain ⟨p, q, hp, hq, e⟩ := hx
  have z1 := w1.2.1
  have z2 := w2.2.1
  subst e
  have eL : L k = nI p := congrArg Prod.fst he
  have eR : R k = (nI q).toInt64 := congrArg Prod.snd he
  have ed : dlP g1 g2 (nI p, (nI q).toInt64) l = (nI (g1 p l), (nI (g2 q l)).toInt64) := by
    show (nI (g1 (nI p).toNatClampNeg l), (nI (g2 (uN (nI q).toInt64) l)).toInt64) = _
    rw [nI_nat (by omega), uN_nI (by omega)]
  rw [ed] at hen ⊢
  rw [f_Mo_explored_59, l4, if_neg (by rw [nJ_le (by omega) (by omega)]; omega), if_neg (by decide), nI_gin hk (by omega), ogd_t, nI_nat (by omega), eL, go_r z1 hi1 hR1.2.1 hp hl, sb_t, if_neg (by decide), ogd_t, eR, i32_nI, go_r z2 hi2 hR2.2.1 hq hl, sb_t, hen, sb_t]
theorem stA_r {n S1 S2 i1 i2 : Nat} {mSize mGoes : Nat → Int32} {mLast : Nat → Bool} {g1 g2 : Nat → Nat → Nat} {f1 f2 : Nat → Bool} (w1 : WF S1 g1) (w2 : WF S2 g2) (hi1 : i1 < 60) (hi2 : i2 < 60) (hR1 : AuR i1 mSize mGoes mLast S1 g1 f1) (hR2 : AuR i2 mSize mGoes mLast S2 g2 f2) : StepR n 1 (nI i1) (nI i2) mSize mGoes mLast (dlP g1 g2) (eA f1 f2) (VP S1 S2) := by
  intro x k l K L R En Nx W hx hk hl he
  have hVd := vP_s w1 w2 x l hx hl
  have hen := (enO_r (n := n) w1 w2 hi1 hi2 hR1 hR2 _ hVd).2
  obtain ⟨p, q, hp, hq, e⟩ := hx
  have z1 := w1.2.1
  have z2 := w2.2.1
  subst e
  have eL : L k = nI p := congrArg Prod.fst he
  have eR : R k = (nI q).toInt64 := congrArg Prod.snd he
  have ed : dlP g1 g2 (nI p, (nI q).toInt64) l = (nI (g1 p l), (nI (g2 q l)).toInt64) := by
    show (nI (g1 (nI p).toNatClampNeg l), (nI (g2 (uN (nI q).toInt64) l)).toInt64) = _
    rw [nI_nat (by omega), uN_nI (by omega)]
  rw [ed] at hen ⊢
  rw [f_Mo_explored_59, l4, if_neg (by rw [nJ_le (by omega) (by omega)]; omega), if_neg (by decide), nI_gin hk (by omega), ogd_t, nI_nat (by omega), eL, go_r z1 hi1 hR1.2.1 hp hl, sb_t, if_neg (by decide), ogd_t, eR, i32_nI, go_r z2 hi2 hR2.2.1 hq hl, sb_t, hen, sb_t]
theorem enC_r {n S2 i1 i2 : Nat} {mSize mGoes : Nat → Int32} {mLast : Nat → Bool} {g2 : Nat → Nat → Nat} {f2 : Nat → Bool} (w2 : WF S2 g2) (hi2 : i2 < 60) (hR2 : AuR i2 mSize mGoes mLast S2 g2 f2) (hn : 64 < n) (x : wSt) : f_Mo_ends n 2 (nI i1) (nI i2) x.1 x.2 mSize mLast = some (eC f2 S2 x) := by
  rw [f_Mo_ends, if_neg (by decide), if_neg (by decide), if_pos rfl, hasB_r w2.2.1 hi2 hR2.1 hR2.2.2 hn]; rfl
theorem enR_r {n S i1 i2 : Nat} {mSize mGoes : Nat → Int32} {mLast : Nat → Bool} {g : Nat → Nat → Nat} {f : Nat → Bool} (w : WF S g) (hi : i1 < 60) (hR : AuR i1 mSize mGoes mLast S g f) (hn : 64 < n) (x : wSt) : f_Mo_ends n 3 (nI i1) (nI i2) x.1 x.2 mSize mLast = some (eR f S x) := by
  rw [f_Mo_ends, if_neg (by decide), if_neg (by decide), if_neg (by decide), hasB_r w.2.1 hi hR.1 hR.2.2 hn, sb_t]
  unfold eR
  by_cases h : x.2 = 0
  · rw [if_pos h]; simp [h]
  · rw [if_neg h]
    simp only [h, decide_false, Bool.false_or]
    cases hasB f S x.2 <;> rfl
theorem stC_r {n S1 S2 i1 i2 : Nat} {mSize mGoes : Nat → Int32} {mLast : Nat → Bool} {g1 g2 : Nat → Nat → Nat} {f1 f2 : Nat → Bool} (w1 : WF S1 g1) (w2 : WF S2 g2) (hi1 : i1 < 60) (hi2 : i2 < 60) (hR1 : AuR i1 mSize mGoes mLast S1 g1 f1) (hR2 : AuR i2 mSize mGoes mLast S2 g2 f2) (hn : 64 < n) : StepR n 2 (nI i1) (nI i2) mSize mGoes mLast (dlC g1 g2 f1 S2) (eC f2 S2) (VC S1) := by
  intro x k l K L R En Nx W hx hk hl he
  obtain ⟨p, hp, e⟩ := hx
  have z1 := w1.2.1
  have b1 := w1.2.2 p l hp hl
  have eL : L k = nI p := (congrArg Prod.fst he).trans e
  have eR : R k = x.2 := congrArg Prod.snd he
  have ed : dlC g1 g2 f1 S2 x l = (nI (g1 p l), gset g2 l x.2 S2 ||| (if f1 (g1 p l) = true then 1 else 0)) := by
    show (nI (g1 x.1.toNatClampNeg l), gset g2 l x.2 S2 ||| (if f1 (g1 x.1.toNatClampNeg l) = true then 1 else 0)) = _
    rw [e, nI_nat (by omega)]
  rw [ed]
  rw [f_Mo_explored_59, l4, if_neg (by rw [nJ_le (by omega) (by omega)]; omega), if_neg (by decide), nI_gin hk (by omega), ogd_t, nI_nat (by omega), eL, go_r z1 hi1 hR1.2.1 hp hl, sb_t, if_pos (by decide), if_pos rfl, ogd_t, eR, gset_r w2 hi2 hR2.1 hR2.2.1 hl hn, sb_t, il_r hi1 hR1.2.2 b1 z1, sb_t]
  have e1 := enC_r (n := n) (i1 := i1) w2 hi2 hR2 hn (nI (g1 p l), gset g2 l x.2 S2 ||| 1)
  have e2 := enC_r (n := n) (i1 := i1) w2 hi2 hR2 hn (nI (g1 p l), gset g2 l x.2 S2 ||| 0)
  rw [show f_Mo_ends n 2 (nI i1) (nI i2) (nI (g1 p l)) (gset g2 l x.2 S2 ||| 1) mSize mLast = some (eC f2 S2 (nI (g1 p l), gset g2 l x.2 S2 ||| 1)) from e1, show f_Mo_ends n 2 (nI i1) (nI i2) (nI (g1 p l)) (gset g2 l x.2 S2 ||| 0) mSize mLast = some (eC f2 S2 (nI (g1 p l), gset g2 l x.2 S2 ||| 0)) from e2, sb_t, sb_t]
  by_cases hf : f1 (g1 p l) = true
  · rw [if_pos hf, if_pos hf]
  · rw [if_neg hf, if_neg hf]
theorem stR_r {n S i1 : Nat} {mSize mGoes : Nat → Int32} {mLast : Nat → Bool} {g : Nat → Nat → Nat} {f : Nat → Bool} (w : WF S g) (hi : i1 < 60) (hR : AuR i1 mSize mGoes mLast S g f) (hn : 64 < n) : StepR n 3 (nI i1) (nI i1) mSize mGoes mLast (dlR g f S) (eR f S) VR := by
  intro x k l K L R En Nx W hx hk hl he
  have z := w.2.1
  have eL : L k = x.1 := congrArg Prod.fst he
  have eR' : R k = x.2 := congrArg Prod.snd he
  have ed : dlR g f S x l = (nI 0, gset g l (if eR f S x = true then x.2 ||| 1 else x.2) S) := rfl
  rw [ed]
  have en := fun Y => enR_r (n := n) (i2 := i1) w hi hR hn (nI 0, Y)
  have en' : ∀ Y, f_Mo_ends n 3 (nI i1) (nI i1) 0 Y mSize mLast = some (eR f S (nI 0, Y)) := en
  rw [f_Mo_explored_59, l4, if_neg (by rw [nJ_le (by omega) (by omega)]; omega), if_pos rfl, if_pos (by decide), if_neg (by decide), nI_gin hk (by omega), ogd_t, nI_nat (by omega), eR']
  simp only [ogd_t, gset_r w hi hR.1 hR.2.1 hl hn, sb_t, en', hasB_r z hi hR.1 hR.2.2 hn]
  unfold eR
  by_cases h : x.2 = 0
  · rw [if_pos h]
    simp only [h, decide_true, Bool.true_or, if_true]
    rfl
  · rw [if_neg h]
    simp only [h, decide_false, Bool.false_or]
    by_cases hb : hasB f S x.2 = true
    · rw [if_pos hb, if_pos hb]; rfl
    · rw [if_neg hb, if_neg hb]; rfl
/-- the reference's exploring -/
theorem ex_r {n : Nat} (hn : 800 < n) {how i1 i2 : Int32} {mSize mGoes : Nat → Int32} {mLast : Nat → Bool} {dl : wSt → Nat → wSt} {e : wSt → Bool} {V : wSt → Prop} (hV : ∀ x l, V x → l < 4 → V (dl x l)) (hs : StepR n how i1 i2 mSize mGoes mLast dl e V) {x0 : wSt} (hx : V x0) (L : Nat → Int32) (R : Nat → Int64) (En : Nat → Bool) (Nx : Nat → Int32) (hb : ∃ L1 R1 En1, f_Mo_come n x0.1 x0.2 (e x0) L R En 0 = some (nI 0, L1, R1, En1, nI 1) ∧ f_Mo_explored n how i1 i2 mSize mGoes mLast L Nx R En = (f_Mo_explored_47 n how i1 i2 mSize mGoes mLast n 0 L1 Nx R1 En1 (nI 1)).bind fun u => u.elim (fun r => some r) fun x => some (true, x.2.1, x.2.2.1, x.2.2.2.1, x.2.2.2.2.1, x.2.2.2.2.2)) : (explE dl 800 0 (Ei x0) = none ∧ ∃ r, f_Mo_explored n how i1 i2 mSize mGoes mLast L Nx R En = some (false, r)) ∨ (∃ E' L' R' En' Nx', explE dl 800 0 (Ei x0) = some E' ∧ f_Mo_explored n how i1 i2 mSize mGoes mLast L Nx R En = some (true, L', Nx', R', En', nI E'.1) ∧ EI V (4 * E'.1) E' ∧ RR e L' R' En' Nx' (4 * E'.1) E') := by
  obtain ⟨L1, R1, En1, b1, b2⟩ := hb
  rcases co_r (n := n) (x := x0) (b := e x0) (L := L) (R := R) (En := En) (W := 0) (st := fun _ => x0) hn (by omega) (fun k hk => absurd hk (Nat.not_lt_zero _)) with ⟨j, a, -⟩ | ⟨a, b, c⟩ | ⟨a, b, c⟩
  · cases a
  · have c' := b1.symm.trans c
    simp only [Option.some.injEq, Prod.mk.injEq] at c'
    obtain ⟨-, rfl, rfl, rfl, -⟩ := c'
    have hR : RR e (upd L 0 x0.1) (vp_updL R 0 x0.2) (va_up En 0 (e x0)) Nx (4 * 0) (Ei x0) := by
      refine ⟨fun k hk => ?_, fun k hk => ?_, fun t ht => absurd ht (Nat.not_lt_zero _)⟩
      · have hk' : k < 1 := hk
        have : k = 0 := by omega
        subst this
        show (upd L 0 x0.1 0, vp_updL R 0 x0.2 0) = x0
        rw [uis, ujs]
      · have hk' : k < 1 := hk
        have : k = 0 := by omega
        subst this
        exact ups
    rcases ex47 hn hV hs 800 n 0 (Ei x0) _ _ _ Nx (by omega) (by omega) (by show 0 ≤ 1; omega) (ei_inv hx) hR with ⟨r1, r, r2⟩ | ⟨E', cc, L', R', En', Nx', r1, r2, r3, r4⟩
    · refine .inl ⟨r1, r, ?_⟩
      rw [b2]
      have r2' := congrArg (fun q => q.bind fun u => u.elim (fun r => some r) fun x => some (true, x.2.1, x.2.2.1, x.2.2.2.1, x.2.2.2.2.1, x.2.2.2.2.2)) r2
      exact r2'
    · refine .inr ⟨E', L', R', En', Nx', r1, ?_, r3, r4⟩
      rw [b2]
      have r2' := congrArg (fun q => q.bind fun u => u.elim (fun r => some r) fun x => some (true, x.2.1, x.2.2.1, x.2.2.2.1, x.2.2.2.2.1, x.2.2.2.2.2)) r2
      exact r2'
  · exact absurd (show 0 < 800 by omega) b
