/-! STAGE 2. THE CALLS: letters, empty -/
def dlB (st : Int32) (x : wSt) (l : Nat) : wSt := (if x.1 = 0 then (if ((st >>> (nI l &&& 31)) &&& 1) = 0 then 2 else 1) else 2, 0)
def eB (b : Int32) (x : wSt) : Bool := decide (x.1 = b)
theorem goB_c {n : Nat} {st : Int32} : ∀ x l, True → l < 4 → f_Br_go n x.1 x.2 (nI l) st = some (dlB st x l).1 ∧ (dlB st x l).2 = 0 := by
  intro x l _ _
  refine ⟨?_, rfl⟩
  unfold f_Br_go dlB
  by_cases h : x.1 = 0
  · simp only [if_pos h]
    by_cases h2 : ((st >>> (nI l &&& 31)) &&& 1) = 0
    · simp only [if_pos h2]
    · simp only [if_neg h2]
  · simp only [if_neg h]
theorem enB_c {n : Nat} {b : Int32} : ∀ x : wSt, True → f_Br_endsAt n x.1 x.2 b = some (eB b x) := by
  intro x _
  unfold f_Br_endsAt eB
  by_cases h : x.1 = b
  · rw [if_pos h, decide_eq_true h]
  · rw [if_neg h, decide_eq_false h]
def vwC (dl : wSt → Nat → wSt) (e : wSt → Bool) (x0 : wSt) : Option (Nat × List Nat × List Bool) :=
  match idl dl e x0 with
  | none => none
  | some p => some (p.2.1, (List.range (4 * p.2.1)).map (fun t => goF p.1 p.2 (t / 4) (t % 4)), (List.range p.2.1).map (finF e p.1 p.2))
def rOf (nx : Nat → Nat) (C : cC) : rS := rrun (fun t => C.2.2 (nx (4 * C.2.1 (t / 4) + t % 4))) C.1 0 (r00 (C.2.2 0))
def vwR (nx : Nat → Nat) (W : Nat) (en : Nat → Bool) : Option (Nat × List Nat × List Bool) :=
  match rfC nx W 65 (c0E en) 0 with
  | some (some C) => some ((rOf nx C).1, (List.range (4 * (rOf nx C).1)).map (rOf nx C).2.2.2, (List.range (rOf nx C).1).map (fun j => en (C.2.1 ((rOf nx C).2.1 j))))
  | _ => none
def nxL (st : Int32) (t : Nat) : Nat := if t / 4 = 0 then (if ((st >>> (nI (t % 4) &&& 31)) &&& 1) = 0 then 2 else 1) else 2
def enL (k : Nat) : Bool := decide (k = 1)
theorem vw16 : ∀ s : Fin 16, vwC (dlB (nI s.val)) (eB 1) (0, 0) = vwR (nxL (nI s.val)) 3 enL ∧ (vwR (nxL (nI s.val)) 3 enL).isSome = true := by decide +kernel
theorem vwE : vwC (dlB 0) (eB 0) (0, 0) = vwR (fun _ => 1) 2 (fun k => decide (k = 0)) ∧ (vwR (fun _ => 1) 2 (fun k => decide (k = 0))).isSome = true := by decide +kernel
theorem map_range {α : Type} {f g : Nat → α} {n : Nat} (h : (List.range n).map f = (List.range n).map g) : ∀ t, t < n → f t = g t := by
  intro t ht
  exact List.map_inj_left.mp h t (List.mem_range.mpr ht)
theorem rfC_ci {nx : Nat → Nat} {W : Nat} : ∀ f c m C, rfC nx W f c m = some (some C) → ∃ key, CI key W C := by
  intro f
  induction f with
  | zero => intro c m C h; cases h
  | succ f ih =>
    intro c m C h
    simp only [rfC] at h
    cases hc : canE (mkK c nx) W 0 c00 with
    | none => rw [hc] at h; simp at h
    | some C1 =>
      rw [hc] at h
      simp only at h
      have hC := canE_inv W 0 c00 C1 ci0 hc
      rw [Nat.zero_add] at hC
      by_cases e : C1.1 = m
      · rw [if_pos e] at h
        simp only [Option.some.injEq] at h
        subst h
        exact ⟨_, hC⟩
      · rw [if_neg e] at h
        exact ih _ _ _ h
/-- two automata that look alike -/
theorem vw_same {dl : wSt → Nat → wSt} {e : wSt → Bool} {x0 : wSt} {nx : Nat → Nat} {W : Nat} {en : Nat → Bool} (h : vwC dl e x0 = vwR nx W en ∧ (vwR nx W en).isSome = true) : ∃ E C C', idl dl e x0 = some (E, C) ∧ rfC nx W 65 (c0E en) 0 = some (some C') ∧ C.1 = (rOf nx C').1 ∧ (∀ s l, s < C.1 → l < 4 → (rOf nx C').2.2.2 (4 * s + l) = goF E C s l) ∧ ∀ s, s < C.1 → en (C'.2.1 ((rOf nx C').2.1 s)) = finF e E C s := by
  obtain ⟨h1, h2⟩ := h
  unfold vwR at h1 h2
  cases hr : rfC nx W 65 (c0E en) 0 with
  | none => rw [hr] at h2; cases h2
  | some r =>
    cases r with
    | none => rw [hr] at h2; cases h2
    | some C' =>
      rw [hr] at h1
      unfold vwC at h1
      cases hi : idl dl e x0 with
      | none => rw [hi] at h1; cases h1
      | some p =>
        rw [hi] at h1
        simp only [Option.some.injEq, Prod.mk.injEq] at h1
        obtain ⟨a, b, c⟩ := h1
        refine ⟨p.1, p.2, C', rfl, rfl, a, fun s l hs hl => ?_, fun s hs => ?_⟩
        · rw [a] at b hs
          have := map_range b (4 * s + l) (by omega)
          rw [show (4 * s + l) / 4 = s by omega, show (4 * s + l) % 4 = l by omega] at this
          exact this.symm
        · rw [a] at c hs
          exact (map_range c s hs).symm
theorem lt70 {n : Nat} {st : Int32} {k : Nat} (hk : k < 3) : ∀ d K l Nx, l + d = 4 → d < K → (∀ t, t < 4 * k + l → Nx t = nI (nxL st t)) → ∃ Nx', f_Mo_letters_70 n (nI k) st K (nI l) Nx = some (nI 4, Nx') ∧ ∀ t, t < 4 * k + 4 → Nx' t = nI (nxL st t) := by
  intro d
  induction d with
  | zero =>
    intro K l Nx hl hK hN
    obtain ⟨K, rfl⟩ : ∃ j, K = j + 1 := ⟨K - 1, by omega⟩
    have : l = 4 := by omega
    subst this
    exact ⟨Nx, by rw [f_Mo_letters_70, l4, if_pos (by rw [nJ_le (by omega) (by omega)]; omega)], hN⟩
  | succ d ih =>
    intro K l Nx hl hK hN
    obtain ⟨K, rfl⟩ : ∃ j, K = j + 1 := ⟨K - 1, by omega⟩
    obtain ⟨Nx', a, b⟩ := ih K (l + 1) (upd Nx (4 * k + l) (nI (nxL st (4 * k + l)))) (by omega) (by omega) (fun t ht => by
      by_cases h : t = 4 * k + l
      · rw [h, uis]
      · rw [uin h]; exact hN t (by omega))
    refine ⟨Nx', ?_, b⟩
    rw [f_Mo_letters_70, l4, if_neg (by rw [nJ_le (by omega) (by omega)]; omega), nI_mul, nJ_add, nI_gin (by omega) (by omega), nI_nat (by omega)]
    simp only [ogd_t, show nI l + 1 = nI (l + 1) from by rw [l1, nJ_add]]
    have e : nxL st (4 * k + l) = if k = 0 then (if ((st >>> (nI l &&& 31)) &&& 1) = 0 then 2 else 1) else 2 := by
      unfold nxL
      rw [show (4 * k + l) / 4 = k by omega, show (4 * k + l) % 4 = l by omega]
    rw [e] at a
    by_cases hk0 : k = 0
    · rw [if_pos (by rw [hk0]; rfl)]
      rw [if_pos hk0] at a
      by_cases hb : ((st >>> (nI l &&& 31)) &&& 1) = 0
      · rw [if_pos hb] at a ⊢; exact a
      · rw [if_neg hb] at a ⊢; exact a
    · rw [if_neg (by rw [l0, nJ_eq (by omega) (by omega)]; exact hk0)]
      rw [if_neg hk0] at a
      exact a
theorem lt47 {n : Nat} {st : Int32} (hn : 64 < n) : ∀ d K k Nx En, k + d = 3 → d < K → (∀ t, t < 4 * k → Nx t = nI (nxL st t)) → (∀ j, j < k → En j = enL j) → ∃ Nx' En', f_Mo_letters_47 n st K (nI k) Nx En = some (nI 3, Nx', En') ∧ (∀ t, t < 12 → Nx' t = nI (nxL st t)) ∧ ∀ j, j < 3 → En' j = enL j := by
  intro d
  induction d with
  | zero =>
    intro K k Nx En hk hK h1 h2
    obtain ⟨K, rfl⟩ : ∃ j, K = j + 1 := ⟨K - 1, by omega⟩
    have : k = 3 := by omega
    subst this
    exact ⟨Nx, En, by rw [f_Mo_letters_47, l3, if_pos (by rw [nJ_le (by omega) (by omega)]; omega)], h1, h2⟩
  | succ d ih =>
    intro K k Nx En hk hK h1 h2
    obtain ⟨K, rfl⟩ : ∃ j, K = j + 1 := ⟨K - 1, by omega⟩
    obtain ⟨Nx1, a, b⟩ := lt70 (n := n) (st := st) (show k < 3 by omega) 4 n 0 Nx (by omega) (by omega) h1
    have a' : f_Mo_letters_70 n (nI k) st n 0 Nx = some (nI 4, Nx1) := a
    obtain ⟨Nx', En', c, d1, d2⟩ := ih K (k + 1) Nx1 (va_up En k (enL k)) (by omega) (by omega) (fun t ht => b t (by omega)) (fun j hj => by
      by_cases h : j = k
      · rw [h, ups]
      · rw [upn h]; exact h2 j (by omega))
    refine ⟨Nx', En', ?_, d1, d2⟩
    rw [f_Mo_letters_47, l3, if_neg (by rw [nJ_le (by omega) (by omega)]; omega), nI_gin (by omega) (by omega), ogd_t, ogd_t, nI_nat (by omega), a', sb_t, sb_t, show nI k + 1 = nI (k + 1) from by rw [l1, nJ_add]]
    by_cases hk1 : k = 1
    · rw [if_pos (by rw [hk1]; rfl)]
      have : enL k = true := by unfold enL; exact decide_eq_true hk1
      rw [this] at c; exact c
    · rw [if_neg (by rw [l1, nJ_eq (by omega) (by omega)]; exact hk1)]
      have : enL k = false := by unfold enL; exact decide_eq_false hk1
      rw [this] at c; exact c
theorem em44 {n : Nat} {k : Nat} (hk : k < 2) : ∀ d K l Nx, l + d = 4 → d < K → (∀ t, t < 4 * k + l → Nx t = nI 1) → ∃ Nx', f_Mo_empty_44 n (nI k) K (nI l) Nx = some (nI 4, Nx') ∧ ∀ t, t < 4 * k + 4 → Nx' t = nI 1 := by
  intro d
  induction d with
  | zero =>
    intro K l Nx hl hK hN
    obtain ⟨K, rfl⟩ : ∃ j, K = j + 1 := ⟨K - 1, by omega⟩
    have : l = 4 := by omega
    subst this
    exact ⟨Nx, by rw [f_Mo_empty_44, l4, if_pos (by rw [nJ_le (by omega) (by omega)]; omega)], hN⟩
  | succ d ih =>
    intro K l Nx hl hK hN
    obtain ⟨K, rfl⟩ : ∃ j, K = j + 1 := ⟨K - 1, by omega⟩
    obtain ⟨Nx', a, b⟩ := ih K (l + 1) (upd Nx (4 * k + l) (nI 1)) (by omega) (by omega) (fun t ht => by
      by_cases h : t = 4 * k + l
      · rw [h, uis]
      · rw [uin h]; exact hN t (by omega))
    refine ⟨Nx', ?_, b⟩
    rw [f_Mo_empty_44, l4, if_neg (by rw [nJ_le (by omega) (by omega)]; omega), nI_mul, nJ_add, nI_gin (by omega) (by omega), ogd_t, nI_nat (by omega), l1, nJ_add]
    exact a
theorem em22 {n : Nat} (hn : 64 < n) : ∀ d K k Nx En, k + d = 2 → d < K → (∀ t, t < 4 * k → Nx t = nI 1) → (∀ j, j < k → En j = decide (j = 0)) → ∃ Nx' En', f_Mo_empty_22 n K (nI k) Nx En = some (nI 2, Nx', En') ∧ (∀ t, t < 8 → Nx' t = nI 1) ∧ ∀ j, j < 2 → En' j = decide (j = 0) := by
  intro d
  induction d with
  | zero =>
    intro K k Nx En hk hK h1 h2
    obtain ⟨K, rfl⟩ : ∃ j, K = j + 1 := ⟨K - 1, by omega⟩
    have : k = 2 := by omega
    subst this
    exact ⟨Nx, En, by rw [f_Mo_empty_22, l2, if_pos (by rw [nJ_le (by omega) (by omega)]; omega)], h1, h2⟩
  | succ d ih =>
    intro K k Nx En hk hK h1 h2
    obtain ⟨K, rfl⟩ : ∃ j, K = j + 1 := ⟨K - 1, by omega⟩
    obtain ⟨Nx1, a, b⟩ := em44 (n := n) (show k < 2 by omega) 4 n 0 Nx (by omega) (by omega) h1
    have a' : f_Mo_empty_44 n (nI k) n 0 Nx = some (nI 4, Nx1) := a
    obtain ⟨Nx', En', c, d1, d2⟩ := ih K (k + 1) Nx1 (va_up En k (decide (k = 0))) (by omega) (by omega) (fun t ht => b t (by omega)) (fun j hj => by
      by_cases h : j = k
      · rw [h, ups]
      · rw [upn h]; exact h2 j (by omega))
    refine ⟨Nx', En', ?_, d1, d2⟩
    rw [f_Mo_empty_22, l2, if_neg (by rw [nJ_le (by omega) (by omega)]; omega), nI_gin (by omega) (by omega), ogd_t, ogd_t, nI_nat (by omega), a', sb_t, sb_t, show nI k + 1 = nI (k + 1) from by rw [l1, nJ_add]]
    by_cases hk1 : k = 0
    · rw [if_pos (by rw [hk1]; rfl)]
      rw [decide_eq_true hk1] at c; exact c
    · rw [if_neg (by rw [l0, nJ_eq (by omega) (by omega)]; exact hk1)]
      rw [decide_eq_false hk1] at c; exact c
theorem cl_letters {n : Nat} (hn : 2048 < n) {p0 : Int32} {o : Nat → Int64} {xLang : Nat → Option Nat} {T : auTab} {mSize mGoes : Nat → Int32} {mLast : Nat → Bool} {N : Nat} (hN : N ≤ 60) (hI : ∀ i, i < N → ∃ q, xLang i = some q ∧ LangOK q T i mSize mGoes mLast) (hE : ∀ i, N ≤ i → xLang i = none) (kHeads : Nat → Int32) (kTails : Nat → Int64) (kNext kSlots : Nat → Int32) (kReached : Int32) (kClassOf kFinerOf kMarkOf kFirstOf kMarkSlots : Nat → Int32) (kClasses : Int32) (mNext mGroup mFresh mLeader mNumber : Nat → Int32) (mEnds : Nat → Bool) (mWay : Int32) : ∃ u w, f_La_letters n p0 (nI N) kHeads kTails kNext kSlots kReached kClassOf kFinerOf kMarkOf kFirstOf kMarkSlots kClasses o = some u ∧ f_Mo_letters n p0 (nI N) mSize mGoes mLast mNext mGroup mFresh mLeader mNumber mEnds mWay = some w ∧ ((∃ (k : Int32) (m : (Nat → Int32) × (Nat → Int64) × (Nat → Int32) × (Nat → Int32) × Int32 × (Nat → Int32) × (Nat → Int32) × (Nat → Int32) × (Nat → Int32) × (Nat → Int32) × Int32), u = .inl (k, m) ∧ k ≠ 0 ∧ w.2.1 = k ∧ w.2.2.1 = nI N ∧ w.2.2.2.1 = mSize ∧ w.2.2.2.2.1 = mGoes ∧ w.2.2.2.2.2.1 = mLast) ∨ (∃ (o2 : Nat → Int64) (v : Int32 × auP × Int32 × (Nat → Int32) × (Nat → Int64) × (Nat → Int32) × (Nat → Int32) × Int32 × (Nat → Int32) × (Nat → Int32) × (Nat → Int32) × (Nat → Int32) × (Nat → Int32) × Int32), u = .inr (o2, v) ∧ w.2.1 = 0 ∧ o2 (0 : Int32).toNatClampNeg = w.1.toInt64 ∧ N < 60 ∧ v.2.2.1 = nI (N + 1) ∧ w.2.2.1 = nI (N + 1) ∧ ∀ q an aa : Nat, (∀ i, i < 60 → xLang i ≠ some q) → RelL (va_up xLang N (some q)) (nI (N + 1)) (fun z => if z = q then (an, aa, v.2.1.1, (4 * v.2.1.1).toNatClampNeg, v.2.1.2.2.1, v.2.1.2.1, v.2.1.2.2.2) else T z) (nI (N + 1)) w.2.2.2.1 w.2.2.2.2.1 w.2.2.2.2.2.1)) := by
  have in15 : f_Mo_in n p0.toInt64 0 15 = some (decide (0 ≤ p0.toInt ∧ p0.toInt ≤ 15)) := by
    have h2 : (0 : Int64) = Int64.ofInt 0 := rfl
    have h3 : (15 : Int64) = Int64.ofInt 15 := rfl
    rw [h2, h3, in32 (by omega) (by omega) (by omega) (by omega)]; simp
  have i16 : (16 : Int32).toInt = 16 := rfl
  by_cases h0 : 0 ≤ p0.toInt ∧ p0.toInt ≤ 15
  · have hneg : ¬ p0 < 0 := by rw [Int32.lt_iff_toInt_lt, i0]; omega
    have hlt : p0 < 16 := by rw [Int32.lt_iff_toInt_lt, i16]; omega
    obtain ⟨s, hs16, rfl⟩ := idx (k := 16) h0.1 (by omega)
    by_cases h60 : N = 60
    · subst h60
      refine ⟨.inl (2, (kHeads, kTails, kNext, kSlots, kReached, kClassOf, kFinerOf, kMarkOf, kFirstOf, kMarkSlots, kClasses)), (0, 2, nI 60, mSize, mGoes, mLast, mNext, mGroup, mFresh, mLeader, mNumber, mEnds, mWay), ?_, ?_, .inl ⟨2, _, rfl, by decide, rfl, rfl, rfl, rfl, rfl⟩⟩
      · simp only [f_La_letters, f_RS_letters, if_neg hneg, if_pos hlt, sb_t, el_r, el_l, room_f]
        rfl
      · simp only [f_Mo_letters, in15, h0, and_self, decide_true, sb_t, if_true, fails_f, Bool.false_eq_true, if_false, full_t (show (2 : Int32) ≠ 0 by decide)]
    · skip
      have hN6 : N < 60 := by omega
      have hmk := mk_Br (n := n) hn (bEnd := 1) (dl := dlB (nI s)) (e := eB 1) (V := fun _ => True) (fun _ _ _ _ => trivial) goB_c enB_c (x0 := (0, 0)) trivial rfl rfl kHeads kTails kNext kSlots kClassOf kFinerOf kMarkOf kFirstOf kMarkSlots kClasses
      obtain ⟨E, C, C', v1, v2, v3, v4, v5⟩ := vw_same (vw16 ⟨s, hs16⟩)
      obtain ⟨Nx1, En1, t1, t2, t3⟩ := lt47 (n := n) (st := nI s) (by omega) 3 n 0 mNext mEnds (by omega) (by omega) (fun t ht => absurd ht (Nat.not_lt_zero _)) (fun j hj => absurd hj (Nat.not_lt_zero _))
      have t1' : f_Mo_letters_47 n (nI s) n 0 mNext mEnds = some (nI 3, Nx1, En1) := t1
      have hl := les_r (n := n) (a := N) (mS := mSize) (mG := mGoes) (mL := mLast) (Gr := mGroup) (Fr := mFresh) (Ld := mLeader) (Nu := mNumber) (En := En1) (Nx := Nx1) (nx := (nxL (nI s))) (en := enL) (W := 3) hn (show 65 ≤ 1000 by omega) (by omega) (by omega) hN6 t2 (fun t ht => by show nxL (nI s) t < 3; unfold nxL; split <;> (try split) <;> omega) t3 v2 (fun C0 hC0 => by
        cases hC0
        exact rfC_ci _ _ _ _ v2)
      rcases hl with ⟨c1, -⟩ | ⟨C2, mG', mL', z2, c1, c2, c3, c4, c5, c6, c7⟩
      · cases c1
      · cases c1
        rcases hmk with ⟨x1, -⟩ | ⟨E2, C2, la, nx, ah, z, x1, hEI, hF, x2, x3⟩
        · rw [x1] at v1; cases v1
        · rw [v1] at x1
          simp only [Option.some.injEq, Prod.mk.injEq] at x1
          obtain ⟨rfl, rfl⟩ := x1
          have hwf := (fin_wf hEI hF).1
          have h64 := hwf.2.1
          have eR : rrun (fun t => C'.2.2 ((nxL (nI s)) (4 * C'.2.1 (t / 4) + t % 4))) C'.1 0 (r00 (C'.2.2 0)) = rOf (nxL (nI s)) C' := rfl
          rw [eR] at c2 c5 c6 c7
          rw [← v3] at c2 c6 c7
          refine ⟨.inr (vp_updL o 0 (nI N).toInt64, (nI N, (nI C.1, la, nx, ah), nI (N + 1), z.1, z.2.1, z.2.2.1, z.2.2.2.1, z.2.2.2.2.1, z.2.2.2.2.2.1, z.2.2.2.2.2.2.1, z.2.2.2.2.2.2.2.1, z.2.2.2.2.2.2.2.2.1, z.2.2.2.2.2.2.2.2.2.1, z.2.2.2.2.2.2.2.2.2.2.1)), (nI N, 0, nI (N + 1), upd mSize N (nI C.1), mG', mL', Nx1, z2.1, z2.2.1, z2.2.2.1, z2.2.2.2, En1, 3), ?_, ?_, .inr ⟨_, _, rfl, rfl, rfl, hN6, rfl, rfl, fun p an aa hp => ?_⟩⟩
          · simp only [f_La_letters, f_RS_letters, if_neg hneg, if_pos hlt, sb_t, el_r, el_l, room_t hN6, x2, oq, nI_gin hN6 (show 60 ≤ 2147483648 by omega), ogd_t, show nI N + 1 = nI (N + 1) from by rw [l1, nJ_add], show nI (N + 1) - 1 = nI N from by rw [l1, nI_sub (by omega), Nat.add_sub_cancel]]
            rfl
          · simp only [f_Mo_letters, in15, h0, and_self, decide_true, sb_t, if_true, fails_f, Bool.false_eq_true, if_false, full_f hN6, t1', show f_Mo_lessened n (nI N) mSize mGoes mLast Nx1 mGroup mFresh mLeader mNumber En1 3 = _ from c2, show nI N + 1 = nI (N + 1) from by rw [l1, nJ_add]]
          · refine relL_ext hN6 hI hE hp (fun z hz => if_neg hz) (fun j hj => uin hj) c3 c4 ⟨C.1, goF E C, finF (eB 1) E C, hwf, ?_, uis, fun s' l hs' hl => ?_, fun s' hs' => ?_⟩
            · show AuC (if p = p then _ else T p).2.2 C.1 _ _
              rw [if_pos rfl]
              show AuC (nI C.1, (4 * nI C.1).toNatClampNeg, nx, la, ah) C.1 _ _
              rw [show (4 * nI C.1).toNatClampNeg = 4 * C.1 from by rw [l4, nI_mul, nI_nat (by omega)]]
              exact x3
            · have := c6 (4 * s' + l) (by omega)
              rw [v4 s' l hs' hl] at this
              rw [show 4 * (64 * N + s') + l = 4 * (64 * N) + (4 * s' + l) by omega]
              exact this
            · exact (c7 s' hs').trans (v5 s' hs')
  · have hb : f_RS_letters n p0 (nI N) kHeads kTails kNext kSlots kReached kClassOf kFinerOf kMarkOf kFirstOf kMarkSlots kClasses = some (.inl ("java/lang/IllegalArgumentException", (kHeads, kTails, kNext, kSlots, kReached, kClassOf, kFinerOf, kMarkOf, kFirstOf, kMarkSlots, kClasses))) := by
      rw [f_RS_letters]
      by_cases hneg : p0 < 0
      · rw [if_pos hneg]
      · rw [if_neg hneg, if_neg (by
          rw [Int32.lt_iff_toInt_lt, i0] at hneg
          rw [Int32.lt_iff_toInt_lt, i16]
          omega)]
    refine ⟨.inl (1, (kHeads, kTails, kNext, kSlots, kReached, kClassOf, kFinerOf, kMarkOf, kFirstOf, kMarkSlots, kClasses)), (0, 1, nI N, mSize, mGoes, mLast, mNext, mGroup, mFresh, mLeader, mNumber, mEnds, mWay), ?_, ?_, .inl ⟨1, _, rfl, by decide, rfl, rfl, rfl, rfl, rfl⟩⟩
    · rw [f_La_letters, hb]; rfl
    · simp [f_Mo_letters, in15, h0, fails_t]
theorem ok_letters {n : Nat} (hn : 2048 < n) : sim_letters n Rel := by
  intro c T r o p0 hR
  obtain ⟨hL, hV, hB, hS⟩ := hR
  have hL' := hL
  obtain ⟨N, hN, e1, e2, hI, hE⟩ := hL'
  rw [e1] at hV
  obtain ⟨u, w, h1, h2, h3⟩ := cl_letters hn (p0 := p0) (o := o) hN hI hE c.2.2.1 c.2.2.2.1 c.2.2.2.2.1 c.2.2.2.2.2.1 c.2.2.2.2.2.2.1 c.2.2.2.2.2.2.2.1 c.2.2.2.2.2.2.2.2.1 c.2.2.2.2.2.2.2.2.2.1 c.2.2.2.2.2.2.2.2.2.2.1 c.2.2.2.2.2.2.2.2.2.2.2.1 c.2.2.2.2.2.2.2.2.2.2.2.2.1 r.2.2.2.2.2.2.2.1 r.2.2.2.2.2.2.2.2.1 r.2.2.2.2.2.2.2.2.2.1 r.2.2.2.2.2.2.2.2.2.2.1 r.2.2.2.2.2.2.2.2.2.2.2.1 r.2.2.2.2.2.2.2.2.2.2.2.2.2.1 r.2.2.2.2.2.2.2.2.2.2.2.2.2.2.1
  rw [← e1] at h1
  rw [← e2] at h2
  refine ⟨u, w, h1, h2, ?_⟩
  rcases h3 with ⟨k, m, a, b, d, f1, f2, f3, f4⟩ | ⟨o2, v, a, b, d, hN6, e, f, g⟩
  · refine .inl ⟨k, m, a, b, d, ?_, ?_, hB, hS⟩
    · show RelL c.1 c.2.1 T w.2.2.1 w.2.2.2.1 w.2.2.2.2.1 w.2.2.2.2.2.1
      rw [f1, f2, f3, f4]; exact ⟨N, hN, e1, rfl, hI, hE⟩
    · show RelV c.1 c.2.1 _ _
      rw [e1]; exact hV
  · refine .inr ⟨o2, v, a, b, d, fun q an aa hq => ?_⟩
    have hg := g q an aa (fun i hi h => hq (.inl ⟨i, hi, h⟩))
    have hv2 := relV_ext (q := q) hN6 hV
    have en : c.2.1.toNatClampNeg = N := by rw [e1]; exact nI_nat (by omega)
    rw [en]
    refine ⟨?_, ?_, hB, hS⟩
    · show RelL _ v.2.2.1 _ w.2.2.1 _ _ _
      rw [e, f]; exact hg
    · show RelV _ v.2.2.1 _ _
      rw [e]; exact hv2
theorem cl_empty {n : Nat} (hn : 2048 < n) {o : Nat → Int64} {xLang : Nat → Option Nat} {T : auTab} {mSize mGoes : Nat → Int32} {mLast : Nat → Bool} {N : Nat} (hN : N ≤ 60) (hI : ∀ i, i < N → ∃ q, xLang i = some q ∧ LangOK q T i mSize mGoes mLast) (hE : ∀ i, N ≤ i → xLang i = none) (kHeads : Nat → Int32) (kTails : Nat → Int64) (kNext kSlots : Nat → Int32) (kReached : Int32) (kClassOf kFinerOf kMarkOf kFirstOf kMarkSlots : Nat → Int32) (kClasses : Int32) (mNext mGroup mFresh mLeader mNumber : Nat → Int32) (mEnds : Nat → Bool) (mWay : Int32) : ∃ u w, f_La_empty n (nI N) kHeads kTails kNext kSlots kReached kClassOf kFinerOf kMarkOf kFirstOf kMarkSlots kClasses o = some u ∧ f_Mo_empty n (nI N) mSize mGoes mLast mNext mGroup mFresh mLeader mNumber mEnds mWay = some w ∧ ((∃ (k : Int32) (m : (Nat → Int32) × (Nat → Int64) × (Nat → Int32) × (Nat → Int32) × Int32 × (Nat → Int32) × (Nat → Int32) × (Nat → Int32) × (Nat → Int32) × (Nat → Int32) × Int32), u = .inl (k, m) ∧ k ≠ 0 ∧ w.2.1 = k ∧ w.2.2.1 = nI N ∧ w.2.2.2.1 = mSize ∧ w.2.2.2.2.1 = mGoes ∧ w.2.2.2.2.2.1 = mLast) ∨ (∃ (o2 : Nat → Int64) (v : Int32 × auP × Int32 × (Nat → Int32) × (Nat → Int64) × (Nat → Int32) × (Nat → Int32) × Int32 × (Nat → Int32) × (Nat → Int32) × (Nat → Int32) × (Nat → Int32) × (Nat → Int32) × Int32), u = .inr (o2, v) ∧ w.2.1 = 0 ∧ o2 (0 : Int32).toNatClampNeg = w.1.toInt64 ∧ N < 60 ∧ v.2.2.1 = nI (N + 1) ∧ w.2.2.1 = nI (N + 1) ∧ ∀ q an aa : Nat, (∀ i, i < 60 → xLang i ≠ some q) → RelL (va_up xLang N (some q)) (nI (N + 1)) (fun z => if z = q then (an, aa, v.2.1.1, (4 * v.2.1.1).toNatClampNeg, v.2.1.2.2.1, v.2.1.2.1, v.2.1.2.2.2) else T z) (nI (N + 1)) w.2.2.2.1 w.2.2.2.2.1 w.2.2.2.2.2.1)) := by
  by_cases h60 : N = 60
  · subst h60
    refine ⟨.inl (1, (kHeads, kTails, kNext, kSlots, kReached, kClassOf, kFinerOf, kMarkOf, kFirstOf, kMarkSlots, kClasses)), (0, 1, nI 60, mSize, mGoes, mLast, mNext, mGroup, mFresh, mLeader, mNumber, mEnds, mWay), ?_, ?_, .inl ⟨1, _, rfl, by decide, rfl, rfl, rfl, rfl, rfl⟩⟩
    · simp only [f_La_empty, f_RS_empty, sb_t, el_r, el_l, room_f]
      rfl
    · simp only [f_Mo_empty, sb_t, if_true, Bool.false_eq_true, if_false, full_t (show (1 : Int32) ≠ 0 by decide)]
  · skip
    have hN6 : N < 60 := by omega
    have hmk := mk_Br (n := n) hn (bEnd := 0) (dl := dlB 0) (e := eB 0) (V := fun _ => True) (fun _ _ _ _ => trivial) goB_c enB_c (x0 := (0, 0)) trivial rfl rfl kHeads kTails kNext kSlots kClassOf kFinerOf kMarkOf kFirstOf kMarkSlots kClasses
    obtain ⟨E, C, C', v1, v2, v3, v4, v5⟩ := vw_same vwE
    obtain ⟨Nx1, En1, t1, t2, t3⟩ := em22 (n := n) (by omega) 2 n 0 mNext mEnds (by omega) (by omega) (fun t ht => absurd ht (Nat.not_lt_zero _)) (fun j hj => absurd hj (Nat.not_lt_zero _))
    have t1' : f_Mo_empty_22 n n 0 mNext mEnds = some (nI 2, Nx1, En1) := t1
    have hl := les_r (n := n) (a := N) (mS := mSize) (mG := mGoes) (mL := mLast) (Gr := mGroup) (Fr := mFresh) (Ld := mLeader) (Nu := mNumber) (En := En1) (Nx := Nx1) (nx := (fun _ => 1)) (en := (fun k => decide (k = 0))) (W := 2) hn (show 65 ≤ 1000 by omega) (by omega) (by omega) hN6 t2 (fun t ht => by show 1 < 2; omega) t3 v2 (fun C0 hC0 => by
      cases hC0
      exact rfC_ci _ _ _ _ v2)
    rcases hl with ⟨c1, -⟩ | ⟨C2, mG', mL', z2, c1, c2, c3, c4, c5, c6, c7⟩
    · cases c1
    · cases c1
      rcases hmk with ⟨x1, -⟩ | ⟨E2, C2, la, nx, ah, z, x1, hEI, hF, x2, x3⟩
      · rw [x1] at v1; cases v1
      · rw [v1] at x1
        simp only [Option.some.injEq, Prod.mk.injEq] at x1
        obtain ⟨rfl, rfl⟩ := x1
        have hwf := (fin_wf hEI hF).1
        have h64 := hwf.2.1
        have eR : rrun (fun t => C'.2.2 ((fun _ => 1) (4 * C'.2.1 (t / 4) + t % 4))) C'.1 0 (r00 (C'.2.2 0)) = rOf (fun _ => 1) C' := rfl
        rw [eR] at c2 c5 c6 c7
        rw [← v3] at c2 c6 c7
        refine ⟨.inr (vp_updL o 0 (nI N).toInt64, (nI N, (nI C.1, la, nx, ah), nI (N + 1), z.1, z.2.1, z.2.2.1, z.2.2.2.1, z.2.2.2.2.1, z.2.2.2.2.2.1, z.2.2.2.2.2.2.1, z.2.2.2.2.2.2.2.1, z.2.2.2.2.2.2.2.2.1, z.2.2.2.2.2.2.2.2.2.1, z.2.2.2.2.2.2.2.2.2.2.1)), (nI N, 0, nI (N + 1), upd mSize N (nI C.1), mG', mL', Nx1, z2.1, z2.2.1, z2.2.2.1, z2.2.2.2, En1, 2), ?_, ?_, .inr ⟨_, _, rfl, rfl, rfl, hN6, rfl, rfl, fun p an aa hp => ?_⟩⟩
        · simp only [f_La_empty, f_RS_empty, sb_t, el_r, el_l, room_t hN6, x2, oq, nI_gin hN6 (show 60 ≤ 2147483648 by omega), ogd_t, show nI N + 1 = nI (N + 1) from by rw [l1, nJ_add], show nI (N + 1) - 1 = nI N from by rw [l1, nI_sub (by omega), Nat.add_sub_cancel]]
          rfl
        · simp only [f_Mo_empty, sb_t, if_true, Bool.false_eq_true, if_false, full_f hN6, t1', show f_Mo_lessened n (nI N) mSize mGoes mLast Nx1 mGroup mFresh mLeader mNumber En1 2 = _ from c2, show nI N + 1 = nI (N + 1) from by rw [l1, nJ_add]]
        · refine relL_ext hN6 hI hE hp (fun z hz => if_neg hz) (fun j hj => uin hj) c3 c4 ⟨C.1, goF E C, finF (eB 0) E C, hwf, ?_, uis, fun s' l hs' hl => ?_, fun s' hs' => ?_⟩
          · show AuC (if p = p then _ else T p).2.2 C.1 _ _
            rw [if_pos rfl]
            show AuC (nI C.1, (4 * nI C.1).toNatClampNeg, nx, la, ah) C.1 _ _
            rw [show (4 * nI C.1).toNatClampNeg = 4 * C.1 from by rw [l4, nI_mul, nI_nat (by omega)]]
            exact x3
          · have := c6 (4 * s' + l) (by omega)
            rw [v4 s' l hs' hl] at this
            rw [show 4 * (64 * N + s') + l = 4 * (64 * N) + (4 * s' + l) by omega]
            exact this
          · exact (c7 s' hs').trans (v5 s' hs')
theorem ok_empty {n : Nat} (hn : 2048 < n) : sim_empty n Rel := by
  intro c T r o hR
  obtain ⟨hL, hV, hB, hS⟩ := hR
  have hL' := hL
  obtain ⟨N, hN, e1, e2, hI, hE⟩ := hL'
  rw [e1] at hV
  obtain ⟨u, w, h1, h2, h3⟩ := cl_empty hn (o := o) hN hI hE c.2.2.1 c.2.2.2.1 c.2.2.2.2.1 c.2.2.2.2.2.1 c.2.2.2.2.2.2.1 c.2.2.2.2.2.2.2.1 c.2.2.2.2.2.2.2.2.1 c.2.2.2.2.2.2.2.2.2.1 c.2.2.2.2.2.2.2.2.2.2.1 c.2.2.2.2.2.2.2.2.2.2.2.1 c.2.2.2.2.2.2.2.2.2.2.2.2.1 r.2.2.2.2.2.2.2.1 r.2.2.2.2.2.2.2.2.1 r.2.2.2.2.2.2.2.2.2.1 r.2.2.2.2.2.2.2.2.2.2.1 r.2.2.2.2.2.2.2.2.2.2.2.1 r.2.2.2.2.2.2.2.2.2.2.2.2.2.1 r.2.2.2.2.2.2.2.2.2.2.2.2.2.2.1
  rw [← e1] at h1
  rw [← e2] at h2
  refine ⟨u, w, h1, h2, ?_⟩
  rcases h3 with ⟨k, m, a, b, d, f1, f2, f3, f4⟩ | ⟨o2, v, a, b, d, hN6, e, f, g⟩
  · refine .inl ⟨k, m, a, b, d, ?_, ?_, hB, hS⟩
    · show RelL c.1 c.2.1 T w.2.2.1 w.2.2.2.1 w.2.2.2.2.1 w.2.2.2.2.2.1
      rw [f1, f2, f3, f4]; exact ⟨N, hN, e1, rfl, hI, hE⟩
    · show RelV c.1 c.2.1 _ _
      rw [e1]; exact hV
  · refine .inr ⟨o2, v, a, b, d, fun q an aa hq => ?_⟩
    have hg := g q an aa (fun i hi h => hq (.inl ⟨i, hi, h⟩))
    have hv2 := relV_ext (q := q) hN6 hV
    have en : c.2.1.toNatClampNeg = N := by rw [e1]; exact nI_nat (by omega)
    rw [en]
    refine ⟨?_, ?_, hB, hS⟩
    · show RelL _ v.2.2.1 _ w.2.2.1 _ _ _
      rw [e, f]; exact hg
    · show RelV _ v.2.2.1 _ _
      rw [e]; exact hv2
