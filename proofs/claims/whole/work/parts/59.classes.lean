/-! STAGE 2. JOINING STATES: the classes, in order -/
abbrev kY : Type := Nat × Nat × Nat × Nat × Nat
abbrev cC : Type := Nat × (Nat → Nat) × (Nat → Nat)
def stepC (key : Nat → kY) (C : cC) (k : Nat) : Option cC :=
  match lookP (fun g => decide (key k = key (C.2.1 g))) 0 C.1 with
  | some g => some (C.1, C.2.1, upN C.2.2 k g)
  | none => if C.1 < 64 then some (C.1 + 1, upN C.2.1 C.1 k, upN C.2.2 k C.1) else none
def canE (key : Nat → kY) : Nat → Nat → cC → Option cC
  | 0, _, C => some C
  | d + 1, k, C => (stepC key C k).bind (canE key d (k + 1))
def c00 : cC := (0, (fun _ => 0), fun _ => 0)
def CI (key : Nat → kY) (k : Nat) (C : cC) : Prop :=
  C.1 ≤ 64 ∧ (∀ g, g < C.1 → C.2.1 g < k ∧ C.2.2 (C.2.1 g) = g) ∧ (∀ j, j < k → C.2.2 j < C.1 ∧ key j = key (C.2.1 (C.2.2 j)) ∧ C.2.1 (C.2.2 j) ≤ j) ∧ (∀ g h, g < h → h < C.1 → C.2.1 g < C.2.1 h) ∧ ∀ g h, g < C.1 → h < C.1 → key (C.2.1 g) = key (C.2.1 h) → g = h
theorem ci0 {key : Nat → kY} : CI key 0 c00 :=
  ⟨by show 0 ≤ 64; omega, fun g h => absurd h (Nat.not_lt_zero _), fun j h => absurd h (Nat.not_lt_zero _), fun g h _ h2 => absurd h2 (Nat.not_lt_zero _), fun g h h1 => absurd h1 (Nat.not_lt_zero _)⟩
theorem stepC_inv {key : Nat → kY} {k : Nat} {C C' : cC} (hC : CI key k C) (h : stepC key C k = some C') : CI key (k + 1) C' := by
  obtain ⟨c1, c2, c3, c4, c5⟩ := hC
  unfold stepC at h
  cases hl : lookP (fun g => decide (key k = key (C.2.1 g))) 0 C.1 with
  | some g =>
    rw [hl] at h
    simp only [Option.some.injEq] at h
    obtain ⟨a, b, c, -⟩ := lookP_some _ _ _ hl
    have c' := of_decide_eq_true c
    subst h
    refine ⟨c1, fun g' hg' => ?_, fun j hj => ?_, c4, c5⟩
    · have := c2 g' hg'
      refine ⟨by show C.2.1 g' < k + 1; omega, ?_⟩
      show upN C.2.2 k g (C.2.1 g') = g'
      rw [upNn (by omega)]; exact this.2
    · show upN C.2.2 k g j < C.1 ∧ key j = key (C.2.1 (upN C.2.2 k g j)) ∧ C.2.1 (upN C.2.2 k g j) ≤ j
      by_cases hjk : j = k
      · subst hjk
        rw [upNs]
        exact ⟨by omega, c', by have := (c2 g (by omega)).1; omega⟩
      · rw [upNn hjk]; exact c3 j (by omega)
  | none =>
    rw [hl] at h
    have hno := lookP_none _ _ hl
    by_cases h6 : C.1 < 64
    · rw [if_pos h6] at h
      simp only [Option.some.injEq] at h
      subst h
      have hne : ∀ g, g < C.1 → key k ≠ key (C.2.1 g) := fun g hg => of_decide_eq_false (hno g (by omega) (by omega))
      refine ⟨by show C.1 + 1 ≤ 64; omega, fun g hg => ?_, fun j hj => ?_, fun g g' hgg hg' => ?_, fun g g' hg hg' e => ?_⟩
      · have hg' : g < C.1 + 1 := hg
        show upN C.2.1 C.1 k g < k + 1 ∧ upN C.2.2 k C.1 (upN C.2.1 C.1 k g) = g
        by_cases hgm : g = C.1
        · rw [hgm, upNs, upNs]; omega
        · rw [upNn hgm]
          have := c2 g (by omega)
          rw [upNn (by omega)]
          exact ⟨by omega, this.2⟩
      · show upN C.2.2 k C.1 j < C.1 + 1 ∧ key j = key (upN C.2.1 C.1 k (upN C.2.2 k C.1 j)) ∧ upN C.2.1 C.1 k (upN C.2.2 k C.1 j) ≤ j
        by_cases hjk : j = k
        · subst hjk; rw [upNs, upNs]; exact ⟨by omega, rfl, by omega⟩
        · have := c3 j (by omega)
          rw [upNn hjk, upNn (by omega)]
          exact ⟨by omega, this.2⟩
      · have hg'' : g' < C.1 + 1 := hg'
        show upN C.2.1 C.1 k g < upN C.2.1 C.1 k g'
        by_cases hgm : g' = C.1
        · rw [hgm, upNs, upNn (by omega)]
          exact (c2 g (by omega)).1
        · rw [upNn hgm, upNn (by omega)]
          exact c4 g g' hgg (by omega)
      · have h1 : g < C.1 + 1 := hg
        have h2 : g' < C.1 + 1 := hg'
        have e' : key (upN C.2.1 C.1 k g) = key (upN C.2.1 C.1 k g') := e
        by_cases hgm : g = C.1
        · by_cases hgm' : g' = C.1
          · omega
          · rw [hgm, upNs, upNn hgm'] at e'
            exact absurd e' (hne g' (by omega))
        · by_cases hgm' : g' = C.1
          · rw [hgm', upNs, upNn hgm] at e'
            exact absurd e'.symm (hne g (by omega))
          · rw [upNn hgm, upNn hgm'] at e'
            exact c5 g g' (by omega) (by omega) e'
    · rw [if_neg h6] at h; cases h
theorem canE_inv {key : Nat → kY} : ∀ d k C C', CI key k C → canE key d k C = some C' → CI key (k + d) C' := by
  intro d
  induction d with
  | zero => intro k C C' hC h; cases h; exact hC
  | succ d ih =>
    intro k C C' hC h
    simp only [canE] at h
    cases hs : stepC key C k with
    | none => rw [hs] at h; cases h
    | some C1 =>
      rw [hs] at h
      rw [show k + (d + 1) = k + 1 + d by omega]
      exact ih (k + 1) C1 C' (stepC_inv hC hs) h
theorem ci_iff {key : Nat → kY} {k : Nat} {C : cC} (hC : CI key k C) {i j : Nat} (hi : i < k) (hj : j < k) : C.2.2 i = C.2.2 j ↔ key i = key j := by
  obtain ⟨c1, c2, c3, c4, c5⟩ := hC
  have a := c3 i hi
  have b := c3 j hj
  constructor
  · intro h; rw [a.2.1, b.2.1, h]
  · intro h
    exact c5 _ _ a.1 b.1 (by rw [← a.2.1, ← b.2.1, h])
def Cmp (k : Nat) (A B : cC) : Prop := A.1 ≤ B.1 ∧ (A.1 = B.1 → (∀ g, g < A.1 → A.2.1 g = B.2.1 g) ∧ ∀ j, j < k → A.2.2 j = B.2.2 j)
theorem stepC_cmp {kA kB : Nat → kY} {W k : Nat} {A B A' B' : cC} (hf : ∀ i j, i < W → j < W → kB i = kB j → kA i = kA j) (hk : k < W) (hA : CI kA k A) (hB : CI kB k B) (hc : Cmp k A B) (h1 : stepC kA A k = some A') (h2 : stepC kB B k = some B') : Cmp (k + 1) A' B' := by
  obtain ⟨a1, a2, a3, a4, a5⟩ := hA
  obtain ⟨b1, b2, b3, b4, b5⟩ := hB
  unfold stepC at h1 h2
  cases hl1 : lookP (fun g => decide (kA k = kA (A.2.1 g))) 0 A.1 with
  | some g =>
    rw [hl1] at h1
    simp only [Option.some.injEq] at h1
    obtain ⟨p1, p2, p3, -⟩ := lookP_some _ _ _ hl1
    have p3' := of_decide_eq_true p3
    cases hl2 : lookP (fun g => decide (kB k = kB (B.2.1 g))) 0 B.1 with
    | some g' =>
      rw [hl2] at h2
      simp only [Option.some.injEq] at h2
      obtain ⟨q1, q2, q3, -⟩ := lookP_some _ _ _ hl2
      have q3' := of_decide_eq_true q3
      subst h1; subst h2
      refine ⟨hc.1, fun e => ?_⟩
      have e' : A.1 = B.1 := e
      obtain ⟨s1, s2⟩ := hc.2 e'
      refine ⟨s1, fun j hj => ?_⟩
      show upN A.2.2 k g j = upN B.2.2 k g' j
      by_cases hjk : j = k
      · subst hjk
        rw [upNs, upNs]
        have hkB := hf j (B.2.1 g') hk (by have := (b2 g' (by omega)).1; omega) q3'
        apply a5 g g' (by omega) (by omega)
        rw [← p3', hkB, s1 g' (by omega)]
      · rw [upNn hjk, upNn hjk]; exact s2 j (by omega)
    | none =>
      rw [hl2] at h2
      by_cases h6 : B.1 < 64
      · rw [if_pos h6] at h2
        simp only [Option.some.injEq] at h2
        subst h1; subst h2
        have := hc.1
        refine ⟨by show A.1 ≤ B.1 + 1; omega, fun e => ?_⟩
        have e' : A.1 = B.1 + 1 := e
        omega
      · rw [if_neg h6] at h2; cases h2
  | none =>
    rw [hl1] at h1
    have hno := lookP_none _ _ hl1
    by_cases h6 : A.1 < 64
    · rw [if_pos h6] at h1
      simp only [Option.some.injEq] at h1
      have hnA : ∀ j, j < k → kA k ≠ kA j := by
        intro j hj e
        have := a3 j hj
        exact of_decide_eq_false (hno (A.2.2 j) (by omega) (by omega)) (by rw [e, this.2.1])
      have hl2 : lookP (fun g => decide (kB k = kB (B.2.1 g))) 0 B.1 = none := lookP_no (fun g _ hg => decide_eq_false (fun e => by
        have h5 := (b2 g (by omega)).1
        exact hnA _ h5 (hf k _ hk (by omega) e)))
      rw [hl2] at h2
      by_cases h7 : B.1 < 64
      · rw [if_pos h7] at h2
        simp only [Option.some.injEq] at h2
        subst h1; subst h2
        have := hc.1
        refine ⟨by show A.1 + 1 ≤ B.1 + 1; omega, fun e => ?_⟩
        have e' : A.1 + 1 = B.1 + 1 := e
        have e'' : A.1 = B.1 := by omega
        obtain ⟨s1, s2⟩ := hc.2 e''
        refine ⟨fun g hg => ?_, fun j hj => ?_⟩
        · have hg' : g < A.1 + 1 := hg
          show upN A.2.1 A.1 k g = upN B.2.1 B.1 k g
          by_cases hgm : g = A.1
          · rw [hgm, upNs, e'', upNs]
          · rw [upNn hgm, upNn (by omega)]; exact s1 g (by omega)
        · show upN A.2.2 k A.1 j = upN B.2.2 k B.1 j
          by_cases hjk : j = k
          · rw [hjk, upNs, upNs]; exact e''
          · rw [upNn hjk, upNn hjk]; exact s2 j (by omega)
      · rw [if_neg h7] at h2; cases h2
    · rw [if_neg h6] at h1; cases h1
theorem canE_cmp {kA kB : Nat → kY} {W : Nat} (hf : ∀ i j, i < W → j < W → kB i = kB j → kA i = kA j) : ∀ d k A B A' B', k + d = W → CI kA k A → CI kB k B → Cmp k A B → canE kA d k A = some A' → canE kB d k B = some B' → Cmp W A' B' := by
  intro d
  induction d with
  | zero =>
    intro k A B A' B' hk hA hB hc h1 h2
    cases h1; cases h2
    have : k = W := by omega
    subst this
    exact hc
  | succ d ih =>
    intro k A B A' B' hk hA hB hc h1 h2
    simp only [canE] at h1 h2
    cases hs1 : stepC kA A k with
    | none => rw [hs1] at h1; cases h1
    | some A1 =>
      cases hs2 : stepC kB B k with
      | none => rw [hs2] at h2; cases h2
      | some B1 =>
        rw [hs1] at h1
        rw [hs2] at h2
        exact ih (k + 1) A1 B1 A' B' (by omega) (stepC_inv hA hs1) (stepC_inv hB hs2) (stepC_cmp hf (by omega) hA hB hc hs1 hs2) h1 h2
theorem canE_same {kA kB : Nat → kY} {W : Nat} (hf : ∀ i j, i < W → j < W → (kB i = kB j ↔ kA i = kA j)) : ∀ d k C, k + d = W → CI kA k C → canE kA d k C = canE kB d k C := by
  intro d
  induction d with
  | zero => intro k C hk hC; rfl
  | succ d ih =>
    intro k C hk hC
    have e : stepC kA C k = stepC kB C k := by
      unfold stepC
      rw [lookP_congr (p := fun g => decide (kA k = kA (C.2.1 g))) (p' := fun g => decide (kB k = kB (C.2.1 g))) C.1 0 (fun g _ hg => by
        have := (hC.2.1 g (by omega)).1
        exact decide_eq_decide.mpr (hf k _ (by omega) (by omega)).symm)]
    simp only [canE]
    cases hs : stepC kA C k with
    | none => rw [← e, hs]; rfl
    | some C1 =>
      rw [← e, hs]
      exact ih (k + 1) C1 (by omega) (stepC_inv hC hs)
/-- a state's class and those of its four successors -/
def mkK (c nx : Nat → Nat) (k : Nat) : kY := (c k, c (nx (4 * k)), c (nx (4 * k + 1)), c (nx (4 * k + 2)), c (nx (4 * k + 3)))
/-- none: turns used up; some none: more than 64 classes -/
def rfC (nx : Nat → Nat) (W : Nat) : Nat → (Nat → Nat) → Nat → Option (Option cC)
  | 0, _, _ => none
  | f + 1, c, m => match canE (mkK c nx) W 0 c00 with
    | none => some none
    | some C => if C.1 = m then some (some C) else rfC nx W f C.2.2 C.1
theorem rfC_more {nx : Nat → Nat} {W : Nat} : ∀ f c m r, rfC nx W f c m = some r → ∀ f', f ≤ f' → rfC nx W f' c m = some r := by
  intro f
  induction f with
  | zero => intro c m r h; cases h
  | succ f ih =>
    intro c m r h f' hf'
    obtain ⟨f', rfl⟩ : ∃ j, f' = j + 1 := ⟨f' - 1, by omega⟩
    simp only [rfC] at h ⊢
    cases hc : canE (mkK c nx) W 0 c00 with
    | none => rw [hc] at h; exact h
    | some C =>
      rw [hc] at h
      simp only at h ⊢
      by_cases hm : C.1 = m
      · rw [if_pos hm] at h ⊢; exact h
      · rw [if_neg hm] at h ⊢
        exact ih _ _ _ h f' (by omega)
/-- the classes c, m many, are those of some key -/
def Prev (W : Nat) (c : Nat → Nat) (m : Nat) : Prop := ∃ (kA : Nat → kY) (A : cC), canE kA W 0 c00 = some A ∧ A.1 = m ∧ ∀ i j, i < W → j < W → (kA i = kA j ↔ c i = c j)
/-- what the joined classes are -/
def Fin9 (W : Nat) (nx : Nat → Nat) (c0 : Nat → Nat) (C : cC) : Prop :=
  ∃ key, CI key W C ∧ (∀ i j, i < W → j < W → C.2.2 i = C.2.2 j → ∀ l, l < 4 → C.2.2 (nx (4 * i + l)) = C.2.2 (nx (4 * j + l))) ∧ ∀ i j, i < W → j < W → C.2.2 i = C.2.2 j → c0 i = c0 j
theorem round_cmp {W : Nat} {nx c : Nat → Nat} {m : Nat} {C : cC} (hp : Prev W c m) (h : canE (mkK c nx) W 0 c00 = some C) : m ≤ C.1 ∧ (m = C.1 → ∀ i j, i < W → j < W → (C.2.2 i = C.2.2 j ↔ c i = c j)) := by
  obtain ⟨kA, A, a1, a2, a3⟩ := hp
  have hf : ∀ i j, i < W → j < W → mkK c nx i = mkK c nx j → kA i = kA j := by
    intro i j hi hj e
    apply (a3 i j hi hj).mpr
    exact congrArg Prod.fst e
  have hA := canE_inv W 0 c00 A ci0 a1
  rw [Nat.zero_add] at hA
  have hc := canE_cmp hf W 0 c00 c00 A C (by omega) ci0 ci0 ⟨Nat.le_refl _, fun _ => ⟨fun g _ => rfl, fun j _ => rfl⟩⟩ a1 h
  refine ⟨by have := hc.1; omega, fun e i j hi hj => ?_⟩
  have hs := (hc.2 (by omega)).2
  rw [← hs i hi, ← hs j hj, ci_iff hA hi hj]
  exact a3 i j hi hj
theorem round_prev {W : Nat} {nx c : Nat → Nat} {C : cC} (h : canE (mkK c nx) W 0 c00 = some C) : Prev W C.2.2 C.1 := by
  refine ⟨mkK c nx, C, h, rfl, fun i j hi hj => ?_⟩
  have hC := canE_inv W 0 c00 C ci0 h
  rw [Nat.zero_add] at hC
  exact (ci_iff hC hi hj).symm
theorem round_fin {W : Nat} {nx c c0 : Nat → Nat} {m : Nat} {C : cC} (hp : Prev W c m) (hnx : ∀ t, t < 4 * W → nx t < W) (h0 : ∀ i j, i < W → j < W → c i = c j → c0 i = c0 j) (h : canE (mkK c nx) W 0 c00 = some C) (hm : C.1 = m) : Fin9 W nx c0 C := by
  have hC := canE_inv W 0 c00 C ci0 h
  rw [Nat.zero_add] at hC
  have hs := (round_cmp hp h).2 hm.symm
  refine ⟨_, hC, fun i j hi hj e l hl => ?_, fun i j hi hj e => h0 i j hi hj ((hs i j hi hj).mp e)⟩
  have hk := (ci_iff hC hi hj).mp e
  apply (hs _ _ (hnx _ (by omega)) (hnx _ (by omega))).mpr
  have k0 := congrArg (fun p : kY => p.2.1) hk
  have k1 := congrArg (fun p : kY => p.2.2.1) hk
  have k2 := congrArg (fun p : kY => p.2.2.2.1) hk
  have k3 := congrArg (fun p : kY => p.2.2.2.2) hk
  have : l = 0 ∨ l = 1 ∨ l = 2 ∨ l = 3 := by omega
  rcases this with rfl | rfl | rfl | rfl
  · exact k0
  · exact k1
  · exact k2
  · exact k3
/-- 64 turns are enough -/
theorem rfC_end {W : Nat} {nx c0 : Nat → Nat} (hnx : ∀ t, t < 4 * W → nx t < W) : ∀ d c m, Prev W c m → m ≤ 64 → 65 ≤ m + d → (∀ i j, i < W → j < W → c i = c j → c0 i = c0 j) → ∃ r, rfC nx W d c m = some r ∧ ∀ C, r = some C → Fin9 W nx c0 C := by
  intro d
  induction d with
  | zero => intro c m hp h1 h2; omega
  | succ d ih =>
    intro c m hp h1 h2 h0
    simp only [rfC]
    cases hc : canE (mkK c nx) W 0 c00 with
    | none => exact ⟨none, rfl, fun C h => by cases h⟩
    | some C =>
      simp only
      have hC := canE_inv W 0 c00 C ci0 hc
      rw [Nat.zero_add] at hC
      have hm := (round_cmp hp hc).1
      by_cases e : C.1 = m
      · rw [if_pos e]
        exact ⟨some C, rfl, fun C' h => by cases h; exact round_fin hp hnx h0 hc e⟩
      · rw [if_neg e]
        refine ih C.2.2 C.1 (round_prev hc) hC.1 (by omega) (fun i j hi hj e' => h0 i j hi hj ?_)
        have hk := (ci_iff hC hi hj).mp e'
        exact congrArg Prod.fst hk
/-- whether the turns begin with 0 classes or with those of the ends -/
theorem rfC_zero {W : Nat} {nx c0 : Nat → Nat} {m0 f : Nat} {r : Option cC} (hW : 0 < W) (hnx : ∀ t, t < 4 * W → nx t < W) (hp : Prev W c0 m0) (h : rfC nx W f c0 m0 = some r) : rfC nx W (f + 1) c0 0 = some r := by
  cases f with
  | zero => cases h
  | succ f =>
    simp only [rfC] at h
    rw [rfC]
    cases hc : canE (mkK c0 nx) W 0 c00 with
    | none => rw [hc] at h; exact h
    | some C =>
      rw [hc] at h
      simp only at h ⊢
      have hC := canE_inv W 0 c00 C ci0 hc
      rw [Nat.zero_add] at hC
      have hpos : ¬ C.1 = 0 := by
        have := (hC.2.2.1 0 hW).1
        omega
      rw [if_neg hpos]
      by_cases e : C.1 = m0
      · rw [if_pos e] at h
        have hs := (round_cmp hp hc).2 e.symm
        have hsame := canE_same (kA := mkK c0 nx) (kB := mkK C.2.2 nx) (W := W) (fun i j hi hj => by
          unfold mkK
          simp only [Prod.mk.injEq]
          rw [hs i j hi hj, hs _ _ (hnx _ (by omega)) (hnx _ (by omega)), hs _ _ (hnx _ (by omega)) (hnx _ (by omega)), hs _ _ (hnx _ (by omega)) (hnx _ (by omega)), hs _ _ (hnx _ (by omega)) (hnx _ (by omega))]) W 0 c00 (by omega) ci0
        rw [rfC, ← hsame, hc]
        simp only [if_true]
        exact h
      · rw [if_neg e] at h
        exact rfC_more _ _ _ _ h _ (by omega)
/-- the classes by the ends -/
def c0E (en : Nat → Bool) (k : Nat) : Nat := if en k = true then 1 else 0
def kE (en : Nat → Bool) (k : Nat) : kY := (c0E en k, 0, 0, 0, 0)
theorem kE_iff {en : Nat → Bool} {i j : Nat} : kE en i = kE en j ↔ en i = en j := by
  unfold kE c0E
  simp only [Prod.mk.injEq, and_true]
  cases en i <;> cases en j <;> simp
theorem kE_two {en : Nat → Bool} {k : Nat} {C : cC} (hC : CI (kE en) k C) : C.1 ≤ 2 := by
  obtain ⟨c1, c2, c3, c4, c5⟩ := hC
  apply Classical.byContradiction
  intro h
  have n01 : ¬ en (C.2.1 0) = en (C.2.1 1) := fun e => by have := c5 0 1 (by omega) (by omega) (kE_iff.mpr e); omega
  have n02 : ¬ en (C.2.1 0) = en (C.2.1 2) := fun e => by have := c5 0 2 (by omega) (by omega) (kE_iff.mpr e); omega
  have n12 : ¬ en (C.2.1 1) = en (C.2.1 2) := fun e => by have := c5 1 2 (by omega) (by omega) (kE_iff.mpr e); omega
  cases h0 : en (C.2.1 0) <;> cases h1 : en (C.2.1 1) <;> cases h2 : en (C.2.1 2) <;> simp_all
theorem kE_run {en : Nat → Bool} : ∀ d k C, CI (kE en) k C → ∃ C', canE (kE en) d k C = some C' := by
  intro d
  induction d with
  | zero => intro k C hC; exact ⟨C, rfl⟩
  | succ d ih =>
    intro k C hC
    have h2 := kE_two hC
    cases hs : stepC (kE en) C k with
    | none =>
      exfalso
      unfold stepC at hs
      cases hl : lookP (fun g => decide (kE en k = kE en (C.2.1 g))) 0 C.1 with
      | some g => rw [hl] at hs; cases hs
      | none => rw [hl] at hs; simp only [if_pos (show C.1 < 64 by omega)] at hs; cases hs
    | some C1 =>
      obtain ⟨C', h⟩ := ih (k + 1) C1 (stepC_inv hC hs)
      exact ⟨C', by simp only [canE]; rw [hs]; exact h⟩
/-- how many classes by the ends -/
theorem prevE {en : Nat → Bool} {W : Nat} (hW : 0 < W) {m0 : Nat} (hm : (m0 = 1 ∧ ∀ j, j < W → en j = en 0) ∨ (m0 = 2 ∧ ∃ j, j < W ∧ en j ≠ en 0)) : Prev W (c0E en) m0 := by
  obtain ⟨A, hA⟩ := kE_run (en := en) W 0 c00 ci0
  have hC := canE_inv W 0 c00 A ci0 hA
  rw [Nat.zero_add] at hC
  refine ⟨kE en, A, hA, ?_, fun i j hi hj => ?_⟩
  · have h2 := kE_two hC
    have p0 := (hC.2.2.1 0 hW).1
    rcases hm with ⟨rfl, h⟩ | ⟨rfl, j, hj, hne⟩
    · apply Classical.byContradiction
      intro hn
      have e0 := (hC.2.1 0 (by omega)).1
      have e1 := (hC.2.1 1 (by omega)).1
      have := hC.2.2.2.2 0 1 (by omega) (by omega) (kE_iff.mpr ((h _ e0).trans (h _ e1).symm))
      omega
    · have pj := (hC.2.2.1 j hj).1
      have : A.2.2 j ≠ A.2.2 0 := fun e => hne (kE_iff.mp ((ci_iff hC hj hW).mp e))
      omega
  · rw [kE_iff]
    unfold c0E
    cases en i <;> cases en j <;> simp
