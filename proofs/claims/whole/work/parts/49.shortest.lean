/-! STAGE 2. SETS OF STATES; THE CALL: shortest -/
theorem st6 {n S i l : Nat} {mSize mGoes : Nat → Int32} {go : Nat → Nat → Nat} {X : Int64} (hwf : WF S go) (hi : i < 60) (hz : mSize i = nI S) (hgo : ∀ s l, s < S → l < 4 → mGoes (4 * (64 * i + s) + l) = nI (go s l)) (hl : l < 4) : ∀ d k s x, s + d = S → d < k → ∃ r, f_Mo_step_6 n (nI i) X (nI l) mSize mGoes k (nI s) x = some (nI S, r) ∧ ∀ b, b < 64 → (bit r b = true ↔ bit x b = true ∨ ∃ t, s ≤ t ∧ t < S ∧ bit X t = true ∧ go t l = b) := by
  have h64 := hwf.2.1
  intro d
  induction d with
  | zero =>
    intro k s x hs hk
    obtain ⟨k, rfl⟩ : ∃ j, k = j + 1 := ⟨k - 1, by omega⟩
    have : s = S := by omega
    subst this
    refine ⟨x, by rw [f_Mo_step_6, nI_gin hi (by omega), ogd_t, nI_nat (by omega), hz, if_pos (by rw [nJ_le (by omega) (by omega)]; omega)], fun b hb => ⟨fun h => .inl h, fun h => ?_⟩⟩
    rcases h with h | ⟨t, h1, h2, -⟩
    · exact h
    · omega
  | succ d ih =>
    intro k s x hs hk
    obtain ⟨k, rfl⟩ : ∃ j, k = j + 1 := ⟨k - 1, by omega⟩
    have hsS : s < S := by omega
    have hb := hwf.2.2 s l hsS hl
    rw [f_Mo_step_6, nI_gin hi (by omega), ogd_t, nI_nat (by omega), hz, if_neg (by rw [nJ_le (by omega) (by omega)]; omega)]
    simp only [lshr1 (show s < 64 by omega), go_r h64 hi hgo hsS hl, sb_t, l1, nJ_add]
    by_cases hx : bit X s = false
    · rw [if_pos hx]
      obtain ⟨r, h1, h2⟩ := ih k (s + 1) x (by omega) (by omega)
      refine ⟨r, h1, fun b hb => (h2 b hb).trans ⟨fun h => h.imp id fun ⟨t, e1, e2⟩ => ⟨t, by omega, e2⟩, fun h => h.imp id fun ⟨t, e1, e2, e3, e4⟩ => ⟨t, ?_, e2, e3, e4⟩⟩⟩
      by_cases hts : t = s
      · subst hts; rw [hx] at e3; cases e3
      · omega
    · rw [if_neg hx]
      obtain ⟨r, h1, h2⟩ := ih k (s + 1) (x ||| lshl 1 (nI (go s l))) (by omega) (by omega)
      refine ⟨r, h1, fun b hb => (h2 b hb).trans ?_⟩
      rw [bit_set (by omega) hb, Bool.or_eq_true, decide_eq_true_eq]
      constructor
      · intro h
        rcases h with (h | h) | ⟨t, e1, e2⟩
        · exact .inl h
        · exact .inr ⟨s, by omega, hsS, by simpa using hx, h.symm⟩
        · exact .inr ⟨t, by omega, e2⟩
      · intro h
        rcases h with h | ⟨t, e1, e2, e3, e4⟩
        · exact .inl (.inl h)
        · by_cases hts : t = s
          · subst hts; exact .inl (.inr e4.symm)
          · exact .inr ⟨t, by omega, e2, e3, e4⟩
theorem st_r {n S i l : Nat} {mSize mGoes : Nat → Int32} {go : Nat → Nat → Nat} {X : Int64} (hwf : WF S go) (hi : i < 60) (hz : mSize i = nI S) (hgo : ∀ s l, s < S → l < 4 → mGoes (4 * (64 * i + s) + l) = nI (go s l)) (hl : l < 4) (hn : 64 < n) : ∃ r, f_Mo_step n (nI i) X (nI l) mSize mGoes = some r ∧ ∀ b, b < 64 → (bit r b = true ↔ ∃ t, t < S ∧ bit X t = true ∧ go t l = b) := by
  obtain ⟨r, h1, h2⟩ := st6 (n := n) (X := X) hwf hi hz hgo hl S n 0 0 (by omega) (by have := hwf.2.1; omega)
  refine ⟨r, ?_, fun b hb => (h2 b hb).trans ?_⟩
  · rw [f_Mo_step, l0, h1]; rfl
  · rw [bit_zero]
    constructor
    · intro h
      rcases h with h | ⟨t, -, h⟩
      · cases h
      · exact ⟨t, h⟩
    · intro ⟨t, h⟩; exact .inr ⟨t, by omega, h⟩
theorem ga9 {n S l : Nat} {nx : Nat → Int32} {go : Nat → Nat → Nat} {X : Int64} (hwf : WF S go) (hgo : ∀ s l, s < S → l < 4 → nx (4 * s + l) = nI (go s l)) (hl : l < 4) : ∀ d k s y x, s + d = S → d < k → (∀ j, bit y j = bit X (j + s)) → ∃ c y' r, f_Au_goAll_9 n (nI l) (nI S) (4 * S) nx k (nI s) y x = some (c, y', r) ∧ ∀ b, b < 64 → (bit r b = true ↔ bit x b = true ∨ ∃ t, s ≤ t ∧ t < S ∧ bit X t = true ∧ go t l = b) := by
  have h64 := hwf.2.1
  intro d
  induction d with
  | zero =>
    intro k s y x hs hk hy
    obtain ⟨k, rfl⟩ : ∃ j, k = j + 1 := ⟨k - 1, by omega⟩
    have : s = S := by omega
    subst this
    refine ⟨nI s, y, x, by rw [f_Au_goAll_9, if_pos (by rw [nJ_le (by omega) (by omega)]; omega)], fun b hb => ⟨fun h => .inl h, fun h => ?_⟩⟩
    rcases h with h | ⟨t, h1, h2, -⟩
    · exact h
    · omega
  | succ d ih =>
    intro k s y x hs hk hy
    obtain ⟨k, rfl⟩ : ∃ j, k = j + 1 := ⟨k - 1, by omega⟩
    have hsS : s < S := by omega
    have hb := hwf.2.2 s l hsS hl
    by_cases hy0 : y = 0
    · refine ⟨nI s, y, x, by rw [f_Au_goAll_9, if_neg (by rw [nJ_le (by omega) (by omega)]; omega), if_pos hy0], fun b hb => ⟨fun h => .inl h, fun h => ?_⟩⟩
      rcases h with h | ⟨t, h1, h2, h3, -⟩
      · exact h
      · have := hy (t - s)
        rw [hy0, bit_zero, show t - s + s = t by omega, h3] at this
        cases this
    have hy' : ∀ j, bit (lushr y (nI 1)) j = bit X (j + (s + 1)) := by
      intro j
      rw [lushr_bit (by omega), hy, show j + 1 + s = j + (s + 1) by omega]
    have e0 := hy 0
    rw [Nat.zero_add] at e0
    rw [f_Au_goAll_9, if_neg (by rw [nJ_le (by omega) (by omega)]; omega), if_neg hy0]
    simp only [and1_zero, e0, go_c h64 hgo hsS hl, sb_t, l1, nJ_add]
    by_cases hx : bit X s = false
    · rw [if_pos hx]
      obtain ⟨c, y2, r, h1, h2⟩ := ih k (s + 1) _ x (by omega) (by omega) hy'
      refine ⟨c, y2, r, h1, fun b hb => (h2 b hb).trans ⟨fun h => h.imp id fun ⟨t, e1, e2⟩ => ⟨t, by omega, e2⟩, fun h => h.imp id fun ⟨t, e1, e2, e3, e4⟩ => ⟨t, ?_, e2, e3, e4⟩⟩⟩
      by_cases hts : t = s
      · subst hts; rw [hx] at e3; cases e3
      · omega
    · rw [if_neg hx]
      obtain ⟨c, y2, r, h1, h2⟩ := ih k (s + 1) _ (x ||| lshl 1 (nI (go s l))) (by omega) (by omega) hy'
      refine ⟨c, y2, r, h1, fun b hb => (h2 b hb).trans ?_⟩
      rw [bit_set (by omega) hb, Bool.or_eq_true, decide_eq_true_eq]
      constructor
      · intro h
        rcases h with (h | h) | ⟨t, e1, e2⟩
        · exact .inl h
        · exact .inr ⟨s, by omega, hsS, by simpa using hx, h.symm⟩
        · exact .inr ⟨t, by omega, e2⟩
      · intro h
        rcases h with h | ⟨t, e1, e2, e3, e4⟩
        · exact .inl (.inl h)
        · by_cases hts : t = s
          · subst hts; exact .inl (.inr e4.symm)
          · exact .inr ⟨t, by omega, e2, e3, e4⟩
theorem ga_c {n S l : Nat} {nx : Nat → Int32} {go : Nat → Nat → Nat} {X : Int64} (hwf : WF S go) (hgo : ∀ s l, s < S → l < 4 → nx (4 * s + l) = nI (go s l)) (hl : l < 4) (hn : 64 < n) : ∃ r, f_Au_goAll n X (nI l) (nI S) (4 * S) nx = some r ∧ ∀ b, b < 64 → (bit r b = true ↔ ∃ t, t < S ∧ bit X t = true ∧ go t l = b) := by
  obtain ⟨c, y, r, h1, h2⟩ := ga9 (n := n) (X := X) hwf hgo hl S n 0 X 0 (by omega) (by have := hwf.2.1; omega) (fun j => rfl)
  refine ⟨r, ?_, fun b hb => (h2 b hb).trans ?_⟩
  · rw [f_Au_goAll, l0, h1]; rfl
  · rw [bit_zero]
    constructor
    · intro h
      rcases h with h | ⟨t, -, h⟩
      · cases h
      · exact ⟨t, h⟩
    · intro ⟨t, h⟩; exact .inr ⟨t, by omega, h⟩
theorem bit_iff {x y : Int64} (h : ∀ b, b < 64 → (bit x b = true ↔ bit y b = true)) : x = y := by
  apply bit_ext
  intro i hi
  have := h i hi
  cases h1 : bit x i <;> cases h2 : bit y i <;> simp_all
theorem hl3 {n S i : Nat} {mSize : Nat → Int32} {mLast : Nat → Bool} {fin : Nat → Bool} {X : Int64} (hS : S ≤ 64) (hi : i < 60) (hz : mSize i = nI S) (hla : ∀ s, s < S → mLast (64 * i + s) = fin s) : ∀ d k s, s + d = S → d < k → (f_Mo_hasLast_3 n (nI i) X mSize mLast k (nI s) = some (.inl true) ∧ ∃ t, s ≤ t ∧ t < S ∧ bit X t = true ∧ fin t = true) ∨ (f_Mo_hasLast_3 n (nI i) X mSize mLast k (nI s) = some (.inr (nI S)) ∧ ∀ t, s ≤ t → t < S → bit X t = true → fin t = true → False) := by
  intro d
  induction d with
  | zero =>
    intro k s hs hk
    obtain ⟨k, rfl⟩ : ∃ j, k = j + 1 := ⟨k - 1, by omega⟩
    have : s = S := by omega
    subst this
    right
    exact ⟨by rw [f_Mo_hasLast_3, nI_gin hi (by omega), ogd_t, nI_nat (by omega), hz, if_pos (by rw [nJ_le (by omega) (by omega)]; omega)], fun t h1 h2 => by omega⟩
  | succ d ih =>
    intro k s hs hk
    obtain ⟨k, rfl⟩ : ∃ j, k = j + 1 := ⟨k - 1, by omega⟩
    have hsS : s < S := by omega
    rw [f_Mo_hasLast_3, nI_gin hi (by omega), ogd_t, nI_nat (by omega), hz, if_neg (by rw [nJ_le (by omega) (by omega)]; omega)]
    simp only [lshr1 (show s < 64 by omega), il_r hi hla hsS hS, sb_t, l1, nJ_add]
    by_cases hx : bit X s = false
    · rw [if_pos hx]
      rcases ih k (s + 1) (by omega) (by omega) with ⟨h1, t, e1, e2⟩ | ⟨h1, h2⟩
      · exact .inl ⟨h1, t, by omega, e2⟩
      · refine .inr ⟨h1, fun t e1 e2 e3 e4 => ?_⟩
        by_cases hts : t = s
        · subst hts; rw [hx] at e3; cases e3
        · exact h2 t (by omega) e2 e3 e4
    · rw [if_neg hx]
      by_cases hf : fin s = true
      · rw [if_pos hf]
        exact .inl ⟨rfl, s, by omega, hsS, by simpa using hx, hf⟩
      · rw [if_neg hf]
        rcases ih k (s + 1) (by omega) (by omega) with ⟨h1, t, e1, e2⟩ | ⟨h1, h2⟩
        · exact .inl ⟨h1, t, by omega, e2⟩
        · refine .inr ⟨h1, fun t e1 e2 e3 e4 => ?_⟩
          by_cases hts : t = s
          · subst hts; exact hf e4
          · exact h2 t (by omega) e2 e3 e4
theorem hl_r {n S i : Nat} {mSize : Nat → Int32} {mLast : Nat → Bool} {fin : Nat → Bool} {X : Int64} (hS : S ≤ 64) (hi : i < 60) (hz : mSize i = nI S) (hla : ∀ s, s < S → mLast (64 * i + s) = fin s) (hn : 64 < n) : ∃ b, f_Mo_hasLast n (nI i) X mSize mLast = some b ∧ (b = true ↔ ∃ t, t < S ∧ bit X t = true ∧ fin t = true) := by
  rcases hl3 (n := n) (X := X) hS hi hz hla S n 0 (by omega) (by omega) with ⟨h1, t, e1, e2⟩ | ⟨h1, h2⟩
  · exact ⟨true, by rw [f_Mo_hasLast, l0, h1]; rfl, ⟨fun _ => ⟨t, e2⟩, fun _ => rfl⟩⟩
  · exact ⟨false, by rw [f_Mo_hasLast, l0, h1]; rfl, ⟨fun h => (by cases h), fun ⟨t, e1, e2, e3⟩ => (h2 t (by omega) e1 e2 e3).elim⟩⟩
theorem hla_c {n S : Nat} {la X : Int64} {fin : Nat → Bool} (hS : S ≤ 64) (hla : ∀ i, i < 64 → bit la i = (decide (i < S) && fin i)) : ∃ b, f_Au_hasLast n X la = some b ∧ (b = true ↔ ∃ t, t < S ∧ bit X t = true ∧ fin t = true) := by
  unfold f_Au_hasLast
  by_cases h : X &&& la = 0
  · refine ⟨false, if_pos h, ⟨fun h => (by cases h), fun ⟨t, e1, e2, e3⟩ => ?_⟩⟩
    have := congrArg (fun y => bit y t) h
    simp only [bit_and, bit_zero, e2, hla t (by omega), e1, e3, decide_true, Bool.and_self] at this
    cases this
  · refine ⟨true, if_neg h, ⟨fun _ => ?_, fun _ => rfl⟩⟩
    apply Classical.byContradiction
    intro hc
    apply h
    apply bit_ext
    intro j hj
    rw [bit_and, bit_zero, hla j hj]
    by_cases h1 : bit X j = true
    · by_cases h2 : j < S
      · by_cases h3 : fin j = true
        · exact absurd ⟨j, h2, h1, h3⟩ hc
        · simp [h3]
      · simp [h2]
    · simp [h1]
theorem php : ∀ (S K : Nat) (f : Nat → Nat), (∀ k, k < K → f k < S) → (∀ a b, a < K → b < K → f a = f b → a = b) → K ≤ S := by
  intro S
  induction S with
  | zero =>
    intro K f h1 h2
    by_cases hK : K = 0
    · omega
    · have := h1 0 (by omega); omega
  | succ S ih =>
    intro K f h1 h2
    by_cases hK : K = 0
    · omega
    · obtain ⟨K, rfl⟩ : ∃ j, K = j + 1 := ⟨K - 1, by omega⟩
      have := ih K (fun k => if f k = S then f K else f k) (by
        intro k hk
        show (if f k = S then f K else f k) < S
        have hne : f k ≠ f K := fun h => by have := h2 k K (by omega) (by omega) h; omega
        have a1 := h1 k (by omega)
        have a2 := h1 K (by omega)
        split <;> omega) (by
        intro a b ha hb
        show (if f a = S then f K else f a) = (if f b = S then f K else f b) → a = b
        have hnea : f a ≠ f K := fun h => by have := h2 a K (by omega) (by omega) h; omega
        have hneb : f b ≠ f K := fun h => by have := h2 b K (by omega) (by omega) h; omega
        intro h
        apply h2 a b (by omega) (by omega)
        by_cases hfa : f a = S
        · by_cases hfb : f b = S
          · omega
          · rw [if_pos hfa, if_neg hfb] at h; omega
        · by_cases hfb : f b = S
          · rw [if_neg hfa, if_pos hfb] at h; omega
          · rw [if_neg hfa, if_neg hfb] at h; exact h)
      omega
def Dst (go : Nat → Nat → Nat) (fin : Nat → Bool) (s k : Nat) : Prop := acc go fin k s = true ∧ ∀ t, t < k → acc go fin t s = false
theorem acc_ex {go : Nat → Nat → Nat} {fin : Nat → Bool} {k s : Nat} : acc go fin (k + 1) s = true ↔ ∃ l, l < 4 ∧ acc go fin k (go s l) = true := by
  simp only [acc, Bool.or_eq_true]
  constructor
  · intro h
    rcases h with ((h | h) | h) | h
    · exact ⟨0, by omega, h⟩
    · exact ⟨1, by omega, h⟩
    · exact ⟨2, by omega, h⟩
    · exact ⟨3, by omega, h⟩
  · intro ⟨l, hl, h⟩
    have : l = 0 ∨ l = 1 ∨ l = 2 ∨ l = 3 := by omega
    rcases this with rfl | rfl | rfl | rfl
    · exact .inl (.inl (.inl h))
    · exact .inl (.inl (.inr h))
    · exact .inl (.inr h)
    · exact .inr h
theorem dst_dn {S : Nat} {go : Nat → Nat → Nat} {fin : Nat → Bool} (hwf : WF S go) : ∀ k s, s < S → Dst go fin s k → ∀ j, j ≤ k → ∃ t, t < S ∧ Dst go fin t j := by
  intro k
  induction k with
  | zero =>
    intro s hs hd j hj
    have : j = 0 := by omega
    subst this
    exact ⟨s, hs, hd⟩
  | succ k ih =>
    intro s hs hd j hj
    by_cases hjk : j = k + 1
    · subst hjk; exact ⟨s, hs, hd⟩
    · obtain ⟨l, hl, ha⟩ := acc_ex.mp hd.1
      refine ih (go s l) (hwf.2.2 s l hs hl) ⟨ha, fun t ht => ?_⟩ j (by omega)
      have := hd.2 (t + 1) (by omega)
      rw [← Bool.not_eq_true] at this ⊢
      exact fun h => this (acc_ex.mpr ⟨l, hl, h⟩)
theorem dst_lt {S : Nat} {go : Nat → Nat → Nat} {fin : Nat → Bool} (hwf : WF S go) {k s : Nat} (hs : s < S) (hd : Dst go fin s k) : k < S := by
  have h := dst_dn hwf k s hs hd
  have h2 : ∀ j, ∃ t, j ≤ k → t < S ∧ Dst go fin t j := by
    intro j
    by_cases hj : j ≤ k
    · obtain ⟨t, ht⟩ := h j hj; exact ⟨t, fun _ => ht⟩
    · exact ⟨0, fun h => absurd h hj⟩
  have := php S (k + 1) (fun j => Classical.choose (h2 j)) (fun j hj => (Classical.choose_spec (h2 j) (by omega)).1) (by
    intro a b ha hb hab
    have e1 := (Classical.choose_spec (h2 a) (by omega)).2
    have e2 := (Classical.choose_spec (h2 b) (by omega)).2
    have hab' : Classical.choose (h2 a) = Classical.choose (h2 b) := hab
    rw [hab'] at e1
    have c1 : ¬ a < b := fun h => by have := e2.2 a h; rw [e1.1] at this; cases this
    have c2 : ¬ b < a := fun h => by have := e1.2 b h; rw [e2.1] at this; cases this
    omega)
  omega
theorem ll2 {n S : Nat} {go : Nat → Nat → Nat} {fin : Nat → Bool} {A : Nat → Int64} (hwf : WF S go) (hA : ∀ k b, k < 64 → b < 64 → bit (A k) b = (decide (b < S) && acc go fin k b)) : ∀ d k m, m + d = 64 → d < k → (∀ j, j < m → acc go fin j 0 = false) → (∃ m', m' < 64 ∧ Dst go fin 0 m' ∧ f_Au_leastLength_2 n A k (nI m) = some (.inl (nI m'))) ∨ ((∀ j, j < 64 → acc go fin j 0 = false) ∧ f_Au_leastLength_2 n A k (nI m) = some (.inr (nI 64))) := by
  intro d
  induction d with
  | zero =>
    intro k m hm hk ha
    obtain ⟨k, rfl⟩ : ∃ j, k = j + 1 := ⟨k - 1, by omega⟩
    have : m = 64 := by omega
    subst this
    exact .inr ⟨ha, by rw [f_Au_leastLength_2, l64, if_pos (by rw [nJ_le (by omega) (by omega)]; omega)]⟩
  | succ d ih =>
    intro k m hm hk ha
    obtain ⟨k, rfl⟩ : ∃ j, k = j + 1 := ⟨k - 1, by omega⟩
    rw [f_Au_leastLength_2, l64, if_neg (by rw [nJ_le (by omega) (by omega)]; omega), hl_c hwf hA (by omega), sb_t, l1, nJ_add]
    by_cases h : acc go fin m 0 = true
    · rw [if_pos h]; exact .inl ⟨m, by omega, ⟨h, ha⟩, rfl⟩
    · rw [if_neg h]
      exact ih k (m + 1) (by omega) (by omega) (fun j hj => by
        by_cases hjm : j = m
        · subst hjm; simpa using h
        · exact ha j (by omega))
theorem sh62 {n S i : Nat} {mSize mGoes : Nat → Int32} {go : Nat → Nat → Nat} {X : Int64} (hwf : WF S go) (hi : i < 60) (hz : mSize i = nI S) (hgo : ∀ s l, s < S → l < 4 → mGoes (4 * (64 * i + s) + l) = nI (go s l)) (hn : 64 < n) : ∀ d k l x, l + d = 4 → d < k → ∃ r, f_Mo_shortest_62 n X (nI i) mSize mGoes k (nI l) x = some (nI 4, r) ∧ ∀ b, b < 64 → (bit r b = true ↔ bit x b = true ∨ ∃ t l', l ≤ l' ∧ l' < 4 ∧ t < S ∧ bit X t = true ∧ go t l' = b) := by
  intro d
  induction d with
  | zero =>
    intro k l x hl hk
    obtain ⟨k, rfl⟩ : ∃ j, k = j + 1 := ⟨k - 1, by omega⟩
    have : l = 4 := by omega
    subst this
    refine ⟨x, by rw [f_Mo_shortest_62, l4, if_pos (by rw [nJ_le (by omega) (by omega)]; omega)], fun b hb => ⟨fun h => .inl h, fun h => ?_⟩⟩
    rcases h with h | ⟨t, l', h1, h2, -⟩
    · exact h
    · omega
  | succ d ih =>
    intro k l x hl hk
    obtain ⟨k, rfl⟩ : ∃ j, k = j + 1 := ⟨k - 1, by omega⟩
    obtain ⟨r0, e1, e2⟩ := st_r (n := n) (X := X) hwf hi hz hgo (show l < 4 by omega) hn
    obtain ⟨r, h1, h2⟩ := ih k (l + 1) (x ||| r0) (by omega) (by omega)
    refine ⟨r, ?_, fun b hb => (h2 b hb).trans ?_⟩
    · rw [f_Mo_shortest_62, l4, if_neg (by rw [nJ_le (by omega) (by omega)]; omega), e1, sb_t, l1, nJ_add]; exact h1
    · rw [bit_or, Bool.or_eq_true, e2 b hb]
      constructor
      · intro h
        rcases h with (h | ⟨t, h⟩) | ⟨t, l', a, h⟩
        · exact .inl h
        · exact .inr ⟨t, l, by omega, by omega, h⟩
        · exact .inr ⟨t, l', by omega, h⟩
      · intro h
        rcases h with h | ⟨t, l', a, b', h⟩
        · exact .inl (.inl h)
        · by_cases hll : l' = l
          · subst hll; exact .inl (.inr ⟨t, h⟩)
          · exact .inr ⟨t, l', by omega, b', h⟩
theorem sh33 {n S i : Nat} {mSize mGoes : Nat → Int32} {mLast : Nat → Bool} {go : Nat → Nat → Nat} {fin : Nat → Bool} (hwf : WF S go) (hi : i < 60) (hR : AuR i mSize mGoes mLast S go fin) (hn : 64 < n) : ∀ d k m X, m + d = S → d < k → (∀ j, j < m → acc go fin j 0 = false) → (∀ t, (∃ s, s < S ∧ bit X s = true ∧ acc go fin t s = true) ↔ acc go fin (m + t) 0 = true) → (∃ m', m' < S ∧ Dst go fin 0 m' ∧ f_Mo_shortest_33 n (nI i) 0 mSize mGoes mLast k (nI m) X = some (.inl (nI m', 0))) ∨ ((∀ j, j < S → acc go fin j 0 = false) ∧ ∃ y, f_Mo_shortest_33 n (nI i) 0 mSize mGoes mLast k (nI m) X = some (.inr y)) := by
  have h64 := hwf.2.1
  intro d
  induction d with
  | zero =>
    intro k m X hm hk ha hX
    obtain ⟨k, rfl⟩ : ∃ j, k = j + 1 := ⟨k - 1, by omega⟩
    have : m = S := by omega
    subst this
    exact .inr ⟨ha, _, by rw [f_Mo_shortest_33, nI_gin hi (by omega), ogd_t, nI_nat (by omega), hR.1, if_pos (by rw [nJ_le (by omega) (by omega)]; omega)]⟩
  | succ d ih =>
    intro k m X hm hk ha hX
    obtain ⟨k, rfl⟩ : ∃ j, k = j + 1 := ⟨k - 1, by omega⟩
    obtain ⟨b, e1, e2⟩ := hl_r (n := n) (X := X) h64 hi hR.1 hR.2.2 hn
    obtain ⟨r, g1, g2⟩ := sh62 (n := n) (X := X) hwf hi hR.1 hR.2.1 hn 4 n 0 0 (by omega) (by omega)
    have hb : b = true ↔ acc go fin m 0 = true := e2.trans (hX 0)
    rw [f_Mo_shortest_33, nI_gin hi (by omega), ogd_t, nI_nat (by omega), hR.1, if_neg (by rw [nJ_le (by omega) (by omega)]; omega), e1, sb_t]
    by_cases h : acc go fin m 0 = true
    · rw [if_pos (hb.mpr h)]; exact .inl ⟨m, by omega, ⟨h, ha⟩, rfl⟩
    · rw [if_neg (fun h' => h (hb.mp h')), l0, ← l0, show f_Mo_shortest_62 n X (nI i) mSize mGoes n 0 0 = some (nI 4, r) from g1, sb_t, l1, nJ_add]
      refine ih k (m + 1) r (by omega) (by omega) (fun j hj => ?_) (fun t => ?_)
      · by_cases hjm : j = m
        · subst hjm; simpa using h
        · exact ha j (by omega)
      · rw [show m + 1 + t = m + (t + 1) by omega, ← hX (t + 1)]
        constructor
        · intro ⟨s, q1, q2, q3⟩
          rcases (g2 s (by omega)).mp q2 with h' | ⟨t', l', w1, w2, w3, w4, w5⟩
          · rw [bit_zero] at h'; cases h'
          · exact ⟨t', w3, w4, acc_ex.mpr ⟨l', w2, by rw [w5]; exact q3⟩⟩
        · intro ⟨s, q1, q2, q3⟩
          obtain ⟨l, w1, w2⟩ := acc_ex.mp q3
          have := hwf.2.2 s l q1 w1
          exact ⟨go s l, this, (g2 _ (by omega)).mpr (.inr ⟨s, l, by omega, w1, q1, q2, rfl⟩), w2⟩
theorem cl_shortest {n : Nat} (hn : 64 < n) {p0 : Int32} {o : Nat → Int64} {xLang xCount T mLanguages mSize mGoes mLast} (hL : RelL xLang xCount T mLanguages mSize mGoes mLast) : ∃ u w, f_La_shortest n p0 xLang xCount T o = some u ∧ f_Mo_shortest n p0 mLanguages mSize mGoes mLast = some w ∧ ((∃ (k : Int32) (m : Unit), u = .inl (k, m) ∧ k ≠ 0 ∧ w.2 = k) ∨ ∃ (o2 : Nat → Int64) (v : Int32), u = .inr (o2, v) ∧ w.2 = 0 ∧ o2 (0 : Int32).toNatClampNeg = w.1.toInt64) := by
  obtain ⟨N, hN, rfl, rfl, hI, hE⟩ := hL
  by_cases h0 : 0 ≤ p0.toInt ∧ p0.toInt < N
  · obtain ⟨i, hi, rfl⟩ := idx h0.1 h0.2
    obtain ⟨q, hq, S, go, fin, hwf, hC, hR⟩ := hI i hi
    obtain ⟨a1, a2, a3, a4, a5⟩ := hC
    have h64 := hwf.2.1
    have hi6 : i < 60 := by omega
    have c := ll2 (n := n) hwf a5 64 n 0 (by omega) (by omega) (fun j hj => absurd hj (Nat.not_lt_zero _))
    have d := sh33 (n := n) hwf hi6 hR hn S n 0 1 (by omega) (by omega) (fun j hj => absurd hj (Nat.not_lt_zero _)) (fun t => by
      rw [Nat.zero_add]
      constructor
      · intro ⟨s, q1, q2, q3⟩
        rw [bit_one] at q2
        have : s = 0 := by simpa using q2
        subst this; exact q3
      · intro h; exact ⟨0, hwf.1, by rw [bit_one]; rfl, h⟩)
    have fin' : ∀ v : Int32, f_Au_leastLength n (T q).2.2.2.2.2.2 = some v → (∃ b, f_Mo_shortest_33 n (nI i) 0 mSize mGoes mLast n (nI 0) 1 = some b ∧ b.elim (fun r => some r) (fun x19 => some ((-1 : Int32), (0 : Int32))) = some (v, 0)) → ∃ u w, f_La_shortest n (nI i) xLang (nI N) T o = some u ∧ f_Mo_shortest n (nI i) (nI N) mSize mGoes mLast = some w ∧ ((∃ (k : Int32) (m : Unit), u = .inl (k, m) ∧ k ≠ 0 ∧ w.2 = k) ∨ ∃ (o2 : Nat → Int64) (v : Int32), u = .inr (o2, v) ∧ w.2 = 0 ∧ o2 (0 : Int32).toNatClampNeg = w.1.toInt64) := by
      intro v hv ⟨b, hb1, hb2⟩
      refine ⟨.inr (vp_updL o 0 v.toInt64, v), (v, 0), ?_, ?_, .inr ⟨_, _, rfl, rfl, rfl⟩⟩
      · simp only [f_La_shortest, f_RS_shortest, reqL hN, h0, and_self, if_true, sb_t, el_r, nI_gin hi6 (by omega), ogd_t, nI_nat (show i < 2147483648 by omega), hq, oq, hv]
        rfl
      · simp only [f_Mo_shortest, isL hN, h0, and_self, decide_true, sb_t, if_true, fails_f]
        rw [show f_Mo_shortest_33 n (nI i) 0 mSize mGoes mLast n 0 1 = some b from hb1, sb_t]
        exact hb2
    rcases c with ⟨m, hm, hd, e1⟩ | ⟨hno, e1⟩
    · rcases d with ⟨m', hm', hd', e2⟩ | ⟨hno, y, e2⟩
      · have : m' = m := by
          have c1 : ¬ m < m' := fun h => by have := hd'.2 m h; rw [hd.1] at this; cases this
          have c2 : ¬ m' < m := fun h => by have := hd.2 m' h; rw [hd'.1] at this; cases this
          omega
        subst this
        exact fin' (nI m') (by rw [f_Au_leastLength, l0, e1]; rfl) ⟨_, e2, rfl⟩
      · have := hno m (dst_lt hwf hwf.1 hd)
        rw [hd.1] at this; cases this
    · rcases d with ⟨m', hm', hd', e2⟩ | ⟨hno', y, e2⟩
      · have := hno m' (by omega)
        rw [hd'.1] at this; cases this
      · exact fin' (-1) (by rw [f_Au_leastLength, l0, e1]; rfl) ⟨_, e2, rfl⟩
  · refine ⟨.inl (1, ()), (0, 1), ?_, ?_, .inl ⟨1, _, rfl, by decide, rfl⟩⟩
    · simp [f_La_shortest, f_RS_shortest, reqL hN, h0]
    · simp [f_Mo_shortest, isL hN, h0, fails_t]
theorem ok_shortest {n : Nat} (hn : 64 < n) : sim_shortest n Rel := by
  intro c T r o p0 hR
  obtain ⟨hL, hV, hB, hS⟩ := hR
  obtain ⟨u, w, h1, h2, h3⟩ := cl_shortest hn (p0 := p0) (o := o) hL
  refine ⟨u, w, h1, h2, ?_⟩
  rcases h3 with ⟨k, m, a, b, d⟩ | ⟨o2, v, a, b, d⟩
  · exact .inl ⟨k, m, a, b, d, hL, hV, hB, hS⟩
  · exact .inr ⟨o2, v, a, b, d, hL, hV, hB, hS⟩
