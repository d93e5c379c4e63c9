/-! STAGE 2. SOLVE: numbers -/
theorem add32 {x y : Int32} (h1 : -2147483648 ≤ x.toInt + y.toInt) (h2 : x.toInt + y.toInt < 2147483648) : (x + y).toInt = x.toInt + y.toInt := by
  rw [Int32.toInt_add, Int.bmod_eq_of_le (by omega) (by omega)]
theorem mul32 {x y : Int32} (h1 : -2147483648 ≤ x.toInt * y.toInt) (h2 : x.toInt * y.toInt < 2147483648) : (x * y).toInt = x.toInt * y.toInt := by
  rw [Int32.toInt_mul, Int.bmod_eq_of_le (by omega) (by omega)]
theorem sub64 {x y : Int64} (h1 : -9223372036854775808 ≤ x.toInt - y.toInt) (h2 : x.toInt - y.toInt < 9223372036854775808) : (x - y).toInt = x.toInt - y.toInt := by
  rw [Int64.toInt_sub, Int.bmod_eq_of_le (by omega) (by omega)]
theorem neg64 {x : Int64} (h1 : -9223372036854775808 < x.toInt) (h2 : x.toInt ≤ 9223372036854775807) : (-x).toInt = -x.toInt := by
  rw [Int64.toInt_neg, Int.bmod_eq_of_le (by omega) (by omega)]
theorem neg32 {x : Int32} (h1 : -2147483648 < x.toInt) : (-x).toInt = -x.toInt := by
  have := x.toInt_lt
  rw [Int32.toInt_neg, Int.bmod_eq_of_le (by omega) (by omega)]
theorem bnd {f t : Int} (h1 : -100 ≤ f) (h2 : f ≤ 100) (h3 : 0 ≤ t) (h4 : t ≤ 31) : -3100 ≤ f * t ∧ f * t ≤ 3100 := by
  constructor
  · have a : (-100) * t ≤ f * t := Int.mul_le_mul_of_nonneg_right h1 h3
    omega
  · have a : f * t ≤ 100 * t := Int.mul_le_mul_of_nonneg_right h2 h3
    omega
/-- between the ends -/
theorem mm {f t a b : Int} (h1 : a ≤ t) (h2 : t ≤ b) : (if f * b < f * a then f * b else f * a) ≤ f * t ∧ f * t ≤ (if f * a < f * b then f * b else f * a) := by
  by_cases hf : 0 ≤ f
  · have x1 : f * a ≤ f * t := Int.mul_le_mul_of_nonneg_left h1 hf
    have x2 : f * t ≤ f * b := Int.mul_le_mul_of_nonneg_left h2 hf
    split <;> split <;> omega
  · have x1 : f * t ≤ f * a := Int.mul_le_mul_of_nonpos_left (by omega) h1
    have x2 : f * b ≤ f * t := Int.mul_le_mul_of_nonpos_left (by omega) h2
    split <;> split <;> omega
theorem xor_sign {x y : Int64} (hy : 0 < y.toInt) : (0 ≤ x ^^^ y) = (0 ≤ x.toInt) := by
  apply propext
  have hm : ∀ z : Int64, (0 ≤ z.toInt) ↔ z.toBitVec.msb = false := by
    intro z
    show 0 ≤ z.toBitVec.toInt ↔ _
    rw [BitVec.msb_eq_toInt]
    simp
  rw [Int64.le_iff_toInt_le]
  show 0 ≤ (x ^^^ y).toInt ↔ _
  rw [hm, hm, Int64.toBitVec_xor, BitVec.msb_xor, (hm y).mp (by omega)]
  simp
theorem fdv {n : Nat} {x y : Int64} (hy : 0 < y.toInt) : ∃ q, f_Mt_floorDiv_J n x y = some q ∧ q.toInt = x.toInt / y.toInt := by
  have hy0 : ¬ y = 0 := by
    intro h
    rw [h] at hy
    exact absurd hy (by decide)
  have hx1 := x.le_toInt
  have hx2 := x.toInt_lt
  have hd : (x / y).toInt = x.toInt.tdiv y.toInt := by
    apply Int64.toInt_div_of_ne_right
    intro h
    rw [h] at hy
    exact absurd hy (by decide)
  have hle1 : x.toInt / y.toInt ≤ 9223372036854775807 := by
    by_cases h : 0 ≤ x.toInt
    · have := Int.ediv_le_self (a := x.toInt) y.toInt h
      omega
    · have := Int.ediv_neg_of_neg_of_pos (show x.toInt < 0 by omega) hy
      omega
  have hle2 : -9223372036854775808 ≤ x.toInt / y.toInt := by
    have : -9223372036854775808 * y.toInt ≤ x.toInt := by
      have : (-9223372036854775808 : Int) * y.toInt ≤ -9223372036854775808 * 1 := Int.mul_le_mul_of_nonpos_left (by omega) (by omega)
      omega
    exact (Int.le_ediv_iff_mul_le hy).mpr this
  unfold f_Mt_floorDiv_J
  rw [show decide (¬ y = 0) = true from decide_eq_true hy0, ogd_t]
  simp only [xor_sign hy]
  by_cases hx : 0 ≤ x.toInt
  · rw [if_pos hx]
    exact ⟨_, rfl, by rw [hd, Int.tdiv_eq_ediv_of_nonneg hx]⟩
  · rw [if_neg hx]
    have ht := Int.tdiv_eq_ediv (a := x.toInt) (b := y.toInt)
    have hs : y.toInt.sign = 1 := Int.sign_eq_one_of_pos hy
    by_cases hdv : y.toInt ∣ x.toInt
    · rw [if_pos (.inr hdv), Int.add_zero] at ht
      have he : (x / y) * y = x := by
        apply Int64.toInt.inj
        rw [Int64.toInt_mul, hd, ht, Int.ediv_mul_cancel hdv, Int.bmod_eq_of_le (by omega) (by omega)]
      rw [if_pos he]
      exact ⟨_, rfl, by rw [hd, ht]⟩
    · rw [if_neg (by rintro (h | h); exact hx h; exact hdv h), hs] at ht
      have hq : (x / y).toInt = x.toInt / y.toInt + 1 := by rw [hd, ht]
      have hne : ¬ (x / y) * y = x := by
        intro he
        apply hdv
        have h2 := congrArg Int64.toInt he
        have hmul : (x / y).toInt * y.toInt = x.toInt - x.toInt % y.toInt + y.toInt := by
          rw [hq, Int.add_mul, Int.one_mul]
          have := Int.mul_ediv_add_emod x.toInt y.toInt
          have h3 : x.toInt / y.toInt * y.toInt = y.toInt * (x.toInt / y.toInt) := Int.mul_comm _ _
          omega
        have hm1 := Int.emod_nonneg x.toInt (show y.toInt ≠ 0 by omega)
        have hm2 := Int.emod_lt_of_pos x.toInt hy
        have hpos : 0 < x.toInt % y.toInt := by
          rcases Int.lt_or_eq_of_le hm1 with h | h
          · exact h
          · exact absurd (Int.dvd_of_emod_eq_zero h.symm) hdv
        rw [Int64.toInt_mul, hmul, Int.bmod_eq_of_le (by omega) (by have := y.toInt_lt; omega)] at h2
        exact Int.dvd_of_emod_eq_zero (by omega)
      rw [if_neg hne]
      refine ⟨_, rfl, ?_⟩
      have h1 : (1 : Int64).toInt = 1 := rfl
      rw [sub64 (by rw [hq, h1]; omega) (by rw [hq, h1]; omega), hq, h1]
      omega
theorem qab {n : Nat} {x y : Int64} (hy : 0 < y.toInt) (hx1 : -4611686018427387904 ≤ x.toInt) (hx2 : x.toInt ≤ 4611686018427387904) : ∃ q, f_Se_quotientAbove n x y = some q ∧ q.toInt = -((-x.toInt) / y.toInt) := by
  have hn := neg64 (x := x) (by omega) (by omega)
  obtain ⟨q, a, b⟩ := fdv (n := n) (x := -x) hy
  refine ⟨-q, by rw [f_Se_quotientAbove, a]; rfl, ?_⟩
  rw [hn] at b
  have h1 : -x.toInt / y.toInt ≤ 4611686018427387904 := by
    by_cases h : 0 ≤ -x.toInt
    · have := Int.ediv_le_self (a := -x.toInt) y.toInt h
      omega
    · have := Int.ediv_neg_of_neg_of_pos (show -x.toInt < 0 by omega) hy
      omega
  have h2 : -4611686018427387904 ≤ -x.toInt / y.toInt := by
    have : -4611686018427387904 * y.toInt ≤ -x.toInt := by
      have : (-4611686018427387904 : Int) * y.toInt ≤ -4611686018427387904 * 1 := Int.mul_le_mul_of_nonpos_left (by omega) (by omega)
      omega
    exact (Int.le_ediv_iff_mul_le hy).mpr this
  rw [neg64 (by omega) (by omega), b]
theorem bbt {n a b : Nat} (hab : a ≤ b) (hb : b < 32) : ∃ X, f_Se_bitsBetween n (nI a) (nI b) = some X ∧ ∀ i, i < 64 → bit X i = (decide (a ≤ i) && decide (i ≤ b)) := by
  refine ⟨_, rfl, fun i hi => ?_⟩
  have hp : ∀ s : Fin 63, uN (lshl 1 (nI s.val)) = 2 ^ s.val := by decide +kernel
  have e1 : (nI b + 1) = nI (b + 1) := by rw [l1, nJ_add]
  rw [e1]
  have p1 := hp ⟨b + 1, by omega⟩
  have p2 := hp ⟨a, by omega⟩
  simp only at p1 p2
  have hle : 2 ^ a ≤ 2 ^ (b + 1) := Nat.pow_le_pow_right (by omega) (by omega)
  have hs : uN (lshl 1 (nI (b + 1)) - lshl 1 (nI a)) = (2 ^ (b + 1 - a) - 1) * 2 ^ a := by
    rw [uN_sub (by rw [p1, p2]; exact hle), p1, p2, Nat.sub_mul, ← Nat.pow_add, show b + 1 - a + a = b + 1 by omega, Nat.one_mul]
  have hb' : bit (lshl 1 (nI (b + 1)) - lshl 1 (nI a)) i = (uN (lshl 1 (nI (b + 1)) - lshl 1 (nI a))).testBit i := by
    unfold bit uN
    rw [BitVec.testBit_toNat]
  rw [hb', hs, ← Nat.shiftLeft_eq, Nat.testBit_shiftLeft, Nat.testBit_two_pow_sub_one]
  by_cases h1 : a ≤ i
  · have : (i - a < b + 1 - a) = (i ≤ b) := propext ⟨fun h => by omega, fun h => by omega⟩
    simp [h1, this]
  · simp [h1]
theorem lu5 {n m : Nat} {A : Nat → Int64} (hm : m < 32) : ∀ d K k x, k + d = m + 1 → d < K → (∀ i, i < 64 → bit x i = (decide (i < k) && bit (A i) 0)) → ∃ X, f_Au_lengthsUpTo_5 n (nI m) A K (nI k) x = some (nI (m + 1), X) ∧ ∀ i, i < 64 → bit X i = (decide (i < m + 1) && bit (A i) 0) := by
  intro d
  induction d with
  | zero =>
    intro K k x hk hK hx
    obtain ⟨K, rfl⟩ : ∃ j, K = j + 1 := ⟨K - 1, by omega⟩
    have : k = m + 1 := by omega
    subst this
    exact ⟨x, by rw [f_Au_lengthsUpTo_5, if_pos (by rw [nJ_lt (by omega) (by omega)]; omega)], hx⟩
  | succ d ih =>
    intro K k x hk hK hx
    obtain ⟨K, rfl⟩ : ∃ j, K = j + 1 := ⟨K - 1, by omega⟩
    obtain ⟨X, a, b⟩ := ih K (k + 1) (x ||| lshl (A k &&& 1) (nI k)) (by omega) (by omega) (fun i hi => by
      rw [bit_or, lshl_bit (by omega) hi, bit_and, bit_one, hx i hi]
      by_cases h : i = k
      · subst h; simp
      · have e : (i < k + 1) = (i < k) := propext ⟨fun h => by omega, fun h => by omega⟩
        by_cases h2 : k ≤ i
        · have : ¬ i - k = 0 := by omega
          simp [e, this]
        · simp [e, h2])
    refine ⟨X, ?_, b⟩
    rw [f_Au_lengthsUpTo_5, if_neg (by rw [nJ_lt (by omega) (by omega)]; omega), nI_gin (by omega) (by omega), ogd_t, nI_nat (by omega), l1, nJ_add]
    exact a
theorem lu_c {n m : Nat} {A : Nat → Int64} (hn : 64 < n) (hm : m < 32) : ∃ X, f_Au_lengthsUpTo n (nI m) A = some X ∧ ∀ i, i < 64 → bit X i = (decide (i < m + 1) && bit (A i) 0) := by
  obtain ⟨X, a, b⟩ := lu5 (n := n) (A := A) hm (m + 1) n 0 0 (by omega) (by omega) (fun i hi => by rw [bit_zero]; simp)
  exact ⟨X, by rw [f_Au_lengthsUpTo, l0, a]; rfl, b⟩
/-- the least bit alone -/
theorem low1 {x : Int64} {k : Nat} (hk : k < 64) (h1 : bit x k = true) (h2 : ∀ j, j < k → bit x j = false) : ∀ i, i < 64 → bit (x &&& -x) i = decide (i = k) := by
  have hneg : ∀ i, i < 64 → bit (-x) i = (if i < k then false else if i = k then true else !bit x i) := by
    intro i hi
    unfold bit at *
    rw [Int64.toBitVec_neg, BitVec.getLsbD_neg]
    have hex : (∃ j, j < i ∧ x.toBitVec.getLsbD j = true) ↔ k < i := by
      constructor
      · intro ⟨j, hj, hb⟩
        apply Classical.byContradiction
        intro hn
        by_cases hjk : j = k
        · omega
        · rw [h2 j (by omega)] at hb; cases hb
      · intro h; exact ⟨k, h, h1⟩
    by_cases hik : i < k
    · rw [if_pos hik, h2 i hik]
      have : ¬ ∃ j, j < i ∧ x.toBitVec.getLsbD j = true := fun h => by have := hex.mp h; omega
      simp [this, hi]
    · rw [if_neg hik]
      by_cases hik2 : i = k
      · subst hik2
        rw [if_pos rfl, h1]
        have : ¬ ∃ j, j < i ∧ x.toBitVec.getLsbD j = true := fun h => by have := hex.mp h; omega
        simp [this, hi]
      · rw [if_neg hik2]
        have : ∃ j, j < i ∧ x.toBitVec.getLsbD j = true := hex.mpr (by omega)
        simp [this, hi]
  intro i hi
  rw [bit_and, hneg i hi]
  by_cases hik : i < k
  · rw [if_pos hik]
    have : ¬ i = k := by omega
    simp [this]
  · rw [if_neg hik]
    by_cases hik2 : i = k
    · rw [if_pos hik2, hik2, h1]; simp
    · rw [if_neg hik2]; simp [hik2]
