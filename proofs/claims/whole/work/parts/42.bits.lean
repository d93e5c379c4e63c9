/-! STAGE 2. NUMBERS: nI's arithmetic, bits of a long -/
theorem nI_int {a : Nat} (h : a < 2147483648) : (nI a).toInt = a := by
  unfold nI
  exact Int32.toInt_ofNat_of_lt h
theorem nI_nat {a : Nat} (h : a < 2147483648) : (nI a).toNatClampNeg = a := by
  show (nI a).toInt.toNat = a
  rw [nI_int h]; rfl
theorem nJ_add {a b : Nat} : nI a + nI b = nI (a + b) := by
  unfold nI; rw [Int32.ofNat_add]
theorem nI_mul {a b : Nat} : nI a * nI b = nI (a * b) := by
  unfold nI; rw [Int32.ofNat_mul]
theorem nI_sub {a b : Nat} (h : b ≤ a) : nI a - nI b = nI (a - b) := by
  unfold nI; rw [Int32.ofNat_sub _ _ h]
theorem nJ_lt {a b : Nat} (ha : a < 2147483648) (hb : b < 2147483648) : (nI a < nI b) = (a < b) := by
  rw [Int32.lt_iff_toInt_lt, nI_int ha, nI_int hb]; simp
theorem nJ_le {a b : Nat} (ha : a < 2147483648) (hb : b < 2147483648) : (nI a ≤ nI b) = (a ≤ b) := by
  rw [Int32.le_iff_toInt_le, nI_int ha, nI_int hb]; simp
theorem nJ_eq {a b : Nat} (ha : a < 2147483648) (hb : b < 2147483648) : (nI a = nI b) = (a = b) := by
  apply propext
  constructor
  · intro h
    have h1 := congrArg Int32.toInt h
    rw [nI_int ha, nI_int hb] at h1
    omega
  · intro h; rw [h]
theorem nI_gin {a n : Nat} (h : a < n) (hn : n ≤ 2147483648) : gin (nI a) n = true := by
  unfold gin
  rw [nI_int (by omega)]
  simp; omega
theorem ogd_t {α : Type} {x : Option α} : ogd true x = x := rfl
theorem sb_t {α β : Type} {x : α} {f : α → Option β} : (some x).bind f = f x := rfl
theorem el_l {α β γ : Type} {x : α} {f : α → γ} {g : β → γ} : (Sum.inl x : α ⊕ β).elim f g = f x := rfl
theorem el_r {α β γ : Type} {x : β} {f : α → γ} {g : β → γ} : (Sum.inr x : α ⊕ β).elim f g = g x := rfl
theorem l0 : (0 : Int32) = nI 0 := rfl
theorem l1 : (1 : Int32) = nI 1 := rfl
theorem l2 : (2 : Int32) = nI 2 := rfl
theorem l3 : (3 : Int32) = nI 3 := rfl
theorem l4 : (4 : Int32) = nI 4 := rfl
theorem l8 : (8 : Int32) = nI 8 := rfl
theorem l31 : (31 : Int32) = nI 31 := rfl
theorem l60 : (60 : Int32) = nI 60 := rfl
theorem l64 : (64 : Int32) = nI 64 := rfl
theorem l256 : (256 : Int32) = nI 256 := rfl
theorem l800 : (800 : Int32) = nI 800 := rfl
theorem l2048 : (2048 : Int32) = nI 2048 := rfl
theorem l4096 : (4096 : Int32) = nI 4096 := rfl
theorem nI_long {a : Nat} (h : a < 2147483648) : (nI a).toInt64 = Int64.ofNat a := by
  apply Int64.toInt.inj
  rw [Int32.toInt_toInt64, nI_int h, Int64.toInt_ofNat_of_lt (by omega)]
/-- bit i of a long -/
def bit (x : Int64) (i : Nat) : Bool := x.toBitVec.getLsbD i
theorem bit_ext {x y : Int64} (h : ∀ i, i < 64 → bit x i = bit y i) : x = y := by
  apply Int64.toBitVec.inj
  apply BitVec.eq_of_getLsbD_eq
  intro i hi
  exact h i hi
theorem bit_zero (i : Nat) : bit 0 i = false := by
  unfold bit; simp
theorem bit_one (i : Nat) : bit 1 i = decide (i = 0) := by
  unfold bit; simp
theorem bit_or (x y : Int64) (i : Nat) : bit (x ||| y) i = (bit x i || bit y i) := by
  unfold bit; simp
theorem bit_and (x y : Int64) (i : Nat) : bit (x &&& y) i = (bit x i && bit y i) := by
  unfold bit; simp
theorem bit_xor (x y : Int64) (i : Nat) : bit (x ^^^ y) i = (bit x i ^^ bit y i) := by
  unfold bit; simp
theorem bit_m1 {i : Nat} (hi : i < 64) : bit (-1) i = true := by
  unfold bit
  have : ((-1 : Int64).toBitVec) = BitVec.allOnes 64 := by decide
  rw [this, BitVec.getLsbD_allOnes]; simpa using hi
theorem bit_ge {x : Int64} {i : Nat} (hi : 64 ≤ i) : bit x i = false := by
  unfold bit; exact BitVec.getLsbD_of_ge _ _ hi
theorem nI_and63 {s : Nat} (hs : s < 64) : (nI s).toInt64 &&& 63 = Int64.ofNat s := by
  rw [nI_long (by omega)]
  apply Int64.toBitVec.inj
  apply BitVec.eq_of_toNat_eq
  simp only [Int64.toBitVec_and, Int64.toBitVec_ofNat', BitVec.toNat_and, BitVec.toNat_ofNat]
  have : (63 : Int64).toBitVec.toNat = 2 ^ 6 - 1 := by decide
  rw [this, Nat.and_two_pow_sub_one_eq_mod]; omega
theorem sm64 : ∀ s : Fin 64, ((Int64.ofNat s.val).toBitVec.smod 64).toNat = s.val := by decide +kernel
theorem lshl_bit {x : Int64} {s i : Nat} (hs : s < 64) (hi : i < 64) : bit (lshl x (nI s)) i = (decide (s ≤ i) && bit x (i - s)) := by
  unfold lshl
  rw [nI_and63 hs]
  unfold bit
  rw [Int64.toBitVec_shiftLeft]
  have h2 := sm64 ⟨s, hs⟩
  simp only at h2
  rw [BitVec.shiftLeft_eq', h2, BitVec.getLsbD_shiftLeft]
  by_cases h : s ≤ i
  · have : ¬ i < s := by omega
    simp [h, this, hi]
  · have : i < s := by omega
    simp [h, this]
theorem lshr_bit {x : Int64} {s i : Nat} (hs : s < 64) (hi : i + s < 64) : bit (lshr x (nI s)) i = bit x (i + s) := by
  unfold lshr
  rw [nI_and63 hs]
  unfold bit
  rw [Int64.toBitVec_shiftRight]
  have h2 := sm64 ⟨s, hs⟩
  simp only at h2
  rw [BitVec.sshiftRight_eq', h2, BitVec.getLsbD_sshiftRight]
  have : ¬ 64 ≤ i := by omega
  have h3 : s + i < 64 := by omega
  simp [this, h3, Nat.add_comm]
theorem lushr_bit {x : Int64} {s i : Nat} (hs : s < 64) : bit (lushr x (nI s)) i = bit x (i + s) := by
  unfold lushr bit
  have h1 : (nI s).toInt64.toUInt64 &&& Int64.toUInt64 63 = ((nI s).toInt64 &&& 63).toUInt64 := by
    rfl
  rw [h1, nI_and63 hs]
  have h3 : ((x.toUInt64 >>> (Int64.ofNat s).toUInt64).toInt64).toBitVec = x.toBitVec >>> s := by
    show (x.toUInt64 >>> (Int64.ofNat s).toUInt64).toBitVec = _
    rw [UInt64.toBitVec_shiftRight]
    have h4 : ((Int64.ofNat s).toUInt64.toBitVec % 64).toNat = s := by
      have h5 : ∀ s : Fin 64, ((Int64.ofNat s.val).toUInt64.toBitVec % 64).toNat = s.val := by decide +kernel
      exact h5 ⟨s, hs⟩
    rw [BitVec.ushiftRight_eq', h4]
    simp
  rw [h3, BitVec.getLsbD_ushiftRight, Nat.add_comm]
theorem and1_zero {x : Int64} : (x &&& 1 = 0) = (bit x 0 = false) := by
  apply propext
  constructor
  · intro h
    have := congrArg (fun y => bit y 0) h
    simp only [bit_and, bit_one, bit_zero] at this
    simpa using this
  · intro h
    apply bit_ext
    intro i hi
    rw [bit_and, bit_one, bit_zero]
    by_cases h0 : i = 0
    · subst h0; simp [h]
    · simp [h0]
theorem lshr1 {x : Int64} {s : Nat} (hs : s < 64) : (lshr x (nI s) &&& 1 = 0) = (bit x s = false) := by
  rw [and1_zero, lshr_bit hs (by omega)]; simp
theorem lushr1 {x : Int64} {s : Nat} (hs : s < 64) : (lushr x (nI s) &&& 1 = 0) = (bit x s = false) := by
  rw [and1_zero, lushr_bit hs]; simp
theorem bit_set {x : Int64} {s i : Nat} (hs : s < 64) (hi : i < 64) : bit (x ||| lshl 1 (nI s)) i = (bit x i || decide (i = s)) := by
  rw [bit_or, lshl_bit hs hi, bit_one]
  congr 1
  by_cases h : i = s
  · subst h; simp
  · by_cases h2 : s ≤ i
    · have : ¬ i - s = 0 := by omega
      simp [h, h2, this]
    · simp [h, h2]
theorem bit_nz {x : Int64} : (x = 0) = (∀ i, i < 64 → bit x i = false) := by
  apply propext
  constructor
  · intro h i hi; rw [h, bit_zero]
  · intro h; apply bit_ext; intro i hi; rw [h i hi, bit_zero]
