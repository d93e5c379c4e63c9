/-! STAGE 2. AUTOMATA: what stands between the two sides' languages -/
/-- acc k s: some k letters lead from s to a last state -/
def acc (go : Nat → Nat → Nat) (fin : Nat → Bool) : Nat → Nat → Bool
  | 0, s => fin s
  | k + 1, s => acc go fin k (go s 0) || acc go fin k (go s 1) || acc go fin k (go s 2) || acc go fin k (go s 3)
def WF (S : Nat) (go : Nat → Nat → Nat) : Prop := 0 < S ∧ S ≤ 64 ∧ ∀ s l, s < S → l < 4 → go s l < S
/-- the class's automaton -/
def AuC (a : Int32 × Nat × (Nat → Int32) × Int64 × (Nat → Int64)) (S : Nat) (go : Nat → Nat → Nat) (fin : Nat → Bool) : Prop :=
  a.1 = nI S ∧ a.2.1 = 4 * S ∧ (∀ s l, s < S → l < 4 → a.2.2.1 (4 * s + l) = nI (go s l)) ∧ (∀ i, i < 64 → bit a.2.2.2.1 i = (decide (i < S) && fin i)) ∧ ∀ k i, k < 64 → i < 64 → bit (a.2.2.2.2 k) i = (decide (i < S) && acc go fin k i)
/-- the reference's language i -/
def AuR (i : Nat) (mSize mGoes : Nat → Int32) (mLast : Nat → Bool) (S : Nat) (go : Nat → Nat → Nat) (fin : Nat → Bool) : Prop :=
  mSize i = nI S ∧ (∀ s l, s < S → l < 4 → mGoes (4 * (64 * i + s) + l) = nI (go s l)) ∧ ∀ s, s < S → mLast (64 * i + s) = fin s
def LangOK (q : Nat) (T : auTab) (i : Nat) (mSize mGoes : Nat → Int32) (mLast : Nat → Bool) : Prop :=
  ∃ S go fin, WF S go ∧ AuC (T q).2.2 S go fin ∧ AuR i mSize mGoes mLast S go fin
/-- the languages -/
def RelL (xLang : Nat → Option Nat) (xCount : Int32) (T : auTab) (mLanguages : Int32) (mSize mGoes : Nat → Int32) (mLast : Nat → Bool) : Prop :=
  ∃ N, N ≤ 60 ∧ xCount = nI N ∧ mLanguages = nI N ∧ (∀ i, i < N → ∃ q, xLang i = some q ∧ LangOK q T i mSize mGoes mLast) ∧ ∀ i, N ≤ i → xLang i = none
/-- the variables -/
def RelV (xLang : Nat → Option Nat) (xCount : Int32) (sAssigned : Nat → Option Nat) (mVariable : Nat → Int32) : Prop :=
  ∀ v, v < 4 → (sAssigned v = none ∧ mVariable v = -1) ∨ ∃ i q, nI i < xCount ∧ i < 60 ∧ xLang i = some q ∧ sAssigned v = some q ∧ mVariable v = nI i
/-- the bounds -/
def RelB (sLeast sMost : Nat → Int32) (sCount : Int32) (gF gL gM : Nat → Nat → Int32) (mBounds : Int32) (mFactor mLeast mMost : Nat → Int32) : Prop :=
  (∃ B, B ≤ 8 ∧ sCount = nI B ∧ mBounds = nI B ∧ ∀ b, b < B → sLeast b = mLeast b ∧ sMost b = mMost b ∧ ∀ v, v < 4 → gF b v = mFactor (4 * b + v) ∧ -100 ≤ (gF b v).toInt ∧ (gF b v).toInt ≤ 100) ∧ ∀ b, gL b 4 = 0 ∧ gM b 4 = 0
/-- the solution -/
def RelS (sKept : Bool) (sKeptLengths : Nat → Int32) (sKeptWords : Nat → Int64) (mLength : Nat → Int32) (mWord : Nat → Int64) (mKept : Bool) : Prop :=
  sKept = mKept ∧ (mKept = true → ∀ v, v < 4 → sKeptLengths v = mLength v ∧ sKeptWords v = mWord v)
def Rel (c : CCon) (T : auTab) (r : RCon) : Prop :=
  RelL c.1 c.2.1 T r.2.1 r.2.2.2.1 r.2.2.2.2.1 r.2.2.2.2.2.1 ∧
  RelV c.1 c.2.1 c.2.2.2.2.2.2.2.2.2.2.2.2.2.2.2.2.2.1 r.2.2.2.2.2.2.2.2.2.2.2.2.2.2.2.1 ∧
  RelB c.2.2.2.2.2.2.2.2.2.2.2.2.2.2.2.2.2.2.1 c.2.2.2.2.2.2.2.2.2.2.2.2.2.2.2.2.2.2.2.1 c.2.2.2.2.2.2.2.2.2.2.2.2.2.2.2.2.2.2.2.2.1 c.2.2.2.2.2.2.2.2.2.2.2.2.2.2.2.2.2.2.2.2.2.2.2.2.2.2.1 c.2.2.2.2.2.2.2.2.2.2.2.2.2.2.2.2.2.2.2.2.2.2.2.2.2.2.2.1 c.2.2.2.2.2.2.2.2.2.2.2.2.2.2.2.2.2.2.2.2.2.2.2.2.2.2.2.2 r.2.2.1 r.2.2.2.2.2.2.2.2.2.2.2.2.2.2.2.2.1 r.2.2.2.2.2.2.2.2.2.2.2.2.2.2.2.2.2.1 r.2.2.2.2.2.2.2.2.2.2.2.2.2.2.2.2.2.2.1 ∧
  RelS c.2.2.2.2.2.2.2.2.2.2.2.2.2.2.2.2.2.2.2.2.2.2.2.1 c.2.2.2.2.2.2.2.2.2.2.2.2.2.2.2.2.2.2.2.2.2.2.2.2.1 c.2.2.2.2.2.2.2.2.2.2.2.2.2.2.2.2.2.2.2.2.2.2.2.2.2.1 r.2.2.2.2.2.2.2.2.2.2.2.2.2.2.2.2.2.2.2.1 r.2.2.2.2.2.2.2.2.2.2.2.2.2.2.2.2.2.2.2.2.1 r.2.2.2.2.2.2.2.2.2.2.2.2.2.2.2.2.2.2.2.2.2.1
theorem rel0 (T : auTab) : Rel C0 T R0 := by
  refine ⟨⟨0, by omega, rfl, rfl, fun i h => absurd h (Nat.not_lt_zero _), fun i h => rfl⟩, ?_, ⟨⟨0, by omega, rfl, rfl, fun i h => absurd h (Nat.not_lt_zero _)⟩, fun b => ⟨rfl, rfl⟩⟩, ⟨rfl, fun h => by cases h⟩⟩
  intro v hv
  left
  refine ⟨rfl, ?_⟩
  have : ∀ v : Fin 4, R0.2.2.2.2.2.2.2.2.2.2.2.2.2.2.2.1 v.val = -1 := by decide
  exact this ⟨v, hv⟩
/-- an index that is a language -/
theorem langIdx {p : Int32} {N : Nat} (hN : N ≤ 60) (h0 : ¬ p < 0) (h1 : p < nI N) : ∃ i, i < N ∧ p = nI i := by
  rw [Int32.lt_iff_toInt_lt] at h0 h1
  rw [nI_int (by omega)] at h1
  have h2 : (0 : Int32).toInt = 0 := rfl
  rw [h2] at h0
  refine ⟨p.toInt.toNat, by omega, ?_⟩
  apply Int32.toInt.inj
  rw [nI_int (by omega)]
  omega
theorem nI_cases {p : Int32} (h : 0 ≤ p.toInt) : p = nI p.toInt.toNat := by
  apply Int32.toInt.inj
  have := p.toInt_lt
  rw [nI_int (by omega)]
  omega
theorem fails_f {n : Nat} {k : Int32} : f_Mo_fails n false k 0 = some (false, 0) := rfl
theorem fails_t {n : Nat} {k : Int32} (hk : k ≠ 0) : f_Mo_fails n true k 0 = some (true, k) := by
  simp [f_Mo_fails, hk]
theorem in_true {n : Nat} {a b c : Int64} (h1 : ¬ a < b) (h2 : ¬ c < a) : f_Mo_in n a b c = some true := by
  simp [f_Mo_in, h1, h2]
theorem in_eq {n : Nat} {a b c : Int64} : f_Mo_in n a b c = some (decide (b ≤ a) && decide (a ≤ c)) := by
  unfold f_Mo_in
  by_cases h1 : a < b
  · rw [if_pos h1]
    have : ¬ b ≤ a := by rw [Int64.le_iff_toInt_le]; rw [Int64.lt_iff_toInt_lt] at h1; omega
    simp [this]
  · rw [if_neg h1]
    have h3 : b ≤ a := by rw [Int64.le_iff_toInt_le]; rw [Int64.lt_iff_toInt_lt] at h1; omega
    by_cases h2 : c < a
    · rw [if_pos h2]
      have : ¬ a ≤ c := by rw [Int64.le_iff_toInt_le]; rw [Int64.lt_iff_toInt_lt] at h2; omega
      simp [this]
    · rw [if_neg h2]
      have : a ≤ c := by rw [Int64.le_iff_toInt_le]; rw [Int64.lt_iff_toInt_lt] at h2; omega
      simp [this, h3]
theorem in32 {n : Nat} {p : Int32} {a b : Int} (ha : -2147483648 ≤ a) (ha2 : a < 2147483648) (hb : -2147483648 ≤ b) (hb2 : b < 2147483648) : f_Mo_in n p.toInt64 (Int64.ofInt a) (Int64.ofInt b) = some (decide (a ≤ p.toInt) && decide (p.toInt ≤ b)) := by
  rw [in_eq]
  simp only [Int64.le_iff_toInt_le, Int32.toInt_toInt64]
  rw [Int64.toInt_ofInt_of_le (by omega) (by omega), Int64.toInt_ofInt_of_le (by omega) (by omega)]
theorem isLang_eq {n : Nat} {p : Int32} {N : Nat} (hN : N ≤ 60) : f_Mo_isLanguage n p (nI N) = some (decide (0 ≤ p.toInt) && decide (p.toInt < N)) := by
  unfold f_Mo_isLanguage
  have h1 : (nI N - 1).toInt64 = Int64.ofInt (N - 1) := by
    apply Int64.toInt.inj
    rw [Int32.toInt_toInt64, Int64.toInt_ofInt_of_le (by omega) (by omega), Int32.toInt_sub, nI_int (by omega)]
    have : (1 : Int32).toInt = 1 := rfl
    rw [this, Int.bmod_eq_of_le (by omega) (by omega)]
  rw [h1]
  have h2 : (0 : Int64) = Int64.ofInt 0 := rfl
  rw [h2, in32 (by omega) (by omega) (by omega) (by omega)]
  simp only [sb_t]
  congr 2
  simp only [decide_eq_decide]
  omega
