/-! STAGE 2. THE CALL: automaton -/
def uN (x : Int64) : Nat := x.toBitVec.toNat
theorem uN_lt (x : Int64) : uN x < 18446744073709551616 := x.toBitVec.isLt
theorem uN_lushr {x : Int64} {s : Nat} (hs : s < 64) : uN (lushr x (nI s)) = uN x / 2 ^ s := by
  unfold uN lushr
  have h1 : (nI s).toInt64.toUInt64 &&& Int64.toUInt64 63 = ((nI s).toInt64 &&& 63).toUInt64 := rfl
  rw [h1, nI_and63 hs]
  show (x.toUInt64 >>> (Int64.ofNat s).toUInt64).toBitVec.toNat = _
  rw [UInt64.toBitVec_shiftRight]
  have h4 : ((Int64.ofNat s).toUInt64.toBitVec % 64).toNat = s := by
    have h5 : ∀ s : Fin 64, ((Int64.ofNat s.val).toUInt64.toBitVec % 64).toNat = s.val := by decide +kernel
    exact h5 ⟨s, hs⟩
  rw [BitVec.ushiftRight_eq', h4, BitVec.toNat_ushiftRight, Nat.shiftRight_eq_div_pow]
  rfl
theorem uN_and (x y : Int64) : uN (x &&& y) = uN x &&& uN y := by
  unfold uN; rw [Int64.toBitVec_and, BitVec.toNat_and]
theorem uN_add {x y : Int64} (h : uN x + uN y < 18446744073709551616) : uN (x + y) = uN x + uN y := by
  unfold uN at *; rw [Int64.toBitVec_add, BitVec.toNat_add]; omega
theorem uN_sub {x y : Int64} (h : uN y ≤ uN x) : uN (x - y) = uN x - uN y := by
  unfold uN at *; rw [Int64.toBitVec_sub, BitVec.toNat_sub_of_le (BitVec.le_def.mpr h)]
theorem uN5 : uN 6148914691236517205 = mk16 5 16 := by decide +kernel
theorem uN3 : uN 3689348814741910323 = mk16 3 16 := by decide +kernel
theorem uNf : uN 1085102592571150095 = 1085102592571150095 := by decide +kernel
theorem bitc {n : Nat} {x : Int64} : f_Ln_bitCount n x = some (nI (bc 64 (uN x))) := by
  have hX : uN x < 16 ^ 16 := by have := uN_lt x; omega
  have q1 : (1 : Int32) = nI 1 := rfl
  have q2 : (2 : Int32) = nI 2 := rfl
  have q4 : (4 : Int32) = nI 4 := rfl
  have q8 : (8 : Int32) = nI 8 := rfl
  have q16 : (16 : Int32) = nI 16 := rfl
  have q32 : (32 : Int32) = nI 32 := rfl
  simp only [f_Ln_bitCount, sb_t]
  generalize e1 : x - ((lushr x 1) &&& 6148914691236517205) = u1
  generalize e2 : (u1 &&& 3689348814741910323) + ((lushr u1 2) &&& 3689348814741910323) = u2
  generalize e3 : (u2 + lushr u2 4) &&& 1085102592571150095 = u3
  generalize e4 : u3 + lushr u3 8 = u4
  generalize e5 : u4 + lushr u4 16 = u5
  generalize e6 : u5 + lushr u5 32 = u6
  rw [q1] at e1
  rw [q2] at e2
  rw [q4] at e3
  rw [q8] at e4
  rw [q16] at e5
  rw [q32] at e6
  have n1 : uN u1 = uN x - ((uN x / 2) &&& mk16 5 16) := by
    rw [← e1, uN_sub (by rw [uN_and, uN_lushr (by omega)]; exact Nat.le_trans Nat.and_le_left (Nat.div_le_self _ _)), uN_and, uN_lushr (by omega), uN5]
  have hs := swar hX _ rfl _ rfl _ rfl _ rfl _ rfl
  obtain ⟨b3, b6, b5, b4, hfin⟩ := hs
  rw [← n1] at b3 b6 b5 b4 hfin
  have n2 : uN u2 = (uN u1 &&& mk16 3 16) + ((uN u1 / 4) &&& mk16 3 16) := by
    rw [← e2, uN_add, uN_and, uN_and, uN_lushr (by omega), uN3]
    rw [uN_and, uN_and, uN_lushr (by omega), uN3]
    exact Nat.lt_of_le_of_lt (Nat.le_add_right _ _) b3
  rw [← n2] at b3 b6 b5 b4 hfin
  have n3 : uN u3 = (uN u2 + uN u2 / 16) &&& 1085102592571150095 := by
    rw [← e3, uN_and, uN_add (by rw [uN_lushr (by omega)]; exact b3), uN_lushr (by omega), uNf]
  rw [← n3] at b6 b5 b4 hfin
  have n4 : uN u4 = uN u3 + uN u3 / 256 := by
    rw [← e4, uN_add (by rw [uN_lushr (by omega)]; exact b4), uN_lushr (by omega)]
  rw [← n4] at b6 b5 hfin
  have n5 : uN u5 = uN u4 + uN u4 / 65536 := by
    rw [← e5, uN_add (by rw [uN_lushr (by omega)]; exact b5), uN_lushr (by omega)]
  rw [← n5] at b6 hfin
  have n6 : uN u6 = uN u5 + uN u5 / 4294967296 := by
    rw [← e6, uN_add (by rw [uN_lushr (by omega)]; exact b6), uN_lushr (by omega)]
  rw [← n6] at hfin
  refine congrArg some ?_
  apply Int32.toBitVec.inj
  apply BitVec.eq_of_toNat_eq
  rw [Int32.toBitVec_and, BitVec.toNat_and, ← hfin]
  have h127 : (127 : Int32).toBitVec.toNat = 2 ^ 7 - 1 := by decide
  rw [h127, Nat.and_two_pow_sub_one_eq_mod, Int64.toBitVec_toInt32]
  unfold nI
  rw [Int32.toBitVec_ofNat', BitVec.toNat_ofNat]
  have hw : (BitVec.signExtend 32 u6.toBitVec).toNat = uN u6 % 2 ^ 32 := by
    rw [BitVec.signExtend_eq_setWidth_of_le _ (by omega), BitVec.toNat_setWidth]; rfl
  rw [hw]
  clear hfin hw n6 n5 n4 n3 n2 n1 b3 b4 b5 b6
  generalize uN u6 = y
  show y % 2 ^ 32 % 2 ^ 7 = y % 128 % 2 ^ 32
  omega
def cf (f : Nat → Bool) : Nat → Nat → Nat
  | _, 0 => 0
  | s, d + 1 => (f s).toNat + cf f (s + 1) d
theorem bc_cf {x : Int64} : ∀ d s, bc d (uN x / 2 ^ s) = cf (bit x) s d := by
  intro d
  induction d with
  | zero => intro s; rfl
  | succ d ih =>
    intro s
    simp only [bc, cf]
    rw [← ih (s + 1), Nat.div_div_eq_div_mul, ← Nat.pow_succ]
    congr 1
    have : bit x s = decide (uN x / 2 ^ s % 2 = 1) := by
      unfold bit uN
      rw [← BitVec.testBit_toNat, Nat.testBit_eq_decide_div_mod_eq]
    rw [this]
    by_cases h : uN x / 2 ^ s % 2 = 1
    · rw [h]; rfl
    · rw [decide_eq_false h]
      show _ = 0
      omega
theorem cf_S {S : Nat} {g fin : Nat → Bool} (hg : ∀ i, i < 64 → g i = (decide (i < S) && fin i)) (hS : S ≤ 64) : ∀ d s, s + d = 64 → cf g s d = cf fin s (S - s) := by
  intro d
  induction d with
  | zero =>
    intro s hs
    rw [show S - s = 0 by omega]; rfl
  | succ d ih =>
    intro s hs
    simp only [cf]
    rw [ih (s + 1) (by omega), hg s (by omega)]
    by_cases h : s < S
    · rw [show S - s = (S - (s + 1)) + 1 by omega]
      simp [cf, h]
    · rw [show S - s = 0 by omega, show S - (s + 1) = 0 by omega]
      simp [cf, h]
theorem cf_le {f : Nat → Bool} : ∀ d s, cf f s d ≤ d := by
  intro d
  induction d with
  | zero => intro s; exact Nat.le_refl _
  | succ d ih =>
    intro s
    simp only [cf]
    have := ih (s + 1)
    have : (f s).toNat ≤ 1 := by cases f s <;> decide
    omega
theorem au91 {n S i : Nat} {z : Nat → Int32} {L : Nat → Bool} {fin : Nat → Bool} (hS : S ≤ 64) (hi : i < 60) (hz : z i = nI S) (hla : ∀ s, s < S → L (64 * i + s) = fin s) : ∀ d k s v, s + d = S → d < k → f_Mo_automaton_91 n (nI i) z L k (nI s) (nI v) = some (nI S, nI (v + cf fin s d)) := by
  intro d
  induction d with
  | zero =>
    intro k s v hs hk
    obtain ⟨k, rfl⟩ : ∃ j, k = j + 1 := ⟨k - 1, by omega⟩
    have : s = S := by omega
    subst this
    rw [f_Mo_automaton_91, nI_gin hi (by omega), ogd_t, nI_nat (by omega), hz, if_pos (by rw [nJ_le (by omega) (by omega)]; omega)]
    rfl
  | succ d ih =>
    intro k s v hs hk
    obtain ⟨k, rfl⟩ : ∃ j, k = j + 1 := ⟨k - 1, by omega⟩
    rw [f_Mo_automaton_91, nI_gin hi (by omega), ogd_t, nI_nat (by omega), hz, if_neg (by rw [nJ_le (by omega) (by omega)]; omega), il_r hi hla (by omega) hS, sb_t, l1, nJ_add, nJ_add]
    simp only [cf]
    by_cases h : fin s = true
    · rw [if_pos h, ih k (s + 1) (v + 1) (by omega) (by omega), h]
      congr 3
      show v + 1 + _ = v + (1 + _)
      omega
    · have hf : fin s = false := by simpa using h
      rw [if_neg h, ih k (s + 1) v (by omega) (by omega), hf]
      congr 3
      show v + _ = v + (0 + _)
      omega
theorem nI_div4 {t : Nat} (h : t < 2147483648) : nI t / 4 = nI (t / 4) := by
  apply Int32.toInt.inj
  rw [Int32.toInt_div, nI_int h, nI_int (by omega)]
  have : (4 : Int32).toInt = 4 := rfl
  rw [this, Int.tdiv_eq_ediv_of_nonneg (by omega), Int.bmod_eq_of_le (by omega) (by omega)]
  omega
theorem reqI {n : Nat} {p b : Int32} : f_RS_requireIndex n p b = if 0 ≤ p.toInt ∧ p.toInt < b.toInt then some (.inr ()) else some (.inl ("java/lang/IndexOutOfBoundsException", ())) := by
  unfold f_RS_requireIndex
  simp only [Int32.lt_iff_toInt_lt, i0]
  by_cases h1 : p.toInt < 0
  · rw [if_pos h1, if_neg (by omega)]
  · rw [if_neg h1]
    by_cases h2 : p.toInt < b.toInt
    · rw [if_pos h2, if_pos (by omega)]
    · rw [if_neg h2, if_neg (by omega)]
theorem cl_automaton {n : Nat} (hn : 64 < n) {p0 p1 p2 : Int32} {o : Nat → Int64} {xLang xCount T mLanguages mSize mGoes mLast} (hL : RelL xLang xCount T mLanguages mSize mGoes mLast) : ∃ u w, f_La_automaton n p0 p1 p2 xLang xCount T o = some u ∧ f_Mo_automaton n p0 p1 p2 mLanguages mSize mGoes mLast = some w ∧ ((∃ (k : Int32) (m : Unit), u = .inl (k, m) ∧ k ≠ 0 ∧ w.2 = k) ∨ ∃ (o2 : Nat → Int64) (v : Int32), u = .inr (o2, v) ∧ w.2 = 0 ∧ o2 (0 : Int32).toNatClampNeg = w.1.toInt64) := by
  obtain ⟨N, hN, rfl, rfl, hI, hE⟩ := hL
  have good : ∀ v : Int32, f_RS_automaton n p0 p1 p2 xLang (nI N) T = some (.inr v) → f_Mo_automaton n p0 p1 p2 (nI N) mSize mGoes mLast = some (v, 0) → ∃ u w, f_La_automaton n p0 p1 p2 xLang (nI N) T o = some u ∧ f_Mo_automaton n p0 p1 p2 (nI N) mSize mGoes mLast = some w ∧ ((∃ (k : Int32) (m : Unit), u = .inl (k, m) ∧ k ≠ 0 ∧ w.2 = k) ∨ ∃ (o2 : Nat → Int64) (v : Int32), u = .inr (o2, v) ∧ w.2 = 0 ∧ o2 (0 : Int32).toNatClampNeg = w.1.toInt64) :=
    fun v h1 h2 => ⟨.inr (vp_updL o 0 v.toInt64, v), _, by rw [f_La_automaton, h1]; rfl, h2, .inr ⟨_, _, rfl, rfl, rfl⟩⟩
  have bad1 : f_RS_automaton n p0 p1 p2 xLang (nI N) T = some (.inl ("java/lang/IllegalArgumentException", ())) → f_Mo_automaton n p0 p1 p2 (nI N) mSize mGoes mLast = some (0, 1) → ∃ u w, f_La_automaton n p0 p1 p2 xLang (nI N) T o = some u ∧ f_Mo_automaton n p0 p1 p2 (nI N) mSize mGoes mLast = some w ∧ ((∃ (k : Int32) (m : Unit), u = .inl (k, m) ∧ k ≠ 0 ∧ w.2 = k) ∨ ∃ (o2 : Nat → Int64) (v : Int32), u = .inr (o2, v) ∧ w.2 = 0 ∧ o2 (0 : Int32).toNatClampNeg = w.1.toInt64) :=
    fun h1 h2 => ⟨.inl (1, ()), _, by rw [f_La_automaton, h1]; rfl, h2, .inl ⟨1, (), rfl, by decide, rfl⟩⟩
  have bad2 : f_RS_automaton n p0 p1 p2 xLang (nI N) T = some (.inl ("java/lang/IndexOutOfBoundsException", ())) → f_Mo_automaton n p0 p1 p2 (nI N) mSize mGoes mLast = some (0, 2) → ∃ u w, f_La_automaton n p0 p1 p2 xLang (nI N) T o = some u ∧ f_Mo_automaton n p0 p1 p2 (nI N) mSize mGoes mLast = some w ∧ ((∃ (k : Int32) (m : Unit), u = .inl (k, m) ∧ k ≠ 0 ∧ w.2 = k) ∨ ∃ (o2 : Nat → Int64) (v : Int32), u = .inr (o2, v) ∧ w.2 = 0 ∧ o2 (0 : Int32).toNatClampNeg = w.1.toInt64) :=
    fun h1 h2 => ⟨.inl (2, ()), _, by rw [f_La_automaton, h1]; rfl, h2, .inl ⟨2, (), rfl, by decide, rfl⟩⟩
  by_cases h0 : 0 ≤ p0.toInt ∧ p0.toInt < N
  · obtain ⟨i, hi, rfl⟩ := idx h0.1 h0.2
    have hi6 : i < 60 := by omega
    obtain ⟨q, hq, S, go, fin, hwf, hC, r1, r2, r3⟩ := hI i hi
    obtain ⟨a1, a2, a3, a4, a5⟩ := hC
    have h64 := hwf.2.1
    have hgi := nI_gin hi6 (show 60 ≤ 2147483648 by omega)
    have hni := nI_nat (show i < 2147483648 by omega)
    have hm : f_Mo_automaton_91 n (nI i) mSize mLast n 0 0 = some (nI S, nI (cf fin 0 S)) := by
      have := au91 (n := n) h64 hi6 r1 r3 S n 0 0 (by omega) (by omega)
      rw [Nat.zero_add] at this; exact this
    by_cases h1 : 0 ≤ p1.toInt ∧ p1.toInt ≤ 3
    · obtain ⟨m, hm4, rfl⟩ := idx (k := 4) h1.1 (by omega)
      have hm' : m = 0 ∨ m = 1 ∨ m = 2 ∨ m = 3 := by omega
      have pre : ∀ X : Option (Int32 × Int32), (f_Mo_automaton n (nI i) (nI m) p2 (nI N) mSize mGoes mLast = X) = (f_Mo_automaton n (nI i) (nI m) p2 (nI N) mSize mGoes mLast = X) := fun _ => rfl
      rcases hm' with rfl | rfl | rfl | rfl
      · refine good (nI S) ?_ ?_
        · simp only [f_RS_automaton, reqL hN, h0, and_self, if_true, sb_t, el_r, hgi, ogd_t, hni, hq, oq, a1, show nI 0 = (0 : Int32) from rfl]
        · simp only [f_Mo_automaton, Bool.false_eq_true, if_false, isL hN, h0, and_self, decide_true, sb_t, if_true, in03, h1, fails_f, hm, hgi, ogd_t, hni, r1, show nI 0 = (0 : Int32) from rfl, show ((0 : Int32) ≤ 1) = True from by decide]
          rfl
      · refine good (nI (cf fin 0 S)) ?_ ?_
        · simp only [f_RS_automaton, reqL hN, h0, and_self, if_true, sb_t, el_r, hgi, ogd_t, hni, hq, oq, bitc]
          have e0 := bc_cf (x := (T q).2.2.2.2.2.1) 64 0
          rw [Nat.pow_zero, Nat.div_one] at e0
          rw [e0, cf_S a4 h64 64 0 (by omega)]
          rfl
        · simp only [f_Mo_automaton, Bool.false_eq_true, if_false, isL hN, h0, and_self, decide_true, sb_t, if_true, in03, h1, fails_f, hm]
          rfl
      · by_cases h2 : 0 ≤ p2.toInt ∧ p2.toInt < 4 * S
        · obtain ⟨t, ht, rfl⟩ := idx (k := 4 * S) h2.1 (by omega)
          have et : t = 4 * (t / 4) + t % 4 := by omega
          have hdiv := nI_div4 (show t < 2147483648 by omega)
          have hsub : nI t - nI (t / 4) * 4 = nI (t % 4) := by rw [l4, nI_mul, nI_sub (by omega)]; congr 1; omega
          refine good (nI (go (t / 4) (t % 4))) ?_ ?_
          · simp only [f_RS_automaton, reqL hN, h0, and_self, if_true, sb_t, el_r, hgi, ogd_t, hni, hq, oq, show (nI 2 = (0 : Int32)) = False from by decide, show (nI 2 = (1 : Int32)) = False from by decide, show (nI 2 = (2 : Int32)) = True from by decide, if_false, reqI, a1, l4, nI_mul, nI_int (show 4 * S < 2147483648 by omega), nI_int (show t < 2147483648 by omega), a2, nI_gin ht (by omega), nI_nat (show t < 2147483648 by omega)]
            rw [if_pos (by omega)]
            rw [sb_t, el_r]
            rw [show (T q).2.2.2.2.1 t = nI (go (t / 4) (t % 4)) from by rw [← a3 (t / 4) (t % 4) (by omega) (by omega), ← et]]
          · simp only [f_Mo_automaton, Bool.false_eq_true, if_false, isL hN, h0, and_self, decide_true, sb_t, if_true, in03, h1, fails_f, show (nI 2 ≤ (1 : Int32)) = False from by decide, show (nI 2 = (0 : Int32)) = False from by decide, show (nI 2 = (1 : Int32)) = False from by decide, show (nI 2 = (2 : Int32)) = True from by decide, if_false, hgi, ogd_t, hni, r1, hdiv, hm]
            rw [if_neg (by rw [l0, nJ_lt (by omega) (by omega)]; omega), if_pos (by rw [nJ_lt (by omega) (by omega)]; omega), hsub, go_r h64 hi6 r2 (by omega) (by omega)]
            rfl
        · refine bad2 ?_ ?_
          · simp only [f_RS_automaton, reqL hN, h0, and_self, if_true, sb_t, el_r, hgi, ogd_t, hni, hq, oq, show (nI 2 = (0 : Int32)) = False from by decide, show (nI 2 = (1 : Int32)) = False from by decide, show (nI 2 = (2 : Int32)) = True from by decide, if_false, reqI, a1, l4, nI_mul, nI_int (show 4 * S < 2147483648 by omega)]
            rw [if_neg (by omega)]
            rfl
          · simp only [f_Mo_automaton, Bool.false_eq_true, if_false, isL hN, h0, and_self, decide_true, sb_t, if_true, in03, h1, fails_f, show (nI 2 ≤ (1 : Int32)) = False from by decide, show (nI 2 = (0 : Int32)) = False from by decide, show (nI 2 = (1 : Int32)) = False from by decide, show (nI 2 = (2 : Int32)) = True from by decide, if_false, hgi, ogd_t, hni, r1, hm, fails_t (show (2 : Int32) ≠ 0 by decide)]
            by_cases h3 : p2 < 0
            · rw [if_pos h3]
            · rw [if_neg h3]
              have h4 : 0 ≤ p2.toInt := by rw [Int32.lt_iff_toInt_lt, i0] at h3; omega
              have hlt := p2.toInt_lt
              have e := nI_cases h4
              rw [e, nI_div4 (by omega), if_neg (by rw [nJ_lt (by omega) (by omega)]; omega)]
      · by_cases h2 : 0 ≤ p2.toInt ∧ p2.toInt < S
        · obtain ⟨t, ht, rfl⟩ := idx (k := S) h2.1 (by omega)
          have key : ∀ b : Bool, fin t = b → f_RS_automaton n (nI i) (nI 3) (nI t) xLang (nI N) T = some (.inr (if b = true then 1 else 0)) ∧ f_Mo_automaton n (nI i) (nI 3) (nI t) (nI N) mSize mGoes mLast = some ((if b = true then 1 else 0), 0) := by
            intro b hb
            constructor
            · simp only [f_RS_automaton, reqL hN, h0, and_self, if_true, sb_t, el_r, hgi, ogd_t, hni, hq, oq, show (nI 3 = (0 : Int32)) = False from by decide, show (nI 3 = (1 : Int32)) = False from by decide, show (nI 3 = (2 : Int32)) = False from by decide, show (nI 3 = (3 : Int32)) = True from by decide, if_false, reqI, a1, nI_int (show S < 2147483648 by omega), nI_int (show t < 2147483648 by omega)]
              rw [if_pos (by omega), sb_t, el_r, il_c a4 ht h64, sb_t, hb]
              cases b <;> rfl
            · simp only [f_Mo_automaton, Bool.false_eq_true, if_false, isL hN, h0, and_self, decide_true, sb_t, if_true, in03, h1, fails_f, show (nI 3 ≤ (1 : Int32)) = False from by decide, show (nI 3 = (0 : Int32)) = False from by decide, show (nI 3 = (1 : Int32)) = False from by decide, show (nI 3 = (2 : Int32)) = False from by decide, if_false, hgi, ogd_t, hni, r1, hm, il_r hi6 r3 ht h64]
              rw [if_neg (by rw [l0, nJ_lt (by omega) (by omega)]; omega), if_pos (by rw [nJ_lt (by omega) (by omega)]; omega), hb]
              cases b <;> rfl
          obtain ⟨k1, k2⟩ := key (fin t) rfl
          exact good _ k1 k2
        · refine bad2 ?_ ?_
          · simp only [f_RS_automaton, reqL hN, h0, and_self, if_true, sb_t, el_r, hgi, ogd_t, hni, hq, oq, show (nI 3 = (0 : Int32)) = False from by decide, show (nI 3 = (1 : Int32)) = False from by decide, show (nI 3 = (2 : Int32)) = False from by decide, show (nI 3 = (3 : Int32)) = True from by decide, if_false, reqI, a1, nI_int (show S < 2147483648 by omega)]
            rw [if_neg (by omega)]
            rfl
          · simp only [f_Mo_automaton, Bool.false_eq_true, if_false, isL hN, h0, and_self, decide_true, sb_t, if_true, in03, h1, fails_f, show (nI 3 ≤ (1 : Int32)) = False from by decide, show (nI 3 = (0 : Int32)) = False from by decide, show (nI 3 = (1 : Int32)) = False from by decide, show (nI 3 = (2 : Int32)) = False from by decide, if_false, hgi, ogd_t, hni, r1, hm, fails_t (show (2 : Int32) ≠ 0 by decide)]
            by_cases h3 : p2 < 0
            · rw [if_pos h3]
            · rw [if_neg h3]
              have h4 : 0 ≤ p2.toInt := by rw [Int32.lt_iff_toInt_lt, i0] at h3; omega
              rw [if_neg (by rw [Int32.lt_iff_toInt_lt, nI_int (by omega)]; omega)]
    · have ne : ∀ m, m < 4 → p1 ≠ nI m := by
        intro m hm4 h
        subst h
        rw [nI_int (by omega)] at h1
        omega
      refine bad1 ?_ ?_
      · simp only [f_RS_automaton, reqL hN, h0, and_self, if_true, sb_t, el_r, hgi, ogd_t, hni, hq, oq, l0, l1, l2, l3, ne 0 (by omega), ne 1 (by omega), ne 2 (by omega), ne 3 (by omega), if_false]
      · simp only [f_Mo_automaton, Bool.false_eq_true, if_false, isL hN, h0, and_self, decide_true, sb_t, if_true, in03, h1, decide_false, fails_t (show (1 : Int32) ≠ 0 by decide)]
  · refine bad1 ?_ ?_
    · simp only [f_RS_automaton, reqL hN, h0, if_false, sb_t, el_l]
    · simp only [f_Mo_automaton, Bool.false_eq_true, if_false, isL hN, h0, decide_false, sb_t, fails_t (show (1 : Int32) ≠ 0 by decide)]
      rfl
theorem ok_automaton {n : Nat} (hn : 64 < n) : sim_automaton n Rel := by
  intro c T r o p0 p1 p2 hR
  obtain ⟨hL, hV, hB, hS⟩ := hR
  obtain ⟨u, w, h1, h2, h3⟩ := cl_automaton hn (p0 := p0) (p1 := p1) (p2 := p2) (o := o) hL
  refine ⟨u, w, h1, h2, ?_⟩
  rcases h3 with ⟨k, m, a, b, d⟩ | ⟨o2, v, a, b, d⟩
  · exact .inl ⟨k, m, a, b, d, hL, hV, hB, hS⟩
  · exact .inr ⟨o2, v, a, b, d, hL, hV, hB, hS⟩
