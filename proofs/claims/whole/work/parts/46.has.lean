/-! STAGE 2. THE CALLS: has, words -/
theorem a3 (x : Int32) : ∃ l, l < 4 ∧ x &&& 3 = nI l := by
  refine ⟨(x &&& 3).toBitVec.toNat, ?_, ?_⟩
  · rw [Int32.toBitVec_and, BitVec.toNat_and]
    have : (3 : Int32).toBitVec.toNat = 2 ^ 2 - 1 := by decide
    rw [this, Nat.and_two_pow_sub_one_eq_mod]; omega
  · apply Int32.toBitVec.inj
    unfold nI
    rw [Int32.toBitVec_ofNat']
    simp
theorem dn1 (d : Nat) : nI (d + 1) + (-1) = nI d := by
  have : nI (d + 1) = nI d + 1 := by rw [l1, nJ_add]
  rw [this, Int32.add_assoc]
  have : (1 : Int32) + -1 = 0 := by decide
  rw [this, Int32.add_zero]
theorem dn0 : nI 0 + (-1) < 0 := by decide
theorem sub1 (x : Int32) : x - 1 = x + (-1) := Int32.sub_eq_add_neg _ _
theorem nI_nn {a : Nat} (h : a < 2147483648) : ¬ nI a < 0 := by
  rw [l0, nJ_lt h (by omega)]; omega
theorem hasloop {n S i nl : Nat} {nx mGoes : Nat → Int32} {go : Nat → Nat → Nat} {w : Int64} (hwf : WF S go) (hi : i < 60) (hc : ∀ s l, s < S → l < 4 → nx (4 * s + l) = nI (go s l)) (hr : ∀ s l, s < S → l < 4 → mGoes (4 * (64 * i + s) + l) = nI (go s l)) : ∀ d k s, d < k → d < 2147483648 → s < S → ∃ s', s' < S ∧ f_Au_accepts_8 n w (4 * S) nx k (nI d + (-1)) (nI s) = some (nI 0 + (-1), nI s') ∧ f_Mo_has_63 n (nI i) w mGoes k (nI d + (-1)) (nI s) = some (nI 0 + (-1), nI s') := by
  intro d
  induction d with
  | zero =>
    intro k s hk hd hs
    obtain ⟨k, rfl⟩ : ∃ j, k = j + 1 := ⟨k - 1, by omega⟩
    refine ⟨s, hs, ?_, ?_⟩
    · rw [f_Au_accepts_8, if_pos dn0]
    · rw [f_Mo_has_63, if_pos dn0]
  | succ d ih =>
    intro k s hk hd hs
    obtain ⟨k, rfl⟩ : ∃ j, k = j + 1 := ⟨k - 1, by omega⟩
    rw [dn1]
    obtain ⟨l, hl, he⟩ := a3 ((lshr w (2 * nI d)).toInt32)
    obtain ⟨s', h1, h2, h3⟩ := ih k (go s l) (by omega) (by omega) (hwf.2.2 s l hs hl)
    refine ⟨s', h1, ?_, ?_⟩
    · rw [f_Au_accepts_8, if_neg (nI_nn (by omega)), he, go_c hwf.2.1 hc hs hl, sb_t]; exact h2
    · rw [f_Mo_has_63, if_neg (nI_nn (by omega)), he, go_r hwf.2.1 hi hr hs hl, sb_t]; exact h3
theorem lshl1 : ∀ s : Fin 63, (lshl 1 (nI s.val)).toInt = 2 ^ s.val := by decide +kernel
theorem lshr_int {w : Int64} {s : Nat} (hs : s < 64) : (lshr w (nI s)).toInt = w.toInt / 2 ^ s := by
  unfold lshr
  rw [nI_and63 hs]
  show (w >>> Int64.ofNat s).toBitVec.toInt = _
  rw [Int64.toBitVec_shiftRight]
  have h2 := sm64 ⟨s, hs⟩
  simp only at h2
  rw [BitVec.sshiftRight_eq', h2, BitVec.toInt_sshiftRight, Int.shiftRight_eq_div_pow]
  simp
theorem okword {w : Int64} {s : Nat} (hs : s < 63) (hw : ¬ w < 0) : (lshr w (nI s) = 0) ↔ w ≤ lshl 1 (nI s) - 1 := by
  have h9 := lshl1 ⟨s, hs⟩
  simp only at h9
  rw [Int64.le_iff_toInt_le, Int64.toInt_sub, h9]
  have h1 : (1 : Int64).toInt = 1 := rfl
  have h2 : (0 : Int64).toInt = 0 := rfl
  rw [Int64.lt_iff_toInt_lt, h2] at hw
  have hp : (0 : Int) < 2 ^ s := Int.pow_pos (by omega)
  have hp2 : (2 : Int) ^ s ≤ 2 ^ 62 := by
    have : (2 : Nat) ^ s ≤ 2 ^ 62 := Nat.pow_le_pow_right (by omega) (by omega)
    exact_mod_cast this
  rw [h1, Int.bmod_eq_of_le (by omega) (by omega)]
  constructor
  · intro h
    have h3 := congrArg Int64.toInt h
    rw [lshr_int (by omega), h2] at h3
    have h4 := Int.mul_ediv_add_emod w.toInt (2 ^ s)
    have h5 := Int.emod_lt_of_pos w.toInt hp
    rw [h3] at h4
    omega
  · intro h
    apply Int64.toInt.inj
    rw [lshr_int (by omega), h2]
    exact Int.ediv_eq_zero_of_lt (by omega) (by omega)
theorem cl_has {n : Nat} (hn : 64 < n) {p0 p1 : Int32} {p2 : Int64} {o : Nat → Int64} {xLang xCount T mLanguages mSize mGoes mLast} (hL : RelL xLang xCount T mLanguages mSize mGoes mLast) : ∃ u w, f_La_has n p0 p1 p2 xLang xCount T o = some u ∧ f_Mo_has n p0 p1 p2 mLanguages mGoes mLast = some w ∧ ((∃ (k : Int32) (m : Unit), u = .inl (k, m) ∧ k ≠ 0 ∧ w.2 = k) ∨ ∃ (o2 : Nat → Int64) (v : Bool), u = .inr (o2, v) ∧ w.2 = 0 ∧ o2 (0 : Int32).toNatClampNeg = (if w.1 = true then 1 else 0)) := by
  obtain ⟨c0, c3, c31, -⟩ := c03
  obtain ⟨N, hN, rfl, rfl, hI, hE⟩ := hL
  have bad : f_La_has n p0 p1 p2 xLang (nI N) T o = some (.inl (1, ())) → f_Mo_has n p0 p1 p2 (nI N) mGoes mLast = some (false, 1) → ∃ u w, f_La_has n p0 p1 p2 xLang (nI N) T o = some u ∧ f_Mo_has n p0 p1 p2 (nI N) mGoes mLast = some w ∧ ((∃ (k : Int32) (m : Unit), u = .inl (k, m) ∧ k ≠ 0 ∧ w.2 = k) ∨ ∃ (o2 : Nat → Int64) (v : Bool), u = .inr (o2, v) ∧ w.2 = 0 ∧ o2 (0 : Int32).toNatClampNeg = (if w.1 = true then 1 else 0)) :=
    fun h1 h2 => ⟨_, _, h1, h2, .inl ⟨1, (), rfl, by decide, rfl⟩⟩
  by_cases h0 : 0 ≤ p0.toInt ∧ p0.toInt < N
  · by_cases h1 : 0 ≤ p1.toInt ∧ p1.toInt ≤ 31
    · obtain ⟨i, hi, rfl⟩ := idx h0.1 h0.2
      obtain ⟨m, hm, rfl⟩ := idx (k := 32) h1.1 (by omega)
      have e2 : (2 : Int32) * nI m = nI (2 * m) := by rw [l2, nI_mul]
      by_cases h2 : p2 < 0
      · refine bad ?_ ?_
        · simp [f_La_has, f_RS_has, reqL hN, h0, reqB, c0, c31, h1, h2]
        · have h3 : ¬ 0 ≤ p2 := by
            rw [Int64.le_iff_toInt_le]; rw [Int64.lt_iff_toInt_lt] at h2; omega
          have h7 : f_Mo_in n p2 0 (lshl 1 (nI (2 * m)) - 1) = some false := by rw [in_eq]; simp [h3]
          simp [f_Mo_has, isL hN, h0, in031, h1, e2, h7, fails_t]
      · have h3 : 0 ≤ p2 := by
          rw [Int64.le_iff_toInt_le]; rw [Int64.lt_iff_toInt_lt] at h2; omega
        have h4 := okword (w := p2) (s := 2 * m) (by omega) h2
        by_cases h5 : lshr p2 (nI (2 * m)) = 0
        · obtain ⟨q, hq, S, go, fin, hwf, hC, hR⟩ := hI i hi
          obtain ⟨a1, a2, a3, a4, a5⟩ := hC
          obtain ⟨r1, r2, r3⟩ := hR
          obtain ⟨s', hs', l1', l2'⟩ := hasloop (n := n) (w := p2) (nl := 0) hwf (show i < 60 by omega) a3 r2 m n 0 (by omega) (by omega) hwf.1
          refine ⟨.inr (vp_updL o 0 (if fin s' = true then 1 else 0), fin s'), (fin s', 0), ?_, ?_, .inr ⟨_, _, rfl, rfl, rfl⟩⟩
          · simp only [f_La_has, f_RS_has, reqL hN, h0, and_self, if_true, sb_t, el_r, reqB, c0, c31, h1, h2, if_false, e2, h5, nI_gin (show i < 60 by omega) (by omega), ogd_t, nI_nat (show i < 2147483648 by omega), hq, oq, f_Au_accepts, sub1, a2]
            rw [l0, l1', sb_t, il_c a4 hs' hwf.2.1]
            rfl
          · have h7 : f_Mo_in n p2 0 (lshl 1 (nI (2 * m)) - 1) = some true := by rw [in_eq]; simp [h3, h4.mp h5]
            simp only [f_Mo_has, isL hN, h0, and_self, decide_true, sb_t, if_true, in031, h1, e2, h7, fails_f, sub1]
            rw [l0, l2', sb_t, il_r (show i < 60 by omega) r3 hs' hwf.2.1]
            rfl
        · refine bad ?_ ?_
          · simp [f_La_has, f_RS_has, reqL hN, h0, reqB, c0, c31, h1, h2, e2, h5]
          · have h6 : ¬ p2 ≤ lshl 1 (nI (2 * m)) - 1 := fun h => h5 (h4.mpr h)
            have h7 : f_Mo_in n p2 0 (lshl 1 (nI (2 * m)) - 1) = some false := by rw [in_eq]; simp [h6]
            simp [f_Mo_has, isL hN, h0, in031, h1, e2, h7, fails_t]
    · refine bad ?_ ?_
      · simp [f_La_has, f_RS_has, reqL hN, h0, reqB, c0, c31, h1]
      · simp [f_Mo_has, isL hN, h0, in031, h1, fails_t]
  · refine bad ?_ ?_
    · simp [f_La_has, f_RS_has, reqL hN, h0]
    · simp [f_Mo_has, isL hN, h0, fails_t]
theorem ok_has {n : Nat} (hn : 64 < n) : sim_has n Rel := by
  intro c T r o p0 p1 p2 hR
  obtain ⟨hL, hV, hB, hS⟩ := hR
  obtain ⟨u, w, h1, h2, h3⟩ := cl_has hn (p0 := p0) (p1 := p1) (p2 := p2) (o := o) hL
  refine ⟨u, w, h1, h2, ?_⟩
  rcases h3 with ⟨k, m, a, b, d⟩ | ⟨o2, v, a, b, d⟩
  · exact .inl ⟨k, m, a, b, d, hL, hV, hB, hS⟩
  · exact .inr ⟨o2, v, a, b, d, hL, hV, hB, hS⟩
