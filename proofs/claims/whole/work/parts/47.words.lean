/-! STAGE 2. THE CALLS: words -/
def cnt (go : Nat → Nat → Nat) (fin : Nat → Bool) : Nat → Nat → Int64
  | 0, s => if fin s = true then 1 else 0
  | k + 1, s => cnt go fin k (go s 0) + cnt go fin k (go s 1) + cnt go fin k (go s 2) + cnt go fin k (go s 3)
theorem co2 {n S : Nat} {la : Int64} {fin : Nat → Bool} (hS : S ≤ 64) (hla : ∀ i, i < 64 → bit la i = (decide (i < S) && fin i)) : ∀ d k s c, s + d = S → d < k → (∀ j, j < s → c j = if fin j = true then 1 else 0) → ∃ c', f_Co_count_2 n (nI S) la k (nI s) c = some (nI S, c') ∧ ∀ j, j < S → c' j = if fin j = true then 1 else 0 := by
  intro d
  induction d with
  | zero =>
    intro k s c hs hk hc
    obtain ⟨k, rfl⟩ : ∃ j, k = j + 1 := ⟨k - 1, by omega⟩
    have : s = S := by omega
    subst this
    exact ⟨c, by rw [f_Co_count_2, if_pos (by rw [nJ_le (by omega) (by omega)]; omega)], hc⟩
  | succ d ih =>
    intro k s c hs hk hc
    obtain ⟨k, rfl⟩ : ∃ j, k = j + 1 := ⟨k - 1, by omega⟩
    obtain ⟨c', h1, h2⟩ := ih k (s + 1) (vp_updL c s (if fin s = true then 1 else 0)) (by omega) (by omega) (fun j hj => by
      by_cases hjs : j = s
      · subst hjs; rw [ujs]
      · rw [ujn hjs]; exact hc j (by omega))
    refine ⟨c', ?_, h2⟩
    rw [f_Co_count_2, if_neg (by rw [nJ_le (by omega) (by omega)]; omega), il_c hla (by omega) hS, sb_t, nI_gin (by omega) (by omega), ogd_t, ogd_t, l1, nJ_add, nI_nat (by omega)]
    rw [← h1]
    cases fin s <;> rfl
theorem ad2 {n S : Nat} {nx : Nat → Int32} {go : Nat → Nat → Nat} {c : Nat → Int64} (hwf : WF S go) (hgo : ∀ s l, s < S → l < 4 → nx (4 * s + l) = nI (go s l)) : ∀ d k s x, s + d = S → d < k → (∀ j, j < s → x j = c (go j 0) + c (go j 1) + c (go j 2) + c (go j 3)) → ∃ x', f_Co_addLetter_2 n (nI S) c (4 * S) nx k (nI s) x = some (nI S, x') ∧ ∀ j, j < S → x' j = c (go j 0) + c (go j 1) + c (go j 2) + c (go j 3) := by
  obtain ⟨h0, h64, hlt⟩ := hwf
  intro d
  induction d with
  | zero =>
    intro k s x hs hk hx
    obtain ⟨k, rfl⟩ : ∃ j, k = j + 1 := ⟨k - 1, by omega⟩
    have : s = S := by omega
    subst this
    exact ⟨x, by rw [f_Co_addLetter_2, if_pos (by rw [nJ_le (by omega) (by omega)]; omega)], hx⟩
  | succ d ih =>
    intro k s x hs hk hx
    obtain ⟨k, rfl⟩ : ∃ j, k = j + 1 := ⟨k - 1, by omega⟩
    have hsS : s < S := by omega
    have g0 := hgo s 0 hsS (by omega)
    have g1 := hgo s 1 hsS (by omega)
    have g2 := hgo s 2 hsS (by omega)
    have g3 := hgo s 3 hsS (by omega)
    have b0 := hlt s 0 hsS (by omega)
    have b1 := hlt s 1 hsS (by omega)
    have b2 := hlt s 2 hsS (by omega)
    have b3 := hlt s 3 hsS (by omega)
    rw [Nat.add_zero] at g0
    obtain ⟨x', h1, h2⟩ := ih k (s + 1) (vp_updL x s (c (go s 0) + c (go s 1) + c (go s 2) + c (go s 3))) (by omega) (by omega) (fun j hj => by
      by_cases hjs : j = s
      · subst hjs; rw [ujs]
      · rw [ujn hjs]; exact hx j (by omega))
    refine ⟨x', ?_, h2⟩
    rw [f_Co_addLetter_2, if_neg (by rw [nJ_le (by omega) (by omega)]; omega)]
    simp (disch := omega) only [l4, l1, l2, l3, nI_mul, nJ_add, nI_nat, nI_gin, ogd_t, g0, g1, g2, g3]
    exact h1
theorem co37 {n S : Nat} {nx : Nat → Int32} {go : Nat → Nat → Nat} {fin : Nat → Bool} (hwf : WF S go) (hgo : ∀ s l, s < S → l < 4 → nx (4 * s + l) = nI (go s l)) (hn : 64 < n) {m : Nat} (hm : m < 2147483648) : ∀ d k t c x, t + d = m → d < k → (∀ j, j < S → c j = cnt go fin t j) → ∃ c' x', f_Co_count_37 n (nI m) (nI S) (4 * S) nx k (nI t) c x = some (nI m, c', x') ∧ ∀ j, j < S → c' j = cnt go fin m j := by
  intro d
  induction d with
  | zero =>
    intro k t c x ht hk hc
    obtain ⟨k, rfl⟩ : ∃ j, k = j + 1 := ⟨k - 1, by omega⟩
    have : t = m := by omega
    subst this
    exact ⟨c, x, by rw [f_Co_count_37, if_pos (by rw [nJ_le (by omega) (by omega)]; omega)], hc⟩
  | succ d ih =>
    intro k t c x ht hk hc
    obtain ⟨k, rfl⟩ : ∃ j, k = j + 1 := ⟨k - 1, by omega⟩
    obtain ⟨x', h1, h2⟩ := ad2 (n := n) (c := c) hwf hgo S n 0 x (by omega) (by have := hwf.2.1; omega) (fun j hj => absurd hj (Nat.not_lt_zero _))
    obtain ⟨c', x'', h3, h4⟩ := ih k (t + 1) x' c (by omega) (by omega) (fun j hj => by
      rw [h2 j hj, hc _ (hwf.2.2 j 0 hj (by omega)), hc _ (hwf.2.2 j 1 hj (by omega)), hc _ (hwf.2.2 j 2 hj (by omega)), hc _ (hwf.2.2 j 3 hj (by omega))]; rfl)
    refine ⟨c', x'', ?_, h4⟩
    rw [f_Co_count_37, if_neg (by rw [nJ_le (by omega) (by omega)]; omega), f_Co_addLetter, l0, h1, sb_t, sb_t, l1, nJ_add]
    exact h3
theorem co_c {n S : Nat} {nx : Nat → Int32} {go : Nat → Nat → Nat} {fin : Nat → Bool} {la : Int64} (hwf : WF S go) (hgo : ∀ s l, s < S → l < 4 → nx (4 * s + l) = nI (go s l)) (hla : ∀ i, i < 64 → bit la i = (decide (i < S) && fin i)) {m : Nat} (hm : m ≤ 1000) (hn : 1000 < n) {c x : Nat → Int64} : ∃ c' x', f_Co_count n (nI m) c x (nI S) (4 * S) nx la = some (cnt go fin m 0, c', x') := by
  have h64 := hwf.2.1
  obtain ⟨c1, h1, h2⟩ := co2 (n := n) h64 hla S n 0 c (by omega) (by omega) (fun j hj => absurd hj (Nat.not_lt_zero _))
  obtain ⟨c2, x2, h3, h4⟩ := co37 (n := n) (fin := fin) hwf hgo (by omega) (show m < 2147483648 by omega) m n 0 c1 x (by omega) (by omega) (fun j hj => h2 j hj)
  refine ⟨c2, x2, ?_⟩
  rw [f_Co_count, l0, h1, sb_t, h3, sb_t, nI_gin (by omega) (by omega), ogd_t, nI_nat (by omega), ← h4 0 hwf.1]
theorem wo42 {n S i : Nat} {mSize : Nat → Int32} {mLast : Nat → Bool} {fin : Nat → Bool} (hS : S ≤ 64) (hi : i < 60) (hz : mSize i = nI S) (hla : ∀ s, s < S → mLast (64 * i + s) = fin s) : ∀ d k s c, s + d = S → d < k → (∀ j, j < s → c j = if fin j = true then 1 else 0) → ∃ c', f_Mo_words_42 n (nI i) mSize mLast k (nI s) c = some (nI S, c') ∧ ∀ j, j < S → c' j = if fin j = true then 1 else 0 := by
  intro d
  induction d with
  | zero =>
    intro k s c hs hk hc
    obtain ⟨k, rfl⟩ : ∃ j, k = j + 1 := ⟨k - 1, by omega⟩
    have : s = S := by omega
    subst this
    exact ⟨c, by rw [f_Mo_words_42, nI_gin hi (by omega), ogd_t, nI_nat (by omega), hz, if_pos (by rw [nJ_le (by omega) (by omega)]; omega)], hc⟩
  | succ d ih =>
    intro k s c hs hk hc
    obtain ⟨k, rfl⟩ : ∃ j, k = j + 1 := ⟨k - 1, by omega⟩
    obtain ⟨c', h1, h2⟩ := ih k (s + 1) (vp_updL c s (if fin s = true then 1 else 0)) (by omega) (by omega) (fun j hj => by
      by_cases hjs : j = s
      · subst hjs; rw [ujs]
      · rw [ujn hjs]; exact hc j (by omega))
    refine ⟨c', ?_, h2⟩
    rw [f_Mo_words_42, nI_gin hi (by omega), ogd_t, nI_nat (by omega), hz, if_neg (by rw [nJ_le (by omega) (by omega)]; omega), il_r hi hla (by omega) hS, sb_t, nI_gin (by omega) (by omega), ogd_t, ogd_t, l1, nJ_add, nI_nat (by omega)]
    rw [← h1]
    cases fin s <;> rfl
theorem wo110 {n S i : Nat} {mGoes : Nat → Int32} {go : Nat → Nat → Nat} {c x : Nat → Int64} (hwf : WF S go) (hi : i < 60) (hgo : ∀ s l, s < S → l < 4 → mGoes (4 * (64 * i + s) + l) = nI (go s l)) (hn : 64 < n) {s : Nat} (hs : s < S) : ∃ x', f_Mo_words_110 n (nI s) (nI i) mGoes c n (nI 0) (vp_updL x s 0) = some (nI 4, x') ∧ x' s = c (go s 0) + c (go s 1) + c (go s 2) + c (go s 3) ∧ ∀ j, j ≠ s → x' j = x j := by
  obtain ⟨h0, h64, hlt⟩ := hwf
  obtain ⟨k, rfl⟩ : ∃ k, n = k + 5 := ⟨n - 5, by omega⟩
  have b0 := hlt s 0 hs (by omega)
  have b1 := hlt s 1 hs (by omega)
  have b2 := hlt s 2 hs (by omega)
  have b3 := hlt s 3 hs (by omega)
  have g0 := go_r (n := k + 5) h64 hi hgo hs (show 0 < 4 by omega)
  have g1 := go_r (n := k + 5) h64 hi hgo hs (show 1 < 4 by omega)
  have g2 := go_r (n := k + 5) h64 hi hgo hs (show 2 < 4 by omega)
  have g3 := go_r (n := k + 5) h64 hi hgo hs (show 3 < 4 by omega)
  refine ⟨vp_updL (vp_updL (vp_updL (vp_updL (vp_updL x s 0) s (0 + c (go s 0))) s (0 + c (go s 0) + c (go s 1))) s (0 + c (go s 0) + c (go s 1) + c (go s 2))) s (0 + c (go s 0) + c (go s 1) + c (go s 2) + c (go s 3)), ?_, ?_, ?_⟩
  · rw [f_Mo_words_110, l4, if_neg (by rw [nJ_le (by omega) (by omega)]; omega)]
    simp (disch := omega) only [nI_gin, ogd_t, g0, sb_t, nI_nat, l1, nJ_add, ujs]
    rw [f_Mo_words_110, l4, if_neg (by rw [nJ_le (by omega) (by omega)]; omega)]
    simp (disch := omega) only [nI_gin, ogd_t, g1, sb_t, nI_nat, l1, nJ_add, ujs, Nat.zero_add]
    rw [f_Mo_words_110, l4, if_neg (by rw [nJ_le (by omega) (by omega)]; omega)]
    simp (disch := omega) only [nI_gin, ogd_t, g2, sb_t, nI_nat, l1, nJ_add, ujs, Nat.reduceAdd]
    rw [f_Mo_words_110, l4, if_neg (by rw [nJ_le (by omega) (by omega)]; omega)]
    simp (disch := omega) only [nI_gin, ogd_t, g3, sb_t, nI_nat, l1, nJ_add, ujs, Nat.reduceAdd]
    rw [f_Mo_words_110, l4, if_pos (by rw [nJ_le (by omega) (by omega)]; omega)]
  · rw [ujs, Int64.zero_add]
  · intro j hj
    rw [ujn hj, ujn hj, ujn hj, ujn hj, ujn hj]
theorem wo88 {n S i : Nat} {mSize mGoes : Nat → Int32} {go : Nat → Nat → Nat} {c : Nat → Int64} (hwf : WF S go) (hi : i < 60) (hz : mSize i = nI S) (hgo : ∀ s l, s < S → l < 4 → mGoes (4 * (64 * i + s) + l) = nI (go s l)) (hn : 64 < n) : ∀ d k s x, s + d = S → d < k → (∀ j, j < s → x j = c (go j 0) + c (go j 1) + c (go j 2) + c (go j 3)) → ∃ x', f_Mo_words_88 n (nI i) mSize mGoes c k (nI s) x = some (nI S, x') ∧ ∀ j, j < S → x' j = c (go j 0) + c (go j 1) + c (go j 2) + c (go j 3) := by
  have h64 := hwf.2.1
  intro d
  induction d with
  | zero =>
    intro k s c hs hk hc
    obtain ⟨k, rfl⟩ : ∃ j, k = j + 1 := ⟨k - 1, by omega⟩
    have : s = S := by omega
    subst this
    exact ⟨c, by rw [f_Mo_words_88, nI_gin hi (by omega), ogd_t, nI_nat (by omega), hz, if_pos (by rw [nJ_le (by omega) (by omega)]; omega)], hc⟩
  | succ d ih =>
    intro k s x hs hk hx
    obtain ⟨k, rfl⟩ : ∃ j, k = j + 1 := ⟨k - 1, by omega⟩
    obtain ⟨x1, g1, g2, g3⟩ := wo110 (n := n) (c := c) (x := x) hwf hi hgo hn (show s < S by omega)
    obtain ⟨x', h1, h2⟩ := ih k (s + 1) x1 (by omega) (by omega) (fun j hj => by
      by_cases hjs : j = s
      · subst hjs; exact g2
      · rw [g3 j hjs]; exact hx j (by omega))
    refine ⟨x', ?_, h2⟩
    rw [f_Mo_words_88, nI_gin hi (by omega), ogd_t, nI_nat (by omega), hz, if_neg (by rw [nJ_le (by omega) (by omega)]; omega), nI_gin (by omega) (by omega), ogd_t, nI_nat (by omega), l0, g1, sb_t, l1, nJ_add]
    exact h1
theorem wo155 {n S i : Nat} {mSize : Nat → Int32} {x : Nat → Int64} (hS : S ≤ 64) (hi : i < 60) (hz : mSize i = nI S) : ∀ d k s c, s + d = S → d < k → (∀ j, j < s → c j = x j) → ∃ c', f_Mo_words_155 n (nI i) mSize x k (nI s) c = some (nI S, c') ∧ ∀ j, j < S → c' j = x j := by
  intro d
  induction d with
  | zero =>
    intro k s c hs hk hc
    obtain ⟨k, rfl⟩ : ∃ j, k = j + 1 := ⟨k - 1, by omega⟩
    have : s = S := by omega
    subst this
    exact ⟨c, by rw [f_Mo_words_155, nI_gin hi (by omega), ogd_t, nI_nat (by omega), hz, if_pos (by rw [nJ_le (by omega) (by omega)]; omega)], hc⟩
  | succ d ih =>
    intro k s c hs hk hc
    obtain ⟨k, rfl⟩ : ∃ j, k = j + 1 := ⟨k - 1, by omega⟩
    obtain ⟨x', h1, h2⟩ := ih k (s + 1) (vp_updL c s (x s)) (by omega) (by omega) (fun j hj => by
      by_cases hjs : j = s
      · subst hjs; rw [ujs]
      · rw [ujn hjs]; exact hc j (by omega))
    refine ⟨x', ?_, h2⟩
    rw [f_Mo_words_155, nI_gin hi (by omega), ogd_t, nI_nat (by omega), hz, if_neg (by rw [nJ_le (by omega) (by omega)]; omega), nI_gin (by omega) (by omega), ogd_t, nI_nat (by omega), ogd_t, l1, nJ_add]
    exact h1
theorem wo80 {n S i : Nat} {mSize mGoes : Nat → Int32} {go : Nat → Nat → Nat} {fin : Nat → Bool} (hwf : WF S go) (hi : i < 60) (hz : mSize i = nI S) (hgo : ∀ s l, s < S → l < 4 → mGoes (4 * (64 * i + s) + l) = nI (go s l)) (hn : 64 < n) {m : Nat} (hm : m < 2147483648) : ∀ d k t c x, t + d = m → d < k → (∀ j, j < S → c j = cnt go fin t j) → ∃ c' x', f_Mo_words_80 n (nI i) (nI m) mSize mGoes k (nI t) c x = some (nI m, c', x') ∧ ∀ j, j < S → c' j = cnt go fin m j := by
  have h64 := hwf.2.1
  intro d
  induction d with
  | zero =>
    intro k t c x ht hk hc
    obtain ⟨k, rfl⟩ : ∃ j, k = j + 1 := ⟨k - 1, by omega⟩
    have : t = m := by omega
    subst this
    exact ⟨c, x, by rw [f_Mo_words_80, if_pos (by rw [nJ_le (by omega) (by omega)]; omega)], hc⟩
  | succ d ih =>
    intro k t c x ht hk hc
    obtain ⟨k, rfl⟩ : ∃ j, k = j + 1 := ⟨k - 1, by omega⟩
    obtain ⟨x', h1, h2⟩ := wo88 (n := n) (c := c) hwf hi hz hgo hn S n 0 x (by omega) (by omega) (fun j hj => absurd hj (Nat.not_lt_zero _))
    obtain ⟨c1, h5, h6⟩ := wo155 (n := n) (x := x') h64 hi hz S n 0 c (by omega) (by omega) (fun j hj => absurd hj (Nat.not_lt_zero _))
    obtain ⟨c', x'', h3, h4⟩ := ih k (t + 1) c1 x' (by omega) (by omega) (fun j hj => by
      rw [h6 j hj, h2 j hj, hc _ (hwf.2.2 j 0 hj (by omega)), hc _ (hwf.2.2 j 1 hj (by omega)), hc _ (hwf.2.2 j 2 hj (by omega)), hc _ (hwf.2.2 j 3 hj (by omega))]; rfl)
    refine ⟨c', x'', ?_, h4⟩
    rw [f_Mo_words_80, if_neg (by rw [nJ_le (by omega) (by omega)]; omega), l0, h1, sb_t, h5, sb_t, l1, nJ_add]
    exact h3
theorem cl_words {n : Nat} (hn : 1000 < n) {p0 p1 : Int32} {o : Nat → Int64} {xLang xCount T mLanguages mSize mGoes mLast cCounts cLonger mMany mMore} (hL : RelL xLang xCount T mLanguages mSize mGoes mLast) : ∃ u w, f_La_words n p0 p1 xLang xCount cCounts cLonger T o = some u ∧ f_Mo_words n p0 p1 mLanguages mSize mGoes mLast mMany mMore = some w ∧ ((∃ (k : Int32) (m : (Nat → Int64) × (Nat → Int64)), u = .inl (k, m) ∧ k ≠ 0 ∧ w.2.1 = k) ∨ ∃ (o2 : Nat → Int64) (v : Int64 × (Nat → Int64) × (Nat → Int64)), u = .inr (o2, v) ∧ w.2.1 = 0 ∧ o2 (0 : Int32).toNatClampNeg = w.1) := by
  obtain ⟨c0, c3, c31, c1000, -⟩ := c03
  obtain ⟨N, hN, rfl, rfl, hI, hE⟩ := hL
  by_cases h0 : 0 ≤ p0.toInt ∧ p0.toInt < N
  · by_cases h1 : 0 ≤ p1.toInt ∧ p1.toInt ≤ 1000
    · obtain ⟨i, hi, rfl⟩ := idx h0.1 h0.2
      obtain ⟨m, hm, rfl⟩ := idx (k := 1001) h1.1 (by omega)
      obtain ⟨q, hq, S, go, fin, hwf, hC, hR⟩ := hI i hi
      obtain ⟨a1, a2, a3, a4, a5⟩ := hC
      obtain ⟨r1, r2, r3⟩ := hR
      have h64 := hwf.2.1
      have hi6 : i < 60 := by omega
      obtain ⟨c', x', e1⟩ := co_c (n := n) hwf a3 a4 (show m ≤ 1000 by omega) hn (c := cCounts) (x := cLonger)
      obtain ⟨y1, f1, f2⟩ := wo42 (n := n) h64 hi6 r1 r3 S n 0 mMany (by omega) (by omega) (fun j hj => absurd hj (Nat.not_lt_zero _))
      obtain ⟨y2, z2, f3, f4⟩ := wo80 (n := n) (fin := fin) hwf hi6 r1 r2 (by omega) (show m < 2147483648 by omega) m n 0 y1 mMore (by omega) (by omega) (fun j hj => f2 j hj)
      refine ⟨.inr (vp_updL o 0 (cnt go fin m 0), (cnt go fin m 0, c', x')), (cnt go fin m 0, 0, y2, z2), ?_, ?_, .inr ⟨_, _, rfl, rfl, rfl⟩⟩
      · simp only [f_La_words, f_RS_words, reqL hN, h0, and_self, if_true, sb_t, el_r, reqB, c0, c1000, h1, nI_gin hi6 (by omega), ogd_t, nI_nat (show i < 2147483648 by omega), hq, oq, a1, a2, e1]
        rfl
      · simp only [f_Mo_words, isL hN, h0, and_self, decide_true, sb_t, if_true, in01000, h1, fails_f]
        rw [l0, f1, sb_t, f3, sb_t, nI_gin (by omega) (by omega), ogd_t, nI_nat (by omega), ← f4 0 hwf.1]
        rfl
    · refine ⟨.inl (1, (cCounts, cLonger)), (0, 1, mMany, mMore), ?_, ?_, .inl ⟨1, _, rfl, by decide, rfl⟩⟩
      · simp [f_La_words, f_RS_words, reqL hN, h0, reqB, c0, c1000, h1]
      · simp [f_Mo_words, isL hN, h0, in01000, h1, fails_t]
  · refine ⟨.inl (1, (cCounts, cLonger)), (0, 1, mMany, mMore), ?_, ?_, .inl ⟨1, _, rfl, by decide, rfl⟩⟩
    · simp [f_La_words, f_RS_words, reqL hN, h0]
    · simp [f_Mo_words, isL hN, h0, fails_t]
theorem ok_words {n : Nat} (hn : 1000 < n) : sim_words n Rel := by
  intro c T r o p0 p1 hR
  obtain ⟨hL, hV, hB, hS⟩ := hR
  obtain ⟨u, w, h1, h2, h3⟩ := cl_words hn (p0 := p0) (p1 := p1) (o := o) hL
  refine ⟨u, w, h1, h2, ?_⟩
  rcases h3 with ⟨k, m, a, b, d⟩ | ⟨o2, v, a, b, d⟩
  · exact .inl ⟨k, m, a, b, d, hL, hV, hB, hS⟩
  · exact .inr ⟨o2, v, a, b, d, hL, hV, hB, hS⟩
