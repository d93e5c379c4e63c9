/-! STAGE 2. AUTOMATA: both sides' readings -/
theorem go_c {n S : Nat} {nx : Nat → Int32} {go : Nat → Nat → Nat} (hS : S ≤ 64) (hgo : ∀ s l, s < S → l < 4 → nx (4 * s + l) = nI (go s l)) {s l : Nat} (hs : s < S) (hl : l < 4) : f_Au_go n (nI s) (nI l) (4 * S) nx = some (nI (go s l)) := by
  unfold f_Au_go
  rw [l4, nI_mul, nJ_add, nI_gin (by omega) (by omega), ogd_t, nI_nat (by omega), hgo s l hs hl]
theorem go_r {n S i : Nat} {mGoes : Nat → Int32} {go : Nat → Nat → Nat} (hS : S ≤ 64) (hi : i < 60) (hgo : ∀ s l, s < S → l < 4 → mGoes (4 * (64 * i + s) + l) = nI (go s l)) {s l : Nat} (hs : s < S) (hl : l < 4) : f_Mo_go n (nI i) (nI s) (nI l) mGoes = some (nI (go s l)) := by
  unfold f_Mo_go
  rw [l4, l64, nI_mul, nJ_add, nI_mul, nJ_add, nI_gin (by omega) (by omega), ogd_t, nI_nat (by omega), hgo s l hs hl]
theorem il_c {n S : Nat} {la : Int64} {fin : Nat → Bool} (hla : ∀ i, i < 64 → bit la i = (decide (i < S) && fin i)) {s : Nat} (hs : s < S) (hS : S ≤ 64) : f_Au_isLast n (nI s) la = some (fin s) := by
  unfold f_Au_isLast
  simp only [lushr1 (show s < 64 by omega), hla s (by omega), hs, decide_true, Bool.true_and]
  cases fin s <;> rfl
theorem il_r {n S i : Nat} {mLast : Nat → Bool} {fin : Nat → Bool} (hi : i < 60) (hla : ∀ s, s < S → mLast (64 * i + s) = fin s) {s : Nat} (hs : s < S) (hS : S ≤ 64) : f_Mo_isLast n (nI i) (nI s) mLast = some (fin s) := by
  unfold f_Mo_isLast
  rw [l64, nI_mul, nJ_add, nI_gin (by omega) (by omega), ogd_t, nI_nat (by omega), hla s hs]
theorem sb6 {n S : Nat} {t : Int64} {nx : Nat → Int32} {go : Nat → Nat → Nat} (hwf : WF S go) (hgo : ∀ s l, s < S → l < 4 → nx (4 * s + l) = nI (go s l)) : ∀ d k s x, s + d = S → d < k → ∃ r, f_Au_statesBefore_6 n (nI S) t (4 * S) nx k (nI s) x = some (nI S, r) ∧ ∀ i, i < 64 → bit r i = (bit x i || (decide (s ≤ i ∧ i < S) && (bit t (go i 0) || bit t (go i 1) || bit t (go i 2) || bit t (go i 3)))) := by
  obtain ⟨h0, h64, hlt⟩ := hwf
  intro d
  induction d with
  | zero =>
    intro k s x hs hk
    obtain ⟨k, rfl⟩ : ∃ j, k = j + 1 := ⟨k - 1, by omega⟩
    have : s = S := by omega
    subst this
    refine ⟨x, ?_, fun i hi => ?_⟩
    · rw [f_Au_statesBefore_6, if_pos (by rw [nJ_le (by omega) (by omega)]; omega)]
    · have : ¬ (s ≤ i ∧ i < s) := by omega
      simp [this]
  | succ d ih =>
    intro k s x hs hk
    obtain ⟨k, rfl⟩ : ∃ j, k = j + 1 := ⟨k - 1, by omega⟩
    have hsS : s < S := by omega
    have g0 := hgo s 0 hsS (by omega)
    have g1 := hgo s 1 hsS (by omega)
    have g2 := hgo s 2 hsS (by omega)
    have g3 := hgo s 3 hsS (by omega)
    have b0 := hlt s 0 hsS (by omega)
    have b1 := hlt s 1 hsS (by omega)
    have b2 := hlt s 2 hsS (by omega)
    have b3 := hlt s 3 hsS (by omega)
    rw [Nat.add_zero] at g0
    obtain ⟨r, h1, h2⟩ := ih k (s + 1) (x ||| lshl ((((lushr t (nI (go s 0)) ||| lushr t (nI (go s 1))) ||| lushr t (nI (go s 2))) ||| lushr t (nI (go s 3))) &&& 1) (nI s)) (by omega) (by omega)
    refine ⟨r, ?_, fun i hi => ?_⟩
    · rw [f_Au_statesBefore_6, if_neg (by rw [nJ_le (by omega) (by omega)]; omega)]
      simp (disch := omega) only [l4, l1, l2, l3, nI_mul, nJ_add, nI_nat, nI_gin, ogd_t, g0, g1, g2, g3]
      exact h1
    · rw [h2 i hi, bit_or, lshl_bit (by omega) hi]
      simp (disch := omega) only [bit_and, bit_or, lushr_bit, bit_one]
      by_cases hi2 : i = s
      · subst hi2
        have e1 : ¬ i + 1 ≤ i := by omega
        simp only [e1, hsS, false_and, decide_false, Bool.false_and, Bool.or_false, Nat.sub_self, decide_true, Bool.and_true, Nat.le_refl, true_and, Bool.true_and, Nat.zero_add]
      · by_cases hi3 : s ≤ i
        · have e2 : i - s ≠ 0 := by omega
          have e3 : (s + 1 ≤ i) = (s ≤ i) := propext ⟨fun h => by omega, fun h => by omega⟩
          simp [e2, e3]
        · have e3 : ¬ s + 1 ≤ i := by omega
          simp [e3, hi3]
theorem sb_c {n S : Nat} {t : Int64} {nx : Nat → Int32} {go : Nat → Nat → Nat} (hwf : WF S go) (hgo : ∀ s l, s < S → l < 4 → nx (4 * s + l) = nI (go s l)) (hn : 64 < n) : ∃ r, f_Au_statesBefore n (nI S) t (4 * S) nx = some r ∧ ∀ i, i < 64 → bit r i = (decide (i < S) && (bit t (go i 0) || bit t (go i 1) || bit t (go i 2) || bit t (go i 3))) := by
  obtain ⟨r, h1, h2⟩ := sb6 (n := n) (t := t) hwf hgo S n 0 0 (by omega) (by have := hwf.2.1; omega)
  refine ⟨r, ?_, fun i hi => ?_⟩
  · unfold f_Au_statesBefore
    rw [l0, h1]; rfl
  · rw [h2 i hi, bit_zero]; simp
theorem acc_lt {S : Nat} {go : Nat → Nat → Nat} {fin : Nat → Bool} {k s : Nat} : acc go fin (k + 1) s = (acc go fin k (go s 0) || acc go fin k (go s 1) || acc go fin k (go s 2) || acc go fin k (go s 3)) := rfl
theorem in37 {n S : Nat} {nx : Nat → Int32} {go : Nat → Nat → Nat} {fin : Nat → Bool} (hwf : WF S go) (hgo : ∀ s l, s < S → l < 4 → nx (4 * s + l) = nI (go s l)) (hn : 64 < n) : ∀ d k v a, v + d = 64 → 1 ≤ v → d < k → (∀ j i, j < v → i < 64 → bit (a j) i = (decide (i < S) && acc go fin j i)) → ∃ r, f_Au_init_37 n (nI S) (4 * S) nx k (nI v) a = some (nI 64, r) ∧ ∀ j i, j < 64 → i < 64 → bit (r j) i = (decide (i < S) && acc go fin j i) := by
  intro d
  induction d with
  | zero =>
    intro k v a hv hv1 hk ha
    obtain ⟨k, rfl⟩ : ∃ j, k = j + 1 := ⟨k - 1, by omega⟩
    have : v = 64 := by omega
    subst this
    refine ⟨a, ?_, ha⟩
    rw [f_Au_init_37, l64, if_pos (by rw [nJ_le (by omega) (by omega)]; omega)]
  | succ d ih =>
    intro k v a hv hv1 hk ha
    obtain ⟨k, rfl⟩ : ∃ j, k = j + 1 := ⟨k - 1, by omega⟩
    obtain ⟨r0, h1, h2⟩ := sb_c (n := n) (t := a (v - 1)) hwf hgo hn
    obtain ⟨r, h3, h4⟩ := ih k (v + 1) (vp_updL a v r0) (by omega) (by omega) (by omega) (by
      intro j i hj hi
      by_cases hjv : j = v
      · subst hjv
        rw [ujs, h2 i hi]
        obtain ⟨j, rfl⟩ : ∃ m, j = m + 1 := ⟨j - 1, by omega⟩
        by_cases hiS : i < S
        · simp only [Nat.add_sub_cancel, hiS, decide_true, Bool.true_and, acc]
          have hb : ∀ l, l < 4 → bit (a j) (go i l) = acc go fin j (go i l) := by
            intro l hl
            have h5 := hwf.2.2 i l hiS hl
            rw [ha j (go i l) (by omega) (by have := hwf.2.1; omega)]
            simp [h5]
          rw [hb 0 (by omega), hb 1 (by omega), hb 2 (by omega), hb 3 (by omega)]
        · simp [hiS]
      · rw [ujn hjv]; exact ha j i (by omega) hi)
    refine ⟨r, ?_, h4⟩
    rw [f_Au_init_37, l64, if_neg (by rw [nJ_le (by omega) (by omega)]; omega), l1, nI_sub hv1]
    simp (disch := omega) only [nI_gin, ogd_t, nI_nat, h1, sb_t, nJ_add]
    exact h3
theorem in_c {n S : Nat} {nx : Nat → Int32} {go : Nat → Nat → Nat} {fin : Nat → Bool} {la : Int64} {a : Nat → Int64} (hwf : WF S go) (hgo : ∀ s l, s < S → l < 4 → nx (4 * s + l) = nI (go s l)) (hla : ∀ i, i < 64 → bit la i = (decide (i < S) && fin i)) (hn : 64 < n) : ∃ r, f_Au_init n (nI S) la a (4 * S) nx = some r ∧ ∀ j i, j < 64 → i < 64 → bit (r j) i = (decide (i < S) && acc go fin j i) := by
  obtain ⟨r, h1, h2⟩ := in37 (n := n) (fin := fin) hwf hgo hn 63 n 1 (vp_updL a 0 la) (by omega) (by omega) (by omega) (by
    intro j i hj hi
    have : j = 0 := by omega
    subst this
    rw [ujs, hla i hi]; rfl)
  refine ⟨r, ?_, h2⟩
  unfold f_Au_init
  rw [l0, nI_gin (by omega) (by omega), ogd_t, nI_nat (by omega), l1, h1]; rfl
