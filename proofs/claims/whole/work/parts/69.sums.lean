/-! STAGE 2. SOLVE: the class's sums and open lengths -/
def FF (gF : Nat → Nat → Int32) (b v : Nat) : Int := (gF b v).toInt
def GB (B : Nat) (gF : Nat → Nat → Int32) : Prop := B ≤ 8 ∧ ∀ b v, b < B → v < 4 → -100 ≤ FF gF b v ∧ FF gF b v ≤ 100
theorem iw2 {n B v : Nat} {gF : Nat → Nat → Int32} (hB : B ≤ 8) (hv : v < 4) : ∀ d K b, b + d = B → d < K → (f_Se_isWeighed_2 n (nI v) (nI B) gF K (nI b) = some (.inl true) ∧ ∃ b', b ≤ b' ∧ b' < B ∧ FF gF b' v ≠ 0) ∨ (f_Se_isWeighed_2 n (nI v) (nI B) gF K (nI b) = some (.inr (nI B)) ∧ ∀ b', b ≤ b' → b' < B → FF gF b' v = 0) := by
  intro d
  induction d with
  | zero =>
    intro K b hb hK
    obtain ⟨K, rfl⟩ : ∃ j, K = j + 1 := ⟨K - 1, by omega⟩
    have : b = B := by omega
    subst this
    exact .inr ⟨by rw [f_Se_isWeighed_2, if_pos (by rw [nJ_le (by omega) (by omega)]; omega)], fun b' h1 h2 => by omega⟩
  | succ d ih =>
    intro K b hb hK
    obtain ⟨K, rfl⟩ : ∃ j, K = j + 1 := ⟨K - 1, by omega⟩
    rw [f_Se_isWeighed_2, if_neg (by rw [nJ_le (by omega) (by omega)]; omega), nI_gin (by omega) (by omega), ogd_t, nI_gin (by omega) (by omega), ogd_t, nI_nat (by omega), nI_nat (by omega), l1, nJ_add]
    by_cases h : gF b v = 0
    · rw [if_pos h]
      rcases ih K (b + 1) (by omega) (by omega) with ⟨a, b', c, e⟩ | ⟨a, c⟩
      · exact .inl ⟨a, b', by omega, e⟩
      · refine .inr ⟨a, fun b' h1 h2 => ?_⟩
        by_cases hbb : b' = b
        · rw [hbb]; unfold FF; rw [h]; rfl
        · exact c b' (by omega) h2
    · rw [if_neg h]
      refine .inl ⟨rfl, b, by omega, by omega, fun e => h ?_⟩
      apply Int32.toInt.inj
      exact e
theorem iw_c {n B v : Nat} {gF : Nat → Nat → Int32} (hn : 64 < n) (hB : B ≤ 8) (hv : v < 4) : ∃ w, f_Se_isWeighed n (nI v) (nI B) gF = some w ∧ (w = true ↔ ∃ b, b < B ∧ FF gF b v ≠ 0) := by
  rcases iw2 (n := n) (gF := gF) hB hv B n 0 (by omega) (by omega) with ⟨a, b', c, e⟩ | ⟨a, c⟩
  · exact ⟨true, by rw [f_Se_isWeighed, l0, a]; rfl, ⟨fun _ => ⟨b', e⟩, fun _ => rfl⟩⟩
  · exact ⟨false, by rw [f_Se_isWeighed, l0, a]; rfl, ⟨fun h => (by cases h), fun ⟨b, h1, h2⟩ => absurd (c b (by omega) h1) h2⟩⟩
theorem sa2 {n v : Nat} {A : Nat → Int64} (hv : v < 4) : ∀ d K k, k + d = 31 → d < K → (∀ j, j < k → bit (A v) j = false) → ∃ s, s < 32 ∧ f_Se_shortestAllowed_2 n (nI v) A K (nI k) = some (nI s) ∧ ∀ j, j < s → bit (A v) j = false := by
  intro d
  induction d with
  | zero =>
    intro K k hk hK hj
    obtain ⟨K, rfl⟩ : ∃ j, K = j + 1 := ⟨K - 1, by omega⟩
    exact ⟨k, by omega, by rw [f_Se_shortestAllowed_2, l31, if_pos (by rw [nJ_le (by omega) (by omega)]; omega)], hj⟩
  | succ d ih =>
    intro K k hk hK hj
    obtain ⟨K, rfl⟩ : ∃ j, K = j + 1 := ⟨K - 1, by omega⟩
    rw [f_Se_shortestAllowed_2, l31, if_neg (by rw [nJ_le (by omega) (by omega)]; omega), nI_gin (by omega) (by omega), ogd_t, nI_nat (by omega), l1, nJ_add]
    by_cases h : bit (A v) k = false
    · rw [if_pos ((lushr1 (x := A v) (show k < 64 by omega)).mpr h)]
      exact ih K (k + 1) (by omega) (by omega) (fun j hj' => by
        by_cases hjk : j = k
        · rw [hjk]; exact h
        · exact hj j (by omega))
    · rw [if_neg (fun h' => h ((lushr1 (x := A v) (show k < 64 by omega)).mp h'))]
      exact ⟨k, by omega, rfl, hj⟩
theorem sa_c {n v : Nat} {A : Nat → Int64} (hn : 64 < n) (hv : v < 4) : ∃ s, s < 32 ∧ f_Se_shortestAllowed n (nI v) A = some (nI s) ∧ ∀ j, j < s → bit (A v) j = false := by
  obtain ⟨s, a, b, c⟩ := sa2 (n := n) (A := A) hv 31 n 0 (by omega) (by omega) (fun j hj => absurd hj (Nat.not_lt_zero _))
  exact ⟨s, a, by rw [f_Se_shortestAllowed, l0, b]; rfl, c⟩
theorem la3 {n v : Nat} {A : Nat → Int64} (hv : v < 4) : ∀ k K, k < 32 → k < K → (∀ j, k < j → j < 32 → bit (A v) j = false) → ∃ s, s < 32 ∧ f_Se_longestAllowed_3 n (nI v) A K (nI k) = some (nI s) ∧ ∀ j, s < j → j < 32 → bit (A v) j = false := by
  intro k
  induction k with
  | zero =>
    intro K hk hK hj
    obtain ⟨K, rfl⟩ : ∃ j, K = j + 1 := ⟨K - 1, by omega⟩
    exact ⟨0, by omega, by rw [f_Se_longestAllowed_3, l0, if_pos (by rw [nJ_le (by omega) (by omega)]; omega)], hj⟩
  | succ k ih =>
    intro K hk hK hj
    obtain ⟨K, rfl⟩ : ∃ j, K = j + 1 := ⟨K - 1, by omega⟩
    rw [f_Se_longestAllowed_3, if_neg (by rw [l0, nJ_le (by omega) (by omega)]; omega), nI_gin (by omega) (by omega), ogd_t, nI_nat (by omega), dn1]
    by_cases h : bit (A v) (k + 1) = false
    · rw [if_pos ((lushr1 (x := A v) (show k + 1 < 64 by omega)).mpr h)]
      exact ih K (by omega) (by omega) (fun j hj1 hj2 => by
        by_cases hjk : j = k + 1
        · rw [hjk]; exact h
        · exact hj j (by omega) hj2)
    · rw [if_neg (fun h' => h ((lushr1 (x := A v) (show k + 1 < 64 by omega)).mp h'))]
      exact ⟨k + 1, by omega, rfl, hj⟩
theorem la_c {n v : Nat} {A : Nat → Int64} (hn : 64 < n) (hv : v < 4) : ∃ s, s < 32 ∧ f_Se_longestAllowed n (nI v) A = some (nI s) ∧ ∀ j, s < j → j < 32 → bit (A v) j = false := by
  obtain ⟨s, a, b, c⟩ := la3 (n := n) (A := A) hv 31 n (by omega) (by omega) (fun j h1 h2 => by omega)
  exact ⟨s, a, by rw [f_Se_longestAllowed, l31, b]; rfl, c⟩
theorem sm_bnd {f : Nat → Int} : ∀ u : Nat, (∀ w, w < u → -3100 ≤ f w ∧ f w ≤ 3100) → -3100 * (u : Int) ≤ sm f u ∧ sm f u ≤ 3100 * (u : Int) := by
  intro u
  induction u with
  | zero => intro h; simp [sm]
  | succ u ih =>
    intro h
    have a := ih (fun w hw => h w (by omega))
    have b := h u (by omega)
    simp only [sm]
    omega
theorem rs_bnd {f : Nat → Int} : ∀ (d u : Nat), (∀ w, u ≤ w → w < u + d → -3100 ≤ f w ∧ f w ≤ 3100) → -3100 * (d : Int) ≤ rsL f d u ∧ rsL f d u ≤ 3100 * (d : Int) := by
  intro d
  induction d with
  | zero => intro u h; simp [rsL]
  | succ d ih =>
    intro u h
    have a := ih (u + 1) (fun w p q => h w (by omega) (by omega))
    have b := h u (by omega) (by omega)
    simp only [rsL]
    omega
theorem sbf5 {n B b v : Nat} {gF : Nat → Nat → Int32} {L : Nat → Int32} {t : Nat → Nat} (hG : GB B gF) (hb : b < B) (hv : v ≤ 4) (hL : ∀ w, w < v → L w = nI (t w) ∧ t w < 32) : ∀ d K u s, u + d = v → d < K → s.toInt = sm (fun w => FF gF b w * t w) u → ∃ s', f_Se_sumBefore_5 n (nI b) (nI v) L gF K (nI u) s = some (nI v, s') ∧ s'.toInt = sm (fun w => FF gF b w * t w) v := by
  intro d
  induction d with
  | zero =>
    intro K u s hu hK hs
    obtain ⟨K, rfl⟩ : ∃ j, K = j + 1 := ⟨K - 1, by omega⟩
    have : u = v := by omega
    subst this
    exact ⟨s, by rw [f_Se_sumBefore_5, if_pos (by rw [nJ_le (by omega) (by omega)]; omega)], hs⟩
  | succ d ih =>
    intro K u s hu hK hs
    obtain ⟨K, rfl⟩ : ∃ j, K = j + 1 := ⟨K - 1, by omega⟩
    have hB := hG.1
    have hl := hL u (by omega)
    have hf := hG.2 b u hb (by omega)
    have hbd := bnd (f := FF gF b u) (t := (t u : Int)) hf.1 hf.2 (by omega) (by omega)
    have hsb := sm_bnd (f := fun w => FF gF b w * t w) u (fun w hw => by
      have h1 := hG.2 b w hb (by omega)
      have h2 := hL w (by omega)
      exact bnd h1.1 h1.2 (by omega) (by omega))
    have hm : (gF b u * nI (t u)).toInt = FF gF b u * t u := by
      rw [mul32 (by rw [nI_int (by omega)]; show -2147483648 ≤ FF gF b u * _; omega) (by rw [nI_int (by omega)]; show FF gF b u * _ < _; omega), nI_int (by omega)]; rfl
    obtain ⟨s', a, c⟩ := ih K (u + 1) (s + gF b u * nI (t u)) (by omega) (by omega) (by
      rw [add32 (by rw [hm, hs]; omega) (by rw [hm, hs]; omega), hm, hs]; rfl)
    refine ⟨s', ?_, c⟩
    rw [f_Se_sumBefore_5, if_neg (by rw [nJ_le (by omega) (by omega)]; omega), nI_gin (by omega) (by omega), ogd_t, nI_gin (by omega) (by omega), ogd_t, ogd_t, nI_nat (by omega), nI_nat (by omega), hl.1, l1, nJ_add]
    exact a
theorem sbf_c {n B b v : Nat} {gF : Nat → Nat → Int32} {L : Nat → Int32} {t : Nat → Nat} (hn : 64 < n) (hG : GB B gF) (hb : b < B) (hv : v ≤ 4) (hL : ∀ w, w < v → L w = nI (t w) ∧ t w < 32) : ∃ s, f_Se_sumBefore n (nI b) (nI v) L gF = some s ∧ s.toInt = sm (fun w => FF gF b w * t w) v := by
  obtain ⟨s, a, c⟩ := sbf5 (n := n) hG hb hv hL v n 0 0 (by omega) (by omega) rfl
  exact ⟨s, by rw [f_Se_sumBefore, l0, show f_Se_sumBefore_5 n (nI b) (nI v) L gF n (nI 0) (nI 0) = some (nI v, s) from a]; rfl, c⟩
theorem sr2 {n B b : Nat} {gF : Nat → Nat → Int32} {A : Nat → Int64} {sh lg : Nat → Nat} (hG : GB B gF) (hb : b < B) (hs : ∀ v, v < 4 → sh v < 32 ∧ lg v < 32 ∧ f_Se_shortestAllowed n (nI v) A = some (nI (sh v)) ∧ f_Se_longestAllowed n (nI v) A = some (nI (lg v))) : ∀ k K gL gM, k ≤ 4 → k < K → (∀ v, k ≤ v → v ≤ 4 → (gL b v).toInt = rsL (mnF (FF gF) sh lg b) (4 - v) v ∧ (gM b v).toInt = rsL (mxF (FF gF) sh lg b) (4 - v) v) → ∃ gL' gM', f_Se_sumRests_2 n (nI b) A gF K (nI k + (-1)) gL gM = some (nI 0 + (-1), gL', gM') ∧ (∀ v, v ≤ 4 → (gL' b v).toInt = rsL (mnF (FF gF) sh lg b) (4 - v) v ∧ (gM' b v).toInt = rsL (mxF (FF gF) sh lg b) (4 - v) v) ∧ (∀ b', b' ≠ b → gL' b' = gL b' ∧ gM' b' = gM b') ∧ gL' b 4 = gL b 4 ∧ gM' b 4 = gM b 4 := by
  have hB := hG.1
  intro k
  induction k with
  | zero =>
    intro K gL gM hk hK h
    obtain ⟨K, rfl⟩ : ∃ j, K = j + 1 := ⟨K - 1, by omega⟩
    exact ⟨gL, gM, by rw [f_Se_sumRests_2, if_pos dn0], fun v hv => h v (by omega) hv, fun b' _ => ⟨rfl, rfl⟩, rfl, rfl⟩
  | succ k ih =>
    intro K gL gM hk hK h
    obtain ⟨K, rfl⟩ : ∃ j, K = j + 1 := ⟨K - 1, by omega⟩
    obtain ⟨s1, s2, s3, s4⟩ := hs k (by omega)
    have hf := hG.2 b k hb (by omega)
    have b1 := bnd (f := FF gF b k) (t := (sh k : Int)) hf.1 hf.2 (by omega) (by omega)
    have b2 := bnd (f := FF gF b k) (t := (lg k : Int)) hf.1 hf.2 (by omega) (by omega)
    have m1 : (gF b k * nI (sh k)).toInt = FF gF b k * sh k := by
      rw [mul32 (by rw [nI_int (by omega)]; show -2147483648 ≤ FF gF b k * _; omega) (by rw [nI_int (by omega)]; show FF gF b k * _ < _; omega), nI_int (by omega)]; rfl
    have m2 : (gF b k * nI (lg k)).toInt = FF gF b k * lg k := by
      rw [mul32 (by rw [nI_int (by omega)]; show -2147483648 ≤ FF gF b k * _; omega) (by rw [nI_int (by omega)]; show FF gF b k * _ < _; omega), nI_int (by omega)]; rfl
    have hall : ∀ w, w < 4 → (-3100 ≤ mnF (FF gF) sh lg b w ∧ mnF (FF gF) sh lg b w ≤ 3100) ∧ (-3100 ≤ mxF (FF gF) sh lg b w ∧ mxF (FF gF) sh lg b w ≤ 3100) := by
      intro w hw
      have hf' := hG.2 b w hb hw
      have q := hs w hw
      have c1 := bnd (f := FF gF b w) (t := (sh w : Int)) hf'.1 hf'.2 (by omega) (by omega)
      have c2 := bnd (f := FF gF b w) (t := (lg w : Int)) hf'.1 hf'.2 (by omega) (by omega)
      unfold mnF mxF
      constructor <;> split <;> assumption
    have hmn : (if gF b k * nI (lg k) < gF b k * nI (sh k) then gF b k * nI (lg k) else gF b k * nI (sh k)).toInt = mnF (FF gF) sh lg b k := by
      unfold mnF
      by_cases hc : gF b k * nI (lg k) < gF b k * nI (sh k)
      · rw [if_pos hc, m2]
        rw [Int32.lt_iff_toInt_lt, m1, m2] at hc
        rw [if_pos hc]
      · rw [if_neg hc, m1]
        rw [Int32.lt_iff_toInt_lt, m1, m2] at hc
        rw [if_neg hc]
    have hmx : (if gF b k * nI (sh k) < gF b k * nI (lg k) then gF b k * nI (lg k) else gF b k * nI (sh k)).toInt = mxF (FF gF) sh lg b k := by
      unfold mxF
      by_cases hc : gF b k * nI (sh k) < gF b k * nI (lg k)
      · rw [if_pos hc, m2]
        rw [Int32.lt_iff_toInt_lt, m1, m2] at hc
        rw [if_pos hc]
      · rw [if_neg hc, m1]
        rw [Int32.lt_iff_toInt_lt, m1, m2] at hc
        rw [if_neg hc]
    have hk1 := h (k + 1) (by omega) (by omega)
    have r1 := rs_bnd (f := mnF (FF gF) sh lg b) (4 - (k + 1)) (k + 1) (fun w p q => (hall w (by omega)).1)
    have r2 := rs_bnd (f := mxF (FF gF) sh lg b) (4 - (k + 1)) (k + 1) (fun w p q => (hall w (by omega)).2)
    have hak := hall k (by omega)
    have e4 : 4 - k = (4 - (k + 1)) + 1 := by omega
    obtain ⟨gL', gM', x1, x2, x3, x4, x5⟩ := ih K (gup gL b (upd (gL b) k (gL b (k + 1) + (if gF b k * nI (lg k) < gF b k * nI (sh k) then gF b k * nI (lg k) else gF b k * nI (sh k))))) (gup gM b (upd (gM b) k (gM b (k + 1) + (if gF b k * nI (sh k) < gF b k * nI (lg k) then gF b k * nI (lg k) else gF b k * nI (sh k))))) (by omega) (by omega) (fun v hv1 hv2 => by
      rw [gup_s, gup_s]
      by_cases hvk : v = k
      · rw [hvk, uis, uis, e4]
        constructor
        · rw [add32 (by rw [hmn, hk1.1]; omega) (by rw [hmn, hk1.1]; omega), hmn, hk1.1]; rfl
        · rw [add32 (by rw [hmx, hk1.2]; omega) (by rw [hmx, hk1.2]; omega), hmx, hk1.2]; rfl
      · rw [uin hvk, uin hvk]; exact h v (by omega) hv2)
    refine ⟨gL', gM', ?_, x2, fun b' hb' => ?_, ?_, ?_⟩
    · rw [dn1, f_Se_sumRests_2, if_neg (nI_nn (by omega)), nI_gin (by omega) (by omega), ogd_t, nI_gin (show k < 4 by omega) (by omega), ogd_t, s3, sb_t, sb_t, ogd_t, ogd_t, s4, sb_t, sb_t, ogd_t, ogd_t, show nI k + 1 = nI (k + 1) from by rw [l1, nJ_add], nI_gin (show k + 1 < 5 by omega) (by omega), ogd_t, nI_gin (show k < 5 by omega) (by omega), ogd_t, ogd_t, ogd_t, ogd_t, ogd_t, nI_nat (show b < 2147483648 by omega), nI_nat (show k < 2147483648 by omega), nI_nat (show k + 1 < 2147483648 by omega)]
      exact x1
    · have := x3 b' hb'
      rw [gup_n hb', gup_n hb'] at this
      exact this
    · rw [x4, gup_s, uin (by omega)]
    · rw [x5, gup_s, uin (by omega)]
theorem fl2 {n B : Nat} {gF : Nat → Nat → Int32} {A : Nat → Int64} {sh lg : Nat → Nat} (hn : 64 < n) (hG : GB B gF) (hs : ∀ v, v < 4 → sh v < 32 ∧ lg v < 32 ∧ f_Se_shortestAllowed n (nI v) A = some (nI (sh v)) ∧ f_Se_longestAllowed n (nI v) A = some (nI (lg v))) : ∀ d K b gL gM, b + d = B → d < K → (∀ b', gL b' 4 = 0 ∧ gM b' 4 = 0) → (∀ b' v, b' < b → v ≤ 4 → (gL b' v).toInt = rsL (mnF (FF gF) sh lg b') (4 - v) v ∧ (gM b' v).toInt = rsL (mxF (FF gF) sh lg b') (4 - v) v) → ∃ gL' gM', f_Se_findLengths_2 n (nI B) A gF K (nI b) gL gM = some (nI B, gL', gM') ∧ (∀ b', gL' b' 4 = 0 ∧ gM' b' 4 = 0) ∧ ∀ b' v, b' < B → v ≤ 4 → (gL' b' v).toInt = rsL (mnF (FF gF) sh lg b') (4 - v) v ∧ (gM' b' v).toInt = rsL (mxF (FF gF) sh lg b') (4 - v) v := by
  have hB := hG.1
  intro d
  induction d with
  | zero =>
    intro K b gL gM hb hK h4 h
    obtain ⟨K, rfl⟩ : ∃ j, K = j + 1 := ⟨K - 1, by omega⟩
    have : b = B := by omega
    subst this
    exact ⟨gL, gM, by rw [f_Se_findLengths_2, if_pos (by rw [nJ_le (by omega) (by omega)]; omega)], h4, h⟩
  | succ d ih =>
    intro K b gL gM hb hK h4 h
    obtain ⟨K, rfl⟩ : ∃ j, K = j + 1 := ⟨K - 1, by omega⟩
    obtain ⟨gL1, gM1, x1, x2, x3, x4, x5⟩ := sr2 (n := n) hG (show b < B by omega) hs 4 n gL gM (by omega) (by omega) (fun v hv1 hv2 => by
      have : v = 4 := by omega
      subst this
      rw [(h4 b).1, (h4 b).2]
      exact ⟨rfl, rfl⟩)
    rw [dn1] at x1
    have x1' : f_Se_sumRests n (nI b) A gF gL gM = some (gL1, gM1) := by
      rw [f_Se_sumRests, sb_t, show f_Se_sumRests_2 n (nI b) A gF n 3 gL gM = _ from x1]; rfl
    obtain ⟨gL', gM', y1, y2, y3⟩ := ih K (b + 1) gL1 gM1 (by omega) (by omega) (fun b' => by
      by_cases hbb : b' = b
      · rw [hbb, x4, x5]; exact h4 b
      · rw [(x3 b' hbb).1, (x3 b' hbb).2]; exact h4 b') (fun b' v hb' hv => by
      by_cases hbb : b' = b
      · rw [hbb]; exact x2 v hv
      · rw [(x3 b' hbb).1, (x3 b' hbb).2]; exact h b' v (by omega) hv)
    refine ⟨gL', gM', ?_, y2, y3⟩
    rw [f_Se_findLengths_2, if_neg (by rw [nJ_le (by omega) (by omega)]; omega), x1', sb_t, l1, nJ_add]
    exact y1
