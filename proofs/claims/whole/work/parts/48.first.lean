/-! STAGE 2. THE CALLS: first -/
theorem le52_0 {n s i : Nat} {mGoes : Nat → Int32} {L : Nat → Int64} {b : Int32} {k : Nat} (hk : 0 < k) : f_Mo_lead_52 n (nI s) (nI 0) (nI i) mGoes L k (nI 0) b = some (nI 0, b) := by
  obtain ⟨k, rfl⟩ : ∃ j, k = j + 1 := ⟨k - 1, by omega⟩
  rw [f_Mo_lead_52, l4, if_neg (by rw [nJ_le (by omega) (by omega)]; omega), l0, if_pos (by rw [nJ_le (by omega) (by omega)]; omega)]
theorem le52 {n S i t : Nat} {mGoes : Nat → Int32} {go : Nat → Nat → Nat} {L : Nat → Int64} (hwf : WF S go) (hi : i < 60) (hgo : ∀ s l, s < S → l < 4 → mGoes (4 * (64 * i + s) + l) = nI (go s l)) {s : Nat} (hs : s < S) (ht : t < 31) : ∀ d k l v, l + d = 4 → d < k → (v = 0 ∨ v = 1) → ∃ v', f_Mo_lead_52 n (nI s) (nI (t + 1)) (nI i) mGoes L k (nI l) v = some (nI 4, v') ∧ (v' = 0 ↔ v = 0 ∧ ∀ l', l ≤ l' → l' < 4 → bit (L t) (go s l') = false) := by
  obtain ⟨h0, h64, hlt⟩ := hwf
  intro d
  induction d with
  | zero =>
    intro k l v hl hk hv
    obtain ⟨k, rfl⟩ : ∃ j, k = j + 1 := ⟨k - 1, by omega⟩
    have : l = 4 := by omega
    subst this
    exact ⟨v, by rw [f_Mo_lead_52, l4, if_pos (by rw [nJ_le (by omega) (by omega)]; omega)], ⟨fun h => ⟨h, fun l' h1 h2 => by omega⟩, fun h => h.1⟩⟩
  | succ d ih =>
    intro k l v hl hk hv
    obtain ⟨k, rfl⟩ : ∃ j, k = j + 1 := ⟨k - 1, by omega⟩
    have hb := hlt s l hs (by omega)
    have e : f_Mo_lead_52 n (nI s) (nI (t + 1)) (nI i) mGoes L (k + 1) (nI l) v = if bit (L t) (go s l) = false then f_Mo_lead_52 n (nI s) (nI (t + 1)) (nI i) mGoes L k (nI (l + 1)) (v ||| 0) else f_Mo_lead_52 n (nI s) (nI (t + 1)) (nI i) mGoes L k (nI (l + 1)) (v ||| 1) := by
      rw [f_Mo_lead_52, l4, if_neg (by rw [nJ_le (by omega) (by omega)]; omega), l0, if_neg (by rw [nJ_le (by omega) (by omega)]; omega)]
      simp only [l1, nI_sub (show 1 ≤ t + 1 by omega), Nat.add_sub_cancel, nI_gin (show t < 32 by omega) (by omega), ogd_t, go_r h64 hi hgo hs (show l < 4 by omega), sb_t, nI_nat (show t < 2147483648 by omega), lshr1 (show go s l < 64 by omega), nJ_add]
    rw [e]
    by_cases hbit : bit (L t) (go s l) = false
    · rw [if_pos hbit, Int32.or_zero]
      obtain ⟨v', h1, h2⟩ := ih k (l + 1) v (by omega) (by omega) hv
      refine ⟨v', h1, h2.trans ⟨fun h => ⟨h.1, fun l' a b => ?_⟩, fun h => ⟨h.1, fun l' a b => h.2 l' (by omega) b⟩⟩⟩
      by_cases hl' : l' = l
      · subst hl'; exact hbit
      · exact h.2 l' (by omega) b
    · rw [if_neg hbit]
      have hv1 : v ||| 1 = 1 := by rcases hv with rfl | rfl <;> decide
      rw [hv1]
      obtain ⟨v', h1, h2⟩ := ih k (l + 1) 1 (by omega) (by omega) (.inr rfl)
      refine ⟨v', h1, h2.trans ⟨fun h => absurd h.1 (by decide), fun h => absurd (h.2 l (by omega) (by omega)) hbit⟩⟩
theorem le17 {n S i t : Nat} {mSize mGoes : Nat → Int32} {mLast : Nat → Bool} {go : Nat → Nat → Nat} {fin : Nat → Bool} (hwf : WF S go) (hi : i < 60) (hz : mSize i = nI S) (hgo : ∀ s l, s < S → l < 4 → mGoes (4 * (64 * i + s) + l) = nI (go s l)) (hla : ∀ s, s < S → mLast (64 * i + s) = fin s) (hn : 64 < n) (ht : t < 32) : ∀ d k s L, s + d = S → d < k → (∀ j b, j < t → b < 64 → bit (L j) b = (decide (b < S) && acc go fin j b)) → (∀ b, b < 64 → bit (L t) b = (decide (b < s) && acc go fin t b)) → ∃ L', f_Mo_lead_17 n (nI t) (nI i) mSize mGoes mLast k (nI s) L = some (nI S, L') ∧ ∀ j b, j < t + 1 → b < 64 → bit (L' j) b = (decide (b < S) && acc go fin j b) := by
  have h64 := hwf.2.1
  intro d
  induction d with
  | zero =>
    intro k s L hs hk hL1 hL2
    obtain ⟨k, rfl⟩ : ∃ j, k = j + 1 := ⟨k - 1, by omega⟩
    have : s = S := by omega
    subst this
    refine ⟨L, by rw [f_Mo_lead_17, nI_gin hi (by omega), ogd_t, nI_nat (by omega), hz, if_pos (by rw [nJ_le (by omega) (by omega)]; omega)], fun j b hj hb => ?_⟩
    by_cases hjt : j = t
    · subst hjt; exact hL2 b hb
    · exact hL1 j b (by omega) hb
  | succ d ih =>
    intro k s L hs hk hL1 hL2
    obtain ⟨k, rfl⟩ : ∃ j, k = j + 1 := ⟨k - 1, by omega⟩
    have hsS : s < S := by omega
    have key : f_Mo_lead_17 n (nI t) (nI i) mSize mGoes mLast (k + 1) (nI s) L = if acc go fin t s = true then f_Mo_lead_17 n (nI t) (nI i) mSize mGoes mLast k (nI (s + 1)) (vp_updL L t (L t ||| lshl 1 (nI s))) else f_Mo_lead_17 n (nI t) (nI i) mSize mGoes mLast k (nI (s + 1)) L := by
      rw [f_Mo_lead_17, nI_gin hi (by omega), ogd_t, nI_nat (by omega), hz, if_neg (by rw [nJ_le (by omega) (by omega)]; omega)]
      by_cases ht0 : t = 0
      · subst ht0
        rw [l0, if_pos rfl, il_r hi hla hsS h64, sb_t, le52_0 (by omega), le52_0 (by omega), sb_t, sb_t]
        have ea : acc go fin 0 s = fin s := rfl
        rw [ea]
        by_cases hf : fin s = true
        · rw [if_pos hf, if_pos hf, if_neg (show ¬ (nI 0, (1 : Int32)).2 = nI 0 by decide), nI_gin (by omega) (by omega), ogd_t, ogd_t, nI_nat (by omega), l1, nJ_add]
        · rw [if_neg hf, if_neg hf, if_pos rfl, l1, nJ_add]
      · obtain ⟨t', rfl⟩ : ∃ j, t = j + 1 := ⟨t - 1, by omega⟩
        rw [l0, if_neg (by rw [nJ_eq (by omega) (by omega)]; omega)]
        obtain ⟨v', g1, g2⟩ := le52 (n := n) (L := L) hwf hi hgo hsS (show t' < 31 by omega) 4 n 0 0 (by omega) (by omega) (.inl rfl)
        rw [← l0]
        rw [← l0] at g1
        rw [g1, sb_t]
        have hb : ∀ l, l < 4 → bit (L t') (go s l) = acc go fin t' (go s l) := by
          intro l hl
          have h5 := hwf.2.2 s l hsS hl
          rw [hL1 t' (go s l) (by omega) (by omega)]
          simp [h5]
        by_cases hv : v' = 0
        · have hall := (g2.mp hv).2
          have e0 := hall 0 (by omega) (by omega)
          have e1 := hall 1 (by omega) (by omega)
          have e2 := hall 2 (by omega) (by omega)
          have e3 := hall 3 (by omega) (by omega)
          rw [hb _ (by omega)] at e0 e1 e2 e3
          rw [if_pos (show (nI 4, v').2 = 0 from hv), if_neg (by simp [acc, e0, e1, e2, e3]), l1, nJ_add]
        · have hacc : acc go fin (t' + 1) s = true := by
            rw [← Bool.not_eq_false]
            intro hf
            simp only [acc, Bool.or_eq_false_iff] at hf
            apply hv
            apply g2.mpr
            refine ⟨rfl, fun l' a b => ?_⟩
            rw [hb l' b]
            have : l' = 0 ∨ l' = 1 ∨ l' = 2 ∨ l' = 3 := by omega
            rcases this with rfl | rfl | rfl | rfl
            · exact hf.1.1.1
            · exact hf.1.1.2
            · exact hf.1.2
            · exact hf.2
          rw [if_neg (show ¬ (nI 4, v').2 = 0 from hv), if_pos hacc, nI_gin (by omega) (by omega), ogd_t, ogd_t, nI_nat (by omega), l1, nJ_add]
    rw [key]
    by_cases ha : acc go fin t s = true
    · rw [if_pos ha]
      refine ih k (s + 1) _ (by omega) (by omega) (fun j b hj hb => by rw [ujn (by omega)]; exact hL1 j b hj hb) (fun b hb => ?_)
      rw [ujs, bit_set (by omega) hb, hL2 b hb]
      by_cases hbs : b = s
      · subst hbs; simp [ha]
      · have : (b < s + 1) = (b < s) := propext ⟨fun h => by omega, fun h => by omega⟩
        simp [hbs, this]
    · rw [if_neg ha]
      refine ih k (s + 1) _ (by omega) (by omega) hL1 (fun b hb => ?_)
      rw [hL2 b hb]
      by_cases hbs : b = s
      · subst hbs; simp [Bool.not_eq_true _ ▸ ha]
      · have : (b < s + 1) = (b < s) := propext ⟨fun h => by omega, fun h => by omega⟩
        simp [this]
theorem le2 {n S i m : Nat} {mSize mGoes : Nat → Int32} {mLast : Nat → Bool} {go : Nat → Nat → Nat} {fin : Nat → Bool} (hwf : WF S go) (hi : i < 60) (hz : mSize i = nI S) (hgo : ∀ s l, s < S → l < 4 → mGoes (4 * (64 * i + s) + l) = nI (go s l)) (hla : ∀ s, s < S → mLast (64 * i + s) = fin s) (hn : 64 < n) (hm : m < 32) : ∀ d k t L, t + d = m + 1 → d < k → (∀ j b, j < t → b < 64 → bit (L j) b = (decide (b < S) && acc go fin j b)) → ∃ L', f_Mo_lead_2 n (nI i) (nI m) mSize mGoes mLast k (nI t) L = some (nI (m + 1), L') ∧ ∀ j b, j < m + 1 → b < 64 → bit (L' j) b = (decide (b < S) && acc go fin j b) := by
  have h64 := hwf.2.1
  intro d
  induction d with
  | zero =>
    intro k t L ht hk hL
    obtain ⟨k, rfl⟩ : ∃ j, k = j + 1 := ⟨k - 1, by omega⟩
    have : t = m + 1 := by omega
    subst this
    exact ⟨L, by rw [f_Mo_lead_2, if_pos (by rw [nJ_lt (by omega) (by omega)]; omega)], hL⟩
  | succ d ih =>
    intro k t L ht hk hL
    obtain ⟨k, rfl⟩ : ∃ j, k = j + 1 := ⟨k - 1, by omega⟩
    obtain ⟨L1, g1, g2⟩ := le17 (n := n) (t := t) (fin := fin) hwf hi hz hgo hla hn (by omega) S n 0 (vp_updL L t 0) (by omega) (by omega) (fun j b hj hb => by rw [ujn (by omega)]; exact hL j b hj hb) (fun b hb => by rw [ujs, bit_zero]; simp)
    obtain ⟨L', h1, h2⟩ := ih k (t + 1) L1 (by omega) (by omega) g2
    refine ⟨L', ?_, h2⟩
    rw [f_Mo_lead_2, if_neg (by rw [nJ_lt (by omega) (by omega)]; omega), nI_gin (by omega) (by omega), ogd_t, nI_nat (by omega), l0, g1, sb_t, l1, nJ_add]
    exact h1
theorem le_r {n S i m : Nat} {mSize mGoes : Nat → Int32} {mLast : Nat → Bool} {go : Nat → Nat → Nat} {fin : Nat → Bool} {L : Nat → Int64} (hwf : WF S go) (hi : i < 60) (hR : AuR i mSize mGoes mLast S go fin) (hn : 64 < n) (hm : m < 32) : ∃ L', f_Mo_lead n (nI i) (nI m) mSize mGoes mLast L = some L' ∧ ∀ j b, j ≤ m → b < 64 → bit (L' j) b = (decide (b < S) && acc go fin j b) := by
  obtain ⟨L', h1, h2⟩ := le2 (n := n) (m := m) hwf hi hR.1 hR.2.1 hR.2.2 hn hm (m + 1) n 0 L (by omega) (by omega) (fun j b hj hb => absurd hj (Nat.not_lt_zero _))
  refine ⟨L', ?_, fun j b hj hb => h2 j b (by omega) hb⟩
  rw [f_Mo_lead, l0, h1]; rfl
/-- the least letter -/
def lst (p : Nat → Bool) : Nat := if p 0 = true then 0 else if p 1 = true then 1 else if p 2 = true then 2 else 3
theorem lst4 (p : Nat → Bool) : lst p < 4 := by
  unfold lst; split
  · omega
  · split
    · omega
    · split <;> omega
theorem lst_t {p : Nat → Bool} (h : (p 0 || p 1 || p 2 || p 3) = true) : p (lst p) = true := by
  unfold lst
  split
  · assumption
  · split
    · assumption
    · split
      · assumption
      · simp_all
theorem ll_c {n S : Nat} {nx : Nat → Int32} {go : Nat → Nat → Nat} {p : Nat → Bool} {t : Int64} (hwf : WF S go) (hgo : ∀ s l, s < S → l < 4 → nx (4 * s + l) = nI (go s l)) {s : Nat} (hs : s < S) (hp : ∀ l, l < 4 → bit t (go s l) = p l) (hn : 64 < n) : f_Au_leastLetter n (nI s) t (4 * S) nx = some (nI (lst p)) := by
  obtain ⟨h0, h64, hlt⟩ := hwf
  obtain ⟨k, rfl⟩ : ∃ k, n = k + 5 := ⟨n - 5, by omega⟩
  have b0 := hlt s 0 hs (by omega)
  have b1 := hlt s 1 hs (by omega)
  have b2 := hlt s 2 hs (by omega)
  have g0 := go_c (n := k + 5) h64 hgo hs (show 0 < 4 by omega)
  have g1 := go_c (n := k + 5) h64 hgo hs (show 1 < 4 by omega)
  have g2 := go_c (n := k + 5) h64 hgo hs (show 2 < 4 by omega)
  rw [f_Au_leastLetter, l0, f_Au_leastLetter_3, l3, if_neg (by rw [nJ_le (by omega) (by omega)]; omega)]
  simp only [g0, sb_t, lushr1 (show go s 0 < 64 by omega), hp 0 (by omega)]
  unfold lst
  cases hp0 : p 0
  · rw [if_pos rfl, l1, nJ_add, f_Au_leastLetter_3, l3, if_neg (by rw [nJ_le (by omega) (by omega)]; omega)]
    simp only [Nat.zero_add, g1, sb_t, lushr1 (show go s 1 < 64 by omega), hp 1 (by omega)]
    cases hp1 : p 1
    · rw [if_pos rfl, l1, nJ_add, f_Au_leastLetter_3, l3, if_neg (by rw [nJ_le (by omega) (by omega)]; omega)]
      simp only [Nat.reduceAdd, g2, sb_t, lushr1 (show go s 2 < 64 by omega), hp 2 (by omega)]
      cases hp2 : p 2
      · rw [if_pos rfl, l1, nJ_add, f_Au_leastLetter_3, l3, if_pos (by rw [nJ_le (by omega) (by omega)]; omega)]
        rfl
      · rfl
    · rfl
  · rfl
theorem ll_r {n S i t : Nat} {mGoes : Nat → Int32} {go : Nat → Nat → Nat} {p : Nat → Bool} {L : Nat → Int64} (hwf : WF S go) (hi : i < 60) (hgo : ∀ s l, s < S → l < 4 → mGoes (4 * (64 * i + s) + l) = nI (go s l)) {s : Nat} (hs : s < S) (ht : t < 32) (hp : ∀ l, l < 4 → bit (L t) (go s l) = p l) (hn : 64 < n) (hx : (p 0 || p 1 || p 2 || p 3) = true) : f_Mo_firstWord_18 n (nI t) (nI s) (nI i) mGoes L n (nI 0) = some (nI (lst p)) := by
  obtain ⟨h0, h64, hlt⟩ := hwf
  obtain ⟨k, rfl⟩ : ∃ k, n = k + 5 := ⟨n - 5, by omega⟩
  have b0 := hlt s 0 hs (by omega)
  have b1 := hlt s 1 hs (by omega)
  have b2 := hlt s 2 hs (by omega)
  have b3 := hlt s 3 hs (by omega)
  have g0 := go_r (n := k + 5) h64 hi hgo hs (show 0 < 4 by omega)
  have g1 := go_r (n := k + 5) h64 hi hgo hs (show 1 < 4 by omega)
  have g2 := go_r (n := k + 5) h64 hi hgo hs (show 2 < 4 by omega)
  have g3 := go_r (n := k + 5) h64 hi hgo hs (show 3 < 4 by omega)
  have gt := nI_gin ht (by omega)
  have tn := nI_nat (show t < 2147483648 by omega)
  rw [f_Mo_firstWord_18, gt, ogd_t, g0, sb_t, tn]
  simp only [lshr1 (show go s 0 < 64 by omega), hp 0 (by omega)]
  unfold lst
  cases hp0 : p 0
  · rw [if_pos rfl, l1, nJ_add, f_Mo_firstWord_18, gt, ogd_t, Nat.zero_add, g1, sb_t, tn]
    simp only [lshr1 (show go s 1 < 64 by omega), hp 1 (by omega)]
    cases hp1 : p 1
    · rw [if_pos rfl, l1, nJ_add, f_Mo_firstWord_18, gt, ogd_t, show 1 + 1 = 2 from rfl, g2, sb_t, tn]
      simp only [lshr1 (show go s 2 < 64 by omega), hp 2 (by omega)]
      cases hp2 : p 2
      · rw [if_pos rfl, l1, nJ_add, f_Mo_firstWord_18, gt, ogd_t, show 2 + 1 = 3 from rfl, g3, sb_t, tn]
        simp only [lshr1 (show go s 3 < 64 by omega), hp 3 (by omega)]
        have : p 3 = true := by simpa [hp0, hp1, hp2] using hx
        rw [this]; rfl
      · rfl
    · rfl
  · rfl
theorem fw {n S i m : Nat} {nx mGoes : Nat → Int32} {go : Nat → Nat → Nat} {fin : Nat → Bool} {A L : Nat → Int64} (hwf : WF S go) (hi : i < 60) (hc : ∀ s l, s < S → l < 4 → nx (4 * s + l) = nI (go s l)) (hr : ∀ s l, s < S → l < 4 → mGoes (4 * (64 * i + s) + l) = nI (go s l)) (hA : ∀ k b, k < 64 → b < 64 → bit (A k) b = (decide (b < S) && acc go fin k b)) (hm : m < 32) (hL : ∀ j b, j ≤ m → b < 64 → bit (L j) b = (decide (b < S) && acc go fin j b)) (hn : 64 < n) : ∀ d k s w, d ≤ m → d < k → s < S → acc go fin d s = true → ∃ s' w', f_Au_leastWord_10 n (4 * S) nx A k (nI d + (-1)) (nI s) w = some (nI 0 + (-1), s', w') ∧ f_Mo_firstWord_10 n (nI i) mGoes L k (nI d + (-1)) (nI s) w = some (nI 0 + (-1), s', w') := by
  have h64 := hwf.2.1
  intro d
  induction d with
  | zero =>
    intro k s w hd hk hs ha
    obtain ⟨k, rfl⟩ : ∃ j, k = j + 1 := ⟨k - 1, by omega⟩
    exact ⟨nI s, w, by rw [f_Au_leastWord_10, if_pos dn0], by rw [f_Mo_firstWord_10, if_pos dn0]⟩
  | succ d ih =>
    intro k s w hd hk hs ha
    obtain ⟨k, rfl⟩ : ∃ j, k = j + 1 := ⟨k - 1, by omega⟩
    rw [dn1]
    have hx : ((fun l => acc go fin d (go s l)) 0 || (fun l => acc go fin d (go s l)) 1 || (fun l => acc go fin d (go s l)) 2 || (fun l => acc go fin d (go s l)) 3) = true := ha
    have hb : ∀ l, l < 4 → go s l < S := fun l hl => hwf.2.2 s l hs hl
    have q1 := ll_c (n := n) (p := fun l => acc go fin d (go s l)) (t := A d) hwf hc hs (fun l hl => by
      rw [hA d (go s l) (by omega) (by have := hb l hl; omega)]; simp [hb l hl]) hn
    have q2 := ll_r (n := n) (p := fun l => acc go fin d (go s l)) (L := L) (t := d) hwf hi hr hs (by omega) (fun l hl => by
      rw [hL d (go s l) (by omega) (by have := hb l hl; omega)]; simp [hb l hl]) hn hx
    have ht := lst_t (p := fun l => acc go fin d (go s l)) hx
    have hl4 := lst4 (fun l => acc go fin d (go s l))
    generalize lst (fun l => acc go fin d (go s l)) = lt at q1 q2 ht hl4
    obtain ⟨s', w', e1, e2⟩ := ih k (go s lt) (lshl w 2 ||| (nI lt).toInt64) (by omega) (by omega) (hb lt hl4) ht
    refine ⟨s', w', ?_, ?_⟩
    · rw [f_Au_leastWord_10, if_neg (nI_nn (by omega)), nI_gin (by omega) (by omega), ogd_t, nI_nat (by omega), q1, sb_t, go_c h64 hc hs hl4, sb_t]; exact e1
    · rw [f_Mo_firstWord_10, if_neg (nI_nn (by omega)), l0, q2, sb_t, go_r h64 hi hr hs hl4, sb_t]; exact e2
theorem fw_b {n S i m : Nat} {nx mGoes : Nat → Int32} {go : Nat → Nat → Nat} {fin : Nat → Bool} {A L : Nat → Int64} (hwf : WF S go) (hi : i < 60) (hc : ∀ s l, s < S → l < 4 → nx (4 * s + l) = nI (go s l)) (hr : ∀ s l, s < S → l < 4 → mGoes (4 * (64 * i + s) + l) = nI (go s l)) (hA : ∀ k b, k < 64 → b < 64 → bit (A k) b = (decide (b < S) && acc go fin k b)) (hm : m < 32) (hL : ∀ j b, j ≤ m → b < 64 → bit (L j) b = (decide (b < S) && acc go fin j b)) (hn : 64 < n) (ha : acc go fin m 0 = true) : ∃ w, f_Au_leastWord n (nI m) (4 * S) nx A = some w ∧ f_Mo_firstWord n (nI i) (nI m) mGoes L = some w := by
  obtain ⟨s', w', e1, e2⟩ := fw (n := n) hwf hi hc hr hA hm hL hn m n 0 0 (by omega) (by omega) hwf.1 ha
  refine ⟨w', ?_, ?_⟩
  · rw [f_Au_leastWord, sub1, l0, e1]; rfl
  · rw [f_Mo_firstWord, sub1, l0, e2]; rfl
theorem hl_c {n S : Nat} {go : Nat → Nat → Nat} {fin : Nat → Bool} {A : Nat → Int64} (hwf : WF S go) (hA : ∀ k b, k < 64 → b < 64 → bit (A k) b = (decide (b < S) && acc go fin k b)) {m : Nat} (hm : m < 64) : f_Au_hasLength n (nI m) A = some (acc go fin m 0) := by
  rw [f_Au_hasLength, nI_gin hm (by omega), ogd_t, nI_nat (by omega)]
  simp only [and1_zero, hA m 0 hm (by omega), hwf.1, decide_true, Bool.true_and]
  cases acc go fin m 0 <;> rfl
theorem cl_first {n : Nat} (hn : 64 < n) {p0 p1 : Int32} {o : Nat → Int64} {xLang xCount T mLanguages mSize mGoes mLast mLeads} (hL : RelL xLang xCount T mLanguages mSize mGoes mLast) : ∃ u w, f_La_first n p0 p1 xLang xCount T o = some u ∧ f_Mo_first n p0 p1 mLanguages mSize mGoes mLast mLeads = some w ∧ ((∃ (k : Int32) (m : Unit), u = .inl (k, m) ∧ k ≠ 0 ∧ w.2.1 = k) ∨ ∃ (o2 : Nat → Int64) (v : Int64), u = .inr (o2, v) ∧ w.2.1 = 0 ∧ o2 (0 : Int32).toNatClampNeg = w.1) := by
  obtain ⟨c0, c3, c31, -⟩ := c03
  obtain ⟨N, hN, rfl, rfl, hI, hE⟩ := hL
  by_cases h0 : 0 ≤ p0.toInt ∧ p0.toInt < N
  · by_cases h1 : 0 ≤ p1.toInt ∧ p1.toInt ≤ 31
    · obtain ⟨i, hi, rfl⟩ := idx h0.1 h0.2
      obtain ⟨m, hm, rfl⟩ := idx (k := 32) h1.1 (by omega)
      obtain ⟨q, hq, S, go, fin, hwf, hC, hR⟩ := hI i hi
      obtain ⟨a1, a2, a3, a4, a5⟩ := hC
      have h64 := hwf.2.1
      have hi6 : i < 60 := by omega
      obtain ⟨L', f1, f2⟩ := le_r (n := n) (L := mLeads) hwf hi6 hR hn hm
      have hb0 : bit (L' m) 0 = acc go fin m 0 := by rw [f2 m 0 (by omega) (by omega)]; simp [hwf.1]
      have hh := hl_c (n := n) hwf a5 (show m < 64 by omega)
      cases ha : acc go fin m 0
      · refine ⟨.inl (2, ()), (0, 2, L'), ?_, ?_, .inl ⟨2, (), rfl, by decide, rfl⟩⟩
        · simp only [f_La_first, f_RS_first, reqL hN, h0, and_self, if_true, sb_t, el_r, reqB, c0, c31, h1, nI_gin hi6 (by omega), ogd_t, nI_nat (show i < 2147483648 by omega), hq, oq, hh, ha]
          rfl
        · simp only [f_Mo_first, isL hN, h0, and_self, decide_true, sb_t, if_true, in031, h1, fails_f, f1, nI_gin hm (by omega), ogd_t, nI_nat (show m < 2147483648 by omega), and1_zero, hb0, ha, fails_t (show (2 : Int32) ≠ 0 by decide)]
          rfl
      · obtain ⟨w, g1, g2⟩ := fw_b (n := n) hwf hi6 a3 hR.2.1 a5 hm f2 hn ha
        refine ⟨.inr (vp_updL o 0 w, w), (w, 0, L'), ?_, ?_, .inr ⟨_, _, rfl, rfl, rfl⟩⟩
        · simp only [f_La_first, f_RS_first, reqL hN, h0, and_self, if_true, sb_t, el_r, reqB, c0, c31, h1, nI_gin hi6 (by omega), ogd_t, nI_nat (show i < 2147483648 by omega), hq, oq, hh, ha, a2, g1]
          rfl
        · simp only [f_Mo_first, isL hN, h0, and_self, decide_true, sb_t, if_true, in031, h1, fails_f, f1, nI_gin hm (by omega), ogd_t, nI_nat (show m < 2147483648 by omega), and1_zero, hb0, ha, g2]
          rfl
    · refine ⟨.inl (1, ()), (0, 1, mLeads), ?_, ?_, .inl ⟨1, _, rfl, by decide, rfl⟩⟩
      · simp [f_La_first, f_RS_first, reqL hN, h0, reqB, c0, c31, h1]
      · simp [f_Mo_first, isL hN, h0, in031, h1, fails_t]
  · refine ⟨.inl (1, ()), (0, 1, mLeads), ?_, ?_, .inl ⟨1, _, rfl, by decide, rfl⟩⟩
    · simp [f_La_first, f_RS_first, reqL hN, h0]
    · simp [f_Mo_first, isL hN, h0, fails_t]
theorem ok_first {n : Nat} (hn : 64 < n) : sim_first n Rel := by
  intro c T r o p0 p1 hR
  obtain ⟨hL, hV, hB, hS⟩ := hR
  obtain ⟨u, w, h1, h2, h3⟩ := cl_first hn (p0 := p0) (p1 := p1) (o := o) hL
  refine ⟨u, w, h1, h2, ?_⟩
  rcases h3 with ⟨k, m, a, b, d⟩ | ⟨o2, v, a, b, d⟩
  · exact .inl ⟨k, m, a, b, d, hL, hV, hB, hS⟩
  · exact .inr ⟨o2, v, a, b, d, hL, hV, hB, hS⟩
