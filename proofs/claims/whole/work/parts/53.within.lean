/-! STAGE 2. THE CALL: within, the reference's side -/
def Rch (g1 g2 : Nat → Nat → Nat) (p q : Nat) : Prop := ∀ P : Nat → Nat → Prop, P 0 0 → (∀ p q l, l < 4 → P p q → P (g1 p l) (g2 q l)) → P p q
theorem rch0 {g1 g2 : Nat → Nat → Nat} : Rch g1 g2 0 0 := fun P h0 hs => h0
theorem rchS {g1 g2 : Nat → Nat → Nat} {p q l : Nat} (h : Rch g1 g2 p q) (hl : l < 4) : Rch g1 g2 (g1 p l) (g2 q l) := fun P h0 hs => hs p q l hl (h P h0 hs)
theorem rch_lt {g1 g2 : Nat → Nat → Nat} {S1 S2 p q : Nat} (w1 : WF S1 g1) (w2 : WF S2 g2) (h : Rch g1 g2 p q) : p < S1 ∧ q < S2 :=
  h (fun p q => p < S1 ∧ q < S2) ⟨w1.1, w2.1⟩ (fun p q l hl hp => ⟨w1.2.2 p l hp.1 hl, w2.2.2 q l hp.2 hl⟩)
def Inc (g1 g2 : Nat → Nat → Nat) (f1 f2 : Nat → Bool) : Prop := ∀ p q, Rch g1 g2 p q → f1 p = true → f2 q = true
theorem cf_mono {f g : Nat → Bool} (h : ∀ i, f i = true → g i = true) : ∀ d s, cf f s d ≤ cf g s d := by
  intro d
  induction d with
  | zero => intro s; exact Nat.le_refl _
  | succ d ih =>
    intro s
    simp only [cf]
    have h1 := ih (s + 1)
    have h2 : (f s).toNat ≤ (g s).toNat := by
      cases hf : f s
      · exact Nat.zero_le _
      · rw [h s hf]; exact Nat.le_refl _
    omega
theorem cf_same {f g : Nat → Bool} : ∀ d s, (∀ i, s ≤ i → i < s + d → f i = g i) → cf f s d = cf g s d := by
  intro d
  induction d with
  | zero => intro s h; rfl
  | succ d ih =>
    intro s h
    simp only [cf]
    rw [ih (s + 1) (fun i a b => h i (by omega) (by omega)), h s (by omega) (by omega)]
theorem cf_up {f : Nat → Bool} {k : Nat} (hk : f k = false) : ∀ d s, s ≤ k → k < s + d → cf (va_up f k true) s d = cf f s d + 1 := by
  intro d
  induction d with
  | zero => intro s h1 h2; omega
  | succ d ih =>
    intro s h1 h2
    simp only [cf]
    by_cases h : s = k
    · subst h
      rw [ups, hk, cf_same (f := va_up f s true) (g := f) d (s + 1) (fun i a b => upn (by omega))]
      simp only [Bool.toNat_true, Bool.toNat_false]
      omega
    · rw [upn h, ih (s + 1) (by omega) (by omega)]
      omega
theorem cf_strict {f g : Nat → Bool} (h : ∀ i, f i = true → g i = true) {k d : Nat} (hk : k < d) (h1 : f k = false) (h2 : g k = true) : cf f 0 d < cf g 0 d := by
  have e := cf_up h1 d 0 (by omega) (by omega)
  have m := cf_mono (f := va_up f k true) (g := g) (fun i hi => by
    by_cases hik : i = k
    · subst hik; exact h2
    · rw [upn hik] at hi; exact h i hi) d 0
  omega
theorem cf_full {f : Nat → Bool} {d : Nat} (h : d ≤ cf f 0 d) : ∀ k, k < d → f k = true := by
  intro k hk
  cases hf : f k
  · have e := cf_up hf d 0 (by omega) (by omega)
    have := cf_le (f := va_up f k true) d 0
    omega
  · rfl
theorem cf_none {f : Nat → Bool} : ∀ d s, (∀ i, s ≤ i → i < s + d → f i = false) → cf f s d = 0 := by
  intro d
  induction d with
  | zero => intro s h; rfl
  | succ d ih =>
    intro s h
    simp only [cf]
    rw [ih (s + 1) (fun i a b => h i (by omega) (by omega)), h s (by omega) (by omega)]
    rfl
def Stk (todo : Nat → Int32) (op k : Nat) : Prop := ∃ j, j < op ∧ todo j = nI k
def Dn (g1 g2 : Nat → Nat → Nat) (f1 f2 : Nat → Bool) (met : Nat → Bool) (k : Nat) : Prop := (f1 (k / 64) = true → f2 (k % 64) = true) ∧ ∀ l, l < 4 → met (64 * g1 (k / 64) l + g2 (k % 64) l) = true
def DI (g1 g2 : Nat → Nat → Nat) (op : Nat) (met : Nat → Bool) (todo : Nat → Int32) : Prop :=
  (∀ k, k < 4096 → met k = true → Rch g1 g2 (k / 64) (k % 64)) ∧ (∀ j, j < op → ∃ k, k < 4096 ∧ todo j = nI k ∧ met k = true) ∧ met 0 = true ∧ op ≤ cf met 0 4096
theorem wi131 {n S1 S2 i1 i2 : Nat} {mGoes : Nat → Int32} {g1 g2 : Nat → Nat → Nat} {f1 f2 : Nat → Bool} (w1 : WF S1 g1) (w2 : WF S2 g2) (hi1 : i1 < 60) (hi2 : i2 < 60) (hg1 : ∀ s l, s < S1 → l < 4 → mGoes (4 * (64 * i1 + s) + l) = nI (g1 s l)) (hg2 : ∀ s l, s < S2 → l < 4 → mGoes (4 * (64 * i2 + s) + l) = nI (g2 s l)) {k0 : Nat} (hk0 : k0 < 4096) (hr0 : Rch g1 g2 (k0 / 64) (k0 % 64)) : ∀ d K l op met todo, l + d = 4 → d < K → DI g1 g2 op met todo → (∀ k, k < 4096 → met k = true → Stk todo op k ∨ Dn g1 g2 f1 f2 met k ∨ k = k0) → (∀ l', l' < l → met (64 * g1 (k0 / 64) l' + g2 (k0 % 64) l') = true) → ∃ op' met' todo', f_Mo_within_131 n (nI (k0 % 64)) (nI (k0 / 64)) (nI i1) (nI i2) mGoes K (nI l) (nI op) met todo = some (nI 4, nI op', met', todo') ∧ DI g1 g2 op' met' todo' ∧ (∀ k, k < 4096 → met' k = true → Stk todo' op' k ∨ Dn g1 g2 f1 f2 met' k ∨ k = k0) ∧ (∀ l', l' < 4 → met' (64 * g1 (k0 / 64) l' + g2 (k0 % 64) l') = true) ∧ op' + cf met 0 4096 = op + cf met' 0 4096 := by
  have h641 := w1.2.1
  have h642 := w2.2.1
  obtain ⟨hp, hq⟩ := rch_lt w1 w2 hr0
  intro d
  induction d with
  | zero =>
    intro K l op met todo hl hK hD hP hl'
    obtain ⟨K, rfl⟩ : ∃ j, K = j + 1 := ⟨K - 1, by omega⟩
    have : l = 4 := by omega
    subst this
    exact ⟨op, met, todo, by rw [f_Mo_within_131, l4, if_pos (by rw [nJ_le (by omega) (by omega)]; omega)], hD, hP, hl', rfl⟩
  | succ d ih =>
    intro K l op met todo hl hK hD hP hl'
    obtain ⟨K, rfl⟩ : ∃ j, K = j + 1 := ⟨K - 1, by omega⟩
    have b1 := w1.2.2 _ l hp (show l < 4 by omega)
    have b2 := w2.2.2 _ l hq (show l < 4 by omega)
    have hle := cf_le (f := met) 4096 0
    obtain ⟨D1, D2, D3, D4⟩ := hD
    rw [f_Mo_within_131, l4, if_neg (by rw [nJ_le (by omega) (by omega)]; omega), go_r h641 hi1 hg1 hp (by omega), sb_t, go_r h642 hi2 hg2 hq (by omega), sb_t]
    simp (disch := omega) only [l64, nI_mul, nJ_add, nI_gin, ogd_t, nI_nat, l1]
    generalize ht : 64 * g1 (k0 / 64) l + g2 (k0 % 64) l = t at *
    have ht4 : t < 4096 := by omega
    by_cases hm : met t = true
    · rw [if_pos hm]
      exact ih K (l + 1) op met todo (by omega) (by omega) ⟨D1, D2, D3, D4⟩ hP (fun l' h => by
        by_cases hll : l' = l
        · subst hll; rw [ht]; exact hm
        · exact hl' l' (by omega))
    · rw [if_neg hm]
      have hmf : met t = false := by simpa using hm
      have hc := cf_up hmf 4096 0 (by omega) (by omega)
      have hle2 := cf_le (f := va_up met t true) 4096 0
      have grow : ∀ k, met k = true → va_up met t true k = true := by
        intro k hk
        by_cases hkt : k = t
        · subst hkt; exact ups
        · rw [upn hkt]; exact hk
      have hD' : DI g1 g2 (op + 1) (va_up met t true) (upd todo op (nI t)) := by
        refine ⟨fun k hk hmk => ?_, fun j hj => ?_, grow _ D3, by omega⟩
        · by_cases hkt : k = t
          · subst hkt
            have e1 : k / 64 = g1 (k0 / 64) l := by omega
            have e2 : k % 64 = g2 (k0 % 64) l := by omega
            rw [e1, e2]; exact rchS hr0 (by omega)
          · rw [upn hkt] at hmk; exact D1 k hk hmk
        · by_cases hjo : j = op
          · subst hjo; exact ⟨t, ht4, uis, ups⟩
          · obtain ⟨k, a, b, c⟩ := D2 j (by omega)
            exact ⟨k, a, by rw [uin hjo]; exact b, grow k c⟩
      have hP' : ∀ k, k < 4096 → va_up met t true k = true → Stk (upd todo op (nI t)) (op + 1) k ∨ Dn g1 g2 f1 f2 (va_up met t true) k ∨ k = k0 := by
        intro k hk hmk
        by_cases hkt : k = t
        · subst hkt; exact .inl ⟨op, by omega, uis⟩
        · rw [upn hkt] at hmk
          rcases hP k hk hmk with ⟨j, a, b⟩ | h | h
          · exact .inl ⟨j, by omega, by rw [uin (by omega)]; exact b⟩
          · exact .inr (.inl ⟨h.1, fun l' hl' => grow _ (h.2 l' hl')⟩)
          · exact .inr (.inr h)
      obtain ⟨op', met', todo', e1, e2, e3, e4, e5⟩ := ih K (l + 1) (op + 1) (va_up met t true) (upd todo op (nI t)) (by omega) (by omega) hD' hP' (fun l' h => by
        by_cases hll : l' = l
        · subst hll; rw [ht]; exact ups
        · exact grow _ (hl' l' (by omega)))
      refine ⟨op', met', todo', ?_, e2, e3, e4, by omega⟩
      rw [nI_gin (show op < 4096 by omega) (by omega), ogd_t]
      exact e1
theorem nI_div64 {t : Nat} (h : t < 2147483648) : nI t / nI 64 = nI (t / 64) := by
  apply Int32.toInt.inj
  rw [Int32.toInt_div, nI_int h, nI_int (by omega), nI_int (by omega)]
  rw [Int.tdiv_eq_ediv_of_nonneg (by omega), Int.bmod_eq_of_le (by omega) (by omega)]
  omega
theorem wi77 {n S1 S2 i1 i2 : Nat} {mSize mGoes : Nat → Int32} {mLast : Nat → Bool} {g1 g2 : Nat → Nat → Nat} {f1 f2 : Nat → Bool} (w1 : WF S1 g1) (w2 : WF S2 g2) (hi1 : i1 < 60) (hi2 : i2 < 60) (hR1 : AuR i1 mSize mGoes mLast S1 g1 f1) (hR2 : AuR i2 mSize mGoes mLast S2 g2 f2) (hn : 64 < n) : ∀ M K op met todo, M + cf met 0 4096 = 4096 + op → M < K → DI g1 g2 op met todo → (∀ k, k < 4096 → met k = true → Stk todo op k ∨ Dn g1 g2 f1 f2 met k) → (∃ met' todo', f_Mo_within_77 n (nI i1) (nI i2) 0 mGoes mLast K (nI op) met todo = some (.inl (false, 0, met', todo')) ∧ ¬ Inc g1 g2 f1 f2) ∨ (∃ c met' todo', f_Mo_within_77 n (nI i1) (nI i2) 0 mGoes mLast K (nI op) met todo = some (.inr (c, met', todo')) ∧ Inc g1 g2 f1 f2) := by
  have h641 := w1.2.1
  have h642 := w2.2.1
  intro M
  induction M with
  | zero =>
    intro K op met todo hM hK hD hP
    obtain ⟨K, rfl⟩ : ∃ j, K = j + 1 := ⟨K - 1, by omega⟩
    have hle := cf_le (f := met) 4096 0
    have : op = 0 := by omega
    subst this
    right
    refine ⟨nI 0, met, todo, by rw [f_Mo_within_77, l0, if_pos (by rw [nJ_le (by omega) (by omega)]; omega)], ?_⟩
    have hin : ∀ p q, Rch g1 g2 p q → met (64 * p + q) = true := by
      intro p q h
      have := h (fun p q => met (64 * p + q) = true ∧ p < 64 ∧ q < 64) ⟨hD.2.2.1, by omega, by omega⟩ (fun p q l hl ⟨a, b, c⟩ => by
        have hr := hD.1 (64 * p + q) (by omega) a
        have lt1 := rch_lt w1 w2 hr
        have e1 : (64 * p + q) / 64 = p := by omega
        have e2 : (64 * p + q) % 64 = q := by omega
        rw [e1, e2] at lt1
        have b1 := w1.2.2 p l lt1.1 hl
        have b2 := w2.2.2 q l lt1.2 hl
        rcases hP (64 * p + q) (by omega) a with ⟨j, hj, -⟩ | hd
        · omega
        · have := hd.2 l hl
          rw [e1, e2] at this
          exact ⟨this, by omega, by omega⟩)
      exact this.1
    intro p q h hf
    have lt1 := rch_lt w1 w2 h
    rcases hP (64 * p + q) (by omega) (hin p q h) with ⟨j, hj, -⟩ | hd
    · omega
    · have e1 : (64 * p + q) / 64 = p := by omega
      have e2 : (64 * p + q) % 64 = q := by omega
      have := hd.1
      rw [e1, e2] at this
      exact this hf
  | succ M ih =>
    intro K op met todo hM hK hD hP
    obtain ⟨K, rfl⟩ : ∃ j, K = j + 1 := ⟨K - 1, by omega⟩
    have hle := cf_le (f := met) 4096 0
    by_cases hop : op = 0
    · -- as above: nothing is open
      subst hop
      right
      refine ⟨nI 0, met, todo, by rw [f_Mo_within_77, l0, if_pos (by rw [nJ_le (by omega) (by omega)]; omega)], ?_⟩
      have hin : ∀ p q, Rch g1 g2 p q → met (64 * p + q) = true := by
        intro p q h
        have := h (fun p q => met (64 * p + q) = true ∧ p < 64 ∧ q < 64) ⟨hD.2.2.1, by omega, by omega⟩ (fun p q l hl ⟨a, b, c⟩ => by
          have hr := hD.1 (64 * p + q) (by omega) a
          have lt1 := rch_lt w1 w2 hr
          have e1 : (64 * p + q) / 64 = p := by omega
          have e2 : (64 * p + q) % 64 = q := by omega
          rw [e1, e2] at lt1
          have b1 := w1.2.2 p l lt1.1 hl
          have b2 := w2.2.2 q l lt1.2 hl
          rcases hP (64 * p + q) (by omega) a with ⟨j, hj, -⟩ | hd
          · omega
          · have := hd.2 l hl
            rw [e1, e2] at this
            exact ⟨this, by omega, by omega⟩)
        exact this.1
      intro p q h hf
      have lt1 := rch_lt w1 w2 h
      rcases hP (64 * p + q) (by omega) (hin p q h) with ⟨j, hj, -⟩ | hd
      · omega
      · have e1 : (64 * p + q) / 64 = p := by omega
        have e2 : (64 * p + q) % 64 = q := by omega
        have := hd.1
        rw [e1, e2] at this
        exact this hf
    · obtain ⟨o', rfl⟩ : ∃ j, op = j + 1 := ⟨op - 1, by omega⟩
      obtain ⟨k0, hk0, ek, mk0⟩ := hD.2.1 o' (by omega)
      have hr0 := hD.1 k0 hk0 mk0
      have lt0 := rch_lt w1 w2 hr0
      have hD4 := hD.2.2.2
      have hsub : nI k0 - nI (k0 / 64) * nI 64 = nI (k0 % 64) := by rw [nI_mul, nI_sub (by omega), show k0 - k0 / 64 * 64 = k0 % 64 by omega]
      have hD' : DI g1 g2 o' met todo := ⟨hD.1, fun j hj => hD.2.1 j (by omega), hD.2.2.1, by omega⟩
      have hP' : ∀ k, k < 4096 → met k = true → Stk todo o' k ∨ Dn g1 g2 f1 f2 met k ∨ k = k0 := by
        intro k hk hmk
        rcases hP k hk hmk with ⟨j, a, b⟩ | h
        · by_cases hjo : j = o'
          · subst hjo
            rw [ek] at b
            rw [nJ_eq (by omega) (by omega)] at b
            exact .inr (.inr b.symm)
          · exact .inl ⟨j, by omega, b⟩
        · exact .inr (.inl h)
      obtain ⟨op', met', todo', e1, e2, e3, e4, e5⟩ := wi131 (n := n) (f1 := f1) (f2 := f2) w1 w2 hi1 hi2 hR1.2.1 hR2.2.1 hk0 hr0 4 n 0 o' met todo (by omega) (by omega) hD' hP' (fun l' h => absurd h (Nat.not_lt_zero _))
      have e1' : f_Mo_within_131 n (nI (k0 % 64)) (nI (k0 / 64)) (nI i1) (nI i2) mGoes n 0 (nI o') met todo = some (nI 4, nI op', met', todo') := e1
      rw [f_Mo_within_77, if_neg (by rw [l0, nJ_le (by omega) (by omega)]; omega), dn1, nI_gin (by omega) (by omega), ogd_t, nI_nat (by omega), ek, l64, nI_div64 (by omega), hsub, il_r hi1 hR1.2.2 lt0.1 h641, sb_t, il_r hi2 hR2.2.2 lt0.2 h642, sb_t, e1', sb_t]
      have next : (f1 (k0 / 64) = true → f2 (k0 % 64) = true) → (∃ met'' todo'', f_Mo_within_77 n (nI i1) (nI i2) 0 mGoes mLast K (nI op') met' todo' = some (.inl (false, 0, met'', todo'')) ∧ ¬ Inc g1 g2 f1 f2) ∨ (∃ c met'' todo'', f_Mo_within_77 n (nI i1) (nI i2) 0 mGoes mLast K (nI op') met' todo' = some (.inr (c, met'', todo'')) ∧ Inc g1 g2 f1 f2) := by
        intro hok
        refine ih K op' met' todo' (by omega) (by omega) e2 (fun k hk hmk => ?_)
        rcases e3 k hk hmk with h | h | h
        · exact .inl h
        · exact .inr h
        · subst h; exact .inr ⟨hok, e4⟩
      by_cases ha : f1 (k0 / 64) = true
      · rw [if_pos ha]
        by_cases hb : f2 (k0 % 64) = true
        · rw [if_pos hb]
          exact next (fun _ => hb)
        · rw [if_neg hb]
          exact .inl ⟨met, todo, rfl, fun hinc => hb (hinc _ _ hr0 ha)⟩
      · rw [if_neg ha]
        exact next (fun h => absurd h ha)
theorem wi38 {n : Nat} : ∀ d K s (met : Nat → Bool), s + d = 4096 → d < K → (∀ i, i < s → met i = false) → ∃ met', f_Mo_within_38 n K (nI s) met = some (nI 4096, met') ∧ ∀ i, i < 4096 → met' i = false := by
  intro d
  induction d with
  | zero =>
    intro K s met hs hK hm
    obtain ⟨K, rfl⟩ : ∃ j, K = j + 1 := ⟨K - 1, by omega⟩
    have : s = 4096 := by omega
    subst this
    exact ⟨met, by rw [f_Mo_within_38, l4096, if_pos (by rw [nJ_le (by omega) (by omega)]; omega)], hm⟩
  | succ d ih =>
    intro K s met hs hK hm
    obtain ⟨K, rfl⟩ : ∃ j, K = j + 1 := ⟨K - 1, by omega⟩
    obtain ⟨met', h1, h2⟩ := ih K (s + 1) (va_up met s false) (by omega) (by omega) (fun i hi => by
      by_cases h : i = s
      · subst h; exact ups
      · rw [upn h]; exact hm i (by omega))
    refine ⟨met', ?_, h2⟩
    rw [f_Mo_within_38, l4096, if_neg (by rw [nJ_le (by omega) (by omega)]; omega), nI_gin (by omega) (by omega), ogd_t, nI_nat (by omega), l1, nJ_add]
    exact h1
theorem wi_r {n S1 S2 i1 i2 N : Nat} {mSize mGoes : Nat → Int32} {mLast mMet : Nat → Bool} {mTodo : Nat → Int32} {g1 g2 : Nat → Nat → Nat} {f1 f2 : Nat → Bool} (hN : N ≤ 60) (w1 : WF S1 g1) (w2 : WF S2 g2) (hi1 : i1 < N) (hi2 : i2 < N) (hR1 : AuR i1 mSize mGoes mLast S1 g1 f1) (hR2 : AuR i2 mSize mGoes mLast S2 g2 f2) (hn : 4097 < n) : ∃ b met' todo', f_Mo_within n (nI i1) (nI i2) (nI N) mGoes mLast mMet mTodo = some (b, 0, met', todo') ∧ (b = true ↔ Inc g1 g2 f1 f2) := by
  obtain ⟨m0, h1, h2⟩ := wi38 (n := n) 4096 n 0 mMet (by omega) (by omega) (fun i h => absurd h (Nat.not_lt_zero _))
  have hcf : cf (va_up m0 0 true) 0 4096 = 1 := by
    have a := cf_up (h2 0 (by omega)) 4096 0 (by omega) (by omega)
    have b := cf_none (f := m0) 4096 0 (fun i a b => h2 i (by omega))
    omega
  have hmet : ∀ k, k < 4096 → va_up m0 0 true k = true → k = 0 := by
    intro k hk h
    by_cases hk0 : k = 0
    · exact hk0
    · rw [upn hk0, h2 k hk] at h; cases h
  have w := wi77 (n := n) (f1 := f1) (f2 := f2) w1 w2 (show i1 < 60 by omega) (show i2 < 60 by omega) hR1 hR2 (by omega) 4096 n 1 (va_up m0 0 true) (upd mTodo 0 0) (by omega) (by omega) ⟨fun k hk h => by
      have := hmet k hk h
      subst this; exact rch0, fun j hj => ⟨0, by omega, by
        have : j = 0 := by omega
        subst this; exact uis, ups⟩, ups, by omega⟩ (fun k hk h => .inl ⟨0, by omega, by
        have := hmet k hk h
        subst this; exact uis⟩)
  have pre : f_Mo_within n (nI i1) (nI i2) (nI N) mGoes mLast mMet mTodo = (f_Mo_within_77 n (nI i1) (nI i2) 0 mGoes mLast n (nI 1) (va_up m0 0 true) (upd mTodo 0 0)).bind fun u50 => u50.elim (fun r => some r) fun x50 => some (true, 0, x50.2.1, x50.2.2) := by
    have q1 : 0 ≤ (nI i1).toInt ∧ (nI i1).toInt < N := by rw [nI_int (by omega)]; omega
    have q2 : 0 ≤ (nI i2).toInt ∧ (nI i2).toInt < N := by rw [nI_int (by omega)]; omega
    simp only [f_Mo_within, isL hN, q1, q2, and_self, decide_true, sb_t, if_true, fails_f, Bool.false_eq_true, if_false]
    rw [show f_Mo_within_38 n n 0 mMet = some (nI 4096, m0) from h1, sb_t, show gin 0 4096 = true from by decide, ogd_t, ogd_t]
    rfl
  rcases w with ⟨a, b, e, f⟩ | ⟨c, a, b, e, f⟩
  · exact ⟨false, a, b, by rw [pre, e]; rfl, ⟨fun h => (by cases h), fun h => absurd h f⟩⟩
  · exact ⟨true, a, b, by rw [pre, e]; rfl, ⟨fun _ => f, fun _ => rfl⟩⟩
