/-! STAGE 2. THE CALL: within, the class's side -/
theorem flJ {n : Nat} {v : Int64} {N : Nat} (hN : N < 2147483648) : ∀ d K s (f : Nat → Int64), s + d = N → d < K → (∀ i, i < s → f i = v) → ∃ f', f_Ar_fillJ_6 n (nI N) v N K (nI s) f = some (nI N, f') ∧ ∀ i, i < N → f' i = v := by
  intro d
  induction d with
  | zero =>
    intro K s f hs hK hf
    obtain ⟨K, rfl⟩ : ∃ j, K = j + 1 := ⟨K - 1, by omega⟩
    have : s = N := by omega
    subst this
    exact ⟨f, by rw [f_Ar_fillJ_6, if_pos (by rw [nJ_le (by omega) (by omega)]; omega)], hf⟩
  | succ d ih =>
    intro K s f hs hK hf
    obtain ⟨K, rfl⟩ : ∃ j, K = j + 1 := ⟨K - 1, by omega⟩
    obtain ⟨f', h1, h2⟩ := ih K (s + 1) (vp_updL f s v) (by omega) (by omega) (fun i hi => by
      by_cases h : i = s
      · subst h; exact ujs
      · rw [ujn h]; exact hf i (by omega))
    refine ⟨f', ?_, h2⟩
    rw [f_Ar_fillJ_6, if_neg (by rw [nJ_le (by omega) (by omega)]; omega), nI_gin (by omega) (by omega), ogd_t, nI_nat (by omega), l1, nJ_add]
    exact h1
theorem flJ_c {n : Nat} {v : Int64} {N : Nat} (hN : N < n) (hN2 : N < 2147483648) (f : Nat → Int64) : ∃ f', f_Ar_fillJ n v N f = some f' ∧ ∀ i, i < N → f' i = v := by
  obtain ⟨f', h1, h2⟩ := flJ (n := n) (v := v) hN2 N n 0 f (by omega) hN (fun i h => absurd h (Nat.not_lt_zero _))
  exact ⟨f', by rw [f_Ar_fillJ, l0, h1]; rfl, h2⟩
theorem flI {n : Nat} {v : Int32} {N : Nat} (hN : N < 2147483648) : ∀ d K s (f : Nat → Int32), s + d = N → d < K → (∀ i, i < s → f i = v) → ∃ f', f_Ar_fillI_5 n (nI N) v N K (nI s) f = some (nI N, f') ∧ ∀ i, i < N → f' i = v := by
  intro d
  induction d with
  | zero =>
    intro K s f hs hK hf
    obtain ⟨K, rfl⟩ : ∃ j, K = j + 1 := ⟨K - 1, by omega⟩
    have : s = N := by omega
    subst this
    exact ⟨f, by rw [f_Ar_fillI_5, if_pos (by rw [nJ_le (by omega) (by omega)]; omega)], hf⟩
  | succ d ih =>
    intro K s f hs hK hf
    obtain ⟨K, rfl⟩ : ∃ j, K = j + 1 := ⟨K - 1, by omega⟩
    obtain ⟨f', h1, h2⟩ := ih K (s + 1) (upd f s v) (by omega) (by omega) (fun i hi => by
      by_cases h : i = s
      · subst h; exact uis
      · rw [uin h]; exact hf i (by omega))
    refine ⟨f', ?_, h2⟩
    rw [f_Ar_fillI_5, if_neg (by rw [nJ_le (by omega) (by omega)]; omega), nI_gin (by omega) (by omega), ogd_t, nI_nat (by omega), l1, nJ_add]
    exact h1
theorem flI_c {n : Nat} {v : Int32} {N : Nat} (hN : N < n) (hN2 : N < 2147483648) (f : Nat → Int32) : ∃ f', f_Ar_fillI n v N f = some f' ∧ ∀ i, i < N → f' i = v := by
  obtain ⟨f', h1, h2⟩ := flI (n := n) (v := v) hN2 N n 0 f (by omega) hN (fun i h => absurd h (Nat.not_lt_zero _))
  exact ⟨f', by rw [f_Ar_fillI, l0, h1]; rfl, h2⟩
theorem come_c {n t : Nat} {X : Int64} {sn wt : Nat → Int64} (ht : t < 64) : ∃ sn' wt', f_In_comeTo n (nI t) X sn wt = some (sn', wt') ∧ (∀ p q, p < 64 → q < 64 → bit (sn' p) q = (bit (sn p) q || (decide (p = t) && bit X q))) ∧ (∀ p q, p < 64 → q < 64 → bit (wt' p) q = (bit (wt p) q || (decide (p = t) && (bit X q && !bit (sn t) q)))) := by
  refine ⟨vp_updL sn t (sn t ||| (X &&& (sn t ^^^ (-1)))), vp_updL wt t (wt t ||| (X &&& (sn t ^^^ (-1)))), ?_, ?_, ?_⟩
  · rw [f_In_comeTo, nI_gin ht (by omega), ogd_t, ogd_t, ogd_t, ogd_t, ogd_t, nI_nat (by omega)]
  · intro p q hp hq
    by_cases h : p = t
    · subst h
      rw [ujs, bit_or, bit_and, bit_xor, bit_m1 hq]
      cases bit (sn p) q <;> simp
    · rw [ujn h]; simp [h]
  · intro p q hp hq
    by_cases h : p = t
    · subst h
      rw [ujs, bit_or, bit_and, bit_xor, bit_m1 hq]
      cases bit (sn p) q <;> simp
    · rw [ujn h]; simp [h]
def WI (g1 g2 : Nat → Nat → Nat) (sn wt : Nat → Int64) : Prop :=
  (∀ p q, p < 64 → q < 64 → bit (wt p) q = true → bit (sn p) q = true) ∧ (∀ p q, p < 64 → q < 64 → bit (sn p) q = true → Rch g1 g2 p q) ∧ bit (sn 0) 0 = true
def CL (g1 g2 : Nat → Nat → Nat) (sn wt : Nat → Int64) (s : Nat) (F : Int64) (l0 : Nat) : Prop :=
  ∀ p q l, p < 64 → q < 64 → l < 4 → bit (sn p) q = true → bit (wt p) q = false → bit (sn (g1 p l)) (g2 q l) = true ∨ (p = s ∧ bit F q = true ∧ l0 ≤ l)
def CL0 (g1 g2 : Nat → Nat → Nat) (sn wt : Nat → Int64) : Prop :=
  ∀ p q l, p < 64 → q < 64 → l < 4 → bit (sn p) q = true → bit (wt p) q = false → bit (sn (g1 p l)) (g2 q l) = true
def PM (sn wt sn' wt' : Nat → Int64) : Prop := ∀ p q, p < 64 → q < 64 → bit (sn p) q = true → bit (wt p) q = false → bit (sn' p) q = true ∧ bit (wt' p) q = false
theorem go43 {n S1 S2 : Nat} {nx1 nx2 : Nat → Int32} {g1 g2 : Nat → Nat → Nat} (w1 : WF S1 g1) (w2 : WF S2 g2) (h1 : ∀ s l, s < S1 → l < 4 → nx1 (4 * s + l) = nI (g1 s l)) (h2 : ∀ s l, s < S2 → l < 4 → nx2 (4 * s + l) = nI (g2 s l)) (hn : 64 < n) {s : Nat} (hs : s < S1) {F : Int64} : ∀ d K l sn wt, l + d = 4 → d < K → (∀ q, q < 64 → bit F q = true → bit (sn s) q = true) → WI g1 g2 sn wt → CL g1 g2 sn wt s F l → ∃ sn' wt', f_In_goOn_43 n F (nI s) (4 * S1) nx1 (nI S2) (4 * S2) nx2 K (nI l) sn wt = some (nI 4, sn', wt') ∧ WI g1 g2 sn' wt' ∧ CL0 g1 g2 sn' wt' ∧ PM sn wt sn' wt' := by
  have h641 := w1.2.1
  have h642 := w2.2.1
  intro d
  induction d with
  | zero =>
    intro K l sn wt hl hK hF hW hC
    obtain ⟨K, rfl⟩ : ∃ j, K = j + 1 := ⟨K - 1, by omega⟩
    have : l = 4 := by omega
    subst this
    refine ⟨sn, wt, by rw [f_In_goOn_43, l4, if_pos (by rw [nJ_le (by omega) (by omega)]; omega)], hW, fun p q l hp hq hl a b => ?_, fun p q hp hq a b => ⟨a, b⟩⟩
    rcases hC p q l hp hq hl a b with h | ⟨-, -, h⟩
    · exact h
    · omega
  | succ d ih =>
    intro K l sn wt hl hK hF hW hC
    obtain ⟨K, rfl⟩ : ∃ j, K = j + 1 := ⟨K - 1, by omega⟩
    obtain ⟨A1, A2, A3⟩ := hW
    have bt := w1.2.2 s l hs (by omega)
    obtain ⟨r, r1, r2⟩ := ga_c (n := n) (X := F) w2 h2 (show l < 4 by omega) hn
    obtain ⟨sn1, wt1, c1, c2, c3⟩ := come_c (n := n) (t := g1 s l) (X := r) (sn := sn) (wt := wt) (by omega)
    have grow : ∀ p q, p < 64 → q < 64 → bit (sn p) q = true → bit (sn1 p) q = true := by
      intro p q hp hq h; rw [c2 p q hp hq, h]; rfl
    have hW1 : WI g1 g2 sn1 wt1 := by
      refine ⟨fun p q hp hq h => ?_, fun p q hp hq h => ?_, grow 0 0 (by omega) (by omega) A3⟩
      · rw [c3 p q hp hq] at h
        rw [c2 p q hp hq]
        simp only [Bool.or_eq_true, Bool.and_eq_true] at h ⊢
        rcases h with h | ⟨h, h', -⟩
        · exact .inl (A1 p q hp hq h)
        · exact .inr ⟨h, h'⟩
      · rw [c2 p q hp hq] at h
        simp only [Bool.or_eq_true, Bool.and_eq_true, decide_eq_true_eq] at h
        rcases h with h | ⟨h, h'⟩
        · exact A2 p q hp hq h
        · obtain ⟨t, t1, t2, t3⟩ := (r2 q hq).mp h'
          subst h; subst t3
          exact rchS (A2 s t (by omega) (by omega) (hF t (by omega) t2)) (by omega)
    have hC1 : CL g1 g2 sn1 wt1 s F (l + 1) := by
      intro p q l' hp hq hl' a b
      have hlt : ∀ p q, p < 64 → q < 64 → bit (sn p) q = true → g1 p l' < 64 ∧ g2 q l' < 64 := by
        intro p q hp hq h
        have := rch_lt w1 w2 (A2 p q hp hq h)
        have x1 := w1.2.2 p l' this.1 hl'
        have x2 := w2.2.2 q l' this.2 hl'
        omega
      by_cases ho : bit (sn p) q = true
      · have hw : bit (wt p) q = false := by
          rw [c3 p q hp hq] at b
          simp only [Bool.or_eq_false_iff] at b
          exact b.1
        have hb := hlt p q hp hq ho
        rcases hC p q l' hp hq hl' ho hw with h | ⟨e1, e2, e3⟩
        · exact .inl (grow _ _ hb.1 hb.2 h)
        · by_cases hll : l' = l
          · subst hll; subst e1
            left
            rw [c2 _ _ hb.1 hb.2]
            have : bit r (g2 q l') = true := (r2 _ hb.2).mpr ⟨q, (rch_lt w1 w2 (A2 p q hp hq ho)).2, e2, rfl⟩
            simp [this]
          · exact .inr ⟨e1, e2, by omega⟩
      · exfalso
        have ho' : bit (sn p) q = false := by simpa using ho
        rw [c2 p q hp hq, ho', Bool.false_or] at a
        rw [c3 p q hp hq] at b
        simp only [Bool.and_eq_true, decide_eq_true_eq] at a
        obtain ⟨a1, a2⟩ := a
        subst a1
        simp [a2, ho'] at b
    have hP1 : PM sn wt sn1 wt1 := by
      intro p q hp hq a b
      refine ⟨grow p q hp hq a, ?_⟩
      rw [c3 p q hp hq, b]
      by_cases h : p = g1 s l
      · subst h; simp [a]
      · simp [h]
    obtain ⟨sn2, wt2, e1, e2, e3, e4⟩ := ih K (l + 1) sn1 wt1 (by omega) (by omega) (fun q hq h => grow s q (by omega) hq (hF q hq h)) hW1 hC1
    refine ⟨sn2, wt2, ?_, e2, e3, fun p q hp hq a b => ?_⟩
    · rw [f_In_goOn_43, l4, if_neg (by rw [nJ_le (by omega) (by omega)]; omega), go_c h641 h1 hs (by omega), sb_t, r1, sb_t, c1, sb_t, l1, nJ_add]
      exact e1
    · have := hP1 p q hp hq a b
      exact e4 p q hp hq this.1 this.2
theorem go5 {n S1 S2 : Nat} {nx1 nx2 : Nat → Int32} {g1 g2 : Nat → Nat → Nat} (w1 : WF S1 g1) (w2 : WF S2 g2) (h1 : ∀ s l, s < S1 → l < 4 → nx1 (4 * s + l) = nI (g1 s l)) (h2 : ∀ s l, s < S2 → l < 4 → nx2 (4 * s + l) = nI (g2 s l)) (hn : 64 < n) : ∀ d K s any sn wt, s + d = S1 → d < K → WI g1 g2 sn wt → CL0 g1 g2 sn wt → ∃ any' sn' wt', f_In_goOn_5 n (nI S1) (4 * S1) nx1 (nI S2) (4 * S2) nx2 K (nI s) any sn wt = some (nI S1, any', sn', wt') ∧ WI g1 g2 sn' wt' ∧ CL0 g1 g2 sn' wt' ∧ PM sn wt sn' wt' ∧ ((any' = any ∧ wt' = wt ∧ ∀ p, s ≤ p → p < S1 → wt p = 0) ∨ (any' = true ∧ ∃ p q, p < 64 ∧ q < 64 ∧ bit (wt p) q = true ∧ bit (sn' p) q = true ∧ bit (wt' p) q = false)) := by
  have h641 := w1.2.1
  intro d
  induction d with
  | zero =>
    intro K s any sn wt hs hK hW hC
    obtain ⟨K, rfl⟩ : ∃ j, K = j + 1 := ⟨K - 1, by omega⟩
    have : s = S1 := by omega
    subst this
    exact ⟨any, sn, wt, by rw [f_In_goOn_5, if_pos (by rw [nJ_le (by omega) (by omega)]; omega)], hW, hC, fun p q hp hq a b => ⟨a, b⟩, .inl ⟨rfl, rfl, fun p a b => by omega⟩⟩
  | succ d ih =>
    intro K s any sn wt hs hK hW hC
    obtain ⟨K, rfl⟩ : ∃ j, K = j + 1 := ⟨K - 1, by omega⟩
    have hsS : s < S1 := by omega
    rw [f_In_goOn_5, if_neg (by rw [nJ_le (by omega) (by omega)]; omega), nI_gin (by omega) (by omega), ogd_t, nI_nat (by omega), ogd_t, l1, nJ_add]
    by_cases h0 : wt s = 0
    · rw [if_pos h0]
      obtain ⟨any', sn', wt', e1, e2, e3, e4, e5⟩ := ih K (s + 1) any sn wt (by omega) (by omega) hW hC
      refine ⟨any', sn', wt', e1, e2, e3, e4, ?_⟩
      rcases e5 with ⟨a, b, c⟩ | h
      · refine .inl ⟨a, b, fun p hp hp2 => ?_⟩
        by_cases hps : p = s
        · subst hps; exact h0
        · exact c p (by omega) hp2
      · exact .inr h
    · rw [if_neg h0]
      obtain ⟨A1, A2, A3⟩ := hW
      have hq0 : ∃ q, q < 64 ∧ bit (wt s) q = true := by
        apply Classical.byContradiction
        intro hc
        apply h0
        rw [bit_nz]
        intro i hi
        rw [← Bool.not_eq_true]
        exact fun h => hc ⟨i, hi, h⟩
      obtain ⟨q0, hq0, hb0⟩ := hq0
      have b1 : ∀ p q, bit (vp_updL wt s 0 p) q = true → bit (wt p) q = true := by
        intro p q h
        by_cases hps : p = s
        · subst hps; rw [ujs, bit_zero] at h; cases h
        · rw [ujn hps] at h; exact h
      have hW1 : WI g1 g2 sn (vp_updL wt s 0) := ⟨fun p q hp hq h => A1 p q hp hq (b1 p q h), A2, A3⟩
      have hC1 : CL g1 g2 sn (vp_updL wt s 0) s (wt s) 0 := by
        intro p q l hp hq hl a b
        by_cases hps : p = s
        · subst hps
          by_cases hw : bit (wt p) q = true
          · exact .inr ⟨rfl, hw, by omega⟩
          · exact .inl (hC p q l hp hq hl a (by simpa using hw))
        · rw [ujn hps] at b
          exact .inl (hC p q l hp hq hl a b)
      obtain ⟨sn1, wt1, d1, d2, d3, d4⟩ := go43 (n := n) (F := wt s) w1 w2 h1 h2 hn hsS 4 n 0 sn (vp_updL wt s 0) (by omega) (by omega) (fun q hq h => A1 s q (by omega) hq h) hW1 hC1
      obtain ⟨any', sn', wt', e1, e2, e3, e4, e5⟩ := ih K (s + 1) true sn1 wt1 (by omega) (by omega) d2 d3
      have hpr : bit (sn' s) q0 = true ∧ bit (wt' s) q0 = false := by
        have := d4 s q0 (by omega) hq0 (A1 s q0 (by omega) hq0 hb0) (by rw [ujs, bit_zero])
        exact e4 s q0 (by omega) hq0 this.1 this.2
      refine ⟨any', sn', wt', ?_, e2, e3, fun p q hp hq a b => ?_, .inr ⟨?_, s, q0, by omega, hq0, hb0, hpr⟩⟩
      · rw [show f_In_goOn_43 n (wt s) (nI s) (4 * S1) nx1 (nI S2) (4 * S2) nx2 n 0 sn (vp_updL wt s 0) = some (nI 4, sn1, wt1) from d1, sb_t]
        exact e1
      · have hb : bit (vp_updL wt s 0 p) q = false := by
          rw [← Bool.not_eq_true]
          intro h
          rw [b1 p q h] at b; cases b
        have := d4 p q hp hq a hb
        exact e4 p q hp hq this.1 this.2
      · rcases e5 with ⟨a, -⟩ | ⟨a, -⟩ <;> exact a
def pr (sn wt : Nat → Int64) (x : Nat) : Bool := bit (sn (x / 64)) (x % 64) && !bit (wt (x / 64)) (x % 64) && decide (x < 4096)
theorem pm_pr {sn wt sn' wt' : Nat → Int64} (h : PM sn wt sn' wt') : ∀ i, pr sn wt i = true → pr sn' wt' i = true := by
  intro i hi
  unfold pr at *
  simp only [Bool.and_eq_true, Bool.not_eq_true', decide_eq_true_eq] at hi ⊢
  have := h (i / 64) (i % 64) (by omega) (by omega) hi.1.1 hi.1.2
  exact ⟨this, hi.2⟩
theorem ho35 {n S1 S2 : Nat} {nx1 nx2 : Nat → Int32} {g1 g2 : Nat → Nat → Nat} (w1 : WF S1 g1) (w2 : WF S2 g2) (h1 : ∀ s l, s < S1 → l < 4 → nx1 (4 * s + l) = nI (g1 s l)) (h2 : ∀ s l, s < S2 → l < 4 → nx2 (4 * s + l) = nI (g2 s l)) (hn : 64 < n) : ∀ d K t any sn wt, t + d = 4096 → d < K → WI g1 g2 sn wt → CL0 g1 g2 sn wt → (any = true → t ≤ cf (pr sn wt) 0 4096) → (any = false → ∀ p, p < S1 → wt p = 0) → ∃ c any' sn' wt', f_In_holds_35 n (nI S1) (4 * S1) nx1 (nI S2) (4 * S2) nx2 K (nI t) any sn wt = some (c, any', sn', wt') ∧ WI g1 g2 sn' wt' ∧ CL0 g1 g2 sn' wt' ∧ ∀ p q, p < 64 → q < 64 → bit (wt' p) q = false := by
  have h641 := w1.2.1
  have zero : ∀ sn wt : Nat → Int64, WI g1 g2 sn wt → (∀ p, p < S1 → wt p = 0) → ∀ p q, p < 64 → q < 64 → bit (wt p) q = false := by
    intro sn wt hW h0 p q hp hq
    rw [← Bool.not_eq_true]
    intro h
    have := rch_lt w1 w2 (hW.2.1 p q hp hq (hW.1 p q hp hq h))
    rw [h0 p this.1, bit_zero] at h
    cases h
  intro d
  induction d with
  | zero =>
    intro K t any sn wt ht hK hW hC ha hz
    obtain ⟨K, rfl⟩ : ∃ j, K = j + 1 := ⟨K - 1, by omega⟩
    have : t = 4096 := by omega
    subst this
    refine ⟨nI 4096, any, sn, wt, by rw [f_In_holds_35, l4096, if_pos (by rw [nJ_le (by omega) (by omega)]; omega)], hW, hC, ?_⟩
    cases any with
    | false => exact zero sn wt hW (hz rfl)
    | true =>
      intro p q hp hq
      have := cf_full (ha rfl) (64 * p + q) (by omega)
      unfold pr at this
      rw [show (64 * p + q) / 64 = p by omega, show (64 * p + q) % 64 = q by omega] at this
      simp only [Bool.and_eq_true, Bool.not_eq_true'] at this
      exact this.1.2
  | succ d ih =>
    intro K t any sn wt ht hK hW hC ha hz
    obtain ⟨K, rfl⟩ : ∃ j, K = j + 1 := ⟨K - 1, by omega⟩
    rw [f_In_holds_35, l4096, if_neg (by rw [nJ_le (by omega) (by omega)]; omega)]
    cases any with
    | false => exact ⟨nI t, false, sn, wt, rfl, hW, hC, zero sn wt hW (hz rfl)⟩
    | true =>
      rw [if_pos rfl]
      obtain ⟨any', sn', wt', e1, e2, e3, e4, e5⟩ := go5 (n := n) w1 w2 h1 h2 hn S1 n 0 false sn wt (by omega) (by omega) hW hC
      have e1' : f_In_goOn n sn wt (nI S1) (4 * S1) nx1 (nI S2) (4 * S2) nx2 = some (any', sn', wt') := by
        rw [f_In_goOn, l0, e1]; rfl
      rw [e1', sb_t, l1, nJ_add]
      refine ih K (t + 1) any' sn' wt' (by omega) (by omega) e2 e3 (fun h => ?_) (fun h => ?_)
      · rcases e5 with ⟨a, -⟩ | ⟨a, p, q, hp, hq, c1, c2, c3⟩
        · rw [h] at a; cases a
        · have hlt := cf_strict (pm_pr e4) (k := 64 * p + q) (d := 4096) (by omega) (by
            unfold pr
            rw [show (64 * p + q) / 64 = p by omega, show (64 * p + q) % 64 = q by omega, c1]; simp) (by
            unfold pr
            rw [show (64 * p + q) / 64 = p by omega, show (64 * p + q) % 64 = q by omega, c2, c3]
            simp; omega)
          have := ha rfl
          omega
      · rcases e5 with ⟨a, b, c⟩ | ⟨a, -⟩
        · rw [b]; exact fun p hp => c p (by omega) hp
        · rw [h] at a; cases a
theorem ho63 {n S1 S2 : Nat} {la1 la2 : Int64} {f1 f2 : Nat → Bool} {sn wt : Nat → Int64} (hS1 : S1 ≤ 64) (hl1 : ∀ i, i < 64 → bit la1 i = (decide (i < S1) && f1 i)) : ∀ d K s, s + d = S1 → d < K → (f_In_holds_63 n sn wt (nI S1) la1 la2 K (nI s) = some (.inl (false, sn, wt)) ∧ ∃ p q, p < S1 ∧ q < 64 ∧ f1 p = true ∧ bit (sn p) q = true ∧ bit la2 q = false) ∨ (f_In_holds_63 n sn wt (nI S1) la1 la2 K (nI s) = some (.inr (nI S1)) ∧ ∀ p q, s ≤ p → p < S1 → q < 64 → f1 p = true → bit (sn p) q = true → bit la2 q = true) := by
  intro d
  induction d with
  | zero =>
    intro K s hs hK
    obtain ⟨K, rfl⟩ : ∃ j, K = j + 1 := ⟨K - 1, by omega⟩
    have : s = S1 := by omega
    subst this
    exact .inr ⟨by rw [f_In_holds_63, if_pos (by rw [nJ_le (by omega) (by omega)]; omega)], fun p q a b => by omega⟩
  | succ d ih =>
    intro K s hs hK
    obtain ⟨K, rfl⟩ : ∃ j, K = j + 1 := ⟨K - 1, by omega⟩
    have hsS : s < S1 := by omega
    have go : (∀ q, q < 64 → f1 s = true → bit (sn s) q = true → bit la2 q = true) → (f_In_holds_63 n sn wt (nI S1) la1 la2 K (nI (s + 1)) = some (.inl (false, sn, wt)) ∧ ∃ p q, p < S1 ∧ q < 64 ∧ f1 p = true ∧ bit (sn p) q = true ∧ bit la2 q = false) ∨ (f_In_holds_63 n sn wt (nI S1) la1 la2 K (nI (s + 1)) = some (.inr (nI S1)) ∧ ∀ p q, s ≤ p → p < S1 → q < 64 → f1 p = true → bit (sn p) q = true → bit la2 q = true) := by
      intro hok
      rcases ih K (s + 1) (by omega) (by omega) with h | ⟨a, b⟩
      · exact .inl h
      · refine .inr ⟨a, fun p q hp hp2 hq hf hb => ?_⟩
        by_cases hps : p = s
        · subst hps; exact hok q hq hf hb
        · exact b p q (by omega) hp2 hq hf hb
    rw [f_In_holds_63, if_neg (by rw [nJ_le (by omega) (by omega)]; omega), il_c hl1 hsS hS1, sb_t, nI_gin (by omega) (by omega), ogd_t, nI_nat (by omega), l1, nJ_add]
    by_cases hf : f1 s = true
    · rw [if_pos hf]
      by_cases h0 : sn s &&& (la2 ^^^ (-1)) = 0
      · rw [if_pos h0]
        refine go (fun q hq _ hb => ?_)
        have := congrArg (fun y => bit y q) h0
        simp only [bit_and, bit_xor, bit_m1 hq, hb, bit_zero] at this
        simpa using this
      · rw [if_neg h0]
        have : ∃ q, q < 64 ∧ bit (sn s &&& (la2 ^^^ (-1))) q = true := by
          apply Classical.byContradiction
          intro hc
          apply h0
          rw [bit_nz]
          intro i hi
          rw [← Bool.not_eq_true]
          exact fun h => hc ⟨i, hi, h⟩
        obtain ⟨q, hq, hb⟩ := this
        simp only [bit_and, bit_xor, bit_m1 hq, Bool.and_eq_true] at hb
        exact .inl ⟨rfl, s, q, hsS, hq, hf, hb.1, by simpa using hb.2⟩
    · rw [if_neg hf]
      exact go (fun q _ h => absurd h hf)
theorem ho_c {n S1 S2 : Nat} {nx1 nx2 : Nat → Int32} {g1 g2 : Nat → Nat → Nat} {f1 f2 : Nat → Bool} {la1 la2 : Int64} {sn wt : Nat → Int64} (w1 : WF S1 g1) (w2 : WF S2 g2) (h1 : ∀ s l, s < S1 → l < 4 → nx1 (4 * s + l) = nI (g1 s l)) (h2 : ∀ s l, s < S2 → l < 4 → nx2 (4 * s + l) = nI (g2 s l)) (hl1 : ∀ i, i < 64 → bit la1 i = (decide (i < S1) && f1 i)) (hl2 : ∀ i, i < 64 → bit la2 i = (decide (i < S2) && f2 i)) (hn : 4097 < n) : ∃ b sn' wt', f_In_holds n sn wt (nI S1) (4 * S1) nx1 la1 (nI S2) (4 * S2) nx2 la2 = some (b, sn', wt') ∧ (b = true ↔ Inc g1 g2 f1 f2) := by
  obtain ⟨s0, a1, a2⟩ := flJ_c (n := n) (v := 0) (N := 64) (by omega) (by omega) sn
  obtain ⟨t0, b1, b2⟩ := flJ_c (n := n) (v := 0) (N := 64) (by omega) (by omega) wt
  have sb : ∀ (z : Nat → Int64), (∀ i, i < 64 → z i = 0) → ∀ p q, p < 64 → q < 64 → bit (vp_updL z 0 1 p) q = (decide (p = 0) && decide (q = 0)) := by
    intro z hz p q hp hq
    by_cases h : p = 0
    · subst h; rw [ujs, bit_one]; simp
    · rw [ujn h, hz p hp, bit_zero]; simp [h]
  have hW : WI g1 g2 (vp_updL s0 0 1) (vp_updL t0 0 1) := by
    refine ⟨fun p q hp hq h => ?_, fun p q hp hq h => ?_, ?_⟩
    · rw [sb t0 b2 p q hp hq] at h; rw [sb s0 a2 p q hp hq]; exact h
    · rw [sb s0 a2 p q hp hq] at h
      simp only [Bool.and_eq_true, decide_eq_true_eq] at h
      rw [h.1, h.2]; exact rch0
    · rw [sb s0 a2 0 0 (by omega) (by omega)]; rfl
  have hC : CL0 g1 g2 (vp_updL s0 0 1) (vp_updL t0 0 1) := by
    intro p q l hp hq hl a b
    rw [sb s0 a2 p q hp hq] at a
    rw [sb t0 b2 p q hp hq, a] at b
    cases b
  obtain ⟨c, any', sn', wt', e1, e2, e3, e4⟩ := ho35 (n := n) w1 w2 h1 h2 (by omega) 4096 n 0 true _ _ (by omega) (by omega) hW hC (fun _ => Nat.zero_le _) (fun h => by cases h)
  have all : ∀ p q, Rch g1 g2 p q → bit (sn' p) q = true := by
    intro p q h
    have := h (fun p q => p < 64 ∧ q < 64 ∧ bit (sn' p) q = true) ⟨by omega, by omega, e2.2.2⟩ (fun p q l hl ⟨x1, x2, x3⟩ => by
      have lt := rch_lt w1 w2 (e2.2.1 p q x1 x2 x3)
      have y1 := w1.2.2 p l lt.1 hl
      have y2 := w2.2.2 q l lt.2 hl
      have z1 := w1.2.1
      have z2 := w2.2.1
      exact ⟨by omega, by omega, e3 p q l x1 x2 hl x3 (e4 p q x1 x2)⟩)
    exact this.2.2
  have z1 := w1.2.1
  have z2 := w2.2.1
  have pre : f_In_holds n sn wt (nI S1) (4 * S1) nx1 la1 (nI S2) (4 * S2) nx2 la2 = (f_In_holds_63 n sn' wt' (nI S1) la1 la2 n (nI 0)).bind fun u26 => u26.elim (fun r => some r) fun x26 => some (true, sn', wt') := by
    rw [f_In_holds, a1, sb_t, b1, sb_t, show gin 0 64 = true from by decide, ogd_t, ogd_t, show (0 : Int32).toNatClampNeg = 0 from rfl, l0, e1, sb_t]
  rcases ho63 (n := n) (S2 := S2) (f2 := f2) (la2 := la2) (sn := sn') (wt := wt') z1 hl1 S1 n 0 (by omega) (by omega) with ⟨x1, p, q, x2, x3, x4, x5, x6⟩ | ⟨x1, x2⟩
  · refine ⟨false, sn', wt', by rw [pre, x1]; rfl, ⟨fun h => (by cases h), fun h => ?_⟩⟩
    have hr := e2.2.1 p q (by omega) x3 x5
    have := h p q hr x4
    rw [hl2 q x3, this] at x6
    have hq := (rch_lt w1 w2 hr).2
    simp [hq] at x6
  · refine ⟨true, sn', wt', by rw [pre, x1]; rfl, ⟨fun _ p q hr hf => ?_, fun _ => rfl⟩⟩
    have lt := rch_lt w1 w2 hr
    have := x2 p q (by omega) lt.1 (by omega) hf (all p q hr)
    rw [hl2 q (by omega)] at this
    simp only [Bool.and_eq_true] at this
    exact this.2
theorem cl_within {n : Nat} (hn : 4097 < n) {p0 p1 : Int32} {o : Nat → Int64} {xLang xCount T mLanguages mSize mGoes mLast iSeen iWaiting mMet mTodo} (hL : RelL xLang xCount T mLanguages mSize mGoes mLast) : ∃ u w, f_La_within n p0 p1 xLang xCount iSeen iWaiting T o = some u ∧ f_Mo_within n p0 p1 mLanguages mGoes mLast mMet mTodo = some w ∧ ((∃ (k : Int32) (m : (Nat → Int64) × (Nat → Int64)), u = .inl (k, m) ∧ k ≠ 0 ∧ w.2.1 = k) ∨ ∃ (o2 : Nat → Int64) (v : Bool × (Nat → Int64) × (Nat → Int64)), u = .inr (o2, v) ∧ w.2.1 = 0 ∧ o2 (0 : Int32).toNatClampNeg = (if w.1 = true then 1 else 0)) := by
  obtain ⟨N, hN, rfl, rfl, hI, hE⟩ := hL
  by_cases h0 : 0 ≤ p0.toInt ∧ p0.toInt < N
  · by_cases h1 : 0 ≤ p1.toInt ∧ p1.toInt < N
    · obtain ⟨i, hi, rfl⟩ := idx h0.1 h0.2
      obtain ⟨j, hj, rfl⟩ := idx h1.1 h1.2
      obtain ⟨q, hq, S, go, fin, hwf, ⟨a1, a2, a3, a4, a5⟩, hR⟩ := hI i hi
      obtain ⟨q', hq', S', go', fin', hwf', ⟨a1', a2', a3', a4', a5'⟩, hR'⟩ := hI j hj
      obtain ⟨b, sn', wt', e1, e2⟩ := ho_c (n := n) (sn := iSeen) (wt := iWaiting) hwf hwf' a3 a3' a4 a4' hn
      obtain ⟨b', met', todo', e3, e4⟩ := wi_r (n := n) (mMet := mMet) (mTodo := mTodo) hN hwf hwf' hi hj hR hR' hn
      have : b' = b := by
        have := e4.trans e2.symm
        cases b <;> cases b' <;> simp_all
      subst this
      refine ⟨.inr (vp_updL o 0 (if b' = true then 1 else 0), (b', sn', wt')), (b', 0, met', todo'), ?_, e3, .inr ⟨_, _, rfl, rfl, rfl⟩⟩
      simp only [f_La_within, f_RS_within, reqL hN, h0, h1, and_self, if_true, sb_t, el_r, nI_gin (show i < 60 by omega) (by omega), nI_gin (show j < 60 by omega) (by omega), ogd_t, nI_nat (show i < 2147483648 by omega), nI_nat (show j < 2147483648 by omega), hq, hq', oq, a1, a2, a1', a2', e1]
      rfl
    · refine ⟨.inl (1, (iSeen, iWaiting)), (false, 1, mMet, mTodo), ?_, ?_, .inl ⟨1, _, rfl, by decide, rfl⟩⟩
      · simp [f_La_within, f_RS_within, reqL hN, h0, h1]
      · simp [f_Mo_within, isL hN, h0, h1, fails_t]
  · refine ⟨.inl (1, (iSeen, iWaiting)), (false, 1, mMet, mTodo), ?_, ?_, .inl ⟨1, _, rfl, by decide, rfl⟩⟩
    · simp [f_La_within, f_RS_within, reqL hN, h0]
    · simp [f_Mo_within, isL hN, h0, fails_t]
theorem ok_within {n : Nat} (hn : 4097 < n) : sim_within n Rel := by
  intro c T r o p0 p1 hR
  obtain ⟨hL, hV, hB, hS⟩ := hR
  obtain ⟨u, w, h1, h2, h3⟩ := cl_within hn (p0 := p0) (p1 := p1) (o := o) hL
  refine ⟨u, w, h1, h2, ?_⟩
  rcases h3 with ⟨k, m, a, b, d⟩ | ⟨o2, v, a, b, d⟩
  · exact .inl ⟨k, m, a, b, d, hL, hV, hB, hS⟩
  · exact .inr ⟨o2, v, a, b, d, hL, hV, hB, hS⟩
