/-! STAGE 2. TABLES OF SLOTS -/
def HI {α : Type} (M : Nat) (h : α → Nat) (key : Nat → α) (W : Nat) (sl : Nat → Int32) : Prop :=
  (∀ s, s < M → sl s = -1 ∨ ∃ k, k < W ∧ sl s = nI k) ∧ (∀ k, k < W → ∃ d, d < M ∧ sl ((h (key k) + d) % M) = nI k ∧ ∀ j, j < d → sl ((h (key k) + j) % M) ≠ -1) ∧ ∀ s s', s < M → s' < M → sl s = sl s' → sl s ≠ -1 → s = s'
theorem nI_nm1 {k : Nat} (h : k < 2147483648) : nI k ≠ -1 := by
  intro e
  have := congrArg Int32.toInt e
  rw [nI_int h] at this
  have h2 : (-1 : Int32).toInt = -1 := rfl
  omega
theorem hi_empty {α : Type} {M : Nat} {h : α → Nat} {key : Nat → α} {sl : Nat → Int32} (hs : ∀ s, s < M → sl s = -1) : HI M h key 0 sl :=
  ⟨fun s hs' => .inl (hs s hs'), fun k hk => absurd hk (Nat.not_lt_zero _), fun s s' h1 h2 e hn => absurd (hs s h1) hn⟩
/-- some slot is free -/
theorem hi_full {α : Type} {M : Nat} {h : α → Nat} {key : Nat → α} {W : Nat} {sl : Nat → Int32} (hI : HI M h key W sl) (hW : W < M) (hM : M < 2147483648) (x : Nat) : ¬ ∀ d, d < M → sl ((x + d) % M) ≠ -1 := by
  intro hall
  obtain ⟨h1, h2, h3⟩ := hI
  have hx : ∀ d, ∃ k, d < M → k < W ∧ sl ((x + d) % M) = nI k := by
    intro d
    by_cases hd : d < M
    · rcases h1 ((x + d) % M) (Nat.mod_lt _ (by omega)) with e | ⟨k, a, b⟩
      · exact absurd e (hall d hd)
      · exact ⟨k, fun _ => ⟨a, b⟩⟩
    · exact ⟨0, fun h => absurd h hd⟩
  have := php W M (fun d => Classical.choose (hx d)) (fun d hd => (Classical.choose_spec (hx d) hd).1) (by
    intro a b ha hb hab
    have e1 := (Classical.choose_spec (hx a) ha).2
    have e2 := (Classical.choose_spec (hx b) hb).2
    have hab' : Classical.choose (hx a) = Classical.choose (hx b) := hab
    rw [hab', ← e2] at e1
    have e3 := h3 _ _ (Nat.mod_lt _ (by omega)) (Nat.mod_lt _ (by omega)) e1 (hall a ha)
    have q1 := Nat.mod_add_div (x + a) M
    have q2 := Nat.mod_add_div (x + b) M
    rw [e3] at q1
    by_cases hdv : (x + a) / M = (x + b) / M
    · rw [hdv] at q1; omega
    · exfalso
      rcases Nat.lt_or_gt_of_ne hdv with hl | hl
      · have : M * ((x + a) / M + 1) ≤ M * ((x + b) / M) := Nat.mul_le_mul_left _ hl
        rw [Nat.mul_add, Nat.mul_one] at this
        omega
      · have : M * ((x + b) / M + 1) ≤ M * ((x + a) / M) := Nat.mul_le_mul_left _ hl
        rw [Nat.mul_add, Nat.mul_one] at this
        omega)
  omega
/-- a key that isn't found isn't there -/
theorem hi_miss {α : Type} {M : Nat} {h : α → Nat} {key : Nat → α} {W : Nat} {sl : Nat → Int32} (hI : HI M h key W sl) (hW : W < 2147483648) {x : α} {d : Nat} (hd : ∀ j, j < d → ∀ k, k < W → sl ((h x + j) % M) = nI k → key k ≠ x) (he : sl ((h x + d) % M) = -1) : ∀ k, k < W → key k ≠ x := by
  intro k hk hx
  obtain ⟨d', a, b, c⟩ := hI.2.1 k hk
  rw [hx] at b c
  rcases Nat.lt_trichotomy d' d with hl | hl | hl
  · exact hd d' hl k hk b hx
  · subst hl
    rw [b] at he
    exact nI_nm1 (by omega) he
  · exact c d hl he
/-- a new key -/
theorem hi_new {α : Type} {M : Nat} {h : α → Nat} {key key' : Nat → α} {W : Nat} {sl : Nat → Int32} (hI : HI M h key W sl) (hM : 0 < M) (hW : W < 2147483647) {x : α} {d : Nat} (hdM : d < M) (hb : ∀ j, j < d → sl ((h x + j) % M) ≠ -1) (he : sl ((h x + d) % M) = -1) (hk : ∀ k, k < W → key' k = key k) (hx : key' W = x) : HI M h key' (W + 1) (upd sl ((h x + d) % M) (nI W)) := by
  obtain ⟨h1, h2, h3⟩ := hI
  have keep : ∀ s, sl s ≠ -1 → upd sl ((h x + d) % M) (nI W) s = sl s := by
    intro s hs
    apply uin
    intro e
    rw [e] at hs
    exact hs he
  refine ⟨fun s hs => ?_, fun k hk' => ?_, fun s s' hs hs' e hn => ?_⟩
  · by_cases e : s = (h x + d) % M
    · right; exact ⟨W, by omega, by rw [e]; exact uis⟩
    · rw [uin e]
      exact (h1 s hs).imp id fun ⟨k, a, b⟩ => ⟨k, by omega, b⟩
  · by_cases hkW : k = W
    · subst hkW
      refine ⟨d, hdM, by rw [hx]; exact uis, fun j hj => ?_⟩
      rw [hx, keep _ (hb j hj)]; exact hb j hj
    · obtain ⟨d', a, b, c⟩ := h2 k (by omega)
      refine ⟨d', a, ?_, fun j hj => ?_⟩
      · rw [hk k (by omega), keep _ (by rw [b]; exact nI_nm1 (by omega))]; exact b
      · rw [hk k (by omega), keep _ (c j hj)]; exact c j hj
  · have old : ∀ s, s < M → s ≠ (h x + d) % M → upd sl ((h x + d) % M) (nI W) s ≠ nI W := by
      intro s hs hne
      rw [uin hne]
      rcases h1 s hs with e | ⟨k, a, b⟩
      · rw [e]; exact fun h => nI_nm1 (by omega) h.symm
      · rw [b]
        intro hh
        rw [nJ_eq (by omega) (by omega)] at hh
        omega
    by_cases e1 : s = (h x + d) % M
    · by_cases e2 : s' = (h x + d) % M
      · rw [e1, e2]
      · exfalso
        apply old s' hs' e2
        rw [← e, e1]; exact uis
    · by_cases e2 : s' = (h x + d) % M
      · exfalso
        apply old s hs e1
        rw [e, e2]; exact uis
      · rw [uin e1, uin e2] at e
        rw [uin e1] at hn
        exact h3 s s' hs hs' e hn
/-- the least k below W where p holds -/
def lookP (p : Nat → Bool) : Nat → Nat → Option Nat
  | _, 0 => none
  | k, d + 1 => if p k = true then some k else lookP p (k + 1) d
theorem lookP_some {p : Nat → Bool} : ∀ d k j, lookP p k d = some j → k ≤ j ∧ j < k + d ∧ p j = true ∧ ∀ i, k ≤ i → i < j → p i = false := by
  intro d
  induction d with
  | zero => intro k j h; cases h
  | succ d ih =>
    intro k j h
    simp only [lookP] at h
    by_cases hp : p k = true
    · rw [if_pos hp] at h
      cases h
      exact ⟨by omega, by omega, hp, fun i a b => by omega⟩
    · rw [if_neg hp] at h
      obtain ⟨a, b, c, e⟩ := ih (k + 1) j h
      refine ⟨by omega, by omega, c, fun i hi hj => ?_⟩
      by_cases hik : i = k
      · subst hik; simpa using hp
      · exact e i (by omega) hj
theorem lookP_none {p : Nat → Bool} : ∀ d k, lookP p k d = none → ∀ i, k ≤ i → i < k + d → p i = false := by
  intro d
  induction d with
  | zero => intro k h i a b; omega
  | succ d ih =>
    intro k h i a b
    simp only [lookP] at h
    by_cases hp : p k = true
    · rw [if_pos hp] at h; cases h
    · rw [if_neg hp] at h
      by_cases hik : i = k
      · subst hik; simpa using hp
      · exact ih (k + 1) h i (by omega) (by omega)
theorem lookP_of {p : Nat → Bool} {d k j : Nat} (h1 : k ≤ j) (h2 : j < k + d) (h3 : p j = true) (h4 : ∀ i, k ≤ i → i < k + d → p i = true → i = j) : lookP p k d = some j := by
  cases hl : lookP p k d with
  | none =>
    have := lookP_none d k hl j h1 h2
    rw [h3] at this; cases this
  | some j' =>
    obtain ⟨a, b, c, e⟩ := lookP_some d k j' hl
    rw [h4 j' a b c]
theorem lookP_no {p : Nat → Bool} {d k : Nat} (h : ∀ i, k ≤ i → i < k + d → p i = false) : lookP p k d = none := by
  cases hl : lookP p k d with
  | none => rfl
  | some j =>
    obtain ⟨a, b, c, e⟩ := lookP_some d k j hl
    rw [h j a b] at c; cases c
theorem lookP_congr {p p' : Nat → Bool} : ∀ d k, (∀ i, k ≤ i → i < k + d → p i = p' i) → lookP p k d = lookP p' k d := by
  intro d
  induction d with
  | zero => intro k h; rfl
  | succ d ih =>
    intro k h
    simp only [lookP]
    rw [h k (by omega) (by omega), ih (k + 1) (fun i a b => h i (by omega) (by omega))]
/-! THE WAY: what is come to, in order -/
abbrev wSt : Type := Int32 × Int64
abbrev wE : Type := Nat × (Nat → wSt) × (Nat → Nat)
def upN (f : Nat → Nat) (k x : Nat) : Nat → Nat := fun j => if j = k then x else f j
theorem upNs {f : Nat → Nat} {k x : Nat} : upN f k x k = x := if_pos rfl
theorem upNn {f : Nat → Nat} {k j x : Nat} (h : j ≠ k) : upN f k x j = f j := if_neg h
def stepE (dl : wSt → Nat → wSt) (E : wE) (t : Nat) : Option wE :=
  match lookP (fun k => decide (E.2.1 k = dl (E.2.1 (t / 4)) (t % 4))) 0 E.1 with
  | some j => some (E.1, E.2.1, upN E.2.2 t j)
  | none => if E.1 < 800 then some (E.1 + 1, va_up E.2.1 E.1 (dl (E.2.1 (t / 4)) (t % 4)), upN E.2.2 t E.1) else none
def iterE (dl : wSt → Nat → wSt) : Nat → Nat → wE → Option wE
  | 0, _, E => some E
  | d + 1, t, E => (stepE dl E t).bind (iterE dl d (t + 1))
def explE (dl : wSt → Nat → wSt) : Nat → Nat → wE → Option wE
  | 0, _, E => some E
  | d + 1, k, E => if E.1 ≤ k then some E else (iterE dl 4 (4 * k) E).bind (explE dl d (k + 1))
/-- what holds of E when t numbers are laid down -/
def EI (V : wSt → Prop) (T : Nat) (E : wE) : Prop :=
  0 < E.1 ∧ E.1 ≤ 800 ∧ (∀ i j, i < E.1 → j < E.1 → E.2.1 i = E.2.1 j → i = j) ∧ (∀ k, k < E.1 → V (E.2.1 k)) ∧ (∀ t, t < T → E.2.2 t < E.1) ∧ (∀ s, 0 < s → s < E.1 → ∃ t, t < T ∧ E.2.2 t = s ∧ t / 4 < s) ∧ ∀ t, t < T → ∀ s, 0 < s → s < E.2.2 t → ∃ t', t' < t ∧ E.2.2 t' = s
theorem stepE_inv {dl : wSt → Nat → wSt} {V : wSt → Prop} (hV : ∀ x l, V x → l < 4 → V (dl x l)) {T : Nat} {E E' : wE} (hE : EI V T E) (hT : T / 4 < E.1) (h : stepE dl E T = some E') : EI V (T + 1) E' ∧ E.1 ≤ E'.1 := by
  obtain ⟨e0, e1, e2, e3, e4, e5, e6⟩ := hE
  unfold stepE at h
  generalize hx : dl (E.2.1 (T / 4)) (T % 4) = x at h
  have hVx : V x := by rw [← hx]; exact hV _ _ (e3 _ hT) (by omega)
  cases hl : lookP (fun k => decide (E.2.1 k = x)) 0 E.1 with
  | some j =>
    rw [hl] at h
    simp only [Option.some.injEq] at h
    obtain ⟨a, b, c, -⟩ := lookP_some _ _ _ hl
    subst h
    refine ⟨⟨e0, e1, e2, e3, fun t ht => ?_, fun s hs hs' => ?_, fun t ht s hs hs' => ?_⟩, Nat.le_refl _⟩
    · by_cases htT : t = T
      · subst htT; rw [show (E.1, E.2.1, upN E.2.2 t j).2.2 t = j from upNs]; omega
      · rw [show (E.1, E.2.1, upN E.2.2 T j).2.2 t = E.2.2 t from upNn htT]; exact e4 t (by omega)
    · obtain ⟨t, t1, t2, t3⟩ := e5 s hs hs'
      exact ⟨t, by omega, by rw [show (E.1, E.2.1, upN E.2.2 T j).2.2 t = E.2.2 t from upNn (by omega)]; exact t2, t3⟩
    · by_cases htT : t = T
      · subst htT
        rw [show (E.1, E.2.1, upN E.2.2 t j).2.2 t = j from upNs] at hs'
        obtain ⟨t', t1, t2, t3⟩ := e5 s hs (by omega)
        exact ⟨t', t1, by rw [show (E.1, E.2.1, upN E.2.2 t j).2.2 t' = E.2.2 t' from upNn (by omega)]; exact t2⟩
      · rw [show (E.1, E.2.1, upN E.2.2 T j).2.2 t = E.2.2 t from upNn htT] at hs'
        obtain ⟨t', t1, t2⟩ := e6 t (by omega) s hs hs'
        exact ⟨t', t1, by rw [show (E.1, E.2.1, upN E.2.2 T j).2.2 t' = E.2.2 t' from upNn (by omega)]; exact t2⟩
  | none =>
    rw [hl] at h
    have hno := lookP_none _ _ hl
    by_cases h8 : E.1 < 800
    · rw [if_pos h8] at h
      simp only [Option.some.injEq] at h
      subst h
      refine ⟨⟨by show 0 < E.1 + 1; omega, by show E.1 + 1 ≤ 800; omega, fun i j hi hj hij => ?_, fun k hk => ?_, fun t ht => ?_, fun s hs hs' => ?_, fun t ht s hs hs' => ?_⟩, Nat.le_succ _⟩
      · have hi' : i < E.1 + 1 := hi
        have hj' : j < E.1 + 1 := hj
        have hij' : va_up E.2.1 E.1 x i = va_up E.2.1 E.1 x j := hij
        by_cases hiW : i = E.1
        · by_cases hjW : j = E.1
          · omega
          · rw [hiW, ups, upn hjW] at hij'
            have := hno j (by omega) (by omega)
            rw [decide_eq_false_iff_not] at this
            exact absurd hij'.symm this
        · by_cases hjW : j = E.1
          · rw [hjW, ups, upn hiW] at hij'
            have := hno i (by omega) (by omega)
            rw [decide_eq_false_iff_not] at this
            exact absurd hij' this
          · rw [upn hiW, upn hjW] at hij'
            exact e2 i j (by omega) (by omega) hij'
      · have hk' : k < E.1 + 1 := hk
        show V (va_up E.2.1 E.1 x k)
        by_cases hkW : k = E.1
        · rw [hkW, ups]; exact hVx
        · rw [upn hkW]; exact e3 k (by omega)
      · show upN E.2.2 T E.1 t < E.1 + 1
        by_cases htT : t = T
        · rw [htT, upNs]; omega
        · rw [upNn htT]; have := e4 t (by omega); omega
      · have hs'' : s < E.1 + 1 := hs'
        by_cases hsW : s = E.1
        · exact ⟨T, by omega, by show upN E.2.2 T E.1 T = s; rw [upNs, hsW], by omega⟩
        · obtain ⟨t, t1, t2, t3⟩ := e5 s hs (by omega)
          exact ⟨t, by omega, by show upN E.2.2 T E.1 t = s; rw [upNn (by omega)]; exact t2, t3⟩
      · have hs'' : s < upN E.2.2 T E.1 t := hs'
        by_cases htT : t = T
        · rw [htT, upNs] at hs''
          obtain ⟨t', t1, t2, t3⟩ := e5 s hs (by omega)
          exact ⟨t', by omega, by show upN E.2.2 T E.1 t' = s; rw [upNn (by omega)]; exact t2⟩
        · rw [upNn htT] at hs''
          obtain ⟨t', t1, t2⟩ := e6 t (by omega) s hs hs''
          exact ⟨t', t1, by show upN E.2.2 T E.1 t' = s; rw [upNn (by omega)]; exact t2⟩
    · rw [if_neg h8] at h; cases h
theorem iterE_inv {dl : wSt → Nat → wSt} {V : wSt → Prop} (hV : ∀ x l, V x → l < 4 → V (dl x l)) : ∀ d T E E', EI V T E → (T + d - 1) / 4 < E.1 → iterE dl d T E = some E' → EI V (T + d) E' ∧ E.1 ≤ E'.1 := by
  intro d
  induction d with
  | zero =>
    intro T E E' hE hT h
    cases h
    exact ⟨hE, Nat.le_refl _⟩
  | succ d ih =>
    intro T E E' hE hT h
    simp only [iterE] at h
    cases hs : stepE dl E T with
    | none => rw [hs] at h; cases h
    | some E1 =>
      rw [hs] at h
      obtain ⟨a, b⟩ := stepE_inv hV hE (by omega) hs
      obtain ⟨c, e⟩ := ih (T + 1) E1 E' a (by omega) h
      rw [show T + (d + 1) = T + 1 + d by omega]
      exact ⟨c, by omega⟩
theorem explE_inv {dl : wSt → Nat → wSt} {V : wSt → Prop} (hV : ∀ x l, V x → l < 4 → V (dl x l)) : ∀ d k E E', k + d = 800 → k ≤ E.1 → EI V (4 * k) E → explE dl d k E = some E' → EI V (4 * E'.1) E' := by
  intro d
  induction d with
  | zero =>
    intro k E E' hk hkW hE h
    cases h
    have := hE.2.1
    rw [show E.1 = k by omega]
    exact hE
  | succ d ih =>
    intro k E E' hk hkW hE h
    simp only [explE] at h
    by_cases hc : E.1 ≤ k
    · rw [if_pos hc] at h
      cases h
      rw [show E.1 = k by omega]
      exact hE
    · rw [if_neg hc] at h
      cases hs : iterE dl 4 (4 * k) E with
      | none => rw [hs] at h; cases h
      | some E1 =>
        rw [hs] at h
        obtain ⟨a, b⟩ := iterE_inv hV 4 (4 * k) E E1 hE (by omega) hs
        exact ih (k + 1) E1 E' (by omega) (by omega) (by rw [show 4 * (k + 1) = 4 * k + 4 by omega]; exact a) h
