/-! STAGE 2. SOLVE: the class's find -/
def VarOK (T : auTab) (mSize mGoes : Nat → Int32) (mLast : Nat → Bool) (sA : Option Nat) (mV : Int32) (ac : Nat → Bool) : Prop :=
  (sA = none ∧ mV = -1 ∧ ∀ k, ac k = decide (k = 0)) ∨ ∃ i q S go fin, i < 60 ∧ sA = some q ∧ mV = nI i ∧ WF S go ∧ AuC (T q).2.2 S go fin ∧ AuR i mSize mGoes mLast S go fin ∧ ∀ k, ac k = acc go fin k 0
def mayF (m : Nat) (ac : Nat → Nat → Bool) (v k : Nat) : Bool := decide (k < m + 1) && ac v k
def wgF (B : Nat) (gF : Nat → Nat → Int32) (v : Nat) : Prop := ∃ b, b < B ∧ FF gF b v ≠ 0
def AlOK (may : Nat → Nat → Bool) (wg : Nat → Prop) (v : Nat) (x : Int64) : Prop := ∀ k, k < 64 → (bit x k = true ↔ may v k = true ∧ (wg v ∨ ∀ k', k' < k → may v k' = false))
theorem bit1 : ∀ k, k < 64 → bit 1 k = decide (k = 0) := fun k _ => bit_one k
theorem al_y {may : Nat → Nat → Bool} {wg : Nat → Prop} {v : Nat} {x y : Int64} {w : Bool} (hx : ∀ k, k < 64 → bit x k = may v k) (hw : w = true ↔ wg v) (hy : y = if w = true then x else x &&& -x) : AlOK may wg v y := by
  intro k hk
  by_cases h : w = true
  · rw [hy, if_pos h, hx k hk]
    exact ⟨fun a => ⟨a, .inl (hw.mp h)⟩, fun a => a.1⟩
  · have hnw : ¬ wg v := fun h' => h (hw.mpr h')
    rw [hy, if_neg h]
    cases hl : lookP (fun k => bit x k) 0 64 with
    | none =>
      have hno := lookP_none _ _ hl
      have : x = 0 := by rw [bit_nz]; exact fun i hi => hno i (by omega) (by omega)
      rw [this, bit_and, bit_zero, Bool.false_and]
      constructor
      · intro h'; cases h'
      · intro ⟨h', _⟩
        rw [← hx k hk, hno k (by omega) (by omega)] at h'
        cases h'
    | some k0 =>
      obtain ⟨a, b, c, e⟩ := lookP_some _ _ _ hl
      rw [low1 (k := k0) (by omega) c (fun j hj => e j (by omega) hj) k hk, decide_eq_true_eq]
      constructor
      · intro h'
        subst h'
        refine ⟨by rw [← hx k hk]; exact c, .inr fun k' hk' => ?_⟩
        rw [← hx k' (by omega)]
        exact e k' (by omega) hk'
      · intro ⟨h1, h2⟩
        rcases h2 with h2 | h2
        · exact absurd h2 hnw
        · rcases Nat.lt_trichotomy k k0 with hlt | heq | hgt
          · rw [← hx k hk, e k (by omega) hlt] at h1; cases h1
          · exact heq
          · have := h2 k0 hgt
            rw [← hx k0 (by omega), c] at this; cases this
theorem al4 {n m B : Nat} {gF : Nat → Nat → Int32} {T : auTab} {mSize mGoes : Nat → Int32} {mLast : Nat → Bool} {sA : Nat → Option Nat} {mV : Nat → Int32} {ac : Nat → Nat → Bool} (hn : 64 < n) (hm : m < 32) (hB : B ≤ 8) (hO : ∀ v, v < 4 → VarOK T mSize mGoes mLast (sA v) (mV v) (ac v)) : ∀ d K v (all : Bool) A, v + d = 4 → d < K → (∀ w, w < v → AlOK (mayF m ac) (wgF B gF) w (A w)) → (all = true ↔ ∀ w, w < v → ∃ k, k < 32 ∧ mayF m ac w k = true) → ∃ all' A', f_Se_allowLengths_4 n (nI m) sA (nI B) gF T K (nI v) all A = some (nI 4, all', A') ∧ (∀ w, w < 4 → AlOK (mayF m ac) (wgF B gF) w (A' w)) ∧ (all' = true ↔ ∀ w, w < 4 → ∃ k, k < 32 ∧ mayF m ac w k = true) := by
  intro d
  induction d with
  | zero =>
    intro K v all A hv hK hA hall
    obtain ⟨K, rfl⟩ : ∃ j, K = j + 1 := ⟨K - 1, by omega⟩
    have : v = 4 := by omega
    subst this
    exact ⟨all, A, by rw [f_Se_allowLengths_4, l4, if_pos (by rw [nJ_le (by omega) (by omega)]; omega)], hA, hall⟩
  | succ d ih =>
    intro K v all A hv hK hA hall
    obtain ⟨K, rfl⟩ : ∃ j, K = j + 1 := ⟨K - 1, by omega⟩
    obtain ⟨w, w1, w2⟩ := iw_c (n := n) (gF := gF) hn hB (show v < 4 by omega)
    have key : ∃ x : Int64, (∀ k, k < 64 → bit x k = mayF m ac v k) ∧ f_Se_allowLengths_4 n (nI m) sA (nI B) gF T (K + 1) (nI v) all A = f_Se_allowLengths_4 n (nI m) sA (nI B) gF T K (nI (v + 1)) (all && decide (x ≠ 0)) (vp_updL A v (if w = true then x else x &&& -x)) := by
      rw [f_Se_allowLengths_4, l4, if_neg (by rw [nJ_le (by omega) (by omega)]; omega), nI_gin (by omega) (by omega), ogd_t, nI_nat (by omega)]
      simp only [show nI v + 1 = nI (v + 1) from by rw [l1, nJ_add], ogd_t, w1, sb_t]
      rcases hO v (by omega) with ⟨o1, o2, o3⟩ | ⟨i, q, S, go, fin, o1, o2, o3, o4, o5, o6, o7⟩
      · refine ⟨1, fun k hk => ?_, ?_⟩
        · rw [bit1 k hk]
          unfold mayF
          rw [o3 k]
          by_cases h : k = 0
          · subst h; simp
          · simp [h]
        · rw [o1]
          show (if w = true then _ else _) = _
          cases w <;> cases all <;> rfl
      · obtain ⟨X, x1, x2⟩ := lu_c (n := n) (m := m) (A := (T q).2.2.2.2.2.2) hn hm
        refine ⟨X, fun k hk => ?_, ?_⟩
        · rw [x2 k hk]
          unfold mayF
          rw [o7 k]
          have h5 := o5.2.2.2.2 k 0 hk (by omega)
          rw [show (T q).2.2.2.2.2.2 = (T q).2.2.2.2.2.2 from rfl] at h5
          rw [h5]
          simp [o4.1]
        · rw [o2]
          show ((f_Au_lengthsUpTo n (nI m) (T q).2.2.2.2.2.2).bind _) = _
          rw [x1, sb_t]
          by_cases hX : X = 0
          · have e : decide (X ≠ 0) = false := decide_eq_false (fun h => h hX)
            rw [e, Bool.and_false]
            cases w <;> cases all <;> simp [hX]
          · have e : decide (X ≠ 0) = true := decide_eq_true hX
            rw [e, Bool.and_true]
            cases w <;> cases all <;> simp [hX]
    obtain ⟨x, x1, x2⟩ := key
    rw [x2]
    refine ih K (v + 1) _ _ (by omega) (by omega) (fun u hu => ?_) ?_
    · by_cases huv : u = v
      · rw [huv, ujs]
        exact al_y x1 w2 rfl
      · rw [ujn huv]; exact hA u (by omega)
    · rw [Bool.and_eq_true, decide_eq_true_eq, hall]
      have hx0 : x ≠ 0 ↔ ∃ k, k < 32 ∧ mayF m ac v k = true := by
        constructor
        · intro h
          apply Classical.byContradiction
          intro hc
          apply h
          rw [bit_nz]
          intro k hk
          rw [x1 k hk, ← Bool.not_eq_true]
          intro h'
          refine hc ⟨k, ?_, h'⟩
          unfold mayF at h'
          rw [Bool.and_eq_true, decide_eq_true_eq] at h'
          omega
        · intro ⟨k, hk, h'⟩ h
          rw [← x1 k (by omega), h, bit_zero] at h'
          cases h'
      rw [hx0]
      constructor
      · intro ⟨h1, h2⟩ u hu
        by_cases huv : u = v
        · rw [huv]; exact h2
        · exact h1 u (by omega)
      · intro h
        exact ⟨fun u hu => h u (by omega), h v (by omega)⟩
def KW (n : Nat) (T : auTab) (mSize mGoes : Nat → Int32) (mLast : Nat → Bool) (sA : Option Nat) (mV : Int32) (s : Nat) (w : Int64) : Prop :=
  (sA = none ∧ mV = -1 ∧ w = 0) ∨ ∃ i q, i < 60 ∧ sA = some q ∧ mV = nI i ∧ f_Au_leastWord n (nI s) (T q).2.2.2.1 (T q).2.2.2.2.1 (T q).2.2.2.2.2.2 = some w ∧ ∀ L0, ∃ L', f_Mo_lead n (nI i) (nI s) mSize mGoes mLast L0 = some L' ∧ f_Mo_firstWord n (nI i) (nI s) mGoes L' = some w
theorem kw_ex {n : Nat} {T : auTab} {mSize mGoes : Nat → Int32} {mLast : Nat → Bool} {sA : Option Nat} {mV : Int32} {ac : Nat → Bool} {s : Nat} (hn : 64 < n) (hs : s < 32) (hO : VarOK T mSize mGoes mLast sA mV ac) (ha : ac s = true) : ∃ w, KW n T mSize mGoes mLast sA mV s w := by
  rcases hO with ⟨o1, o2, o3⟩ | ⟨i, q, S, go, fin, o1, o2, o3, o4, o5, o6, o7⟩
  · exact ⟨0, .inl ⟨o1, o2, rfl⟩⟩
  · rw [o7 s] at ha
    obtain ⟨a1, a2, a3, a4, a5⟩ := o5
    have h0 := le_r (n := n) (L := fun _ => 0) o4 o1 o6 hn hs
    obtain ⟨L1, l1', l2'⟩ := h0
    obtain ⟨w, w1, w2⟩ := fw_b (n := n) o4 o1 a3 o6.2.1 a5 hs l2' hn ha
    refine ⟨w, .inr ⟨i, q, o1, o2, o3, ?_, fun L0 => ?_⟩⟩
    · have e : (T q).2.2.2.1 = 4 * S := a2
      rw [e]; exact w1
    · obtain ⟨L', x1, x2⟩ := le_r (n := n) (L := L0) o4 o1 o6 hn hs
      obtain ⟨w', y1, y2⟩ := fw_b (n := n) o4 o1 a3 o6.2.1 a5 hs x2 hn ha
      refine ⟨L', x1, ?_⟩
      rw [w1] at y1
      cases y1
      exact y2
theorem kw2 {n : Nat} {T : auTab} {mSize mGoes : Nat → Int32} {mLast : Nat → Bool} {sA : Nat → Option Nat} {mV : Nat → Int32} {L : Nat → Int32} {s : Nat → Nat} {W : Nat → Int64} (hL : ∀ v, v < 4 → L v = nI (s v)) (hK : ∀ v, v < 4 → KW n T mSize mGoes mLast (sA v) (mV v) (s v) (W v)) : ∀ d K v kL kW, v + d = 4 → d < K → (∀ w, w < v → kL w = nI (s w) ∧ kW w = W w) → ∃ kL' kW', f_Se_keepWords_2 n sA L T K (nI v) kL kW = some (nI 4, kL', kW') ∧ ∀ w, w < 4 → kL' w = nI (s w) ∧ kW' w = W w := by
  intro d
  induction d with
  | zero =>
    intro K v kL kW hv hK' h
    obtain ⟨K, rfl⟩ : ∃ j, K = j + 1 := ⟨K - 1, by omega⟩
    have : v = 4 := by omega
    subst this
    exact ⟨kL, kW, by rw [f_Se_keepWords_2, l4, if_pos (by rw [nJ_le (by omega) (by omega)]; omega)], h⟩
  | succ d ih =>
    intro K v kL kW hv hK' h
    obtain ⟨K, rfl⟩ : ∃ j, K = j + 1 := ⟨K - 1, by omega⟩
    obtain ⟨kL', kW', a, b⟩ := ih K (v + 1) (upd kL v (nI (s v))) (vp_updL kW v (W v)) (by omega) (by omega) (fun w hw => by
      by_cases hwv : w = v
      · rw [hwv, uis, ujs]; exact ⟨rfl, rfl⟩
      · rw [uin hwv, ujn hwv]; exact h w (by omega))
    refine ⟨kL', kW', ?_, b⟩
    rw [f_Se_keepWords_2, l4, if_neg (by rw [nJ_le (by omega) (by omega)]; omega), nI_gin (by omega) (by omega), ogd_t, nI_nat (by omega)]
    simp only [show nI v + 1 = nI (v + 1) from by rw [l1, nJ_add], ogd_t, hL v (by omega)]
    rcases hK v (by omega) with ⟨o1, o2, o3⟩ | ⟨i, q, o1, o2, o3, o4, o5⟩
    · rw [o1, ← o3]
      exact a
    · rw [o2]
      show ((f_Au_leastWord n (nI (s v)) (T q).2.2.2.1 (T q).2.2.2.2.1 (T q).2.2.2.2.2.2).bind _) = _
      rw [o4, sb_t]
      exact a
