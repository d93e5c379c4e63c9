/-! STAGE 2. SOLVE: the search, the ideal -/
def fsm {α : Type} (f : Nat → Option α) : Nat → Nat → Option α
  | _, 0 => none
  | n, d + 1 => match f n with
    | some x => some x
    | none => fsm f (n + 1) d
theorem fsm_none {α : Type} {f : Nat → Option α} : ∀ d k, (∀ n, k ≤ n → n < k + d → f n = none) → fsm f k d = none := by
  intro d
  induction d with
  | zero => intro k h; rfl
  | succ d ih =>
    intro k h
    simp only [fsm]
    rw [h k (by omega) (by omega)]
    exact ih (k + 1) (fun n a b => h n (by omega) (by omega))
theorem fsm_none' {α : Type} {f : Nat → Option α} : ∀ d k, fsm f k d = none → ∀ n, k ≤ n → n < k + d → f n = none := by
  intro d
  induction d with
  | zero => intro k h n a b; omega
  | succ d ih =>
    intro k h n a b
    simp only [fsm] at h
    cases hf : f k with
    | some x => rw [hf] at h; cases h
    | none =>
      rw [hf] at h
      by_cases hn : n = k
      · rw [hn]; exact hf
      · exact ih (k + 1) h n (by omega) (by omega)
theorem fsm_at {α : Type} {f : Nat → Option α} {x : α} {m : Nat} (hx : f m = some x) : ∀ d k, k ≤ m → m < k + d → (∀ n, k ≤ n → n < m → f n = none) → fsm f k d = some x := by
  intro d
  induction d with
  | zero => intro k h1 h2; omega
  | succ d ih =>
    intro k h1 h2 h3
    simp only [fsm]
    by_cases hk : k = m
    · rw [hk, hx]
    · rw [h3 k (by omega) (by omega)]
      exact ih (k + 1) (by omega) (by omega) (fun n a b => h3 n (by omega) b)
theorem fsm_some {α : Type} {f : Nat → Option α} {x : α} : ∀ d k, fsm f k d = some x → ∃ m, k ≤ m ∧ m < k + d ∧ f m = some x := by
  intro d
  induction d with
  | zero => intro k h; cases h
  | succ d ih =>
    intro k h
    simp only [fsm] at h
    cases hf : f k with
    | some y =>
      rw [hf] at h
      exact ⟨k, by omega, by omega, by rw [hf]; exact h⟩
    | none =>
      rw [hf] at h
      obtain ⟨m, a, b, c⟩ := ih (k + 1) h
      exact ⟨m, by omega, by omega, c⟩
theorem fsm_congr {α : Type} {f g : Nat → Option α} : ∀ d k, (∀ n, k ≤ n → n < k + d → f n = g n) → fsm f k d = fsm g k d := by
  intro d
  induction d with
  | zero => intro k h; rfl
  | succ d ih =>
    intro k h
    simp only [fsm]
    rw [h k (by omega) (by omega), ih (k + 1) (fun n a b => h n (by omega) (by omega))]
def Sr (al : Nat → Nat → Bool) (H : (Nat → Nat) → Bool) : Nat → Nat → (Nat → Nat) → Option (Nat → Nat)
  | 0, _, t => if H t = true then some t else none
  | d + 1, v, t => fsm (fun n => if al v n = true then Sr al H d (v + 1) (upN t v n) else none) 0 32
def Pl (op : Nat → (Nat → Nat) → Nat → Bool) : Nat → Nat → (Nat → Nat) → Option (Nat → Nat)
  | 0, _, t => some t
  | d + 1, v, t => fsm (fun n => if op v t n = true then Pl op d (v + 1) (upN t v n) else none) 0 32
theorem Sr_spec {al : Nat → Nat → Bool} {H : (Nat → Nat) → Bool} : ∀ d v t s, Sr al H d v t = some s → (∀ w, w < v → s w = t w) ∧ (∀ w, v ≤ w → w < v + d → al w (s w) = true ∧ s w < 32) ∧ H s = true := by
  intro d
  induction d with
  | zero =>
    intro v t s h
    simp only [Sr] at h
    by_cases hH : H t = true
    · rw [if_pos hH] at h
      cases h
      exact ⟨fun w _ => rfl, fun w a b => by omega, hH⟩
    · rw [if_neg hH] at h; cases h
  | succ d ih =>
    intro v t s h
    simp only [Sr] at h
    obtain ⟨n, a, b, c⟩ := fsm_some _ _ h
    by_cases hal : al v n = true
    · rw [if_pos hal] at c
      obtain ⟨x1, x2, x3⟩ := ih (v + 1) (upN t v n) s c
      have hv : s v = n := by rw [x1 v (by omega), upNs]
      refine ⟨fun w hw => by rw [x1 w (by omega), upNn (by omega)], fun w hw1 hw2 => ?_, x3⟩
      by_cases hwv : w = v
      · rw [hwv, hv]; exact ⟨hal, by omega⟩
      · exact x2 w (by omega) (by omega)
    · rw [if_neg hal] at c; cases c
theorem Sr_indep {al : Nat → Nat → Bool} {H : (Nat → Nat) → Bool} {v : Nat} (hH : ∀ t t', (∀ w, w ≠ v → t w = t' w) → H t = H t') : ∀ d u t t', v < u → (∀ w, w ≠ v → t w = t' w) → Sr al H d u t = none → Sr al H d u t' = none := by
  intro d
  induction d with
  | zero =>
    intro u t t' hu ht h
    simp only [Sr] at h ⊢
    rw [← hH t t' ht]
    by_cases hh : H t = true
    · rw [if_pos hh] at h; cases h
    · rw [if_neg hh]
  | succ d ih =>
    intro u t t' hu ht h
    simp only [Sr] at h ⊢
    apply fsm_none
    intro n a b
    have := fsm_none' _ _ h n a b
    by_cases hal : al u n = true
    · rw [if_pos hal] at this ⊢
      refine ih (u + 1) (upN t u n) (upN t' u n) (by omega) (fun w hw => ?_) this
      by_cases hwu : w = u
      · rw [hwu, upNs, upNs]
      · rw [upNn hwu, upNn hwu]; exact ht w hw
    · rw [if_neg hal]
theorem Sr_al {may al : Nat → Nat → Bool} {H : (Nat → Nat) → Bool} (wg : Nat → Prop) (h1 : ∀ v, v < 4 → wg v → ∀ n, n < 32 → al v n = may v n) (h2 : ∀ v, v < 4 → ¬ wg v → ∀ n, n < 32 → (al v n = true ↔ may v n = true ∧ ∀ n', n' < n → may v n' = false)) (h3 : ∀ v, v < 4 → ¬ wg v → ∀ t t', (∀ w, w ≠ v → t w = t' w) → H t = H t') : ∀ d v t, v + d = 4 → Sr al H d v t = Sr may H d v t := by
  intro d
  induction d with
  | zero => intro v t hv; rfl
  | succ d ih =>
    intro v t hv
    by_cases hw : wg v
    · simp only [Sr]
      apply fsm_congr
      intro n a b
      rw [h1 v (by omega) hw n (by omega), ih (v + 1) _ (by omega)]
    · have H2 := h2 v (by omega) hw
      cases hl : lookP (may v) 0 32 with
      | none =>
        have hno := lookP_none _ _ hl
        simp only [Sr]
        refine (fsm_none _ _ (fun n a b => ?_)).trans (fsm_none _ _ (fun n a b => ?_)).symm
        · exact if_neg (fun h => by have := (H2 n (by omega)).mp h; rw [hno n (by omega) (by omega)] at this; cases this.1)
        · exact if_neg (by rw [hno n (by omega) (by omega)]; decide)
      | some n0 =>
        obtain ⟨a, b, c, e⟩ := lookP_some _ _ _ hl
        have hal0 : al v n0 = true := (H2 n0 (by omega)).mpr ⟨c, fun n' hn' => e n' (by omega) hn'⟩
        have hlow : ∀ n, n < n0 → may v n = false := fun n hn => e n (by omega) hn
        have hlowA : ∀ n, n < 32 → n ≠ n0 → ¬ al v n = true := by
          intro n hn hne h
          have := (H2 n hn).mp h
          rcases Nat.lt_or_gt_of_ne hne with hlt | hgt
          · rw [hlow n hlt] at this; cases this.1
          · have h5 := this.2 n0 hgt
            rw [c] at h5; cases h5
        cases hr : Sr may H d (v + 1) (upN t v n0) with
        | some x =>
          simp only [Sr]
          rw [fsm_at (m := n0) (x := x) (by rw [if_pos hal0, ih (v + 1) _ (by omega)]; exact hr) 32 0 (by omega) (by omega) (fun n p q => if_neg (hlowA n (by omega) (by omega)))]
          rw [fsm_at (m := n0) (x := x) (by rw [if_pos c]; exact hr) 32 0 (by omega) (by omega) (fun n p q => if_neg (by rw [hlow n q]; decide))]
        | none =>
          simp only [Sr]
          refine (fsm_none _ _ (fun n p q => ?_)).trans (fsm_none _ _ (fun n p q => ?_)).symm
          · by_cases hn : n = n0
            · rw [hn, if_pos hal0, ih (v + 1) _ (by omega)]; exact hr
            · exact if_neg (hlowA n (by omega) hn)
          · by_cases hm : may v n = true
            · rw [if_pos hm]
              refine Sr_indep (h3 v (by omega) hw) d (v + 1) (upN t v n0) (upN t v n) (by omega) (fun w hwv => ?_) hr
              rw [upNn hwv, upNn hwv]
            · rw [if_neg hm]
def sm (f : Nat → Int) : Nat → Int
  | 0 => 0
  | u + 1 => sm f u + f u
def rsL (g : Nat → Int) : Nat → Nat → Int
  | 0, _ => 0
  | d + 1, u => rsL g d (u + 1) + g u
theorem sm_congr {f g : Nat → Int} : ∀ u, (∀ w, w < u → f w = g w) → sm f u = sm g u := by
  intro u
  induction u with
  | zero => intro h; rfl
  | succ u ih =>
    intro h
    simp only [sm]
    rw [ih (fun w hw => h w (by omega)), h u (by omega)]
theorem sm_split {f : Nat → Int} : ∀ d u, sm f (u + d) = sm f u + rsL f d u := by
  intro d
  induction d with
  | zero => intro u; simp [rsL]
  | succ d ih =>
    intro u
    rw [show u + (d + 1) = (u + 1) + d by omega, ih (u + 1)]
    simp only [sm, rsL]
    omega
theorem rsL_le {f g : Nat → Int} : ∀ d u, (∀ w, u ≤ w → w < u + d → f w ≤ g w) → rsL f d u ≤ rsL g d u := by
  intro d
  induction d with
  | zero => intro u h; exact Int.le_refl _
  | succ d ih =>
    intro u h
    simp only [rsL]
    have a := ih (u + 1) (fun w p q => h w (by omega) (by omega))
    have b := h u (by omega) (by omega)
    omega
def Hd (B : Nat) (F : Nat → Nat → Int) (Lo Hi : Nat → Int) (t : Nat → Nat) : Bool := decide (∀ b, b < B → Lo b ≤ sm (fun w => F b w * t w) 4 ∧ sm (fun w => F b w * t w) 4 ≤ Hi b)
def mnF (F : Nat → Nat → Int) (sh lg : Nat → Nat) (b w : Nat) : Int := if F b w * lg w < F b w * sh w then F b w * lg w else F b w * sh w
def mxF (F : Nat → Nat → Int) (sh lg : Nat → Nat) (b w : Nat) : Int := if F b w * sh w < F b w * lg w then F b w * lg w else F b w * sh w
def opF (B : Nat) (F : Nat → Nat → Int) (Lo Hi : Nat → Int) (al : Nat → Nat → Bool) (sh lg : Nat → Nat) (v : Nat) (t : Nat → Nat) (n : Nat) : Bool :=
  al v n && decide (∀ b, b < B → Lo b ≤ sm (fun w => F b w * t w) v + F b v * n + rsL (mxF F sh lg b) (3 - v) (v + 1) ∧ sm (fun w => F b w * t w) v + F b v * n + rsL (mnF F sh lg b) (3 - v) (v + 1) ≤ Hi b)
theorem Pl_Sr {B : Nat} {F : Nat → Nat → Int} {Lo Hi : Nat → Int} {al : Nat → Nat → Bool} {sh lg : Nat → Nat} (hsl : ∀ w n, w < 4 → n < 32 → al w n = true → sh w ≤ n ∧ n ≤ lg w) : ∀ d v t, v + (d + 1) = 4 → Pl (opF B F Lo Hi al sh lg) (d + 1) v t = Sr al (Hd B F Lo Hi) (d + 1) v t := by
  intro d
  induction d with
  | zero =>
    intro v t hv
    have hv3 : v = 3 := by omega
    subst hv3
    simp only [Pl, Sr]
    apply fsm_congr
    intro n a b
    have e : opF B F Lo Hi al sh lg 3 t n = (al 3 n && Hd B F Lo Hi (upN t 3 n)) := by
      unfold opF Hd
      congr 1
      apply decide_eq_decide.mpr
      have es : ∀ b, sm (fun w => F b w * (upN t 3 n w : Nat)) 4 = sm (fun w => F b w * t w) 3 + F b 3 * n := by
        intro b
        show sm (fun w => F b w * (upN t 3 n w : Nat)) 3 + F b 3 * (upN t 3 n 3 : Nat) = _
        rw [upNs, sm_congr (g := fun w => F b w * t w) 3 (fun w hw => by rw [upNn (by omega)])]
      constructor
      · intro h b hb
        have := h b hb
        have z1 : rsL (mxF F sh lg b) (3 - 3) (3 + 1) = 0 := rfl
        have z2 : rsL (mnF F sh lg b) (3 - 3) (3 + 1) = 0 := rfl
        rw [z1, z2] at this
        rw [es]
        omega
      · intro h b hb
        have := h b hb
        rw [es] at this
        have z1 : rsL (mxF F sh lg b) (3 - 3) (3 + 1) = 0 := rfl
        have z2 : rsL (mnF F sh lg b) (3 - 3) (3 + 1) = 0 := rfl
        rw [z1, z2]
        omega
    rw [e]
    cases al 3 n <;> cases Hd B F Lo Hi (upN t 3 n) <;> rfl
  | succ d ih =>
    intro v t hv
    rw [Pl, Sr]
    apply fsm_congr
    intro n a b
    by_cases hop : opF B F Lo Hi al sh lg v t n = true
    · have hal : al v n = true := by
        unfold opF at hop
        rw [Bool.and_eq_true] at hop
        exact hop.1
      rw [if_pos hop, if_pos hal, ih (v + 1) _ (by omega)]
    · rw [if_neg hop]
      by_cases hal : al v n = true
      · rw [if_pos hal]
        cases hr : Sr al (Hd B F Lo Hi) (d + 1) (v + 1) (upN t v n) with
        | none => rfl
        | some s =>
          exfalso
          apply hop
          obtain ⟨x1, x2, x3⟩ := Sr_spec _ _ _ _ hr
          unfold opF
          rw [hal, Bool.true_and, decide_eq_true_eq]
          unfold Hd at x3
          have hH := of_decide_eq_true x3
          intro b hb
          have h4 := hH b hb
          have e4 : (4 : Nat) = (v + 1) + (3 - v) := by omega
          rw [e4, sm_split] at h4
          have es : sm (fun w => F b w * s w) (v + 1) = sm (fun w => F b w * t w) v + F b v * n := by
            simp only [sm]
            rw [x1 v (by omega), upNs, sm_congr (g := fun w => F b w * t w) v (fun w hw => by rw [x1 w (by omega), upNn (by omega)])]
          have hle : rsL (fun w => F b w * s w) (3 - v) (v + 1) ≤ rsL (mxF F sh lg b) (3 - v) (v + 1) := rsL_le _ _ (fun w p q => by
            have h5 := x2 w (by omega) (by omega)
            have h6 := hsl w (s w) (by omega) h5.2 h5.1
            exact (mm (f := F b w) (t := s w) (a := sh w) (b := lg w) (by omega) (by omega)).2)
          have hge : rsL (mnF F sh lg b) (3 - v) (v + 1) ≤ rsL (fun w => F b w * s w) (3 - v) (v + 1) := rsL_le _ _ (fun w p q => by
            have h5 := x2 w (by omega) (by omega)
            have h6 := hsl w (s w) (by omega) h5.2 h5.1
            exact (mm (f := F b w) (t := s w) (a := sh w) (b := lg w) (by omega) (by omega)).1)
          rw [es] at h4
          omega
      · rw [if_neg hal]
theorem Hd_indep {B : Nat} {F : Nat → Nat → Int} {Lo Hi : Nat → Int} {v : Nat} (hF : ∀ b, b < B → F b v = 0) : ∀ t t', (∀ w, w ≠ v → t w = t' w) → Hd B F Lo Hi t = Hd B F Lo Hi t' := by
  intro t t' ht
  unfold Hd
  apply decide_eq_decide.mpr
  have e : ∀ b, b < B → sm (fun w => F b w * t w) 4 = sm (fun w => F b w * t' w) 4 := by
    intro b hb
    apply sm_congr
    intro w hw
    by_cases hwv : w = v
    · rw [hwv, hF b hb, Int.zero_mul, Int.zero_mul]
    · rw [ht w hwv]
  constructor
  · intro h b hb; rw [← e b hb]; exact h b hb
  · intro h b hb; rw [e b hb]; exact h b hb
