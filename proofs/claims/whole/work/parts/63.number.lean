/-! STAGE 2. JOINING STATES: the reference's numbering of the classes -/
abbrev rS : Type := Nat × (Nat → Nat) × (Nat → Option Nat) × (Nat → Nat)
def rstep (G : Nat → Nat) (R : rS) (t : Nat) : rS :=
  match R.2.2.1 (G (4 * R.2.1 (t / 4) + t % 4)) with
  | some v => (R.1, R.2.1, R.2.2.1, upN R.2.2.2 t v)
  | none => (R.1 + 1, upN R.2.1 R.1 (G (4 * R.2.1 (t / 4) + t % 4)), va_up R.2.2.1 (G (4 * R.2.1 (t / 4) + t % 4)) (some R.1), upN R.2.2.2 t R.1)
def riter (G : Nat → Nat) : Nat → Nat → rS → rS
  | 0, _, R => R
  | d + 1, t, R => riter G d (t + 1) (rstep G R t)
def rrun (G : Nat → Nat) : Nat → Nat → rS → rS
  | 0, _, R => R
  | d + 1, k, R => if R.1 ≤ k then R else rrun G d (k + 1) (riter G 4 (4 * k) R)
def r00 (g0 : Nat) : rS := (1, upN (fun _ => 0) 0 g0, va_up (fun _ => none) g0 (some 0), fun _ => 0)
def RI (m : Nat) (R : rS) : Prop := (∀ j, j < R.1 → R.2.1 j < m ∧ R.2.2.1 (R.2.1 j) = some j) ∧ (∀ g v, g < m → R.2.2.1 g = some v → v < R.1 ∧ R.2.1 v = g) ∧ 0 < R.1
theorem ri_le {m : Nat} {R : rS} (h : RI m R) : R.1 ≤ m := by
  refine php m R.1 R.2.1 (fun k hk => (h.1 k hk).1) (fun a b ha hb e => ?_)
  have h1 := (h.1 a ha).2
  have h2 := (h.1 b hb).2
  rw [e, h2] at h1
  cases h1; rfl
theorem ri0 {m g0 : Nat} (h : g0 < m) : RI m (r00 g0) := by
  refine ⟨fun j hj => ?_, fun g v hg e => ?_, Nat.zero_lt_one⟩
  · have hj' : j < 1 := hj
    have : j = 0 := by omega
    subst this
    show upN (fun _ => 0) 0 g0 0 < m ∧ va_up (fun _ => none) g0 (some 0) (upN (fun _ => 0) 0 g0 0) = some 0
    rw [upNs, ups]; exact ⟨h, rfl⟩
  · have e' : va_up (fun _ => none) g0 (some 0) g = some v := e
    by_cases hg0 : g = g0
    · rw [hg0, ups] at e'
      cases e'
      exact ⟨Nat.zero_lt_one, by show upN (fun _ => 0) 0 g0 0 = g; rw [upNs]; exact hg0.symm⟩
    · rw [upn hg0] at e'; cases e'
theorem ri_step {m : Nat} {G : Nat → Nat} (hG : ∀ t, t < 4 * m → G t < m) {R : rS} (h : RI m R) {t : Nat} (ht : t / 4 < R.1) : RI m (rstep G R t) ∧ R.1 ≤ (rstep G R t).1 := by
  have hf := (h.1 _ ht).1
  have hg := hG (4 * R.2.1 (t / 4) + t % 4) (by omega)
  unfold rstep
  generalize G (4 * R.2.1 (t / 4) + t % 4) = g at hg
  cases hn : R.2.2.1 g with
  | some v => exact ⟨h, Nat.le_refl _⟩
  | none =>
    refine ⟨⟨fun j hj => ?_, fun g' v hg' e => ?_, Nat.succ_pos _⟩, Nat.le_succ _⟩
    · have hj' : j < R.1 + 1 := hj
      show upN R.2.1 R.1 g j < m ∧ va_up R.2.2.1 g (some R.1) (upN R.2.1 R.1 g j) = some j
      by_cases hjq : j = R.1
      · rw [hjq, upNs, ups]; exact ⟨hg, rfl⟩
      · have := h.1 j (by omega)
        rw [upNn hjq]
        refine ⟨this.1, ?_⟩
        rw [upn (fun e => by rw [e, hn] at this; cases this.2)]
        exact this.2
    · have e' : va_up R.2.2.1 g (some R.1) g' = some v := e
      by_cases hgg : g' = g
      · rw [hgg, ups] at e'
        cases e'
        exact ⟨Nat.lt_succ_self _, by show upN R.2.1 R.1 g R.1 = g'; rw [upNs]; exact hgg.symm⟩
      · rw [upn hgg] at e'
        have := h.2.1 g' v hg' e'
        refine ⟨by show v < R.1 + 1; omega, ?_⟩
        show upN R.2.1 R.1 g v = g'
        rw [upNn (by omega)]; exact this.2
/-- what the reference's arrays hold of R -/
def RN (a m T : Nat) (en : Nat → Bool) (ld : Nat → Nat) (kk : Nat) (mG : Nat → Int32) (mL : Nat → Bool) (Fr Nu : Nat → Int32) (R : rS) : Prop :=
  (∀ j, j < R.1 → Fr j = nI (R.2.1 j)) ∧ (∀ g, g < m → Nu g = match R.2.2.1 g with | some v => nI v | none => -1) ∧ (∀ t, t < T → mG (4 * (64 * a) + t) = nI (R.2.2.2 t)) ∧ ∀ j, j < kk → mL (64 * a + j) = en (ld (R.2.1 j))
theorem le261 {n W m a : Nat} {Nx Gr : Nat → Int32} {nx nm : Nat → Nat} {ld : Nat → Nat} {en : Nat → Bool} {mL : Nat → Bool} (hW : W ≤ 800) (hm : m ≤ 64) (ha : a < 60) (hN : ∀ t, t < 4 * W → Nx t = nI (nx t)) (hnx : ∀ t, t < 4 * W → nx t < W) (hc : ∀ k, k < W → Gr k = nI (nm k)) (hnm : ∀ k, k < W → nm k < m) (hld : ∀ g, g < m → ld g < W) {k s kk : Nat} : ∀ d K l R mG Fr Nu, l + d = 4 → d < K → k < R.1 → s = ld (R.2.1 k) → RI m R → RN a m (4 * k + l) en ld kk mG mL Fr Nu R → (∀ j, j < kk → j < R.1) → ∃ mG' Fr' Nu', f_Mo_lessened_261 n (nI s) (nI k) (nI a) Nx Gr K (nI l) (nI R.1) mG Fr Nu = some (nI 4, nI (riter (fun t => nm (nx (4 * ld (t / 4) + t % 4))) d (4 * k + l) R).1, mG', Fr', Nu') ∧ RI m (riter (fun t => nm (nx (4 * ld (t / 4) + t % 4))) d (4 * k + l) R) ∧ RN a m (4 * k + 4) en ld kk mG' mL Fr' Nu' (riter (fun t => nm (nx (4 * ld (t / 4) + t % 4))) d (4 * k + l) R) ∧ R.1 ≤ (riter (fun t => nm (nx (4 * ld (t / 4) + t % 4))) d (4 * k + l) R).1 ∧ (∀ j, j < R.1 → (riter (fun t => nm (nx (4 * ld (t / 4) + t % 4))) d (4 * k + l) R).2.1 j = R.2.1 j) ∧ ∀ x, x < 256 * a → mG' x = mG x := by
  have hG : ∀ t, t < 4 * m → (fun t => nm (nx (4 * ld (t / 4) + t % 4))) t < m := fun t ht => hnm _ (hnx _ (by have := hld (t / 4) (by omega); omega))
  intro d
  induction d with
  | zero =>
    intro K l R mG Fr Nu hl hK hk hs hR hN' hkk
    obtain ⟨K, rfl⟩ : ∃ j, K = j + 1 := ⟨K - 1, by omega⟩
    have : l = 4 := by omega
    subst this
    exact ⟨mG, Fr, Nu, by rw [f_Mo_lessened_261, l4, if_pos (by rw [nJ_le (by omega) (by omega)]; omega)]; rfl, hR, hN', Nat.le_refl _, fun j _ => rfl, fun x _ => rfl⟩
  | succ d ih =>
    intro K l R mG Fr Nu hl hK hk hs hR hN' hkk
    obtain ⟨K, rfl⟩ : ∃ j, K = j + 1 := ⟨K - 1, by omega⟩
    have hq := ri_le hR
    have hf := (hR.1 k hk).1
    have hsW : s < W := by rw [hs]; exact hld _ hf
    have hx := hnx (4 * s + l) (by omega)
    have hg := hnm _ hx
    have hdv : (4 * k + l) / 4 = k := by omega
    have hmd : (4 * k + l) % 4 = l := by omega
    have hgE : (fun t => nm (nx (4 * ld (t / 4) + t % 4))) (4 * R.2.1 ((4 * k + l) / 4) + (4 * k + l) % 4) = nm (nx (4 * s + l)) := by
      rw [hdv, hmd]
      show nm (nx (4 * ld ((4 * R.2.1 k + l) / 4) + (4 * R.2.1 k + l) % 4)) = _
      rw [show (4 * R.2.1 k + l) / 4 = R.2.1 k by omega, show (4 * R.2.1 k + l) % 4 = l by omega, hs]
    obtain ⟨n1, n2, n3, n4⟩ := hN'
    have hst := ri_step hG hR (t := 4 * k + l) (by omega)
    have hidx : 4 * (64 * a + k) + l = 4 * (64 * a) + (4 * k + l) := by omega
    rw [f_Mo_lessened_261, l4, if_neg (by rw [nJ_le (by omega) (by omega)]; omega), nI_mul, nJ_add, nI_gin (by omega) (by omega), ogd_t, nI_nat (by omega), hN _ (by omega), nI_gin (by omega) (by omega), ogd_t, nI_nat (by omega), hc _ hx, nI_gin (by omega) (by omega), ogd_t, ogd_t, ogd_t, nI_nat (by omega), l64, nI_mul, nJ_add, nI_mul, nJ_add, nI_gin (by omega) (by omega), ogd_t, ogd_t, nI_nat (by omega), hidx, ogd_t]
    simp only [show nI l + 1 = nI (l + 1) from by rw [l1, nJ_add], uis]
    simp only [riter]
    generalize hgg : nm (nx (4 * s + l)) = g at *
    cases hn : R.2.2.1 g with
    | some v =>
      have hv := hR.2.1 g v hg hn
      have hnu : Nu g = nI v := by rw [n2 g hg, hn]
      have er : rstep (fun t => nm (nx (4 * ld (t / 4) + t % 4))) R (4 * k + l) = (R.1, R.2.1, R.2.2.1, upN R.2.2.2 (4 * k + l) v) := by
        unfold rstep
        rw [hgE, hn]
      rw [er] at hst ⊢
      rw [hnu, if_pos (by rw [l0, nJ_le (by omega) (by omega)]; omega)]
      obtain ⟨mG', Fr', Nu', r1, r2, r3, r4, r5, r6⟩ := ih K (l + 1) (R.1, R.2.1, R.2.2.1, upN R.2.2.2 (4 * k + l) v) (upd mG (4 * (64 * a) + (4 * k + l)) (nI v)) Fr Nu (by omega) (by omega) hk hs hst.1 ⟨n1, n2, fun t ht => by
        show upd mG (4 * (64 * a) + (4 * k + l)) (nI v) (4 * (64 * a) + t) = nI (upN R.2.2.2 (4 * k + l) v t)
        by_cases h : t = 4 * k + l
        · rw [h, uis, upNs]
        · rw [uin (by omega), upNn h]; exact n3 t (by omega), n4⟩ hkk
      exact ⟨mG', Fr', Nu', r1, r2, r3, r4, r5, fun x hx' => by rw [r6 x hx', uin (by omega)]⟩
    | none =>
      have hnu : Nu g = -1 := by rw [n2 g hg, hn]
      have er : rstep (fun t => nm (nx (4 * ld (t / 4) + t % 4))) R (4 * k + l) = (R.1 + 1, upN R.2.1 R.1 g, va_up R.2.2.1 g (some R.1), upN R.2.2.2 (4 * k + l) R.1) := by
        unfold rstep
        rw [hgE, hn]
      rw [er] at hst ⊢
      have hq' := ri_le hst.1
      have hq'' : R.1 + 1 ≤ m := hq'
      rw [hnu, if_neg (by decide), nI_gin (by omega) (by omega), ogd_t, nI_nat (by omega), show nI R.1 + 1 = nI (R.1 + 1) from by rw [l1, nJ_add]]
      obtain ⟨mG', Fr', Nu', r1, r2, r3, r4, r5, r6⟩ := ih K (l + 1) (R.1 + 1, upN R.2.1 R.1 g, va_up R.2.2.1 g (some R.1), upN R.2.2.2 (4 * k + l) R.1) (upd mG (4 * (64 * a) + (4 * k + l)) (nI R.1)) (upd Fr R.1 (nI g)) (upd Nu g (nI R.1)) (by omega) (by omega) (by show k < R.1 + 1; omega) (by show s = ld (upN R.2.1 R.1 g k); rw [upNn (by omega)]; exact hs) hst.1 ⟨fun j hj => by
        have hj' : j < R.1 + 1 := hj
        show upd Fr R.1 (nI g) j = nI (upN R.2.1 R.1 g j)
        by_cases h : j = R.1
        · rw [h, uis, upNs]
        · rw [uin h, upNn h]; exact n1 j (by omega), fun g' hg' => by
        show upd Nu g (nI R.1) g' = match va_up R.2.2.1 g (some R.1) g' with | some v => nI v | none => -1
        by_cases h : g' = g
        · rw [h, uis, ups]
        · rw [uin h, upn h]; exact n2 g' hg', fun t ht => by
        show upd mG (4 * (64 * a) + (4 * k + l)) (nI R.1) (4 * (64 * a) + t) = nI (upN R.2.2.2 (4 * k + l) R.1 t)
        by_cases h : t = 4 * k + l
        · rw [h, uis, upNs]
        · rw [uin (by omega), upNn h]; exact n3 t (by omega), fun j hj => by
        show mL (64 * a + j) = en (ld (upN R.2.1 R.1 g j))
        have := hkk j hj
        rw [upNn (by omega)]; exact n4 j hj⟩ (fun j hj => by have := hkk j hj; show j < R.1 + 1; omega)
      refine ⟨mG', Fr', Nu', r1, r2, r3, ?_, fun j hj => ?_, fun x hx' => by rw [r6 x hx', uin (by omega)]⟩
      · exact Nat.le_trans (Nat.le_succ _) r4
      · exact (r5 j (by show j < R.1 + 1; omega)).trans (upNn (by omega))
theorem le219 {n W m a : Nat} {Nx Gr Ld : Nat → Int32} {En : Nat → Bool} {nx nm : Nat → Nat} {ld : Nat → Nat} {en : Nat → Bool} (hn : 64 < n) (hW : W ≤ 800) (hm : m ≤ 64) (ha : a < 60) (hN : ∀ t, t < 4 * W → Nx t = nI (nx t)) (hnx : ∀ t, t < 4 * W → nx t < W) (hc : ∀ k, k < W → Gr k = nI (nm k)) (hnm : ∀ k, k < W → nm k < m) (hld : ∀ g, g < m → ld g < W) (hL : ∀ g, g < m → Ld g = nI (ld g)) (hE : ∀ k, k < W → En k = en k) : ∀ d K k R mG mL Fr Nu, k + d = m → d < K → k ≤ R.1 → RI m R → RN a m (4 * k) en ld k mG mL Fr Nu R → ∃ c mG' mL' Fr' Nu', f_Mo_lessened_219 n (nI a) Nx Gr Ld En K (nI k) (nI R.1) mG mL Fr Nu = some (c, nI (rrun (fun t => nm (nx (4 * ld (t / 4) + t % 4))) d k R).1, mG', mL', Fr', Nu') ∧ RI m (rrun (fun t => nm (nx (4 * ld (t / 4) + t % 4))) d k R) ∧ RN a m (4 * (rrun (fun t => nm (nx (4 * ld (t / 4) + t % 4))) d k R).1) en ld (rrun (fun t => nm (nx (4 * ld (t / 4) + t % 4))) d k R).1 mG' mL' Fr' Nu' (rrun (fun t => nm (nx (4 * ld (t / 4) + t % 4))) d k R) ∧ (∀ x, x < 256 * a → mG' x = mG x) ∧ ∀ x, x < 64 * a → mL' x = mL x := by
  intro d
  induction d with
  | zero =>
    intro K k R mG mL Fr Nu hk hK hkR hR hN'
    obtain ⟨K, rfl⟩ : ∃ j, K = j + 1 := ⟨K - 1, by omega⟩
    have hq := ri_le hR
    have e : R.1 = k := by omega
    refine ⟨nI k, mG, mL, Fr, Nu, ?_, hR, ?_, fun x _ => rfl, fun x _ => rfl⟩
    · rw [f_Mo_lessened_219, if_pos (by rw [nJ_le (by omega) (by omega)]; omega)]
      rfl
    · show RN a m (4 * R.1) en ld R.1 mG mL Fr Nu R
      rw [e]; exact hN'
  | succ d ih =>
    intro K k R mG mL Fr Nu hk hK hkR hR hN'
    obtain ⟨K, rfl⟩ : ∃ j, K = j + 1 := ⟨K - 1, by omega⟩
    have hq := ri_le hR
    rw [f_Mo_lessened_219]
    simp only [rrun]
    by_cases hc' : R.1 ≤ k
    · have e : R.1 = k := by omega
      rw [if_pos hc', if_pos (by rw [nJ_le (by omega) (by omega)]; exact hc')]
      refine ⟨nI k, mG, mL, Fr, Nu, rfl, hR, ?_, fun x _ => rfl, fun x _ => rfl⟩
      show RN a m (4 * R.1) en ld R.1 mG mL Fr Nu R
      rw [e]; exact hN'
    · rw [if_neg hc', if_neg (by rw [nJ_le (by omega) (by omega)]; exact hc')]
      obtain ⟨n1, n2, n3, n4⟩ := hN'
      have hf := (hR.1 k (by omega)).1
      have hs := hld _ hf
      rw [nI_gin (by omega) (by omega), ogd_t, nI_nat (by omega), n1 k (by omega), nI_gin (by omega) (by omega), ogd_t, nI_nat (by omega), hL _ hf, nI_gin (by omega) (by omega), ogd_t, nI_nat (by omega), l64, nI_mul, nJ_add, nI_gin (by omega) (by omega), ogd_t, nI_nat (by omega), hE _ hs]
      obtain ⟨mG1, Fr1, Nu1, r1, r2, r3, r4, r5, r6⟩ := le261 (n := n) (mL := va_up mL (64 * a + k) (en (ld (R.2.1 k)))) (en := en) (kk := k + 1) (s := ld (R.2.1 k)) hW hm ha hN hnx hc hnm hld (k := k) 4 n 0 R mG Fr Nu (by omega) (by omega) (by omega) rfl hR ⟨n1, n2, n3, fun j hj => by
        by_cases h : j = k
        · rw [h, ups]
        · rw [upn (by omega)]; exact n4 j (by omega)⟩ (fun j hj => by omega)
      rw [show f_Mo_lessened_261 n (nI (ld (R.2.1 k))) (nI k) (nI a) Nx Gr n 0 (nI R.1) mG Fr Nu = _ from r1, sb_t, show nI k + 1 = nI (k + 1) from by rw [l1, nJ_add]]
      obtain ⟨c, mG', mL', Fr', Nu', t1, t2, t3, t4, t5⟩ := ih K (k + 1) _ mG1 (va_up mL (64 * a + k) (en (ld (R.2.1 k)))) Fr1 Nu1 (by omega) (by omega) (by
        have := r4
        show k + 1 ≤ (riter (fun t => nm (nx (4 * ld (t / 4) + t % 4))) 4 (4 * k + 0) R).1
        omega) r2 (by rw [show 4 * (k + 1) = 4 * k + 4 by omega]; exact r3)
      exact ⟨c, mG', mL', Fr', Nu', t1, t2, t3, fun x hx => by rw [t4 x hx, r6 x hx], fun x hx => by rw [t5 x hx, upn (by omega)]⟩
/-- the reference's joining, whatever the numbering -/
theorem les_r {n W a : Nat} {mS mG : Nat → Int32} {mL : Nat → Bool} {Nx Gr Fr Ld Nu : Nat → Int32} {En : Nat → Bool} {nx : Nat → Nat} {en : Nat → Bool} {f : Nat} {r : Option cC} (hn : 2048 < n) (hf : f ≤ 1000) (hW0 : 0 < W) (hW : W ≤ 800) (ha : a < 60) (hN : ∀ t, t < 4 * W → Nx t = nI (nx t)) (hnx : ∀ t, t < 4 * W → nx t < W) (hE : ∀ k, k < W → En k = en k) (h : rfC nx W f (c0E en) 0 = some r) (hC : ∀ C, r = some C → ∃ key, CI key W C) : (r = none ∧ ∃ z, f_Mo_lessened n (nI a) mS mG mL Nx Gr Fr Ld Nu En (nI W) = some (false, mS, mG, mL, z)) ∨ (∃ C mG' mL' z, r = some C ∧ f_Mo_lessened n (nI a) mS mG mL Nx Gr Fr Ld Nu En (nI W) = some (true, upd mS a (nI (rrun (fun t => C.2.2 (nx (4 * C.2.1 (t / 4) + t % 4))) C.1 0 (r00 (C.2.2 0))).1), mG', mL', z) ∧ (∀ x, x < 256 * a → mG' x = mG x) ∧ (∀ x, x < 64 * a → mL' x = mL x) ∧ (rrun (fun t => C.2.2 (nx (4 * C.2.1 (t / 4) + t % 4))) C.1 0 (r00 (C.2.2 0))).1 ≤ C.1 ∧ (∀ t, t < 4 * (rrun (fun t => C.2.2 (nx (4 * C.2.1 (t / 4) + t % 4))) C.1 0 (r00 (C.2.2 0))).1 → mG' (4 * (64 * a) + t) = nI ((rrun (fun t => C.2.2 (nx (4 * C.2.1 (t / 4) + t % 4))) C.1 0 (r00 (C.2.2 0))).2.2.2 t)) ∧ ∀ j, j < (rrun (fun t => C.2.2 (nx (4 * C.2.1 (t / 4) + t % 4))) C.1 0 (r00 (C.2.2 0))).1 → mL' (64 * a + j) = en (C.2.1 ((rrun (fun t => C.2.2 (nx (4 * C.2.1 (t / 4) + t % 4))) C.1 0 (r00 (C.2.2 0))).2.1 j))) := by
  obtain ⟨Gr1, g1, g2⟩ := le4 (n := n) (En := En) hW hE W n 0 Gr (by omega) (by omega) (fun j hj => absurd hj (Nat.not_lt_zero _))
  rw [f_Mo_lessened, show f_Mo_lessened_4 n En (nI W) n 0 Gr = some (nI W, Gr1) from g1, sb_t]
  rcases le38 (n := n) (mS := mS) (mG := mG) (mL := mL) (Nu := Nu) (by omega) hW hN hnx f n (c0E en) 0 Gr1 Fr Ld r (by omega) g2 (fun k _ => by have := c0E_lt (en := en) (i := k); omega) (by omega) h with ⟨a1, z, a2⟩ | ⟨C, Gr2, Fr2, Ld2, a1, a2, a3, a4⟩
  · rw [show f_Mo_lessened_38 n mS mG mL Nx Nu (nI W) n 0 (nI W, Gr1).2 Fr Ld = some (.inl (false, mS, mG, mL, z)) from a2]
    exact .inl ⟨a1, z, rfl⟩
  · obtain ⟨key, hCI⟩ := hC C a1
    have hC1 := hCI.1
    have hnm : ∀ k, k < W → C.2.2 k < C.1 := fun k hk => (hCI.2.2.1 k hk).1
    have hld : ∀ g, g < C.1 → C.2.1 g < W := fun g hg => (hCI.2.1 g hg).1
    have h0 := hnm 0 hW0
    obtain ⟨Nu1, u1, u2⟩ := le169 (n := n) hC1 C.1 n 0 Nu (by omega) (by omega) (fun j hj => absurd hj (Nat.not_lt_zero _))
    obtain ⟨c, mG', mL', Fr', Nu', t1, t2, t3, t4, t5⟩ := le219 (n := n) (a := a) (En := En) (en := en) (Ld := Ld2) (Gr := Gr2) (nm := C.2.2) (ld := C.2.1) (by omega) hW hC1 ha hN hnx a3 hnm hld a4 hE C.1 n 0 (r00 (C.2.2 0)) mG mL (upd Fr2 0 (Gr2 0)) (upd Nu1 (C.2.2 0) 0) (by omega) (by omega) (by show 0 ≤ 1; omega) (ri0 h0) ⟨fun j hj => by
      have hj' : j < 1 := hj
      have : j = 0 := by omega
      subst this
      show upd Fr2 0 (Gr2 0) 0 = nI (upN (fun _ => 0) 0 (C.2.2 0) 0)
      rw [uis, upNs]; exact a3 0 hW0, fun g hg => by
      show upd Nu1 (C.2.2 0) 0 g = match va_up (fun _ => none) (C.2.2 0) (some 0) g with | some v => nI v | none => -1
      by_cases h : g = C.2.2 0
      · rw [h, uis, ups]; rfl
      · rw [uin h, upn h]; exact u2 g hg, fun t ht => absurd ht (Nat.not_lt_zero _), fun j hj => absurd hj (Nat.not_lt_zero _)⟩
    refine .inr ⟨C, mG', mL', (Gr2, Fr', Ld2, Nu'), a1, ?_, t4, t5, ri_le t2, t3.2.2.1, t3.2.2.2⟩
    rw [show f_Mo_lessened_38 n mS mG mL Nx Nu (nI W) n 0 (nI W, Gr1).2 Fr Ld = some (.inr (nI C.1, Gr2, Fr2, Ld2)) from a2, sb_t, el_r, show f_Mo_lessened_169 n (nI C.1, Gr2, Fr2, Ld2).1 n 0 Nu = some (nI C.1, Nu1) from u1, sb_t, show gin 0 800 = true from by decide, ogd_t]
    have e0 : (nI C.1, Gr2, Fr2, Ld2).2.1 (0 : Int32).toNatClampNeg = nI (C.2.2 0) := a3 0 hW0
    rw [e0, nI_gin (by omega) (by omega), ogd_t, ogd_t, ogd_t, nI_nat (by omega)]
    have e1 := t1
    rw [a3 0 hW0] at e1
    have e1' := congrArg (fun q => q.bind fun u90 => ogd (gin (nI a) 60) (some (true, upd mS (nI a).toNatClampNeg u90.2.1, u90.2.2.1, u90.2.2.2.1, Gr2, u90.2.2.2.2.1, Ld2, u90.2.2.2.2.2))) e1
    refine Eq.trans e1' ?_
    show ogd (gin (nI a) 60) _ = _
    rw [nI_gin ha (by omega), ogd_t, nI_nat (by omega)]
