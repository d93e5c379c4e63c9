/-! STAGE 2. JOINING STATES: the reference's side -/
theorem al_r {n W : Nat} {Nx Gr : Nat → Int32} {nx c : Nat → Nat} (hn : 5 < n) (hW : W ≤ 800) (hN : ∀ t, t < 4 * W → Nx t = nI (nx t)) (hnx : ∀ t, t < 4 * W → nx t < W) (hc : ∀ k, k < W → Gr k = nI (c k)) (h6 : ∀ k, k < W → c k < 800) {k j : Nat} (hk : k < W) (hj : j < W) : f_Mo_alike n (nI k) (nI j) Nx Gr = some (decide (mkK c nx k = mkK c nx j)) := by
  obtain ⟨q, rfl⟩ : ∃ q, n = q + 5 := ⟨n - 5, by omega⟩
  have eqq : ∀ a b, a < W → b < W → (nI (c a) = nI (c b)) = (c a = c b) := fun a b ha hb => nJ_eq (by have := h6 a ha; omega) (by have := h6 b hb; omega)
  have st : ∀ K l, l < 4 → f_Mo_alike_19 (q + 5) (nI k) (nI j) Nx Gr (K + 1) (nI l) = if c (nx (4 * k + l)) = c (nx (4 * j + l)) then f_Mo_alike_19 (q + 5) (nI k) (nI j) Nx Gr K (nI (l + 1)) else some (.inl false) := by
    intro K l hl
    have x1 := hnx (4 * k + l) (by omega)
    have x2 := hnx (4 * j + l) (by omega)
    rw [f_Mo_alike_19, l4, if_neg (by rw [nJ_le (by omega) (by omega)]; omega), nI_mul, nJ_add, nI_gin (by omega) (by omega), ogd_t, nI_nat (by omega), hN _ (by omega), nI_gin (by omega) (by omega), ogd_t, nI_nat (by omega), nI_mul, nJ_add, nI_gin (by omega) (by omega), ogd_t, nI_nat (by omega), hN _ (by omega), nI_gin (by omega) (by omega), ogd_t, nI_nat (by omega), hc _ x1, hc _ x2, l1, nJ_add]
    simp only [eqq _ _ x1 x2]
  have s4 : f_Mo_alike_19 (q + 5) (nI k) (nI j) Nx Gr (q + 1) (nI 4) = some (.inr (nI 4)) := by
    rw [f_Mo_alike_19, l4, if_pos (by rw [nJ_le (by omega) (by omega)]; omega)]
  rw [f_Mo_alike, nI_gin (by omega) (by omega), ogd_t, nI_gin (by omega) (by omega), ogd_t, nI_nat (by omega), nI_nat (by omega), hc k hk, hc j hj, l0, st (q + 4) 0 (by omega), st (q + 3) 1 (by omega), st (q + 2) 2 (by omega), st (q + 1) 3 (by omega), s4]
  simp only [eqq k j hk hj, mkK, Prod.mk.injEq, Nat.add_zero]
  by_cases h : c k = c j
  · by_cases h0 : c (nx (4 * k)) = c (nx (4 * j))
    · by_cases h1 : c (nx (4 * k + 1)) = c (nx (4 * j + 1))
      · by_cases h2 : c (nx (4 * k + 2)) = c (nx (4 * j + 2))
        · by_cases h3 : c (nx (4 * k + 3)) = c (nx (4 * j + 3))
          · simp [h, h0, h1, h2, h3]
          · simp [h, h0, h1, h2, h3]
        · simp [h, h0, h1, h2]
      · simp [h, h0, h1]
    · simp [h, h0]
  · simp [h]
theorem le4 {n W : Nat} {En : Nat → Bool} {en : Nat → Bool} (hW : W ≤ 800) (hE : ∀ k, k < W → En k = en k) : ∀ d K k Gr, k + d = W → d < K → (∀ j, j < k → Gr j = nI (c0E en j)) → ∃ Gr', f_Mo_lessened_4 n En (nI W) K (nI k) Gr = some (nI W, Gr') ∧ ∀ j, j < W → Gr' j = nI (c0E en j) := by
  intro d
  induction d with
  | zero =>
    intro K k Gr hk hK hG
    obtain ⟨K, rfl⟩ : ∃ j, K = j + 1 := ⟨K - 1, by omega⟩
    have : k = W := by omega
    subst this
    exact ⟨Gr, by rw [f_Mo_lessened_4, if_pos (by rw [nJ_le (by omega) (by omega)]; omega)], hG⟩
  | succ d ih =>
    intro K k Gr hk hK hG
    obtain ⟨K, rfl⟩ : ∃ j, K = j + 1 := ⟨K - 1, by omega⟩
    obtain ⟨Gr', a, b⟩ := ih K (k + 1) (upd Gr k (nI (c0E en k))) (by omega) (by omega) (fun j hj => by
      by_cases h : j = k
      · rw [h, uis]
      · rw [uin h]; exact hG j (by omega))
    refine ⟨Gr', ?_, b⟩
    rw [f_Mo_lessened_4, if_neg (by rw [nJ_le (by omega) (by omega)]; omega), nI_gin (by omega) (by omega), ogd_t, ogd_t, ogd_t, nI_nat (by omega), hE k (by omega)]
    simp only [show nI k + 1 = nI (k + 1) from by rw [l1, nJ_add]]
    by_cases h : en k = true
    · rw [if_pos h]
      have e : c0E en k = 1 := by unfold c0E; rw [if_pos h]
      rw [e] at a; exact a
    · rw [if_neg h]
      have e : c0E en k = 0 := by unfold c0E; rw [if_neg h]
      rw [e] at a; exact a
theorem le53 {n W : Nat} {Nx Gr Ld : Nat → Int32} {nx c ld : Nat → Nat} {m : Nat} (hn : 5 < n) (hW : W ≤ 800) (hm : m ≤ 64) (hN : ∀ t, t < 4 * W → Nx t = nI (nx t)) (hnx : ∀ t, t < 4 * W → nx t < W) (hc : ∀ k, k < W → Gr k = nI (c k)) (h6 : ∀ k, k < W → c k < 800) (hL : ∀ g, g < m → Ld g = nI (ld g) ∧ ld g < W) {k : Nat} (hk : k < W) : ∀ d K g, g + d = m → d < K → (∃ j, lookP (fun g => decide (mkK c nx k = mkK c nx (ld g))) g d = some j ∧ f_Mo_lessened_53 n (nI k) (nI m) Nx Gr Ld K (nI g) = some (nI j)) ∨ (lookP (fun g => decide (mkK c nx k = mkK c nx (ld g))) g d = none ∧ f_Mo_lessened_53 n (nI k) (nI m) Nx Gr Ld K (nI g) = some (nI m)) := by
  intro d
  induction d with
  | zero =>
    intro K g hg hK
    obtain ⟨K, rfl⟩ : ∃ j, K = j + 1 := ⟨K - 1, by omega⟩
    have : g = m := by omega
    subst this
    exact .inr ⟨rfl, by rw [f_Mo_lessened_53, if_pos (by rw [nJ_le (by omega) (by omega)]; omega)]⟩
  | succ d ih =>
    intro K g hg hK
    obtain ⟨K, rfl⟩ : ∃ j, K = j + 1 := ⟨K - 1, by omega⟩
    have h1 := hL g (by omega)
    rw [f_Mo_lessened_53, if_neg (by rw [nJ_le (by omega) (by omega)]; omega), nI_gin (by omega) (by omega), ogd_t, nI_nat (by omega), h1.1, al_r hn hW hN hnx hc h6 hk h1.2, sb_t, l1, nJ_add]
    simp only [lookP]
    by_cases h : decide (mkK c nx k = mkK c nx (ld g)) = true
    · rw [if_pos h, if_pos h]
      exact .inl ⟨g, rfl, rfl⟩
    · rw [if_neg h, if_neg h]
      exact ih K (g + 1) (by omega) (by omega)
theorem le42 {n W : Nat} {mS mG : Nat → Int32} {mL : Nat → Bool} {Nx Gr Nu : Nat → Int32} {nx c : Nat → Nat} (hn : 800 < n) (hW : W ≤ 800) (hN : ∀ t, t < 4 * W → Nx t = nI (nx t)) (hnx : ∀ t, t < 4 * W → nx t < W) (hc : ∀ k, k < W → Gr k = nI (c k)) (h6 : ∀ k, k < W → c k < 800) : ∀ d K k C Fr Ld, k + d = W → d < K → CI (mkK c nx) k C → (∀ j, j < k → Fr j = nI (C.2.2 j)) → (∀ g, g < C.1 → Ld g = nI (C.2.1 g)) → (canE (mkK c nx) d k C = none ∧ ∃ z, f_Mo_lessened_42 n mS mG mL Nx Gr Nu (nI W) K (nI k) (nI C.1) Fr Ld = some (.inl (false, mS, mG, mL, z))) ∨ (∃ C' Fr' Ld', canE (mkK c nx) d k C = some C' ∧ f_Mo_lessened_42 n mS mG mL Nx Gr Nu (nI W) K (nI k) (nI C.1) Fr Ld = some (.inr (nI W, nI C'.1, Fr', Ld')) ∧ (∀ j, j < W → Fr' j = nI (C'.2.2 j)) ∧ ∀ g, g < C'.1 → Ld' g = nI (C'.2.1 g)) := by
  intro d
  induction d with
  | zero =>
    intro K k C Fr Ld hk hK hC hF hL
    obtain ⟨K, rfl⟩ : ∃ j, K = j + 1 := ⟨K - 1, by omega⟩
    have : k = W := by omega
    subst this
    exact .inr ⟨C, Fr, Ld, rfl, by rw [f_Mo_lessened_42, if_pos (by rw [nJ_le (by omega) (by omega)]; omega)], hF, hL⟩
  | succ d ih =>
    intro K k C Fr Ld hk hK hC hF hL
    obtain ⟨K, rfl⟩ : ∃ j, K = j + 1 := ⟨K - 1, by omega⟩
    have hkW : k < W := by omega
    have hC1 := hC.1
    have hfind := le53 (n := n) (m := C.1) (ld := C.2.1) (by omega) hW hC1 hN hnx hc h6 (fun g hg => ⟨hL g hg, by have := (hC.2.1 g hg).1; omega⟩) hkW C.1 n 0 (by omega) (by omega)
    rw [f_Mo_lessened_42, if_neg (by rw [nJ_le (by omega) (by omega)]; omega)]
    rcases hfind with ⟨g, a, b⟩ | ⟨a, b⟩
    · have hst : stepC (mkK c nx) C k = some (C.1, C.2.1, upN C.2.2 k g) := by
        unfold stepC
        rw [a]
      obtain ⟨q1, q2, -⟩ := lookP_some _ _ _ a
      rw [show f_Mo_lessened_53 n (nI k) (nI C.1) Nx Gr Ld n 0 = some (nI g) from b, sb_t, if_neg (by rw [nJ_eq (by omega) (by omega)]; omega), nI_gin (by omega) (by omega), ogd_t, nI_nat (by omega), l1, nJ_add]
      have hrec := ih K (k + 1) (C.1, C.2.1, upN C.2.2 k g) (upd Fr k (nI g)) Ld (by omega) (by omega) (stepC_inv hC hst) (fun j hj => by
        show upd Fr k (nI g) j = nI (upN C.2.2 k g j)
        by_cases h : j = k
        · rw [h, uis, upNs]
        · rw [uin h, upNn h]; exact hF j (by omega)) hL
      simp only [canE]
      rw [hst]
      exact hrec
    · rw [show f_Mo_lessened_53 n (nI k) (nI C.1) Nx Gr Ld n 0 = some (nI C.1) from b, sb_t, if_pos rfl, l64]
      by_cases h7 : C.1 < 64
      · have hst : stepC (mkK c nx) C k = some (C.1 + 1, upN C.2.1 C.1 k, upN C.2.2 k C.1) := by
          unfold stepC
          rw [a]
          simp only [if_pos h7]
        rw [if_neg (by rw [nJ_eq (by omega) (by omega)]; omega), nI_gin (by omega) (by omega), ogd_t, nI_gin (by omega) (by omega), ogd_t, nI_nat (by omega), nI_nat (by omega), l1, nJ_add, nJ_add]
        have hrec := ih K (k + 1) (C.1 + 1, upN C.2.1 C.1 k, upN C.2.2 k C.1) (upd Fr k (nI C.1)) (upd Ld C.1 (nI k)) (by omega) (by omega) (stepC_inv hC hst) (fun j hj => by
          show upd Fr k (nI C.1) j = nI (upN C.2.2 k C.1 j)
          by_cases h : j = k
          · rw [h, uis, upNs]
          · rw [uin h, upNn h]; exact hF j (by omega)) (fun g hg => by
          have hg' : g < C.1 + 1 := hg
          show upd Ld C.1 (nI k) g = nI (upN C.2.1 C.1 k g)
          by_cases h : g = C.1
          · rw [h, uis, upNs]
          · rw [uin h, upNn h]; exact hL g (by omega))
        simp only [canE]
        rw [hst]
        exact hrec
      · have hst : stepC (mkK c nx) C k = none := by
          unfold stepC
          rw [a]
          simp only [if_neg h7]
        have e64 : C.1 = 64 := by omega
        rw [if_pos (by rw [e64])]
        exact .inl ⟨by simp only [canE]; rw [hst]; rfl, _, rfl⟩
theorem le120 {n W : Nat} {Fr : Nat → Int32} (hW : W ≤ 800) : ∀ d K k Gr, k + d = W → d < K → (∀ j, j < k → Gr j = Fr j) → ∃ Gr', f_Mo_lessened_120 n Fr (nI W) K (nI k) Gr = some (nI W, Gr') ∧ ∀ j, j < W → Gr' j = Fr j := by
  intro d
  induction d with
  | zero =>
    intro K k Gr hk hK hG
    obtain ⟨K, rfl⟩ : ∃ j, K = j + 1 := ⟨K - 1, by omega⟩
    have : k = W := by omega
    subst this
    exact ⟨Gr, by rw [f_Mo_lessened_120, if_pos (by rw [nJ_le (by omega) (by omega)]; omega)], hG⟩
  | succ d ih =>
    intro K k Gr hk hK hG
    obtain ⟨K, rfl⟩ : ∃ j, K = j + 1 := ⟨K - 1, by omega⟩
    obtain ⟨Gr', a, b⟩ := ih K (k + 1) (upd Gr k (Fr k)) (by omega) (by omega) (fun j hj => by
      by_cases h : j = k
      · rw [h, uis]
      · rw [uin h]; exact hG j (by omega))
    refine ⟨Gr', ?_, b⟩
    rw [f_Mo_lessened_120, if_neg (by rw [nJ_le (by omega) (by omega)]; omega), nI_gin (by omega) (by omega), ogd_t, ogd_t, nI_nat (by omega), l1, nJ_add]
    exact a
theorem le38 {n W : Nat} {mS mG : Nat → Int32} {mL : Nat → Bool} {Nx Nu : Nat → Int32} {nx : Nat → Nat} (hn : 800 < n) (hW : W ≤ 800) (hN : ∀ t, t < 4 * W → Nx t = nI (nx t)) (hnx : ∀ t, t < 4 * W → nx t < W) : ∀ f K c m Gr Fr Ld r, f ≤ K → (∀ k, k < W → Gr k = nI (c k)) → (∀ k, k < W → c k < 800) → m < 2147483648 → rfC nx W f c m = some r → (r = none ∧ ∃ z, f_Mo_lessened_38 n mS mG mL Nx Nu (nI W) K (nI m) Gr Fr Ld = some (.inl (false, mS, mG, mL, z))) ∨ (∃ C Gr' Fr' Ld', r = some C ∧ f_Mo_lessened_38 n mS mG mL Nx Nu (nI W) K (nI m) Gr Fr Ld = some (.inr (nI C.1, Gr', Fr', Ld')) ∧ (∀ j, j < W → Gr' j = nI (C.2.2 j)) ∧ ∀ g, g < C.1 → Ld' g = nI (C.2.1 g)) := by
  intro f
  induction f with
  | zero => intro K c m Gr Fr Ld r hK hc h6 hm h; cases h
  | succ f ih =>
    intro K c m Gr Fr Ld r hK hc h6 hm h
    obtain ⟨K, rfl⟩ : ∃ j, K = j + 1 := ⟨K - 1, by omega⟩
    simp only [rfC] at h
    rw [f_Mo_lessened_38]
    rcases le42 (n := n) (mS := mS) (mG := mG) (mL := mL) (Nu := Nu) hn hW hN hnx hc h6 W n 0 c00 Fr Ld (by omega) (by omega) ci0 (fun j hj => absurd hj (Nat.not_lt_zero _)) (fun g hg => absurd hg (Nat.not_lt_zero _)) with ⟨b1, z, b2⟩ | ⟨C, Fr', Ld', b1, b2, b3, b4⟩
    · rw [b1] at h
      simp only [Option.some.injEq] at h
      rw [show f_Mo_lessened_42 n mS mG mL Nx Gr Nu (nI W) n 0 0 Fr Ld = some (.inl (false, mS, mG, mL, z)) from b2]
      exact .inl ⟨h.symm, z, rfl⟩
    · rw [b1] at h
      simp only at h
      have hC := canE_inv W 0 c00 C ci0 b1
      rw [Nat.zero_add] at hC
      have hC1 := hC.1
      obtain ⟨Gr', g1, g2⟩ := le120 (n := n) (Fr := Fr') hW W n 0 Gr (by omega) (by omega) (fun j hj => absurd hj (Nat.not_lt_zero _))
      have g3 : ∀ j, j < W → Gr' j = nI (C.2.2 j) := fun j hj => (g2 j hj).trans (b3 j hj)
      rw [show f_Mo_lessened_42 n mS mG mL Nx Gr Nu (nI W) n 0 0 Fr Ld = some (.inr (nI W, nI C.1, Fr', Ld')) from b2, sb_t, el_r, show f_Mo_lessened_120 n (nI W, nI C.1, Fr', Ld').2.2.1 (nI W) n 0 Gr = some (nI W, Gr') from g1, sb_t]
      by_cases e : C.1 = m
      · rw [if_pos e] at h
        simp only [Option.some.injEq] at h
        rw [if_pos (by show nI C.1 = nI m; rw [e])]
        exact .inr ⟨C, Gr', Fr', Ld', h.symm, by rw [e], g3, b4⟩
      · rw [if_neg e] at h
        rw [if_neg (by show ¬ nI C.1 = nI m; rw [nJ_eq (by omega) (by omega)]; exact e)]
        exact ih K C.2.2 C.1 Gr' Fr' Ld' r (by omega) g3 (fun k hk => by have := (hC.2.2.1 k hk).1; omega) (by omega) h
theorem le169 {n m : Nat} (hm : m ≤ 64) : ∀ d K g Nu, g + d = m → d < K → (∀ j, j < g → Nu j = -1) → ∃ Nu', f_Mo_lessened_169 n (nI m) K (nI g) Nu = some (nI m, Nu') ∧ ∀ j, j < m → Nu' j = -1 := by
  intro d
  induction d with
  | zero =>
    intro K g Nu hg hK hN
    obtain ⟨K, rfl⟩ : ∃ j, K = j + 1 := ⟨K - 1, by omega⟩
    have : g = m := by omega
    subst this
    exact ⟨Nu, by rw [f_Mo_lessened_169, if_pos (by rw [nJ_le (by omega) (by omega)]; omega)], hN⟩
  | succ d ih =>
    intro K g Nu hg hK hN
    obtain ⟨K, rfl⟩ : ∃ j, K = j + 1 := ⟨K - 1, by omega⟩
    obtain ⟨Nu', a, b⟩ := ih K (g + 1) (upd Nu g (-1)) (by omega) (by omega) (fun j hj => by
      by_cases h : j = g
      · rw [h, uis]
      · rw [uin h]; exact hN j (by omega))
    refine ⟨Nu', ?_, b⟩
    rw [f_Mo_lessened_169, if_neg (by rw [nJ_le (by omega) (by omega)]; omega), nI_gin (by omega) (by omega), ogd_t, nI_nat (by omega), l1, nJ_add]
    exact a
