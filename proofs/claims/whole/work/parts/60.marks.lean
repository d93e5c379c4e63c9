/-! STAGE 2. JOINING STATES: the class's side -/
def pk (p : kY) : Nat := (((p.1 * 64 + p.2.1) * 64 + p.2.2.1) * 64 + p.2.2.2.1) * 64 + p.2.2.2.2
def lt64 (p : kY) : Prop := p.1 < 64 ∧ p.2.1 < 64 ∧ p.2.2.1 < 64 ∧ p.2.2.2.1 < 64 ∧ p.2.2.2.2 < 64
theorem pk_inj {p q : kY} (hp : lt64 p) (hq : lt64 q) (h : pk p = pk q) : p = q := by
  obtain ⟨p0, p1, p2, p3, p4⟩ := p
  obtain ⟨q0, q1, q2, q3, q4⟩ := q
  unfold pk at h
  unfold lt64 at hp hq
  simp only at h hp hq
  simp only [Prod.mk.injEq]
  omega
theorem pkN_lt {p : kY} (hp : lt64 p) : pk p < 1073741824 := by
  unfold lt64 at hp
  unfold pk
  omega
theorem shl6 {a b : Nat} (ha : a < 16777216) (hb : b < 64) : (nI a <<< ((6 : Int32) &&& 31)) ||| nI b = nI (a * 64 + b) := by
  apply Int32.toBitVec.inj
  apply BitVec.eq_of_toNat_eq
  rw [Int32.toBitVec_or, BitVec.toNat_or, Int32.toBitVec_shiftLeft]
  have h6 : (((6 : Int32) &&& 31).toBitVec.smod 32) = 6 := by decide
  rw [h6]
  unfold nI
  rw [Int32.toBitVec_ofNat', Int32.toBitVec_ofNat', Int32.toBitVec_ofNat', BitVec.shiftLeft_eq', BitVec.toNat_shiftLeft, BitVec.toNat_ofNat, BitVec.toNat_ofNat, BitVec.toNat_ofNat]
  rw [Nat.mod_eq_of_lt (show a < 2 ^ 32 by omega), Nat.mod_eq_of_lt (show b < 2 ^ 32 by omega), Nat.mod_eq_of_lt (show a * 64 + b < 2 ^ 32 by omega)]
  have e6 : (6 : BitVec 32).toNat = 6 := by decide
  rw [e6]
  have e1 : a <<< 6 = a * 64 := by rw [Nat.shiftLeft_eq]
  rw [e1, Nat.mod_eq_of_lt (by omega), ← e1, ← Nat.shiftLeft_add_eq_or_of_lt (by omega)]
theorem mkA {n W : Nat} {Nx Cl : Nat → Int32} {nx c : Nat → Nat} (hn : 5 < n) (hW : W ≤ 800) (hN : ∀ t, t < 4 * W → Nx t = nI (nx t)) (hnx : ∀ t, t < 4 * W → nx t < W) (hc : ∀ k, k < W → Cl k = nI (c k)) (h6 : ∀ k, k < W → c k < 64) {k : Nat} (hk : k < W) : f_Mk_markAt n (nI k) Nx Cl = some (nI (pk (mkK c nx k))) := by
  obtain ⟨j, rfl⟩ : ∃ j, n = j + 5 := ⟨n - 5, by omega⟩
  have x0 := hnx (4 * k) (by omega)
  have x1 := hnx (4 * k + 1) (by omega)
  have x2 := hnx (4 * k + 2) (by omega)
  have x3 := hnx (4 * k + 3) (by omega)
  have y := h6 k hk
  have y0 := h6 _ x0
  have y1 := h6 _ x1
  have y2 := h6 _ x2
  have y3 := h6 _ x3
  rw [f_Mk_markAt, nI_gin (by omega) (by omega), ogd_t, nI_nat (by omega), hc k hk]
  rw [l0, f_Mk_markAt_9, l4, if_neg (by rw [nJ_le (by omega) (by omega)]; omega), nI_mul, nJ_add, nI_gin (by omega) (by omega), ogd_t, nI_nat (by omega), Nat.add_zero, hN _ (by omega), nI_gin (by omega) (by omega), ogd_t, nI_nat (by omega), hc _ x0, shl6 (by omega) y0, l1, nJ_add]
  rw [f_Mk_markAt_9, l4, if_neg (by rw [nJ_le (by omega) (by omega)]; omega), nI_mul, nJ_add, nI_gin (by omega) (by omega), ogd_t, nI_nat (by omega), Nat.zero_add, hN _ (by omega), nI_gin (by omega) (by omega), ogd_t, nI_nat (by omega), hc _ x1, shl6 (by omega) y1, l1, nJ_add]
  rw [f_Mk_markAt_9, l4, if_neg (by rw [nJ_le (by omega) (by omega)]; omega), nI_mul, nJ_add, nI_gin (by omega) (by omega), ogd_t, nI_nat (by omega), show 1 + 1 = 2 from rfl, hN _ (by omega), nI_gin (by omega) (by omega), ogd_t, nI_nat (by omega), hc _ x2, shl6 (by omega) y2, l1, nJ_add]
  rw [f_Mk_markAt_9, l4, if_neg (by rw [nJ_le (by omega) (by omega)]; omega), nI_mul, nJ_add, nI_gin (by omega) (by omega), ogd_t, nI_nat (by omega), show 2 + 1 = 3 from rfl, hN _ (by omega), nI_gin (by omega) (by omega), ogd_t, nI_nat (by omega), hc _ x3, shl6 (by omega) y3, l1, nJ_add]
  rw [f_Mk_markAt_9, l4, if_pos (by rw [nJ_le (by omega) (by omega)]; omega)]
  rfl
def hM (v : Int32) : Nat := (v * (-1640531535)).toBitVec.toNat / 2 ^ 24
theorem hM_lt (v : Int32) : hM v < 256 := by
  unfold hM
  have := (v * (-1640531535)).toBitVec.isLt
  omega
theorem hM_eq (v : Int32) : iushr (v * (-1640531535)) 24 = nI (hM v) := by
  apply Int32.toBitVec.inj
  apply BitVec.eq_of_toNat_eq
  unfold iushr hM
  generalize v * (-1640531535) = y
  have h1 : Int32.toUInt32 24 &&& Int32.toUInt32 31 = 24 := by decide
  rw [h1]
  show (y.toUInt32 >>> 24).toBitVec.toNat = _
  rw [UInt32.toBitVec_shiftRight]
  have h2 : ((24 : UInt32).toBitVec % 32).toNat = 24 := by decide
  rw [BitVec.ushiftRight_eq', h2, BitVec.toNat_ushiftRight, Nat.shiftRight_eq_div_pow]
  unfold nI
  rw [Int32.toBitVec_ofNat', BitVec.toNat_ofNat]
  have := y.toBitVec.isLt
  rw [Nat.mod_eq_of_lt (by omega)]
  rfl
theorem nxt256 {h d : Nat} : (nI ((h + d) % 256) + 1) - (nI ((h + d) % 256) + 1) / 256 * 256 = nI ((h + (d + 1)) % 256) := by
  rw [l1, l256, nJ_add, nI_div (by omega) (by omega), nI_mul, nI_sub (by omega)]
  exact congrArg nI (by omega)
theorem cm11 {n : Nat} {v w : Int32} {Mk Fi Sl : Nat → Int32} {m : Nat} (hm : m ≤ 64) (hI : HI 256 hM Mk m Sl) (hD : ∀ i j, i < m → j < m → Mk i = Mk j → i = j) : ∀ d' K d, d + d' = 256 → d' < K → (∀ j, j < d → Sl ((hM v + j) % 256) ≠ -1 ∧ ∀ k, k < m → Sl ((hM v + j) % 256) = nI k → Mk k ≠ v) → (∃ g, lookP (fun k => decide (Mk k = v)) 0 m = some g ∧ f_Mk_classOfMark_11 n v w K (nI d) (nI ((hM v + d) % 256)) Mk Fi Sl (nI m) = some (.inl (nI g, Mk, Fi, Sl, nI m))) ∨ (lookP (fun k => decide (Mk k = v)) 0 m = none ∧ m < 64 ∧ ∃ Sl', f_Mk_classOfMark_11 n v w K (nI d) (nI ((hM v + d) % 256)) Mk Fi Sl (nI m) = some (.inl (nI m, upd Mk m v, upd Fi m w, Sl', nI (m + 1))) ∧ HI 256 hM (upd Mk m v) (m + 1) Sl') ∨ (lookP (fun k => decide (Mk k = v)) 0 m = none ∧ ¬ m < 64 ∧ f_Mk_classOfMark_11 n v w K (nI d) (nI ((hM v + d) % 256)) Mk Fi Sl (nI m) = some (.inl (-1, Mk, Fi, Sl, nI m))) := by
  intro d'
  induction d' with
  | zero =>
    intro K d hd hK hj
    exfalso
    exact hi_full hI (by omega) (by omega) (hM v) (fun j hj' => (hj j (by omega)).1)
  | succ d' ih =>
    intro K d hd hK hj
    obtain ⟨K, rfl⟩ : ∃ j, K = j + 1 := ⟨K - 1, by omega⟩
    have hs : (hM v + d) % 256 < 256 := Nat.mod_lt _ (by omega)
    rw [f_Mk_classOfMark_11, l256, if_neg (by rw [nJ_le (by omega) (by omega)]; omega), nI_gin hs (by omega), ogd_t, nI_nat (by omega)]
    by_cases he : Sl ((hM v + d) % 256) = -1
    · rw [if_pos he]
      have hno := hi_miss hI (by omega) (fun j hj' => (hj j hj').2) he
      have hlk : lookP (fun k => decide (Mk k = v)) 0 m = none := lookP_no (fun i _ hi => decide_eq_false (hno i (by omega)))
      by_cases h8 : m < 64
      · right; left
        refine ⟨hlk, h8, _, ?_, hi_new hI (by omega) (by omega) (show d < 256 by omega) (fun j hj' => (hj j hj').1) he (fun k hk => uin (by omega)) uis⟩
        rw [f_Mk_addClassAt, l64, if_pos (by rw [nJ_lt (by omega) (by omega)]; exact h8), nI_gin h8 (by omega), ogd_t, ogd_t, nI_gin hs (by omega), ogd_t, nI_nat (by omega), nI_nat (by omega), l1, nJ_add, nI_sub (by omega), Nat.add_sub_cancel]
        rfl
      · right; right
        refine ⟨hlk, h8, ?_⟩
        rw [f_Mk_addClassAt, l64, if_neg (by rw [nJ_lt (by omega) (by omega)]; exact h8)]
        rfl
    · rw [if_neg he]
      rcases hI.1 _ hs with h | ⟨k, hk, ek⟩
      · exact absurd h he
      · rw [ek, nI_gin (by omega) (by omega), ogd_t, nI_nat (by omega)]
        by_cases hx : Mk k = v
        · left
          refine ⟨k, lookP_of (by omega) (by omega) (decide_eq_true hx) (fun i _ hi h => hD i k (by omega) hk (by rw [of_decide_eq_true h, hx])), ?_⟩
          rw [if_pos hx]
        · have hrec := ih K (d + 1) (by omega) (by omega) (fun j hj' => by
            by_cases hjd : j = d
            · subst hjd
              refine ⟨he, fun k' hk' e' => ?_⟩
              rw [ek] at e'
              rw [nJ_eq (by omega) (by omega)] at e'
              subst e'; exact hx
            · exact hj j (by omega))
          rw [← nxt256] at hrec
          rw [l256] at hrec
          have e3 : nI d + 1 = nI (d + 1) := by rw [l1, nJ_add]
          rw [e3, if_neg hx]
          exact hrec
theorem cm_c {n : Nat} {v w : Int32} {Mk Fi Sl : Nat → Int32} {m : Nat} (hn : 256 < n) (hm : m ≤ 64) (hI : HI 256 hM Mk m Sl) (hD : ∀ i j, i < m → j < m → Mk i = Mk j → i = j) : (∃ g, lookP (fun k => decide (Mk k = v)) 0 m = some g ∧ f_Mk_classOfMark n v w Mk Fi Sl (nI m) = some (nI g, Mk, Fi, Sl, nI m)) ∨ (lookP (fun k => decide (Mk k = v)) 0 m = none ∧ m < 64 ∧ ∃ Sl', f_Mk_classOfMark n v w Mk Fi Sl (nI m) = some (nI m, upd Mk m v, upd Fi m w, Sl', nI (m + 1)) ∧ HI 256 hM (upd Mk m v) (m + 1) Sl') ∨ (lookP (fun k => decide (Mk k = v)) 0 m = none ∧ ¬ m < 64 ∧ f_Mk_classOfMark n v w Mk Fi Sl (nI m) = some (-1, Mk, Fi, Sl, nI m)) := by
  have hm' : (hM v + 0) % 256 = hM v := by have := hM_lt v; omega
  have h := cm11 (n := n) (v := v) (w := w) (Fi := Fi) hm hI hD 256 n 0 (by omega) hn (fun j hj => absurd hj (Nat.not_lt_zero _))
  rw [hm'] at h
  have e : ∀ r, f_Mk_classOfMark_11 n v w n (nI 0) (nI (hM v)) Mk Fi Sl (nI m) = some (.inl r) → f_Mk_classOfMark n v w Mk Fi Sl (nI m) = some r := by
    intro r hr
    rw [f_Mk_classOfMark, hM_eq, l0, hr]; rfl
  rcases h with ⟨j, a, b⟩ | ⟨a, b, Sl', c, f⟩ | ⟨a, b, c⟩
  · exact .inl ⟨j, a, e _ b⟩
  · exact .inr (.inl ⟨a, b, Sl', e _ c, f⟩)
  · exact .inr (.inr ⟨a, b, e _ c⟩)
theorem sm15 {n W : Nat} {Nx Cl : Nat → Int32} {nx c : Nat → Nat} (hn : 256 < n) (hW : W ≤ 800) (hN : ∀ t, t < 4 * W → Nx t = nI (nx t)) (hnx : ∀ t, t < 4 * W → nx t < W) (hc : ∀ k, k < W → Cl k = nI (c k)) (h6 : ∀ k, k < W → c k < 64) : ∀ d K k C Fn Mk Fi Sl, k + d = W → d < K → CI (mkK c nx) k C → (∀ j, j < k → Fn j = nI (C.2.2 j)) → (∀ g, g < C.1 → Mk g = nI (pk (mkK c nx (C.2.1 g))) ∧ Fi g = nI (C.2.1 g)) → HI 256 hM Mk C.1 Sl → (canE (mkK c nx) d k C = none ∧ ∃ r, f_Mk_splitByMarks_15 n Nx (nI W) Cl K (nI k) Fn Mk Fi Sl (nI C.1) = some (.inl (false, r))) ∨ (∃ C' Fn' Mk' Fi' Sl', canE (mkK c nx) d k C = some C' ∧ f_Mk_splitByMarks_15 n Nx (nI W) Cl K (nI k) Fn Mk Fi Sl (nI C.1) = some (.inr (nI W, Fn', Mk', Fi', Sl', nI C'.1)) ∧ (∀ j, j < W → Fn' j = nI (C'.2.2 j)) ∧ ∀ g, g < C'.1 → Fi' g = nI (C'.2.1 g)) := by
  have hlt : ∀ k, k < W → lt64 (mkK c nx k) := fun k hk => ⟨h6 k hk, h6 _ (hnx _ (by omega)), h6 _ (hnx _ (by omega)), h6 _ (hnx _ (by omega)), h6 _ (hnx _ (by omega))⟩
  intro d
  induction d with
  | zero =>
    intro K k C Fn Mk Fi Sl hk hK hC hF hM' hI
    obtain ⟨K, rfl⟩ : ∃ j, K = j + 1 := ⟨K - 1, by omega⟩
    have : k = W := by omega
    subst this
    exact .inr ⟨C, Fn, Mk, Fi, Sl, rfl, by rw [f_Mk_splitByMarks_15, if_pos (by rw [nJ_le (by omega) (by omega)]; omega)], hF, fun g hg => (hM' g hg).2⟩
  | succ d ih =>
    intro K k C Fn Mk Fi Sl hk hK hC hF hM' hI
    obtain ⟨K, rfl⟩ : ∃ j, K = j + 1 := ⟨K - 1, by omega⟩
    have hkW : k < W := by omega
    have hC1 := hC.1
    have hD : ∀ i j, i < C.1 → j < C.1 → Mk i = Mk j → i = j := by
      intro i j hi hj e
      rw [(hM' i hi).1, (hM' j hj).1] at e
      have b1 := (hC.2.1 i hi).1
      have b2 := (hC.2.1 j hj).1
      have l1 := hlt (C.2.1 i) (by omega)
      have l2 := hlt (C.2.1 j) (by omega)
      rw [nJ_eq (by have := pkN_lt l1; omega) (by have := pkN_lt l2; omega)] at e
      exact hC.2.2.2.2 i j hi hj (pk_inj l1 l2 e)
    have hlook : lookP (fun g => decide (Mk g = nI (pk (mkK c nx k)))) 0 C.1 = lookP (fun g => decide (mkK c nx k = mkK c nx (C.2.1 g))) 0 C.1 := by
      apply lookP_congr
      intro g _ hg
      have b1 := (hC.2.1 g (by omega)).1
      have l1 := hlt (C.2.1 g) (by omega)
      have l2 := hlt k hkW
      rw [(hM' g (by omega)).1]
      apply decide_eq_decide.mpr
      rw [nJ_eq (by have := pkN_lt l1; omega) (by have := pkN_lt l2; omega)]
      exact ⟨fun e => (pk_inj l1 l2 e).symm, fun e => by rw [e]⟩
    have hcm := cm_c (n := n) (v := nI (pk (mkK c nx k))) (w := nI k) (Fi := Fi) hn hC1 hI hD
    rw [hlook] at hcm
    rw [f_Mk_splitByMarks_15, if_neg (by rw [nJ_le (by omega) (by omega)]; omega), mkA (by omega) hW hN hnx hc h6 hkW, sb_t]
    rcases hcm with ⟨g, a, b⟩ | ⟨a, b, Sl', e, f⟩ | ⟨a, b, e⟩
    · have hst : stepC (mkK c nx) C k = some (C.1, C.2.1, upN C.2.2 k g) := by
        unfold stepC
        rw [a]
      obtain ⟨q1, q2, -⟩ := lookP_some _ _ _ a
      rw [b, sb_t, if_neg (nI_nm1 (by omega)), nI_gin (by omega) (by omega), ogd_t, nI_nat (by omega), l1, nJ_add]
      have hrec := ih K (k + 1) (C.1, C.2.1, upN C.2.2 k g) (upd Fn k (nI g)) Mk Fi Sl (by omega) (by omega) (stepC_inv hC hst) (fun j hj => by
        show upd Fn k (nI g) j = nI (upN C.2.2 k g j)
        by_cases h : j = k
        · rw [h, uis, upNs]
        · rw [uin h, upNn h]; exact hF j (by omega)) hM' hI
      simp only [canE]
      rw [hst]
      exact hrec
    · have hst : stepC (mkK c nx) C k = some (C.1 + 1, upN C.2.1 C.1 k, upN C.2.2 k C.1) := by
        unfold stepC
        rw [a]
        simp only [if_pos b]
      rw [e, sb_t, if_neg (nI_nm1 (by omega)), nI_gin (by omega) (by omega), ogd_t, nI_nat (by omega), l1, nJ_add]
      have hrec := ih K (k + 1) (C.1 + 1, upN C.2.1 C.1 k, upN C.2.2 k C.1) (upd Fn k (nI C.1)) (upd Mk C.1 (nI (pk (mkK c nx k)))) (upd Fi C.1 (nI k)) Sl' (by omega) (by omega) (stepC_inv hC hst) (fun j hj => by
        show upd Fn k (nI C.1) j = nI (upN C.2.2 k C.1 j)
        by_cases h : j = k
        · rw [h, uis, upNs]
        · rw [uin h, upNn h]; exact hF j (by omega)) (fun g hg => by
        have hg' : g < C.1 + 1 := hg
        show upd Mk C.1 (nI (pk (mkK c nx k))) g = nI (pk (mkK c nx (upN C.2.1 C.1 k g))) ∧ upd Fi C.1 (nI k) g = nI (upN C.2.1 C.1 k g)
        by_cases h : g = C.1
        · rw [h, uis, uis, upNs]; exact ⟨rfl, rfl⟩
        · rw [uin h, uin h, upNn h]; exact hM' g (by omega)) f
      simp only [canE]
      rw [hst]
      exact hrec
    · have hst : stepC (mkK c nx) C k = none := by
        unfold stepC
        rw [a]
        simp only [if_neg b]
      rw [e, sb_t, if_pos rfl]
      exact .inl ⟨by simp only [canE]; rw [hst]; rfl, _, rfl⟩
theorem sm_c {n W : Nat} {Nx Cl : Nat → Int32} {nx c : Nat → Nat} (hn : 800 < n) (hW : W ≤ 800) (hN : ∀ t, t < 4 * W → Nx t = nI (nx t)) (hnx : ∀ t, t < 4 * W → nx t < W) (hc : ∀ k, k < W → Cl k = nI (c k)) (h6 : ∀ k, k < W → c k < 64) (Fn Mk Fi Sl : Nat → Int32) : (canE (mkK c nx) W 0 c00 = none ∧ ∃ r, f_Mk_splitByMarks n Nx (nI W) Cl Fn Mk Fi Sl = some (false, r)) ∨ (∃ C' Fn' Mk' Fi' Sl', canE (mkK c nx) W 0 c00 = some C' ∧ f_Mk_splitByMarks n Nx (nI W) Cl Fn Mk Fi Sl = some (true, Fn', Cl, Mk', Fi', Sl', nI C'.1) ∧ (∀ j, j < W → Fn' j = nI (C'.2.2 j)) ∧ ∀ g, g < C'.1 → Fi' g = nI (C'.2.1 g)) := by
  obtain ⟨Sl0, a1, a2⟩ := flI_c (n := n) (v := -1) (N := 256) (by omega) (by omega) Sl
  have h := sm15 (n := n) (by omega) hW hN hnx hc h6 W n 0 c00 Fn Mk Fi Sl0 (by omega) (by omega) ci0 (fun j hj => absurd hj (Nat.not_lt_zero _)) (fun g hg => absurd hg (Nat.not_lt_zero _)) (hi_empty a2)
  rcases h with ⟨b1, r, b2⟩ | ⟨C', Fn', Mk', Fi', Sl', b1, b2, b3, b4⟩
  · exact .inl ⟨b1, r, by rw [f_Mk_splitByMarks, a1, sb_t, l0]; exact congrArg (fun q => q.bind fun u15 => u15.elim (fun r => some r) fun x15 => some (true, x15.2.1, Cl, x15.2.2.1, x15.2.2.2.1, x15.2.2.2.2.1, x15.2.2.2.2.2)) b2⟩
  · exact .inr ⟨C', Fn', Mk', Fi', Sl', b1, by rw [f_Mk_splitByMarks, a1, sb_t, l0]; exact congrArg (fun q => q.bind fun u15 => u15.elim (fun r => some r) fun x15 => some (true, x15.2.1, Cl, x15.2.2.1, x15.2.2.2.1, x15.2.2.2.2.1, x15.2.2.2.2.2)) b2, b3, b4⟩
theorem se2 {n W : Nat} {Nx : Nat → Int32} {nx : Nat → Nat} (hn : 800 < n) (hW : W ≤ 800) (hN : ∀ t, t < 4 * W → Nx t = nI (nx t)) (hnx : ∀ t, t < 4 * W → nx t < W) : ∀ d K t c m Cl Fn Mk Fi Sl r, t + d = 64 → d < K → (∀ k, k < W → Cl k = nI (c k)) → (∀ k, k < W → c k < 64) → m < 2147483648 → rfC nx W d c m = some r → (r = none ∧ ∃ z, f_Mk_splitToTheEnd_2 n Nx (nI W) K (nI t) Cl Fn Mk Fi Sl (nI m) = some (.inl (false, z))) ∨ (∃ C Cl' Fn' Mk' Fi' Sl', r = some C ∧ f_Mk_splitToTheEnd_2 n Nx (nI W) K (nI t) Cl Fn Mk Fi Sl (nI m) = some (.inl (true, Cl', Fn', Mk', Fi', Sl', nI C.1)) ∧ (∀ j, j < W → Cl' j = nI (C.2.2 j)) ∧ ∀ g, g < C.1 → Fi' g = nI (C.2.1 g)) := by
  intro d
  induction d with
  | zero =>
    intro K t c m Cl Fn Mk Fi Sl r ht hK hc h6 hm h
    cases h
  | succ d ih =>
    intro K t c m Cl Fn Mk Fi Sl r ht hK hc h6 hm h
    obtain ⟨K, rfl⟩ : ∃ j, K = j + 1 := ⟨K - 1, by omega⟩
    rw [f_Mk_splitToTheEnd_2, l64, if_neg (by rw [nJ_le (by omega) (by omega)]; omega)]
    simp only [rfC] at h
    rcases sm_c (n := n) hn hW hN hnx hc h6 Fn Mk Fi Sl with ⟨b1, z, b2⟩ | ⟨C', Fn', Mk', Fi', Sl', b1, b2, b3, b4⟩
    · rw [b1] at h
      simp only [Option.some.injEq] at h
      rw [b2, sb_t]
      exact .inl ⟨h.symm, z, rfl⟩
    · rw [b1] at h
      simp only at h
      have hC := canE_inv W 0 c00 C' ci0 b1
      rw [Nat.zero_add] at hC
      have hC1 := hC.1
      rw [b2, sb_t, if_pos rfl]
      by_cases e : C'.1 = m
      · rw [if_pos e] at h
        simp only [Option.some.injEq] at h
        rw [if_pos (by show nI C'.1 = nI m; rw [e])]
        exact .inr ⟨C', Fn', Cl, Mk', Fi', Sl', h.symm, rfl, b3, b4⟩
      · rw [if_neg e] at h
        rw [if_neg (by show ¬ nI C'.1 = nI m; rw [nJ_eq (by omega) (by omega)]; exact e), l1, nJ_add]
        exact ih K (t + 1) C'.2.2 C'.1 Fn' Cl Mk' Fi' Sl' r (by omega) (by omega) b3 (fun k hk => by have := (hC.2.2.1 k hk).1; omega) (by omega) h
theorem se_c {n W : Nat} {Nx Cl : Nat → Int32} {nx c : Nat → Nat} {m : Nat} {r : Option cC} (hn : 800 < n) (hW : W ≤ 800) (hN : ∀ t, t < 4 * W → Nx t = nI (nx t)) (hnx : ∀ t, t < 4 * W → nx t < W) (hc : ∀ k, k < W → Cl k = nI (c k)) (h6 : ∀ k, k < W → c k < 64) (hm : m < 2147483648) (h : rfC nx W 64 c m = some r) (Fn Mk Fi Sl : Nat → Int32) : (r = none ∧ ∃ z, f_Mk_splitToTheEnd n Nx (nI W) Cl Fn Mk Fi Sl (nI m) = some (false, z)) ∨ (∃ C Cl' Fn' Mk' Fi' Sl', r = some C ∧ f_Mk_splitToTheEnd n Nx (nI W) Cl Fn Mk Fi Sl (nI m) = some (true, Cl', Fn', Mk', Fi', Sl', nI C.1) ∧ (∀ j, j < W → Cl' j = nI (C.2.2 j)) ∧ ∀ g, g < C.1 → Fi' g = nI (C.2.1 g)) := by
  rcases se2 (n := n) hn hW hN hnx 64 n 0 c m Cl Fn Mk Fi Sl r (by omega) (by omega) hc h6 hm h with ⟨a, z, b⟩ | ⟨C, Cl', Fn', Mk', Fi', Sl', a, b, e, f⟩
  · exact .inl ⟨a, z, by rw [f_Mk_splitToTheEnd, l0]; exact congrArg (fun q => q.bind fun u11 => u11.elim (fun r => some r) fun x11 => some (true, x11.2.1, x11.2.2.1, x11.2.2.2.1, x11.2.2.2.2.1, x11.2.2.2.2.2.1, x11.2.2.2.2.2.2)) b⟩
  · exact .inr ⟨C, Cl', Fn', Mk', Fi', Sl', a, by rw [f_Mk_splitToTheEnd, l0]; exact congrArg (fun q => q.bind fun u11 => u11.elim (fun r => some r) fun x11 => some (true, x11.2.1, x11.2.2.1, x11.2.2.2.1, x11.2.2.2.2.1, x11.2.2.2.2.2.1, x11.2.2.2.2.2.2)) b, e, f⟩
