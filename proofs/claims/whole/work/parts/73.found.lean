/-! STAGE 2. SOLVE: the reference's side -/
theorem fsm_ext {α : Type} {f : Nat → Option α} : ∀ d k e, (∀ j, k + d ≤ j → j < k + d + e → f j = none) → fsm f k (d + e) = fsm f k d := by
  intro d
  induction d with
  | zero =>
    intro k e h
    rw [Nat.zero_add]
    exact fsm_none _ _ (fun j a b => h j (by omega) (by omega))
  | succ d ih =>
    intro k e h
    rw [show d + 1 + e = (d + e) + 1 by omega]
    simp only [fsm]
    rw [ih (k + 1) e (fun j a b => h j (by omega) (by omega))]
def BO (B : Nat) (gF : Nat → Nat → Int32) (Le Mo mF mLe mMo : Nat → Int32) : Prop := ∀ b, b < B → Le b = mLe b ∧ Mo b = mMo b ∧ ∀ v, v < 4 → gF b v = mF (4 * b + v)
theorem ho14 {n B b : Nat} {gF : Nat → Nat → Int32} {mF tr : Nat → Int32} {t : Nat → Nat} (hG : GB B gF) (hb : b < B) (hF : ∀ v, v < 4 → gF b v = mF (4 * b + v)) (ht : ∀ w, w < 4 → tr w = nI (t w) ∧ t w < 32) : ∀ d K u s, u + d = 4 → d < K → s.toInt = sm (fun w => FF gF b w * t w) u → ∃ s', f_Mo_holds_14 n (nI b) mF tr K (nI u) s = some (nI 4, s') ∧ s'.toInt = sm (fun w => FF gF b w * t w) 4 := by
  have hB := hG.1
  intro d
  induction d with
  | zero =>
    intro K u s hu hK hs
    obtain ⟨K, rfl⟩ : ∃ j, K = j + 1 := ⟨K - 1, by omega⟩
    have : u = 4 := by omega
    subst this
    exact ⟨s, by rw [f_Mo_holds_14, l4, if_pos (by rw [nJ_le (by omega) (by omega)]; omega)], hs⟩
  | succ d ih =>
    intro K u s hu hK hs
    obtain ⟨K, rfl⟩ : ∃ j, K = j + 1 := ⟨K - 1, by omega⟩
    have hl := ht u (by omega)
    have hf := hG.2 b u hb (by omega)
    have hbd := bnd (f := FF gF b u) (t := (t u : Int)) hf.1 hf.2 (by omega) (by omega)
    have hsb := sm_bnd (f := fun w => FF gF b w * t w) u (fun w hw => by
      have h1 := hG.2 b w hb (by omega)
      have h2 := ht w (by omega)
      exact bnd h1.1 h1.2 (by omega) (by omega))
    have hm : (gF b u * nI (t u)).toInt = FF gF b u * t u := by
      rw [mul32 (by rw [nI_int (by omega)]; show -2147483648 ≤ FF gF b u * _; omega) (by rw [nI_int (by omega)]; show FF gF b u * _ < _; omega), nI_int (by omega)]; rfl
    obtain ⟨s', a, c⟩ := ih K (u + 1) (s + gF b u * nI (t u)) (by omega) (by omega) (by
      rw [add32 (by rw [hm, hs]; omega) (by rw [hm, hs]; omega), hm, hs]; rfl)
    refine ⟨s', ?_, c⟩
    rw [f_Mo_holds_14, l4, if_neg (by rw [nJ_le (by omega) (by omega)]; omega), nI_mul, nJ_add, nI_gin (by omega) (by omega), ogd_t, nI_gin (by omega) (by omega), ogd_t, nI_nat (by omega), nI_nat (by omega), hl.1, ← hF u (by omega), l1, nJ_add]
    exact a
theorem ho2 {n B : Nat} {gF : Nat → Nat → Int32} {Le Mo mF mLe mMo tr : Nat → Int32} {t : Nat → Nat} (hn : 64 < n) (hG : GB B gF) (hO : BO B gF Le Mo mF mLe mMo) (ht : ∀ w, w < 4 → tr w = nI (t w) ∧ t w < 32) : ∀ d K b, b + d = B → d < K → (f_Mo_holds_2 n (nI B) mF mLe mMo tr K (nI b) = some (.inl false) ∧ ∃ b', b' < B ∧ ¬ ((Le b').toInt ≤ sm (fun w => FF gF b' w * t w) 4 ∧ sm (fun w => FF gF b' w * t w) 4 ≤ (Mo b').toInt)) ∨ (f_Mo_holds_2 n (nI B) mF mLe mMo tr K (nI b) = some (.inr (nI B)) ∧ ∀ b', b ≤ b' → b' < B → (Le b').toInt ≤ sm (fun w => FF gF b' w * t w) 4 ∧ sm (fun w => FF gF b' w * t w) 4 ≤ (Mo b').toInt) := by
  have hB := hG.1
  intro d
  induction d with
  | zero =>
    intro K b hb hK
    obtain ⟨K, rfl⟩ : ∃ j, K = j + 1 := ⟨K - 1, by omega⟩
    have : b = B := by omega
    subst this
    exact .inr ⟨by rw [f_Mo_holds_2, if_pos (by rw [nJ_le (by omega) (by omega)]; omega)], fun b' h1 h2 => by omega⟩
  | succ d ih =>
    intro K b hb hK
    obtain ⟨K, rfl⟩ : ∃ j, K = j + 1 := ⟨K - 1, by omega⟩
    have hbB : b < B := by omega
    obtain ⟨o1, o2, o3⟩ := hO b hbB
    obtain ⟨s, s1, s2⟩ := ho14 (n := n) hG hbB o3 ht 4 n 0 0 (by omega) (by omega) rfl
    rw [f_Mo_holds_2, if_neg (by rw [nJ_le (by omega) (by omega)]; omega), show f_Mo_holds_14 n (nI b) mF tr n 0 0 = some (nI 4, s) from s1, sb_t, nI_gin (by omega) (by omega), ogd_t, ogd_t, nI_nat (by omega), ← o1, ← o2, l1, nJ_add]
    by_cases h1 : s < Le b
    · rw [if_pos h1]
      rw [Int32.lt_iff_toInt_lt, s2] at h1
      exact .inl ⟨rfl, b, hbB, fun h => by omega⟩
    · rw [if_neg h1]
      rw [Int32.lt_iff_toInt_lt, s2] at h1
      by_cases h2 : s ≤ Mo b
      · rw [if_pos h2]
        rw [Int32.le_iff_toInt_le, s2] at h2
        rcases ih K (b + 1) (by omega) (by omega) with h | ⟨a, c⟩
        · exact .inl h
        · refine .inr ⟨a, fun b' p q => ?_⟩
          by_cases hbb : b' = b
          · rw [hbb]; exact ⟨by omega, h2⟩
          · exact c b' (by omega) q
      · rw [if_neg h2]
        rw [Int32.le_iff_toInt_le, s2] at h2
        exact .inl ⟨rfl, b, hbB, fun h => h2 h.2⟩
theorem ho_r {n B : Nat} {gF : Nat → Nat → Int32} {Le Mo mF mLe mMo tr : Nat → Int32} {t : Nat → Nat} (hn : 64 < n) (hG : GB B gF) (hO : BO B gF Le Mo mF mLe mMo) (ht : ∀ w, w < 4 → tr w = nI (t w) ∧ t w < 32) : f_Mo_holds n (nI B) mF mLe mMo tr = some (Hd B (FF gF) (fun b => (Le b).toInt) (fun b => (Mo b).toInt) t) := by
  have hB := hG.1
  rcases ho2 (n := n) hn hG hO ht B n 0 (by omega) (by omega) with ⟨a, b', c, e⟩ | ⟨a, c⟩
  · have : Hd B (FF gF) (fun b => (Le b).toInt) (fun b => (Mo b).toInt) t = false := decide_eq_false (fun h => e (h b' c))
    rw [this, f_Mo_holds, l0, a]; rfl
  · have : Hd B (FF gF) (fun b => (Le b).toInt) (fun b => (Mo b).toInt) t = true := decide_eq_true (fun b hb => c b (by omega) hb)
    rw [this, f_Mo_holds, l0, a]; rfl
theorem so66 {n m v : Nat} {mV : Nat → Int32} {Ls : Nat → Int64} {ac : Nat → Bool} (hm : m < 32) (hv : v < 4) (hac : ∀ k, k < 32 → k ≤ m → (0 ≤ mV v ∧ bit (Ls k) 0 = ac k) ∨ (¬ 0 ≤ mV v ∧ ac k = decide (k = 0))) : ∀ d K k (my : Nat → Bool), k + d = m + 1 → d < K → (∀ j, j < k → my (4 * j + v) = ac j) → ∃ my', f_Mo_solve_66 n (nI v) (nI m) mV Ls K (nI k) my = some (nI (m + 1), my') ∧ (∀ j, j < m + 1 → my' (4 * j + v) = ac j) ∧ ∀ j w, w < 4 → w ≠ v → my' (4 * j + w) = my (4 * j + w) := by
  intro d
  induction d with
  | zero =>
    intro K k my hk hK hm'
    obtain ⟨K, rfl⟩ : ∃ j, K = j + 1 := ⟨K - 1, by omega⟩
    have : k = m + 1 := by omega
    subst this
    exact ⟨my, by rw [f_Mo_solve_66, if_pos (by rw [nJ_lt (by omega) (by omega)]; omega)], hm', fun j w _ _ => rfl⟩
  | succ d ih =>
    intro K k my hk hK hm'
    obtain ⟨K, rfl⟩ : ∃ j, K = j + 1 := ⟨K - 1, by omega⟩
    obtain ⟨my', a, b, c⟩ := ih K (k + 1) (va_up my (4 * k + v) (ac k)) (by omega) (by omega) (fun j hj => by
      by_cases h : j = k
      · rw [h, ups]
      · rw [upn (by omega)]; exact hm' j (by omega))
    refine ⟨my', ?_, b, fun j w hw hwv => by rw [c j w hw hwv, upn (by omega)]⟩
    rw [f_Mo_solve_66, if_neg (by rw [nJ_lt (by omega) (by omega)]; omega), nI_gin (by omega) (by omega), ogd_t, nI_gin (by omega) (by omega), ogd_t, nI_nat (show v < 2147483648 by omega), nI_nat (show k < 2147483648 by omega), l4, nI_mul, nJ_add, nI_gin (by omega) (by omega), nI_nat (by omega)]
    simp only [ogd_t, show nI k + 1 = nI (k + 1) from by rw [l1, nJ_add]]
    rcases hac k (by omega) (by omega) with ⟨h1, h2⟩ | ⟨h1, h2⟩
    · rw [if_pos h1]
      simp only [and1_zero, h2]
      cases hk' : ac k
      · rw [hk'] at a; exact a
      · rw [hk'] at a; exact a
    · rw [if_neg h1]
      by_cases hk0 : k = 0
      · rw [if_pos (by rw [hk0]; rfl)]
        rw [h2, decide_eq_true hk0] at a
        exact a
      · rw [if_neg (by rw [l0, nJ_eq (by omega) (by omega)]; exact hk0)]
        rw [h2, decide_eq_false hk0] at a
        exact a
theorem so39 {n m : Nat} {T : auTab} {mSize mGoes : Nat → Int32} {mLast : Nat → Bool} {sA : Nat → Option Nat} {mV : Nat → Int32} {ac : Nat → Nat → Bool} (hn : 64 < n) (hm : m < 32) (hO : ∀ v, v < 4 → VarOK T mSize mGoes mLast (sA v) (mV v) (ac v)) : ∀ d K v Ls my, v + d = 4 → d < K → (∀ w j, w < v → j < m + 1 → my (4 * j + w) = ac w j) → ∃ Ls' my', f_Mo_solve_39 n (nI m) mSize mGoes mLast mV K (nI v) Ls my = some (nI 4, Ls', my') ∧ ∀ w j, w < 4 → j < m + 1 → my' (4 * j + w) = ac w j := by
  intro d
  induction d with
  | zero =>
    intro K v Ls my hv hK h
    obtain ⟨K, rfl⟩ : ∃ j, K = j + 1 := ⟨K - 1, by omega⟩
    have : v = 4 := by omega
    subst this
    exact ⟨Ls, my, by rw [f_Mo_solve_39, l4, if_pos (by rw [nJ_le (by omega) (by omega)]; omega)], h⟩
  | succ d ih =>
    intro K v Ls my hv hK h
    obtain ⟨K, rfl⟩ : ∃ j, K = j + 1 := ⟨K - 1, by omega⟩
    rw [f_Mo_solve_39, l4, if_neg (by rw [nJ_le (by omega) (by omega)]; omega), nI_gin (by omega) (by omega), ogd_t, ogd_t, nI_nat (by omega), show nI v + 1 = nI (v + 1) from by rw [l1, nJ_add]]
    rcases hO v (by omega) with ⟨o1, o2, o3⟩ | ⟨i, q, S, go, fin, o1, o2, o3, o4, o5, o6, o7⟩
    · obtain ⟨my1, a, b, c⟩ := so66 (n := n) (mV := mV) (Ls := Ls) (ac := ac v) hm (show v < 4 by omega) (fun k hk _ => .inr ⟨by rw [o2]; decide, o3 k⟩) (m + 1) n 0 my (by omega) (by omega) (fun j hj => absurd hj (Nat.not_lt_zero _))
      obtain ⟨Ls', my', x1, x2⟩ := ih K (v + 1) Ls my1 (by omega) (by omega) (fun w j hw hj => by
        by_cases hwv : w = v
        · rw [hwv]; exact b j hj
        · rw [c j w (by omega) hwv]; exact h w j (by omega) hj)
      refine ⟨Ls', my', ?_, x2⟩
      rw [if_pos (by rw [o2]; decide), show f_Mo_solve_66 n (nI v) (nI m) mV Ls n 0 my = some (nI (m + 1), my1) from a, sb_t]
      exact x1
    · obtain ⟨L', l1', l2'⟩ := le_r (n := n) (L := Ls) o4 o1 o6 hn hm
      have hnn : ¬ mV v < 0 := by rw [o3]; exact nI_nn (by omega)
      have hge : 0 ≤ mV v := by rw [o3, l0, nJ_le (by omega) (by omega)]; omega
      obtain ⟨my1, a, b, c⟩ := so66 (n := n) (mV := mV) (Ls := L') (ac := ac v) hm (show v < 4 by omega) (fun k hk hkm => .inl ⟨hge, by rw [l2' k 0 hkm (by omega), o7 k]; simp [o4.1]⟩) (m + 1) n 0 my (by omega) (by omega) (fun j hj => absurd hj (Nat.not_lt_zero _))
      obtain ⟨Ls', my', x1, x2⟩ := ih K (v + 1) L' my1 (by omega) (by omega) (fun w j hw hj => by
        by_cases hwv : w = v
        · rw [hwv]; exact b j hj
        · rw [c j w (by omega) hwv]; exact h w j (by omega) hj)
      refine ⟨Ls', my', ?_, x2⟩
      rw [if_neg hnn, o3, l1', sb_t, show f_Mo_solve_66 n (nI v) (nI m) mV L' n 0 my = some (nI (m + 1), my1) from a, sb_t]
      exact x1
theorem so149 {n : Nat} {T : auTab} {mSize mGoes : Nat → Int32} {mLast : Nat → Bool} {sA : Nat → Option Nat} {mV : Nat → Int32} {tr : Nat → Int32} {s : Nat → Nat} {W : Nat → Int64} (hT : ∀ v, v < 4 → tr v = nI (s v)) (hK : ∀ v, v < 4 → KW n T mSize mGoes mLast (sA v) (mV v) (s v) (W v)) : ∀ d K v kL kW Ls, v + d = 4 → d < K → (∀ w, w < v → kL w = nI (s w) ∧ kW w = W w) → ∃ kL' kW' Ls', f_Mo_solve_149 n mSize mGoes mLast mV tr K (nI v) kL kW Ls = some (nI 4, kL', kW', Ls') ∧ ∀ w, w < 4 → kL' w = nI (s w) ∧ kW' w = W w := by
  intro d
  induction d with
  | zero =>
    intro K v kL kW Ls hv hK' h
    obtain ⟨K, rfl⟩ : ∃ j, K = j + 1 := ⟨K - 1, by omega⟩
    have : v = 4 := by omega
    subst this
    exact ⟨kL, kW, Ls, by rw [f_Mo_solve_149, l4, if_pos (by rw [nJ_le (by omega) (by omega)]; omega)], h⟩
  | succ d ih =>
    intro K v kL kW Ls hv hK' h
    obtain ⟨K, rfl⟩ : ∃ j, K = j + 1 := ⟨K - 1, by omega⟩
    have upto : ∀ (kW0 : Nat → Int64), (∀ w, w < v → kW0 w = W w) → ∀ w, w < v + 1 → upd kL v (nI (s v)) w = nI (s w) ∧ vp_updL kW0 v (W v) w = W w := fun kW0 h0 w hw => by
      by_cases hwv : w = v
      · rw [hwv, uis, ujs]; exact ⟨rfl, rfl⟩
      · rw [uin hwv, ujn hwv]; exact ⟨(h w (by omega)).1, h0 w (by omega)⟩
    rw [f_Mo_solve_149, l4, if_neg (by rw [nJ_le (by omega) (by omega)]; omega), nI_gin (by omega) (by omega), nI_nat (by omega)]
    simp only [show nI v + 1 = nI (v + 1) from by rw [l1, nJ_add], ogd_t, hT v (by omega), uis]
    rcases hK v (by omega) with ⟨o1, o2, o3⟩ | ⟨i, q, o1, o2, o3, o4, o5⟩
    · rw [if_neg (by rw [o2]; decide)]
      obtain ⟨kL', kW', Ls', x1, x2⟩ := ih K (v + 1) (upd kL v (nI (s v))) (vp_updL kW v (W v)) Ls (by omega) (by omega) (upto kW (fun w hw => (h w hw).2))
      rw [o3] at x1
      exact ⟨kL', kW', Ls', x1, x2⟩
    · have hge : 0 ≤ mV v := by rw [o3, l0, nJ_le (by omega) (by omega)]; omega
      rw [if_pos hge]
      obtain ⟨L', y1, y2⟩ := o5 Ls
      rw [o3, y1, sb_t, y2, sb_t]
      exact ih K (v + 1) (upd kL v (nI (s v))) (vp_updL (vp_updL kW v 0) v (W v)) L' (by omega) (by omega) (upto (vp_updL kW v 0) (fun w hw => by rw [ujn (by omega)]; exact (h w hw).2))
theorem fd_3 {n B m : Nat} {gF : Nat → Nat → Int32} {Le Mo mF mLe mMo : Nat → Int32} {my : Nat → Bool} {ac : Nat → Nat → Bool} (hn : 64 < n) (hm : m < 32) (hG : GB B gF) (hO : BO B gF Le Mo mF mLe mMo) (hmy : ∀ w j, w < 4 → j < m + 1 → my (4 * j + w) = ac w j) {t : Nat → Nat} (ht : ∀ w, w < 3 → t w < 32) : ∀ d K k tr, k + d = m + 1 → d < K → tr 3 = nI k → (∀ w, w < 3 → tr w = nI (t w)) → (fsm (fun j => if mayF m ac 3 j = true then Sr (mayF m ac) (Hd B (FF gF) (fun b => (Le b).toInt) (fun b => (Mo b).toInt)) 0 4 (upN t 3 j) else none) k d = none ∧ ∃ tr', f_Mo_found_119 n (nI m) (nI B) mF mLe mMo my K tr = some (.inr tr') ∧ ∀ w, w < 3 → tr' w = nI (t w)) ∨ (∃ s tr', fsm (fun j => if mayF m ac 3 j = true then Sr (mayF m ac) (Hd B (FF gF) (fun b => (Le b).toInt) (fun b => (Mo b).toInt)) 0 4 (upN t 3 j) else none) k d = some s ∧ f_Mo_found_119 n (nI m) (nI B) mF mLe mMo my K tr = some (.inl (true, tr')) ∧ ∀ w, w < 4 → tr' w = nI (s w)) := by
  have g0 : gin 0 4 = true := by decide
  have g1 : gin 1 4 = true := by decide
  have g2 : gin 2 4 = true := by decide
  have g3 : gin 3 4 = true := by decide
  have z0 : (0 : Int32).toNatClampNeg = 0 := rfl
  have z1 : (1 : Int32).toNatClampNeg = 1 := rfl
  have z2 : (2 : Int32).toNatClampNeg = 2 := rfl
  have z3 : (3 : Int32).toNatClampNeg = 3 := rfl
  intro d
  induction d with
  | zero =>
    intro K k tr hk hK h1 h2
    obtain ⟨K, rfl⟩ : ∃ j, K = j + 1 := ⟨K - 1, by omega⟩
    refine .inl ⟨rfl, tr, ?_, h2⟩
    rw [f_Mo_found_119]
    simp only [g3, ogd_t, z3, h1]
    rw [if_pos (by rw [nJ_lt (by omega) (by omega)]; omega)]
  | succ d ih =>
    intro K k tr hk hK h1 h2
    obtain ⟨K, rfl⟩ : ∃ j, K = j + 1 := ⟨K - 1, by omega⟩
    have hnext : ∀ tr1 : Nat → Int32, tr1 3 = nI k → (∀ w, w < 3 → tr1 w = nI (t w)) → upd tr1 3 (tr1 3 + 1) 3 = nI (k + 1) ∧ ∀ w, w < 3 → upd tr1 3 (tr1 3 + 1) w = nI (t w) := by
      intro tr1 e1 e2
      refine ⟨by rw [uis, e1, l1, nJ_add], fun w hw => by rw [uin (by omega)]; exact e2 w hw⟩
    have eidx : 4 * nI k + 3 = nI (4 * k + 3) := by rw [l4, nI_mul]; rw [l3, nJ_add]
    have emay : mayF m ac 3 k = ac 3 k := by unfold mayF; rw [decide_eq_true (by omega), Bool.true_and]
    rw [f_Mo_found_119]
    simp only [g0, g1, g2, g3, ogd_t, z0, z1, z2, z3, h1, eidx, nI_gin (show 4 * k + 3 < 128 by omega) (by omega), nI_nat (show 4 * k + 3 < 2147483648 by omega), hmy 3 k (by omega) (by omega)]
    rw [if_neg (by rw [nJ_lt (by omega) (by omega)]; omega)]
    by_cases hac : ac 3 k = true
    · rw [if_pos hac]
      have hT : ∀ w, w < 4 → tr w = nI (upN t 3 k w) ∧ upN t 3 k w < 32 := by
        intro w hw
        by_cases hwv : w = 3
        · rw [hwv, upNs]; exact ⟨h1, by omega⟩
        · rw [upNn hwv]; exact ⟨h2 w (by omega), ht w (by omega)⟩
      rw [ho_r hn hG hO hT, sb_t]
      by_cases hh : (Hd B (FF gF) (fun b => (Le b).toInt) (fun b => (Mo b).toInt)) (upN t 3 k) = true
      · rw [if_pos hh]
        refine .inr ⟨upN t 3 k, tr, ?_, rfl, fun w hw => (hT w hw).1⟩
        rw [fsm]
        simp only [emay, hac, if_true, Sr, hh]
      · rw [if_neg hh]
        obtain ⟨n1, n2⟩ := hnext tr h1 h2
        have hrec := ih K (k + 1) (upd tr 3 (tr 3 + 1)) (by omega) (by omega) n1 n2
        rw [h1] at hrec
        have e : fsm (fun j => if mayF m ac 3 j = true then Sr (mayF m ac) (Hd B (FF gF) (fun b => (Le b).toInt) (fun b => (Mo b).toInt)) 0 4 (upN t 3 j) else none) k (d + 1) = fsm (fun j => if mayF m ac 3 j = true then Sr (mayF m ac) (Hd B (FF gF) (fun b => (Le b).toInt) (fun b => (Mo b).toInt)) 0 4 (upN t 3 j) else none) (k + 1) d := by
          rw [fsm]
          simp only [emay, hac, if_true, Sr, hh]
          rfl
        rw [e]
        exact hrec
    · rw [if_neg hac]
      obtain ⟨n1, n2⟩ := hnext tr h1 h2
      have hrec := ih K (k + 1) (upd tr 3 (tr 3 + 1)) (by omega) (by omega) n1 n2
      rw [h1] at hrec
      have e : fsm (fun j => if mayF m ac 3 j = true then Sr (mayF m ac) (Hd B (FF gF) (fun b => (Le b).toInt) (fun b => (Mo b).toInt)) 0 4 (upN t 3 j) else none) k (d + 1) = fsm (fun j => if mayF m ac 3 j = true then Sr (mayF m ac) (Hd B (FF gF) (fun b => (Le b).toInt) (fun b => (Mo b).toInt)) 0 4 (upN t 3 j) else none) (k + 1) d := by
        rw [fsm]
        simp only [emay, hac, if_false]
        rfl
      rw [e]
      exact hrec
theorem fd_2 {n B m : Nat} {gF : Nat → Nat → Int32} {Le Mo mF mLe mMo : Nat → Int32} {my : Nat → Bool} {ac : Nat → Nat → Bool} (hn : 64 < n) (hm : m < 32) (hG : GB B gF) (hO : BO B gF Le Mo mF mLe mMo) (hmy : ∀ w j, w < 4 → j < m + 1 → my (4 * j + w) = ac w j) {t : Nat → Nat} (ht : ∀ w, w < 2 → t w < 32) : ∀ d K k tr, k + d = m + 1 → d < K → tr 2 = nI k → (∀ w, w < 2 → tr w = nI (t w)) → (fsm (fun j => if mayF m ac 2 j = true then Sr (mayF m ac) (Hd B (FF gF) (fun b => (Le b).toInt) (fun b => (Mo b).toInt)) 1 3 (upN t 2 j) else none) k d = none ∧ ∃ tr', f_Mo_found_81 n (nI m) (nI B) mF mLe mMo my K tr = some (.inr tr') ∧ ∀ w, w < 2 → tr' w = nI (t w)) ∨ (∃ s tr', fsm (fun j => if mayF m ac 2 j = true then Sr (mayF m ac) (Hd B (FF gF) (fun b => (Le b).toInt) (fun b => (Mo b).toInt)) 1 3 (upN t 2 j) else none) k d = some s ∧ f_Mo_found_81 n (nI m) (nI B) mF mLe mMo my K tr = some (.inl (true, tr')) ∧ ∀ w, w < 4 → tr' w = nI (s w)) := by
  have g0 : gin 0 4 = true := by decide
  have g1 : gin 1 4 = true := by decide
  have g2 : gin 2 4 = true := by decide
  have g3 : gin 3 4 = true := by decide
  have z0 : (0 : Int32).toNatClampNeg = 0 := rfl
  have z1 : (1 : Int32).toNatClampNeg = 1 := rfl
  have z2 : (2 : Int32).toNatClampNeg = 2 := rfl
  have z3 : (3 : Int32).toNatClampNeg = 3 := rfl
  intro d
  induction d with
  | zero =>
    intro K k tr hk hK h1 h2
    obtain ⟨K, rfl⟩ : ∃ j, K = j + 1 := ⟨K - 1, by omega⟩
    refine .inl ⟨rfl, tr, ?_, h2⟩
    rw [f_Mo_found_81]
    simp only [g2, ogd_t, z2, h1]
    rw [if_pos (by rw [nJ_lt (by omega) (by omega)]; omega)]
  | succ d ih =>
    intro K k tr hk hK h1 h2
    obtain ⟨K, rfl⟩ : ∃ j, K = j + 1 := ⟨K - 1, by omega⟩
    have hnext : ∀ tr1 : Nat → Int32, tr1 2 = nI k → (∀ w, w < 2 → tr1 w = nI (t w)) → upd tr1 2 (tr1 2 + 1) 2 = nI (k + 1) ∧ ∀ w, w < 2 → upd tr1 2 (tr1 2 + 1) w = nI (t w) := by
      intro tr1 e1 e2
      refine ⟨by rw [uis, e1, l1, nJ_add], fun w hw => by rw [uin (by omega)]; exact e2 w hw⟩
    have eidx : 4 * nI k + 2 = nI (4 * k + 2) := by rw [l4, nI_mul]; rw [l2, nJ_add]
    have emay : mayF m ac 2 k = ac 2 k := by unfold mayF; rw [decide_eq_true (by omega), Bool.true_and]
    rw [f_Mo_found_81]
    simp only [g0, g1, g2, g3, ogd_t, z0, z1, z2, z3, h1, eidx, nI_gin (show 4 * k + 2 < 128 by omega) (by omega), nI_nat (show 4 * k + 2 < 2147483648 by omega), hmy 2 k (by omega) (by omega)]
    rw [if_neg (by rw [nJ_lt (by omega) (by omega)]; omega)]
    by_cases hac : ac 2 k = true
    · rw [if_pos hac]
      have hT : ∀ w, w < 3 → upN t 2 k w < 32 := by
        intro w hw
        by_cases hwv : w = 2
        · rw [hwv, upNs]; omega
        · rw [upNn hwv]; exact ht w (by omega)
      have hsr : Sr (mayF m ac) (Hd B (FF gF) (fun b => (Le b).toInt) (fun b => (Mo b).toInt)) 1 3 (upN t 2 k) = fsm (fun j => if mayF m ac 3 j = true then Sr (mayF m ac) (Hd B (FF gF) (fun b => (Le b).toInt) (fun b => (Mo b).toInt)) 0 4 (upN (upN t 2 k) 3 j) else none) 0 (m + 1) := by
        show fsm (fun j => if mayF m ac 3 j = true then Sr (mayF m ac) (Hd B (FF gF) (fun b => (Le b).toInt) (fun b => (Mo b).toInt)) 0 4 (upN (upN t 2 k) 3 j) else none) 0 32 = _
        rw [show 32 = (m + 1) + (31 - m) by omega]
        exact fsm_ext _ _ _ (fun j a b => if_neg (by unfold mayF; rw [decide_eq_false (by omega), Bool.false_and]; exact Bool.false_ne_true))
      rcases fd_3 (n := n) (Le := Le) (Mo := Mo) hn hm hG hO hmy hT (m + 1) n 0 (upd tr 3 0) (by omega) (by omega) uis (fun w hw => by
        rw [uin (by omega)]
        by_cases hwv : w = 2
        · rw [hwv, upNs]; exact h1
        · rw [upNn hwv]; exact h2 w (by omega)) with ⟨x1, tr1, x2, x3⟩ | ⟨s, tr1, x1, x2, x3⟩
      · rw [x2, sb_t, el_r]
        have y1 : tr1 2 = nI k := by rw [x3 2 (by omega), upNs]
        obtain ⟨n1, n2⟩ := hnext tr1 y1 (fun w hw => by rw [x3 w (by omega), upNn (by omega)])
        have hrec := ih K (k + 1) (upd tr1 2 (tr1 2 + 1)) (by omega) (by omega) n1 n2
        have e : fsm (fun j => if mayF m ac 2 j = true then Sr (mayF m ac) (Hd B (FF gF) (fun b => (Le b).toInt) (fun b => (Mo b).toInt)) 1 3 (upN t 2 j) else none) k (d + 1) = fsm (fun j => if mayF m ac 2 j = true then Sr (mayF m ac) (Hd B (FF gF) (fun b => (Le b).toInt) (fun b => (Mo b).toInt)) 1 3 (upN t 2 j) else none) (k + 1) d := by
          rw [fsm]
          simp only [emay, hac, if_true, hsr, x1]
        rw [e]
        exact hrec
      · rw [x2, sb_t, el_l]
        refine .inr ⟨s, tr1, ?_, rfl, x3⟩
        rw [fsm]
        simp only [emay, hac, if_true, hsr, x1]
    · rw [if_neg hac]
      obtain ⟨n1, n2⟩ := hnext tr h1 h2
      have hrec := ih K (k + 1) (upd tr 2 (tr 2 + 1)) (by omega) (by omega) n1 n2
      rw [h1] at hrec
      have e : fsm (fun j => if mayF m ac 2 j = true then Sr (mayF m ac) (Hd B (FF gF) (fun b => (Le b).toInt) (fun b => (Mo b).toInt)) 1 3 (upN t 2 j) else none) k (d + 1) = fsm (fun j => if mayF m ac 2 j = true then Sr (mayF m ac) (Hd B (FF gF) (fun b => (Le b).toInt) (fun b => (Mo b).toInt)) 1 3 (upN t 2 j) else none) (k + 1) d := by
        rw [fsm]
        simp only [emay, hac, if_false]
        rfl
      rw [e]
      exact hrec
theorem fd_1 {n B m : Nat} {gF : Nat → Nat → Int32} {Le Mo mF mLe mMo : Nat → Int32} {my : Nat → Bool} {ac : Nat → Nat → Bool} (hn : 64 < n) (hm : m < 32) (hG : GB B gF) (hO : BO B gF Le Mo mF mLe mMo) (hmy : ∀ w j, w < 4 → j < m + 1 → my (4 * j + w) = ac w j) {t : Nat → Nat} (ht : ∀ w, w < 1 → t w < 32) : ∀ d K k tr, k + d = m + 1 → d < K → tr 1 = nI k → (∀ w, w < 1 → tr w = nI (t w)) → (fsm (fun j => if mayF m ac 1 j = true then Sr (mayF m ac) (Hd B (FF gF) (fun b => (Le b).toInt) (fun b => (Mo b).toInt)) 2 2 (upN t 1 j) else none) k d = none ∧ ∃ tr', f_Mo_found_43 n (nI m) (nI B) mF mLe mMo my K tr = some (.inr tr') ∧ ∀ w, w < 1 → tr' w = nI (t w)) ∨ (∃ s tr', fsm (fun j => if mayF m ac 1 j = true then Sr (mayF m ac) (Hd B (FF gF) (fun b => (Le b).toInt) (fun b => (Mo b).toInt)) 2 2 (upN t 1 j) else none) k d = some s ∧ f_Mo_found_43 n (nI m) (nI B) mF mLe mMo my K tr = some (.inl (true, tr')) ∧ ∀ w, w < 4 → tr' w = nI (s w)) := by
  have g0 : gin 0 4 = true := by decide
  have g1 : gin 1 4 = true := by decide
  have g2 : gin 2 4 = true := by decide
  have g3 : gin 3 4 = true := by decide
  have z0 : (0 : Int32).toNatClampNeg = 0 := rfl
  have z1 : (1 : Int32).toNatClampNeg = 1 := rfl
  have z2 : (2 : Int32).toNatClampNeg = 2 := rfl
  have z3 : (3 : Int32).toNatClampNeg = 3 := rfl
  intro d
  induction d with
  | zero =>
    intro K k tr hk hK h1 h2
    obtain ⟨K, rfl⟩ : ∃ j, K = j + 1 := ⟨K - 1, by omega⟩
    refine .inl ⟨rfl, tr, ?_, h2⟩
    rw [f_Mo_found_43]
    simp only [g1, ogd_t, z1, h1]
    rw [if_pos (by rw [nJ_lt (by omega) (by omega)]; omega)]
  | succ d ih =>
    intro K k tr hk hK h1 h2
    obtain ⟨K, rfl⟩ : ∃ j, K = j + 1 := ⟨K - 1, by omega⟩
    have hnext : ∀ tr1 : Nat → Int32, tr1 1 = nI k → (∀ w, w < 1 → tr1 w = nI (t w)) → upd tr1 1 (tr1 1 + 1) 1 = nI (k + 1) ∧ ∀ w, w < 1 → upd tr1 1 (tr1 1 + 1) w = nI (t w) := by
      intro tr1 e1 e2
      refine ⟨by rw [uis, e1, l1, nJ_add], fun w hw => by rw [uin (by omega)]; exact e2 w hw⟩
    have eidx : 4 * nI k + 1 = nI (4 * k + 1) := by rw [l4, nI_mul]; rw [l1, nJ_add]
    have emay : mayF m ac 1 k = ac 1 k := by unfold mayF; rw [decide_eq_true (by omega), Bool.true_and]
    rw [f_Mo_found_43]
    simp only [g0, g1, g2, g3, ogd_t, z0, z1, z2, z3, h1, eidx, nI_gin (show 4 * k + 1 < 128 by omega) (by omega), nI_nat (show 4 * k + 1 < 2147483648 by omega), hmy 1 k (by omega) (by omega)]
    rw [if_neg (by rw [nJ_lt (by omega) (by omega)]; omega)]
    by_cases hac : ac 1 k = true
    · rw [if_pos hac]
      have hT : ∀ w, w < 2 → upN t 1 k w < 32 := by
        intro w hw
        by_cases hwv : w = 1
        · rw [hwv, upNs]; omega
        · rw [upNn hwv]; exact ht w (by omega)
      have hsr : Sr (mayF m ac) (Hd B (FF gF) (fun b => (Le b).toInt) (fun b => (Mo b).toInt)) 2 2 (upN t 1 k) = fsm (fun j => if mayF m ac 2 j = true then Sr (mayF m ac) (Hd B (FF gF) (fun b => (Le b).toInt) (fun b => (Mo b).toInt)) 1 3 (upN (upN t 1 k) 2 j) else none) 0 (m + 1) := by
        show fsm (fun j => if mayF m ac 2 j = true then Sr (mayF m ac) (Hd B (FF gF) (fun b => (Le b).toInt) (fun b => (Mo b).toInt)) 1 3 (upN (upN t 1 k) 2 j) else none) 0 32 = _
        rw [show 32 = (m + 1) + (31 - m) by omega]
        exact fsm_ext _ _ _ (fun j a b => if_neg (by unfold mayF; rw [decide_eq_false (by omega), Bool.false_and]; exact Bool.false_ne_true))
      rcases fd_2 (n := n) (Le := Le) (Mo := Mo) hn hm hG hO hmy hT (m + 1) n 0 (upd tr 2 0) (by omega) (by omega) uis (fun w hw => by
        rw [uin (by omega)]
        by_cases hwv : w = 1
        · rw [hwv, upNs]; exact h1
        · rw [upNn hwv]; exact h2 w (by omega)) with ⟨x1, tr1, x2, x3⟩ | ⟨s, tr1, x1, x2, x3⟩
      · rw [x2, sb_t, el_r]
        have y1 : tr1 1 = nI k := by rw [x3 1 (by omega), upNs]
        obtain ⟨n1, n2⟩ := hnext tr1 y1 (fun w hw => by rw [x3 w (by omega), upNn (by omega)])
        have hrec := ih K (k + 1) (upd tr1 1 (tr1 1 + 1)) (by omega) (by omega) n1 n2
        have e : fsm (fun j => if mayF m ac 1 j = true then Sr (mayF m ac) (Hd B (FF gF) (fun b => (Le b).toInt) (fun b => (Mo b).toInt)) 2 2 (upN t 1 j) else none) k (d + 1) = fsm (fun j => if mayF m ac 1 j = true then Sr (mayF m ac) (Hd B (FF gF) (fun b => (Le b).toInt) (fun b => (Mo b).toInt)) 2 2 (upN t 1 j) else none) (k + 1) d := by
          rw [fsm]
          simp only [emay, hac, if_true, hsr, x1]
        rw [e]
        exact hrec
      · rw [x2, sb_t, el_l]
        refine .inr ⟨s, tr1, ?_, rfl, x3⟩
        rw [fsm]
        simp only [emay, hac, if_true, hsr, x1]
    · rw [if_neg hac]
      obtain ⟨n1, n2⟩ := hnext tr h1 h2
      have hrec := ih K (k + 1) (upd tr 1 (tr 1 + 1)) (by omega) (by omega) n1 n2
      rw [h1] at hrec
      have e : fsm (fun j => if mayF m ac 1 j = true then Sr (mayF m ac) (Hd B (FF gF) (fun b => (Le b).toInt) (fun b => (Mo b).toInt)) 2 2 (upN t 1 j) else none) k (d + 1) = fsm (fun j => if mayF m ac 1 j = true then Sr (mayF m ac) (Hd B (FF gF) (fun b => (Le b).toInt) (fun b => (Mo b).toInt)) 2 2 (upN t 1 j) else none) (k + 1) d := by
        rw [fsm]
        simp only [emay, hac, if_false]
        rfl
      rw [e]
      exact hrec
theorem fd_0 {n B m : Nat} {gF : Nat → Nat → Int32} {Le Mo mF mLe mMo : Nat → Int32} {my : Nat → Bool} {ac : Nat → Nat → Bool} (hn : 64 < n) (hm : m < 32) (hG : GB B gF) (hO : BO B gF Le Mo mF mLe mMo) (hmy : ∀ w j, w < 4 → j < m + 1 → my (4 * j + w) = ac w j) {t : Nat → Nat} (ht : ∀ w, w < 0 → t w < 32) : ∀ d K k tr, k + d = m + 1 → d < K → tr 0 = nI k → (∀ w, w < 0 → tr w = nI (t w)) → (fsm (fun j => if mayF m ac 0 j = true then Sr (mayF m ac) (Hd B (FF gF) (fun b => (Le b).toInt) (fun b => (Mo b).toInt)) 3 1 (upN t 0 j) else none) k d = none ∧ ∃ tr', f_Mo_found_7 n (nI m) (nI B) mF mLe mMo my K tr = some (.inr tr') ∧ ∀ w, w < 0 → tr' w = nI (t w)) ∨ (∃ s tr', fsm (fun j => if mayF m ac 0 j = true then Sr (mayF m ac) (Hd B (FF gF) (fun b => (Le b).toInt) (fun b => (Mo b).toInt)) 3 1 (upN t 0 j) else none) k d = some s ∧ f_Mo_found_7 n (nI m) (nI B) mF mLe mMo my K tr = some (.inl (true, tr')) ∧ ∀ w, w < 4 → tr' w = nI (s w)) := by
  have g0 : gin 0 4 = true := by decide
  have g1 : gin 1 4 = true := by decide
  have g2 : gin 2 4 = true := by decide
  have g3 : gin 3 4 = true := by decide
  have z0 : (0 : Int32).toNatClampNeg = 0 := rfl
  have z1 : (1 : Int32).toNatClampNeg = 1 := rfl
  have z2 : (2 : Int32).toNatClampNeg = 2 := rfl
  have z3 : (3 : Int32).toNatClampNeg = 3 := rfl
  intro d
  induction d with
  | zero =>
    intro K k tr hk hK h1 h2
    obtain ⟨K, rfl⟩ : ∃ j, K = j + 1 := ⟨K - 1, by omega⟩
    refine .inl ⟨rfl, tr, ?_, h2⟩
    rw [f_Mo_found_7]
    simp only [g0, ogd_t, z0, h1]
    rw [if_pos (by rw [nJ_lt (by omega) (by omega)]; omega)]
  | succ d ih =>
    intro K k tr hk hK h1 h2
    obtain ⟨K, rfl⟩ : ∃ j, K = j + 1 := ⟨K - 1, by omega⟩
    have hnext : ∀ tr1 : Nat → Int32, tr1 0 = nI k → (∀ w, w < 0 → tr1 w = nI (t w)) → upd tr1 0 (tr1 0 + 1) 0 = nI (k + 1) ∧ ∀ w, w < 0 → upd tr1 0 (tr1 0 + 1) w = nI (t w) := by
      intro tr1 e1 e2
      refine ⟨by rw [uis, e1, l1, nJ_add], fun w hw => by rw [uin (by omega)]; exact e2 w hw⟩
    have eidx : 4 * nI k = nI (4 * k + 0) := by rw [l4, nI_mul]; rfl
    have emay : mayF m ac 0 k = ac 0 k := by unfold mayF; rw [decide_eq_true (by omega), Bool.true_and]
    rw [f_Mo_found_7]
    simp only [g0, g1, g2, g3, ogd_t, z0, z1, z2, z3, h1, eidx, nI_gin (show 4 * k + 0 < 128 by omega) (by omega), nI_nat (show 4 * k + 0 < 2147483648 by omega), hmy 0 k (by omega) (by omega)]
    rw [if_neg (by rw [nJ_lt (by omega) (by omega)]; omega)]
    by_cases hac : ac 0 k = true
    · rw [if_pos hac]
      have hT : ∀ w, w < 1 → upN t 0 k w < 32 := by
        intro w hw
        by_cases hwv : w = 0
        · rw [hwv, upNs]; omega
        · rw [upNn hwv]; exact ht w (by omega)
      have hsr : Sr (mayF m ac) (Hd B (FF gF) (fun b => (Le b).toInt) (fun b => (Mo b).toInt)) 3 1 (upN t 0 k) = fsm (fun j => if mayF m ac 1 j = true then Sr (mayF m ac) (Hd B (FF gF) (fun b => (Le b).toInt) (fun b => (Mo b).toInt)) 2 2 (upN (upN t 0 k) 1 j) else none) 0 (m + 1) := by
        show fsm (fun j => if mayF m ac 1 j = true then Sr (mayF m ac) (Hd B (FF gF) (fun b => (Le b).toInt) (fun b => (Mo b).toInt)) 2 2 (upN (upN t 0 k) 1 j) else none) 0 32 = _
        rw [show 32 = (m + 1) + (31 - m) by omega]
        exact fsm_ext _ _ _ (fun j a b => if_neg (by unfold mayF; rw [decide_eq_false (by omega), Bool.false_and]; exact Bool.false_ne_true))
      rcases fd_1 (n := n) (Le := Le) (Mo := Mo) hn hm hG hO hmy hT (m + 1) n 0 (upd tr 1 0) (by omega) (by omega) uis (fun w hw => by
        rw [uin (by omega)]
        by_cases hwv : w = 0
        · rw [hwv, upNs]; exact h1
        · rw [upNn hwv]; exact h2 w (by omega)) with ⟨x1, tr1, x2, x3⟩ | ⟨s, tr1, x1, x2, x3⟩
      · rw [x2, sb_t, el_r]
        have y1 : tr1 0 = nI k := by rw [x3 0 (by omega), upNs]
        obtain ⟨n1, n2⟩ := hnext tr1 y1 (fun w hw => by rw [x3 w (by omega), upNn (by omega)])
        have hrec := ih K (k + 1) (upd tr1 0 (tr1 0 + 1)) (by omega) (by omega) n1 n2
        have e : fsm (fun j => if mayF m ac 0 j = true then Sr (mayF m ac) (Hd B (FF gF) (fun b => (Le b).toInt) (fun b => (Mo b).toInt)) 3 1 (upN t 0 j) else none) k (d + 1) = fsm (fun j => if mayF m ac 0 j = true then Sr (mayF m ac) (Hd B (FF gF) (fun b => (Le b).toInt) (fun b => (Mo b).toInt)) 3 1 (upN t 0 j) else none) (k + 1) d := by
          rw [fsm]
          simp only [emay, hac, if_true, hsr, x1]
        rw [e]
        exact hrec
      · rw [x2, sb_t, el_l]
        refine .inr ⟨s, tr1, ?_, rfl, x3⟩
        rw [fsm]
        simp only [emay, hac, if_true, hsr, x1]
    · rw [if_neg hac]
      obtain ⟨n1, n2⟩ := hnext tr h1 h2
      have hrec := ih K (k + 1) (upd tr 0 (tr 0 + 1)) (by omega) (by omega) n1 n2
      rw [h1] at hrec
      have e : fsm (fun j => if mayF m ac 0 j = true then Sr (mayF m ac) (Hd B (FF gF) (fun b => (Le b).toInt) (fun b => (Mo b).toInt)) 3 1 (upN t 0 j) else none) k (d + 1) = fsm (fun j => if mayF m ac 0 j = true then Sr (mayF m ac) (Hd B (FF gF) (fun b => (Le b).toInt) (fun b => (Mo b).toInt)) 3 1 (upN t 0 j) else none) (k + 1) d := by
        rw [fsm]
        simp only [emay, hac, if_false]
        rfl
      rw [e]
      exact hrec
theorem fd_r {n B m : Nat} {gF : Nat → Nat → Int32} {Le Mo mF mLe mMo : Nat → Int32} {my : Nat → Bool} {ac : Nat → Nat → Bool} (hn : 64 < n) (hm : m < 32) (hG : GB B gF) (hO : BO B gF Le Mo mF mLe mMo) (hmy : ∀ w j, w < 4 → j < m + 1 → my (4 * j + w) = ac w j) (tr : Nat → Int32) : (Sr (mayF m ac) (Hd B (FF gF) (fun b => (Le b).toInt) (fun b => (Mo b).toInt)) 4 0 (fun _ => 0) = none ∧ ∃ tr', f_Mo_found n (nI m) (nI B) mF mLe mMo my tr = some (false, tr')) ∨ (∃ s tr', Sr (mayF m ac) (Hd B (FF gF) (fun b => (Le b).toInt) (fun b => (Mo b).toInt)) 4 0 (fun _ => 0) = some s ∧ f_Mo_found n (nI m) (nI B) mF mLe mMo my tr = some (true, tr') ∧ ∀ w, w < 4 → tr' w = nI (s w)) := by
  have hsr : Sr (mayF m ac) (Hd B (FF gF) (fun b => (Le b).toInt) (fun b => (Mo b).toInt)) 4 0 (fun _ => 0) = fsm (fun j => if mayF m ac 0 j = true then Sr (mayF m ac) (Hd B (FF gF) (fun b => (Le b).toInt) (fun b => (Mo b).toInt)) 3 1 (upN (fun _ => 0) 0 j) else none) 0 (m + 1) := by
    show fsm (fun j => if mayF m ac 0 j = true then Sr (mayF m ac) (Hd B (FF gF) (fun b => (Le b).toInt) (fun b => (Mo b).toInt)) 3 1 (upN (fun _ => 0) 0 j) else none) 0 32 = _
    rw [show 32 = (m + 1) + (31 - m) by omega]
    exact fsm_ext _ _ _ (fun j a b => if_neg (by unfold mayF; rw [decide_eq_false (by omega), Bool.false_and]; exact Bool.false_ne_true))
  rw [hsr]
  have pre : ∀ z, f_Mo_found_7 n (nI m) (nI B) mF mLe mMo my n (upd tr 0 0) = some z → f_Mo_found n (nI m) (nI B) mF mLe mMo my tr = z.elim (fun r => some r) fun x90 => some (false, x90) := by
    intro z hz
    rw [f_Mo_found, show gin 0 4 = true from by decide, ogd_t]
    exact congrArg (fun q => q.bind fun u90 => u90.elim (fun r => some r) fun x90 => some (false, x90)) hz
  rcases fd_0 (n := n) (Le := Le) (Mo := Mo) hn hm hG hO hmy (t := fun _ => 0) (fun w hw => absurd hw (Nat.not_lt_zero _)) (m + 1) n 0 (upd tr 0 0) (by omega) (by omega) uis (fun w hw => absurd hw (Nat.not_lt_zero _)) with ⟨x1, tr1, x2, x3⟩ | ⟨s, tr1, x1, x2, x3⟩
  · exact .inl ⟨x1, tr1, by rw [pre _ x2]; rfl⟩
  · exact .inr ⟨s, tr1, x1, by rw [pre _ x2]; rfl, x3⟩
