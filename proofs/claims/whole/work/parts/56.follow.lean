/-! STAGE 2. THE CLASS'S MAKER: following a way -/
def hsh (x : wSt) : Nat := uN ((x.2 * (-7046029254386353131) + x.1.toInt64) * (-7046029254386353131)) / 2 ^ 53
theorem hsh_lt (x : wSt) : hsh x < 2048 := by
  unfold hsh
  have := uN_lt ((x.2 * (-7046029254386353131) + x.1.toInt64) * (-7046029254386353131))
  omega
theorem toI32 {x : Int64} (h : uN x < 2147483648) : x.toInt32 = nI (uN x) := by
  apply Int32.toBitVec.inj
  apply BitVec.eq_of_toNat_eq
  unfold nI
  rw [Int64.toBitVec_toInt32, Int32.toBitVec_ofNat', BitVec.toNat_ofNat, BitVec.signExtend_eq_setWidth_of_le _ (by omega), BitVec.toNat_setWidth]
  rfl
theorem hsh_eq (x : wSt) : (lushr ((x.2 * (-7046029254386353131) + x.1.toInt64) * (-7046029254386353131)) 53).toInt32 = nI (hsh x) := by
  have h53 : (53 : Int32) = nI 53 := rfl
  have e : uN (lushr ((x.2 * (-7046029254386353131) + x.1.toInt64) * (-7046029254386353131)) (nI 53)) = hsh x := uN_lushr (by omega)
  rw [h53, toI32 (by rw [e]; have := hsh_lt x; omega), e]
theorem nI_div {t m : Nat} (h : t < 2147483648) (hm : m < 2147483648) : nI t / nI m = nI (t / m) := by
  apply Int32.toInt.inj
  have hle : t / m ≤ t := Nat.div_le_self _ _
  rw [Int32.toInt_div, nI_int h, nI_int hm, nI_int (by omega)]
  rw [Int.tdiv_eq_ediv_of_nonneg (by omega), ← Int.natCast_ediv]
  generalize t / m = q at hle
  rw [Int.bmod_eq_of_le (by omega) (by omega)]
theorem nxt2048 {h d : Nat} : (nI ((h + d) % 2048) + 1) - (nI ((h + d) % 2048) + 1) / 2048 * 2048 = nI ((h + (d + 1)) % 2048) := by
  rw [l1, l2048, nJ_add, nI_div (by omega) (by omega), nI_mul, nI_sub (by omega)]
  exact congrArg nI (by omega)
theorem nu21 {n : Nat} {x : wSt} {H : Nat → Int32} {Tl : Nat → Int64} {Sl : Nat → Int32} {W : Nat} {st : Nat → wSt} (hW : W ≤ 800) (hA : ∀ k, k < W → (H k, Tl k) = st k) (hI : HI 2048 hsh st W Sl) (hD : ∀ i j, i < W → j < W → st i = st j → i = j) : ∀ d' K d, d + d' = 2048 → d' < K → (∀ j, j < d → Sl ((hsh x + j) % 2048) ≠ -1 ∧ ∀ k, k < W → Sl ((hsh x + j) % 2048) = nI k → st k ≠ x) → (∃ j, lookP (fun k => decide (st k = x)) 0 W = some j ∧ f_Mk_numberOf_21 n x.1 x.2 K (nI d) (nI ((hsh x + d) % 2048)) H Tl Sl (nI W) = some (.inl (nI j, H, Tl, Sl, nI W))) ∨ (lookP (fun k => decide (st k = x)) 0 W = none ∧ W < 800 ∧ ∃ Sl', f_Mk_numberOf_21 n x.1 x.2 K (nI d) (nI ((hsh x + d) % 2048)) H Tl Sl (nI W) = some (.inl (nI W, upd H W x.1, vp_updL Tl W x.2, Sl', nI (W + 1))) ∧ HI 2048 hsh (va_up st W x) (W + 1) Sl') ∨ (lookP (fun k => decide (st k = x)) 0 W = none ∧ ¬ W < 800 ∧ f_Mk_numberOf_21 n x.1 x.2 K (nI d) (nI ((hsh x + d) % 2048)) H Tl Sl (nI W) = some (.inl (-1, H, Tl, Sl, nI W))) := by
  intro d'
  induction d' with
  | zero =>
    intro K d hd hK hj
    exfalso
    exact hi_full hI (by omega) (by omega) (hsh x) (fun j hj' => (hj j (by omega)).1)
  | succ d' ih =>
    intro K d hd hK hj
    obtain ⟨K, rfl⟩ : ∃ j, K = j + 1 := ⟨K - 1, by omega⟩
    have hs : (hsh x + d) % 2048 < 2048 := Nat.mod_lt _ (by omega)
    rw [f_Mk_numberOf_21, l2048, if_neg (by rw [nJ_le (by omega) (by omega)]; omega), nI_gin hs (by omega), ogd_t, nI_nat (by omega)]
    by_cases he : Sl ((hsh x + d) % 2048) = -1
    · rw [if_pos he]
      have hno := hi_miss hI (by omega) (fun j hj' => (hj j hj').2) he
      have hlk : lookP (fun k => decide (st k = x)) 0 W = none := lookP_no (fun i _ hi => decide_eq_false (hno i (by omega)))
      by_cases h8 : W < 800
      · right; left
        refine ⟨hlk, h8, _, ?_, hi_new hI (by omega) (by omega) (show d < 2048 by omega) (fun j hj' => (hj j hj').1) he (fun k hk => upn (by omega)) ups⟩
        rw [f_Mk_addAt, l800, if_pos (by rw [nJ_lt (by omega) (by omega)]; exact h8), nI_gin h8 (by omega), ogd_t, ogd_t, nI_gin hs (by omega), ogd_t, nI_nat (by omega), nI_nat (by omega), l1, nJ_add, nI_sub (by omega), Nat.add_sub_cancel]
        rfl
      · right; right
        refine ⟨hlk, h8, ?_⟩
        rw [f_Mk_addAt, l800, if_neg (by rw [nJ_lt (by omega) (by omega)]; exact h8)]
        rfl
    · rw [if_neg he]
      rcases hI.1 _ hs with h | ⟨k, hk, ek⟩
      · exact absurd h he
      · have hak := hA k hk
        rw [ek, nI_gin (by omega) (by omega), ogd_t, ogd_t, nI_nat (by omega)]
        by_cases hx : st k = x
        · left
          rw [hx] at hak
          have e1 : H k = x.1 := congrArg Prod.fst hak
          have e2 : Tl k = x.2 := congrArg Prod.snd hak
          refine ⟨k, lookP_of (by omega) (by omega) (decide_eq_true hx) (fun i _ hi h => hD i k (by omega) hk (by rw [of_decide_eq_true h, hx])), ?_⟩
          rw [if_pos e1, if_pos e2]
        · have hrec := ih K (d + 1) (by omega) (by omega) (fun j hj' => by
            by_cases hjd : j = d
            · subst hjd
              refine ⟨he, fun k' hk' e' => ?_⟩
              rw [ek] at e'
              rw [nJ_eq (by omega) (by omega)] at e'
              subst e'; exact hx
            · exact hj j (by omega))
          rw [← nxt2048] at hrec
          rw [l2048] at hrec
          have e3 : nI d + 1 = nI (d + 1) := by rw [l1, nJ_add]
          rw [e3]
          by_cases e1 : H k = x.1
          · rw [if_pos e1]
            by_cases e2 : Tl k = x.2
            · exfalso; apply hx; rw [← hak, e1, e2]
            · rw [if_neg e2]; exact hrec
          · rw [if_neg e1]; exact hrec
theorem nu_c {n : Nat} {x : wSt} {H : Nat → Int32} {Tl : Nat → Int64} {Sl : Nat → Int32} {W : Nat} {st : Nat → wSt} (hn : 2048 < n) (hW : W ≤ 800) (hA : ∀ k, k < W → (H k, Tl k) = st k) (hI : HI 2048 hsh st W Sl) (hD : ∀ i j, i < W → j < W → st i = st j → i = j) : (∃ j, lookP (fun k => decide (st k = x)) 0 W = some j ∧ f_Mk_numberOf n x.1 x.2 H Tl Sl (nI W) = some (nI j, H, Tl, Sl, nI W)) ∨ (lookP (fun k => decide (st k = x)) 0 W = none ∧ W < 800 ∧ ∃ Sl', f_Mk_numberOf n x.1 x.2 H Tl Sl (nI W) = some (nI W, upd H W x.1, vp_updL Tl W x.2, Sl', nI (W + 1)) ∧ HI 2048 hsh (va_up st W x) (W + 1) Sl') ∨ (lookP (fun k => decide (st k = x)) 0 W = none ∧ ¬ W < 800 ∧ f_Mk_numberOf n x.1 x.2 H Tl Sl (nI W) = some (-1, H, Tl, Sl, nI W)) := by
  have hm : (hsh x + 0) % 2048 = hsh x := by have := hsh_lt x; omega
  have h := nu21 (n := n) (x := x) hW hA hI hD 2048 n 0 (by omega) hn (fun j hj => absurd hj (Nat.not_lt_zero _))
  rw [hm] at h
  have e : ∀ r, f_Mk_numberOf_21 n x.1 x.2 n (nI 0) (nI (hsh x)) H Tl Sl (nI W) = some (.inl r) → f_Mk_numberOf n x.1 x.2 H Tl Sl (nI W) = some r := by
    intro r hr
    rw [f_Mk_numberOf, hsh_eq, l0, hr]; rfl
  rcases h with ⟨j, a, b⟩ | ⟨a, b, Sl', c, f⟩ | ⟨a, b, c⟩
  · exact .inl ⟨j, a, e _ b⟩
  · exact .inr (.inl ⟨a, b, Sl', e _ c, f⟩)
  · exact .inr (.inr ⟨a, b, e _ c⟩)
def RC (H : Nat → Int32) (Tl : Nat → Int64) (Nx Sl : Nat → Int32) (T : Nat) (E : wE) : Prop :=
  (∀ k, k < E.1 → (H k, Tl k) = E.2.1 k) ∧ (∀ t, t < T → Nx t = nI (E.2.2 t)) ∧ HI 2048 hsh E.2.1 E.1 Sl
def Ei (x0 : wSt) : wE := (1, (fun _ => x0), fun _ => 0)
theorem ei_inv {V : wSt → Prop} {x0 : wSt} (h : V x0) : EI V 0 (Ei x0) := by
  refine ⟨Nat.zero_lt_one, by show 1 ≤ 800; omega, fun i j hi hj _ => ?_, fun k _ => h, fun t ht => absurd ht (Nat.not_lt_zero _), fun s h1 h2 => ?_, fun t ht => absurd ht (Nat.not_lt_zero _)⟩
  · have a : i < 1 := hi
    have b : j < 1 := hj
    omega
  · have a : s < 1 := h2
    omega
theorem fo49_Br {n : Nat} (hn : 2048 < n) {wT : Int64} {bS : Int32} {dl : wSt → Nat → wSt} {V : wSt → Prop} (hV : ∀ x l, V x → l < 4 → V (dl x l)) (hgo : ∀ x l, V x → l < 4 → f_Br_go n x.1 x.2 (nI l) bS = some (dl x l).1 ∧ (dl x l).2 = wT) {k : Nat} : ∀ d K l E H Tl Nx Sl (w : Int32), l + d = 4 → d < K → k < E.1 → EI V (4 * k + l) E → RC H Tl Nx Sl (4 * k + l) E → (iterE dl d (4 * k + l) E = none ∧ ∃ r, f_Mk_follow_Br_49 n (nI k) wT bS K (nI l) H Tl Nx Sl (nI E.1) w = some (.inl (false, r))) ∨ (∃ E' H' Tl' Nx' Sl' w', iterE dl d (4 * k + l) E = some E' ∧ f_Mk_follow_Br_49 n (nI k) wT bS K (nI l) H Tl Nx Sl (nI E.1) w = some (.inr (nI 4, H', Tl', Nx', Sl', nI E'.1, w')) ∧ EI V (4 * k + 4) E' ∧ RC H' Tl' Nx' Sl' (4 * k + 4) E' ∧ E.1 ≤ E'.1) := by
  intro d
  induction d with
  | zero =>
    intro K l E H Tl Nx Sl w hl hK hk hE hR
    obtain ⟨K, rfl⟩ : ∃ j, K = j + 1 := ⟨K - 1, by omega⟩
    have : l = 4 := by omega
    subst this
    exact .inr ⟨E, H, Tl, Nx, Sl, _, rfl, by rw [f_Mk_follow_Br_49, l4, if_pos (by rw [nJ_le (by omega) (by omega)]; omega)], hE, hR, Nat.le_refl _⟩
  | succ d ih =>
    intro K l E H Tl Nx Sl w hl hK hk hE hR
    obtain ⟨K, rfl⟩ : ∃ j, K = j + 1 := ⟨K - 1, by omega⟩
    have hl4 : l < 4 := by omega
    obtain ⟨c1, c2, c3⟩ := hR
    have h8 := hE.2.1
    have hVk := hE.2.2.2.1 k hk
    have ek := c1 k hk
    have e1 : H k = (E.2.1 k).1 := congrArg Prod.fst ek
    have e2 : Tl k = (E.2.1 k).2 := congrArg Prod.snd ek
    have hdv : (4 * k + l) / 4 = k := by omega
    have hmd : (4 * k + l) % 4 = l := by omega
    have hnu := nu_c (n := n) (x := dl (E.2.1 k) l) hn h8 c1 c3 hE.2.2.1
    rw [(hgo _ _ hVk hl4).2] at hnu
    rw [f_Mk_follow_Br_49, l4, if_neg (by rw [nJ_le (by omega) (by omega)]; omega), nI_gin (by omega) (by omega), ogd_t, ogd_t, nI_nat (by omega), e1, e2, (hgo _ _ hVk hl4).1, sb_t]
    rcases hnu with ⟨j, a, b⟩ | ⟨a, b, Sl', c, f⟩ | ⟨a, b, c⟩
    · have hst : stepE dl E (4 * k + l) = some (E.1, E.2.1, upN E.2.2 (4 * k + l) j) := by
        unfold stepE
        rw [hdv, hmd, a]
      obtain ⟨q1, q2, q3, -⟩ := lookP_some _ _ _ a
      obtain ⟨i1, i2⟩ := stepE_inv hV hE (by omega) hst
      have hrec := ih K (l + 1) (E.1, E.2.1, upN E.2.2 (4 * k + l) j) H Tl (upd Nx (4 * k + l) (nI j)) Sl (dl (E.2.1 k) l).1 (by omega) (by omega) hk i1 ⟨c1, fun t ht => by
        by_cases h : t = 4 * k + l
        · subst h; rw [uis]; exact congrArg nI upNs.symm
        · rw [uin h, c2 t (by omega)]; exact congrArg nI (upNn h).symm, c3⟩
      rw [b, sb_t, if_neg (nI_nm1 (by omega)), nI_mul, nJ_add, nI_gin (by omega) (by omega), ogd_t, nI_nat (by omega), l1, nJ_add]
      rcases hrec with ⟨r1, r2⟩ | ⟨E', H', Tl', Nx', Sl', w', r1, r2, r3, r4, r5⟩
      · exact .inl ⟨by simp only [iterE]; rw [hst]; exact r1, r2⟩
      · exact .inr ⟨E', H', Tl', Nx', Sl', w', by simp only [iterE]; rw [hst]; exact r1, r2, r3, r4, r5⟩
    · have hst : stepE dl E (4 * k + l) = some (E.1 + 1, va_up E.2.1 E.1 (dl (E.2.1 k) l), upN E.2.2 (4 * k + l) E.1) := by
        unfold stepE
        rw [hdv, hmd, a]
        simp only [if_pos b]
      obtain ⟨i1, i2⟩ := stepE_inv hV hE (by omega) hst
      have hrec := ih K (l + 1) (E.1 + 1, va_up E.2.1 E.1 (dl (E.2.1 k) l), upN E.2.2 (4 * k + l) E.1) (upd H E.1 (dl (E.2.1 k) l).1) (vp_updL Tl E.1 (dl (E.2.1 k) l).2) (upd Nx (4 * k + l) (nI E.1)) Sl' (dl (E.2.1 k) l).1 (by omega) (by omega) (by show k < E.1 + 1; omega) i1 ⟨fun k' hk' => by
        have hk'' : k' < E.1 + 1 := hk'
        show (upd H E.1 (dl (E.2.1 k) l).1 k', vp_updL Tl E.1 (dl (E.2.1 k) l).2 k') = va_up E.2.1 E.1 (dl (E.2.1 k) l) k'
        by_cases h : k' = E.1
        · rw [h, uis, ujs, ups]
        · rw [uin h, ujn h, upn h]; exact c1 k' (by omega), fun t ht => by
        by_cases h : t = 4 * k + l
        · subst h; rw [uis]; exact congrArg nI upNs.symm
        · rw [uin h, c2 t (by omega)]; exact congrArg nI (upNn h).symm, f⟩
      rw [(hgo _ _ hVk hl4).2] at hrec
      rw [c, sb_t, if_neg (nI_nm1 (by omega)), nI_mul, nJ_add, nI_gin (by omega) (by omega), ogd_t, nI_nat (by omega), l1, nJ_add]
      rcases hrec with ⟨r1, r2⟩ | ⟨E', H', Tl', Nx', Sl'', w', r1, r2, r3, r4, r5⟩
      · exact .inl ⟨by simp only [iterE]; rw [hst]; exact r1, r2⟩
      · exact .inr ⟨E', H', Tl', Nx', Sl'', w', by simp only [iterE]; rw [hst]; exact r1, r2, r3, r4, by have : E.1 + 1 ≤ E'.1 := r5; omega⟩
    · have hst : stepE dl E (4 * k + l) = none := by
        unfold stepE
        rw [hdv, hmd, a]
        simp only [if_neg b]
      rw [c, sb_t, if_pos rfl]
      exact .inl ⟨by simp only [iterE]; rw [hst]; rfl, _, rfl⟩
theorem fo32_Br {n : Nat} (hn : 2048 < n) {wT : Int64} {bS : Int32} {dl : wSt → Nat → wSt} {V : wSt → Prop} (hV : ∀ x l, V x → l < 4 → V (dl x l)) (hgo : ∀ x l, V x → l < 4 → f_Br_go n x.1 x.2 (nI l) bS = some (dl x l).1 ∧ (dl x l).2 = wT) : ∀ d K k E H Tl Nx Sl (w : Int32), k + d = 800 → d < K → k ≤ E.1 → EI V (4 * k) E → RC H Tl Nx Sl (4 * k) E → (explE dl d k E = none ∧ ∃ r, f_Mk_follow_Br_32 n wT bS K (nI k) H Tl Nx Sl (nI E.1) w = some (.inl (false, r))) ∨ (∃ E' c H' Tl' Nx' Sl' w', explE dl d k E = some E' ∧ f_Mk_follow_Br_32 n wT bS K (nI k) H Tl Nx Sl (nI E.1) w = some (.inr (c, H', Tl', Nx', Sl', nI E'.1, w')) ∧ EI V (4 * E'.1) E' ∧ RC H' Tl' Nx' Sl' (4 * E'.1) E') := by
  intro d
  induction d with
  | zero =>
    intro K k E H Tl Nx Sl w hk hK hkW hE hR
    obtain ⟨K, rfl⟩ : ∃ j, K = j + 1 := ⟨K - 1, by omega⟩
    have h8 := hE.2.1
    have e : k = E.1 := by omega
    refine .inr ⟨E, nI k, H, Tl, Nx, Sl, _, rfl, by rw [f_Mk_follow_Br_32, l800, if_pos (by rw [nJ_le (by omega) (by omega)]; omega)], by rw [← e]; exact hE, by rw [← e]; exact hR⟩
  | succ d ih =>
    intro K k E H Tl Nx Sl w hk hK hkW hE hR
    obtain ⟨K, rfl⟩ : ∃ j, K = j + 1 := ⟨K - 1, by omega⟩
    have h8 := hE.2.1
    rw [f_Mk_follow_Br_32, l800, if_neg (by rw [nJ_le (by omega) (by omega)]; omega)]
    simp only [explE]
    by_cases hc : E.1 ≤ k
    · have e : k = E.1 := by omega
      rw [if_pos hc, if_pos (by rw [nJ_le (by omega) (by omega)]; exact hc)]
      exact .inr ⟨E, nI k, H, Tl, Nx, Sl, _, rfl, rfl, by rw [← e]; exact hE, by rw [← e]; exact hR⟩
    · rw [if_neg hc, if_neg (by rw [nJ_le (by omega) (by omega)]; exact hc)]
      rcases fo49_Br hn hV hgo (k := k) 4 n 0 E H Tl Nx Sl w (by omega) (by omega) (by omega) hE hR with ⟨r1, r, r2⟩ | ⟨E1, H1, Tl1, Nx1, Sl1, w1, r1, r2, r3, r4, r5⟩
      · refine .inl ⟨by rw [show 4 * k = 4 * k + 0 from rfl, r1]; rfl, r, ?_⟩
        rw [show (0 : Int32) = nI 0 from rfl, r2]; rfl
      · rw [show (0 : Int32) = nI 0 from rfl, r2, sb_t, el_r, l1, nJ_add]
        have hrec := ih K (k + 1) E1 H1 Tl1 Nx1 Sl1 w1 (by omega) (by omega) (by omega) (by rw [show 4 * (k + 1) = 4 * k + 4 by omega]; exact r3) (by rw [show 4 * (k + 1) = 4 * k + 4 by omega]; exact r4)
        rw [show iterE dl 4 (4 * k) E = some E1 from r1, sb_t]
        exact hrec
theorem fo_Br {n : Nat} (hn : 2048 < n) {wT : Int64} {bS : Int32} {dl : wSt → Nat → wSt} {V : wSt → Prop} (hV : ∀ x l, V x → l < 4 → V (dl x l)) (hgo : ∀ x l, V x → l < 4 → f_Br_go n x.1 x.2 (nI l) bS = some (dl x l).1 ∧ (dl x l).2 = wT) {x0 : wSt} (hx : V x0) (hx2 : x0.2 = wT) (hb : f_Br_begin n = some x0.1) {H : Nat → Int32} {Tl : Nat → Int64} {Nx Sl : Nat → Int32} : (explE dl 800 0 (Ei x0) = none ∧ ∃ r, f_Mk_follow_Br n H Tl Nx Sl wT bS = some (false, r)) ∨ (∃ E' H' Tl' Nx' Sl' w', explE dl 800 0 (Ei x0) = some E' ∧ f_Mk_follow_Br n H Tl Nx Sl wT bS = some (true, H', Tl', Nx', Sl', nI E'.1, w') ∧ EI V (4 * E'.1) E' ∧ RC H' Tl' Nx' Sl' (4 * E'.1) E') := by
  obtain ⟨Sl0, a1, a2⟩ := flI_c (n := n) (v := -1) (N := 2048) (by omega) (by omega) Sl
  have hnu := nu_c (n := n) (x := x0) (W := 0) (H := H) (Tl := Tl) (st := fun _ => x0) hn (by omega) (fun k hk => absurd hk (Nat.not_lt_zero _)) (hi_empty a2) (fun i j hi => absurd hi (Nat.not_lt_zero _))
  rcases hnu with ⟨j, a, b⟩ | ⟨a, b, Sl1, c, f⟩ | ⟨a, b, c⟩
  · cases a
  · have hR : RC (upd H 0 x0.1) (vp_updL Tl 0 x0.2) Nx Sl1 (4 * 0) (Ei x0) := by
      refine ⟨fun k hk => ?_, fun t ht => absurd ht (Nat.not_lt_zero _), ?_⟩
      · have hk' : k < 1 := hk
        have : k = 0 := by omega
        subst this
        show (upd H 0 x0.1 0, vp_updL Tl 0 x0.2 0) = x0
        rw [uis, ujs]
      · have : va_up (fun _ => x0) 0 x0 = fun _ => x0 := by
          funext k
          by_cases h : k = 0
          · subst h; exact ups
          · exact upn h
        rw [this] at f
        exact f
    rw [hx2] at c hR
    have hrec := fo32_Br hn hV hgo 800 n 0 (Ei x0) _ _ Nx Sl1 x0.1 (by omega) (by omega) (by show 0 ≤ 1; omega) (ei_inv hx) hR
    have pre : ∀ z, f_Mk_follow_Br_32 n wT bS n (nI 0) (upd H 0 x0.1) (vp_updL Tl 0 wT) Nx Sl1 (nI (Ei x0).1) x0.1 = some z → f_Mk_follow_Br n H Tl Nx Sl wT bS = z.elim (fun r => some r) fun x31 => some (true, x31.2.1, x31.2.2.1, x31.2.2.2.1, x31.2.2.2.2.1, x31.2.2.2.2.2.1, x31.2.2.2.2.2.2) := by
      intro z hz
      rw [f_Mk_follow_Br, a1, sb_t, hb, sb_t, show (0 : Int32) = nI 0 from rfl, c, sb_t]
      have hz' := congrArg (fun q => q.bind fun u31 => u31.elim (fun r => some r) fun x31 => some (true, x31.2.1, x31.2.2.1, x31.2.2.2.1, x31.2.2.2.2.1, x31.2.2.2.2.2.1, x31.2.2.2.2.2.2)) hz
      exact hz'
    rcases hrec with ⟨r1, r, r2⟩ | ⟨E', cc, H', Tl', Nx', Sl', w', r1, r2, r3, r4⟩
    · exact .inl ⟨r1, r, by rw [pre _ r2]; rfl⟩
    · exact .inr ⟨E', H', Tl', Nx', Sl', w', r1, by rw [pre _ r2]; rfl, r3, r4⟩
  · exact absurd (show 0 < 800 by omega) b
theorem fo49_Ch {n : Nat} (hn : 2048 < n) {aNl1 : Nat} {aNext1 : Nat → Int32} {aLast1 : Int64} {aStates2 : Int32} {aNl2 : Nat} {aNext2 : Nat → Int32} {dl : wSt → Nat → wSt} {V : wSt → Prop} (hV : ∀ x l, V x → l < 4 → V (dl x l)) (hgo : ∀ x l, V x → l < 4 → f_Ch_go n x.1 x.2 (nI l) aNl1 aNext1 aLast1 aStates2 aNl2 aNext2 = some (dl x l)) {k : Nat} : ∀ d K l E H Tl Nx Sl (w : Int32) (w2 : Int64), l + d = 4 → d < K → k < E.1 → EI V (4 * k + l) E → RC H Tl Nx Sl (4 * k + l) E → (iterE dl d (4 * k + l) E = none ∧ ∃ r, f_Mk_follow_Ch_49 n (nI k) aNl1 aNext1 aLast1 aStates2 aNl2 aNext2 K (nI l) H Tl Nx Sl (nI E.1) w w2 = some (.inl (false, r))) ∨ (∃ E' H' Tl' Nx' Sl' w', iterE dl d (4 * k + l) E = some E' ∧ f_Mk_follow_Ch_49 n (nI k) aNl1 aNext1 aLast1 aStates2 aNl2 aNext2 K (nI l) H Tl Nx Sl (nI E.1) w w2 = some (.inr (nI 4, H', Tl', Nx', Sl', nI E'.1, w')) ∧ EI V (4 * k + 4) E' ∧ RC H' Tl' Nx' Sl' (4 * k + 4) E' ∧ E.1 ≤ E'.1) := by
  intro d
  induction d with
  | zero =>
    intro K l E H Tl Nx Sl w w2 hl hK hk hE hR
    obtain ⟨K, rfl⟩ : ∃ j, K = j + 1 := ⟨K - 1, by omega⟩
    have : l = 4 := by omega
    subst this
    exact .inr ⟨E, H, Tl, Nx, Sl, _, rfl, by rw [f_Mk_follow_Ch_49, l4, if_pos (by rw [nJ_le (by omega) (by omega)]; omega)], hE, hR, Nat.le_refl _⟩
  | succ d ih =>
    intro K l E H Tl Nx Sl w w2 hl hK hk hE hR
    obtain ⟨K, rfl⟩ : ∃ j, K = j + 1 := ⟨K - 1, by omega⟩
    have hl4 : l < 4 := by omega
    obtain ⟨c1, c2, c3⟩ := hR
    have h8 := hE.2.1
    have hVk := hE.2.2.2.1 k hk
    have ek := c1 k hk
    have e1 : H k = (E.2.1 k).1 := congrArg Prod.fst ek
    have e2 : Tl k = (E.2.1 k).2 := congrArg Prod.snd ek
    have hdv : (4 * k + l) / 4 = k := by omega
    have hmd : (4 * k + l) % 4 = l := by omega
    have hnu := nu_c (n := n) (x := dl (E.2.1 k) l) hn h8 c1 c3 hE.2.2.1
    rw [f_Mk_follow_Ch_49, l4, if_neg (by rw [nJ_le (by omega) (by omega)]; omega), nI_gin (by omega) (by omega), ogd_t, ogd_t, nI_nat (by omega), e1, e2, hgo _ _ hVk hl4, sb_t]
    rcases hnu with ⟨j, a, b⟩ | ⟨a, b, Sl', c, f⟩ | ⟨a, b, c⟩
    · have hst : stepE dl E (4 * k + l) = some (E.1, E.2.1, upN E.2.2 (4 * k + l) j) := by
        unfold stepE
        rw [hdv, hmd, a]
      obtain ⟨q1, q2, q3, -⟩ := lookP_some _ _ _ a
      obtain ⟨i1, i2⟩ := stepE_inv hV hE (by omega) hst
      have hrec := ih K (l + 1) (E.1, E.2.1, upN E.2.2 (4 * k + l) j) H Tl (upd Nx (4 * k + l) (nI j)) Sl (dl (E.2.1 k) l).1 (dl (E.2.1 k) l).2 (by omega) (by omega) hk i1 ⟨c1, fun t ht => by
        by_cases h : t = 4 * k + l
        · subst h; rw [uis]; exact congrArg nI upNs.symm
        · rw [uin h, c2 t (by omega)]; exact congrArg nI (upNn h).symm, c3⟩
      rw [b, sb_t, if_neg (nI_nm1 (by omega)), nI_mul, nJ_add, nI_gin (by omega) (by omega), ogd_t, nI_nat (by omega), l1, nJ_add]
      rcases hrec with ⟨r1, r2⟩ | ⟨E', H', Tl', Nx', Sl', w', r1, r2, r3, r4, r5⟩
      · exact .inl ⟨by simp only [iterE]; rw [hst]; exact r1, r2⟩
      · exact .inr ⟨E', H', Tl', Nx', Sl', w', by simp only [iterE]; rw [hst]; exact r1, r2, r3, r4, r5⟩
    · have hst : stepE dl E (4 * k + l) = some (E.1 + 1, va_up E.2.1 E.1 (dl (E.2.1 k) l), upN E.2.2 (4 * k + l) E.1) := by
        unfold stepE
        rw [hdv, hmd, a]
        simp only [if_pos b]
      obtain ⟨i1, i2⟩ := stepE_inv hV hE (by omega) hst
      have hrec := ih K (l + 1) (E.1 + 1, va_up E.2.1 E.1 (dl (E.2.1 k) l), upN E.2.2 (4 * k + l) E.1) (upd H E.1 (dl (E.2.1 k) l).1) (vp_updL Tl E.1 (dl (E.2.1 k) l).2) (upd Nx (4 * k + l) (nI E.1)) Sl' (dl (E.2.1 k) l).1 (dl (E.2.1 k) l).2 (by omega) (by omega) (by show k < E.1 + 1; omega) i1 ⟨fun k' hk' => by
        have hk'' : k' < E.1 + 1 := hk'
        show (upd H E.1 (dl (E.2.1 k) l).1 k', vp_updL Tl E.1 (dl (E.2.1 k) l).2 k') = va_up E.2.1 E.1 (dl (E.2.1 k) l) k'
        by_cases h : k' = E.1
        · rw [h, uis, ujs, ups]
        · rw [uin h, ujn h, upn h]; exact c1 k' (by omega), fun t ht => by
        by_cases h : t = 4 * k + l
        · subst h; rw [uis]; exact congrArg nI upNs.symm
        · rw [uin h, c2 t (by omega)]; exact congrArg nI (upNn h).symm, f⟩
      skip
      rw [c, sb_t, if_neg (nI_nm1 (by omega)), nI_mul, nJ_add, nI_gin (by omega) (by omega), ogd_t, nI_nat (by omega), l1, nJ_add]
      rcases hrec with ⟨r1, r2⟩ | ⟨E', H', Tl', Nx', Sl'', w', r1, r2, r3, r4, r5⟩
      · exact .inl ⟨by simp only [iterE]; rw [hst]; exact r1, r2⟩
      · exact .inr ⟨E', H', Tl', Nx', Sl'', w', by simp only [iterE]; rw [hst]; exact r1, r2, r3, r4, by have : E.1 + 1 ≤ E'.1 := r5; omega⟩
    · have hst : stepE dl E (4 * k + l) = none := by
        unfold stepE
        rw [hdv, hmd, a]
        simp only [if_neg b]
      rw [c, sb_t, if_pos rfl]
      exact .inl ⟨by simp only [iterE]; rw [hst]; rfl, _, rfl⟩
theorem fo32_Ch {n : Nat} (hn : 2048 < n) {aNl1 : Nat} {aNext1 : Nat → Int32} {aLast1 : Int64} {aStates2 : Int32} {aNl2 : Nat} {aNext2 : Nat → Int32} {dl : wSt → Nat → wSt} {V : wSt → Prop} (hV : ∀ x l, V x → l < 4 → V (dl x l)) (hgo : ∀ x l, V x → l < 4 → f_Ch_go n x.1 x.2 (nI l) aNl1 aNext1 aLast1 aStates2 aNl2 aNext2 = some (dl x l)) : ∀ d K k E H Tl Nx Sl (w : Int32) (w2 : Int64), k + d = 800 → d < K → k ≤ E.1 → EI V (4 * k) E → RC H Tl Nx Sl (4 * k) E → (explE dl d k E = none ∧ ∃ r, f_Mk_follow_Ch_32 n aNl1 aNext1 aLast1 aStates2 aNl2 aNext2 K (nI k) H Tl Nx Sl (nI E.1) w w2 = some (.inl (false, r))) ∨ (∃ E' c H' Tl' Nx' Sl' w', explE dl d k E = some E' ∧ f_Mk_follow_Ch_32 n aNl1 aNext1 aLast1 aStates2 aNl2 aNext2 K (nI k) H Tl Nx Sl (nI E.1) w w2 = some (.inr (c, H', Tl', Nx', Sl', nI E'.1, w')) ∧ EI V (4 * E'.1) E' ∧ RC H' Tl' Nx' Sl' (4 * E'.1) E') := by
  intro d
  induction d with
  | zero =>
    intro K k E H Tl Nx Sl w w2 hk hK hkW hE hR
    obtain ⟨K, rfl⟩ : ∃ j, K = j + 1 := ⟨K - 1, by omega⟩
    have h8 := hE.2.1
    have e : k = E.1 := by omega
    refine .inr ⟨E, nI k, H, Tl, Nx, Sl, _, rfl, by rw [f_Mk_follow_Ch_32, l800, if_pos (by rw [nJ_le (by omega) (by omega)]; omega)], by rw [← e]; exact hE, by rw [← e]; exact hR⟩
  | succ d ih =>
    intro K k E H Tl Nx Sl w w2 hk hK hkW hE hR
    obtain ⟨K, rfl⟩ : ∃ j, K = j + 1 := ⟨K - 1, by omega⟩
    have h8 := hE.2.1
    rw [f_Mk_follow_Ch_32, l800, if_neg (by rw [nJ_le (by omega) (by omega)]; omega)]
    simp only [explE]
    by_cases hc : E.1 ≤ k
    · have e : k = E.1 := by omega
      rw [if_pos hc, if_pos (by rw [nJ_le (by omega) (by omega)]; exact hc)]
      exact .inr ⟨E, nI k, H, Tl, Nx, Sl, _, rfl, rfl, by rw [← e]; exact hE, by rw [← e]; exact hR⟩
    · rw [if_neg hc, if_neg (by rw [nJ_le (by omega) (by omega)]; exact hc)]
      rcases fo49_Ch hn hV hgo (k := k) 4 n 0 E H Tl Nx Sl w w2 (by omega) (by omega) (by omega) hE hR with ⟨r1, r, r2⟩ | ⟨E1, H1, Tl1, Nx1, Sl1, w1, r1, r2, r3, r4, r5⟩
      · refine .inl ⟨by rw [show 4 * k = 4 * k + 0 from rfl, r1]; rfl, r, ?_⟩
        rw [show (0 : Int32) = nI 0 from rfl, r2]; rfl
      · rw [show (0 : Int32) = nI 0 from rfl, r2, sb_t, el_r, l1, nJ_add]
        have hrec := ih K (k + 1) E1 H1 Tl1 Nx1 Sl1 w1.1 w1.2 (by omega) (by omega) (by omega) (by rw [show 4 * (k + 1) = 4 * k + 4 by omega]; exact r3) (by rw [show 4 * (k + 1) = 4 * k + 4 by omega]; exact r4)
        rw [show iterE dl 4 (4 * k) E = some E1 from r1, sb_t]
        exact hrec
theorem fo_Ch {n : Nat} (hn : 2048 < n) {aNl1 : Nat} {aNext1 : Nat → Int32} {aLast1 : Int64} {aStates2 : Int32} {aNl2 : Nat} {aNext2 : Nat → Int32} {dl : wSt → Nat → wSt} {V : wSt → Prop} (hV : ∀ x l, V x → l < 4 → V (dl x l)) (hgo : ∀ x l, V x → l < 4 → f_Ch_go n x.1 x.2 (nI l) aNl1 aNext1 aLast1 aStates2 aNl2 aNext2 = some (dl x l)) {x0 : wSt} (hx : V x0)  (hb : f_Ch_begin n aLast1 = some x0) {H : Nat → Int32} {Tl : Nat → Int64} {Nx Sl : Nat → Int32} : (explE dl 800 0 (Ei x0) = none ∧ ∃ r, f_Mk_follow_Ch n H Tl Nx Sl aNl1 aNext1 aLast1 aStates2 aNl2 aNext2 = some (false, r)) ∨ (∃ E' H' Tl' Nx' Sl' w', explE dl 800 0 (Ei x0) = some E' ∧ f_Mk_follow_Ch n H Tl Nx Sl aNl1 aNext1 aLast1 aStates2 aNl2 aNext2 = some (true, H', Tl', Nx', Sl', nI E'.1, w') ∧ EI V (4 * E'.1) E' ∧ RC H' Tl' Nx' Sl' (4 * E'.1) E') := by
  obtain ⟨Sl0, a1, a2⟩ := flI_c (n := n) (v := -1) (N := 2048) (by omega) (by omega) Sl
  have hnu := nu_c (n := n) (x := x0) (W := 0) (H := H) (Tl := Tl) (st := fun _ => x0) hn (by omega) (fun k hk => absurd hk (Nat.not_lt_zero _)) (hi_empty a2) (fun i j hi => absurd hi (Nat.not_lt_zero _))
  rcases hnu with ⟨j, a, b⟩ | ⟨a, b, Sl1, c, f⟩ | ⟨a, b, c⟩
  · cases a
  · have hR : RC (upd H 0 x0.1) (vp_updL Tl 0 x0.2) Nx Sl1 (4 * 0) (Ei x0) := by
      refine ⟨fun k hk => ?_, fun t ht => absurd ht (Nat.not_lt_zero _), ?_⟩
      · have hk' : k < 1 := hk
        have : k = 0 := by omega
        subst this
        show (upd H 0 x0.1 0, vp_updL Tl 0 x0.2 0) = x0
        rw [uis, ujs]
      · have : va_up (fun _ => x0) 0 x0 = fun _ => x0 := by
          funext k
          by_cases h : k = 0
          · subst h; exact ups
          · exact upn h
        rw [this] at f
        exact f
    skip
    have hrec := fo32_Ch hn hV hgo 800 n 0 (Ei x0) _ _ Nx Sl1 x0.1 x0.2 (by omega) (by omega) (by show 0 ≤ 1; omega) (ei_inv hx) hR
    have pre : ∀ z, f_Mk_follow_Ch_32 n aNl1 aNext1 aLast1 aStates2 aNl2 aNext2 n (nI 0) (upd H 0 x0.1) (vp_updL Tl 0 x0.2) Nx Sl1 (nI (Ei x0).1) x0.1 x0.2 = some z → f_Mk_follow_Ch n H Tl Nx Sl aNl1 aNext1 aLast1 aStates2 aNl2 aNext2 = z.elim (fun r => some r) fun x31 => some (true, x31.2.1, x31.2.2.1, x31.2.2.2.1, x31.2.2.2.2.1, x31.2.2.2.2.2.1, x31.2.2.2.2.2.2) := by
      intro z hz
      rw [f_Mk_follow_Ch, a1, sb_t, hb, sb_t, show (0 : Int32) = nI 0 from rfl, c, sb_t]
      have hz' := congrArg (fun q => q.bind fun u31 => u31.elim (fun r => some r) fun x31 => some (true, x31.2.1, x31.2.2.1, x31.2.2.2.1, x31.2.2.2.2.1, x31.2.2.2.2.2.1, x31.2.2.2.2.2.2)) hz
      exact hz'
    rcases hrec with ⟨r1, r, r2⟩ | ⟨E', cc, H', Tl', Nx', Sl', w', r1, r2, r3, r4⟩
    · exact .inl ⟨r1, r, by rw [pre _ r2]; rfl⟩
    · exact .inr ⟨E', H', Tl', Nx', Sl', w', r1, by rw [pre _ r2]; rfl, r3, r4⟩
  · exact absurd (show 0 < 800 by omega) b
theorem fo49_Pa {n : Nat} (hn : 2048 < n) {aNl1 : Nat} {aNext1 : Nat → Int32} {aNl2 : Nat} {aNext2 : Nat → Int32} {dl : wSt → Nat → wSt} {V : wSt → Prop} (hV : ∀ x l, V x → l < 4 → V (dl x l)) (hgo : ∀ x l, V x → l < 4 → f_Pa_go n x.1 x.2 (nI l) aNl1 aNext1 aNl2 aNext2 = some (dl x l)) {k : Nat} : ∀ d K l E H Tl Nx Sl (w : Int32) (w2 : Int64), l + d = 4 → d < K → k < E.1 → EI V (4 * k + l) E → RC H Tl Nx Sl (4 * k + l) E → (iterE dl d (4 * k + l) E = none ∧ ∃ r, f_Mk_follow_Pa_49 n (nI k) aNl1 aNext1 aNl2 aNext2 K (nI l) H Tl Nx Sl (nI E.1) w w2 = some (.inl (false, r))) ∨ (∃ E' H' Tl' Nx' Sl' w', iterE dl d (4 * k + l) E = some E' ∧ f_Mk_follow_Pa_49 n (nI k) aNl1 aNext1 aNl2 aNext2 K (nI l) H Tl Nx Sl (nI E.1) w w2 = some (.inr (nI 4, H', Tl', Nx', Sl', nI E'.1, w')) ∧ EI V (4 * k + 4) E' ∧ RC H' Tl' Nx' Sl' (4 * k + 4) E' ∧ E.1 ≤ E'.1) := by
  intro d
  induction d with
  | zero =>
    intro K l E H Tl Nx Sl w w2 hl hK hk hE hR
    obtain ⟨K, rfl⟩ : ∃ j, K = j + 1 := ⟨K - 1, by omega⟩
    have : l = 4 := by omega
    subst this
    exact .inr ⟨E, H, Tl, Nx, Sl, _, rfl, by rw [f_Mk_follow_Pa_49, l4, if_pos (by rw [nJ_le (by omega) (by omega)]; omega)], hE, hR, Nat.le_refl _⟩
  | succ d ih =>
    intro K l E H Tl Nx Sl w w2 hl hK hk hE hR
    obtain ⟨K, rfl⟩ : ∃ j, K = j + 1 := ⟨K - 1, by omega⟩
    have hl4 : l < 4 := by omega
    obtain ⟨c1, c2, c3⟩ := hR
    have h8 := hE.2.1
    have hVk := hE.2.2.2.1 k hk
    have ek := c1 k hk
    have e1 : H k = (E.2.1 k).1 := congrArg Prod.fst ek
    have e2 : Tl k = (E.2.1 k).2 := congrArg Prod.snd ek
    have hdv : (4 * k + l) / 4 = k := by omega
    have hmd : (4 * k + l) % 4 = l := by omega
    have hnu := nu_c (n := n) (x := dl (E.2.1 k) l) hn h8 c1 c3 hE.2.2.1
    rw [f_Mk_follow_Pa_49, l4, if_neg (by rw [nJ_le (by omega) (by omega)]; omega), nI_gin (by omega) (by omega), ogd_t, ogd_t, nI_nat (by omega), e1, e2, hgo _ _ hVk hl4, sb_t]
    rcases hnu with ⟨j, a, b⟩ | ⟨a, b, Sl', c, f⟩ | ⟨a, b, c⟩
    · have hst : stepE dl E (4 * k + l) = some (E.1, E.2.1, upN E.2.2 (4 * k + l) j) := by
        unfold stepE
        rw [hdv, hmd, a]
      obtain ⟨q1, q2, q3, -⟩ := lookP_some _ _ _ a
      obtain ⟨i1, i2⟩ := stepE_inv hV hE (by omega) hst
      have hrec := ih K (l + 1) (E.1, E.2.1, upN E.2.2 (4 * k + l) j) H Tl (upd Nx (4 * k + l) (nI j)) Sl (dl (E.2.1 k) l).1 (dl (E.2.1 k) l).2 (by omega) (by omega) hk i1 ⟨c1, fun t ht => by
        by_cases h : t = 4 * k + l
        · subst h; rw [uis]; exact congrArg nI upNs.symm
        · rw [uin h, c2 t (by omega)]; exact congrArg nI (upNn h).symm, c3⟩
      rw [b, sb_t, if_neg (nI_nm1 (by omega)), nI_mul, nJ_add, nI_gin (by omega) (by omega), ogd_t, nI_nat (by omega), l1, nJ_add]
      rcases hrec with ⟨r1, r2⟩ | ⟨E', H', Tl', Nx', Sl', w', r1, r2, r3, r4, r5⟩
      · exact .inl ⟨by simp only [iterE]; rw [hst]; exact r1, r2⟩
      · exact .inr ⟨E', H', Tl', Nx', Sl', w', by simp only [iterE]; rw [hst]; exact r1, r2, r3, r4, r5⟩
    · have hst : stepE dl E (4 * k + l) = some (E.1 + 1, va_up E.2.1 E.1 (dl (E.2.1 k) l), upN E.2.2 (4 * k + l) E.1) := by
        unfold stepE
        rw [hdv, hmd, a]
        simp only [if_pos b]
      obtain ⟨i1, i2⟩ := stepE_inv hV hE (by omega) hst
      have hrec := ih K (l + 1) (E.1 + 1, va_up E.2.1 E.1 (dl (E.2.1 k) l), upN E.2.2 (4 * k + l) E.1) (upd H E.1 (dl (E.2.1 k) l).1) (vp_updL Tl E.1 (dl (E.2.1 k) l).2) (upd Nx (4 * k + l) (nI E.1)) Sl' (dl (E.2.1 k) l).1 (dl (E.2.1 k) l).2 (by omega) (by omega) (by show k < E.1 + 1; omega) i1 ⟨fun k' hk' => by
        have hk'' : k' < E.1 + 1 := hk'
        show (upd H E.1 (dl (E.2.1 k) l).1 k', vp_updL Tl E.1 (dl (E.2.1 k) l).2 k') = va_up E.2.1 E.1 (dl (E.2.1 k) l) k'
        by_cases h : k' = E.1
        · rw [h, uis, ujs, ups]
        · rw [uin h, ujn h, upn h]; exact c1 k' (by omega), fun t ht => by
        by_cases h : t = 4 * k + l
        · subst h; rw [uis]; exact congrArg nI upNs.symm
        · rw [uin h, c2 t (by omega)]; exact congrArg nI (upNn h).symm, f⟩
      skip
      rw [c, sb_t, if_neg (nI_nm1 (by omega)), nI_mul, nJ_add, nI_gin (by omega) (by omega), ogd_t, nI_nat (by omega), l1, nJ_add]
      rcases hrec with ⟨r1, r2⟩ | ⟨E', H', Tl', Nx', Sl'', w', r1, r2, r3, r4, r5⟩
      · exact .inl ⟨by simp only [iterE]; rw [hst]; exact r1, r2⟩
      · exact .inr ⟨E', H', Tl', Nx', Sl'', w', by simp only [iterE]; rw [hst]; exact r1, r2, r3, r4, by have : E.1 + 1 ≤ E'.1 := r5; omega⟩
    · have hst : stepE dl E (4 * k + l) = none := by
        unfold stepE
        rw [hdv, hmd, a]
        simp only [if_neg b]
      rw [c, sb_t, if_pos rfl]
      exact .inl ⟨by simp only [iterE]; rw [hst]; rfl, _, rfl⟩
theorem fo32_Pa {n : Nat} (hn : 2048 < n) {aNl1 : Nat} {aNext1 : Nat → Int32} {aNl2 : Nat} {aNext2 : Nat → Int32} {dl : wSt → Nat → wSt} {V : wSt → Prop} (hV : ∀ x l, V x → l < 4 → V (dl x l)) (hgo : ∀ x l, V x → l < 4 → f_Pa_go n x.1 x.2 (nI l) aNl1 aNext1 aNl2 aNext2 = some (dl x l)) : ∀ d K k E H Tl Nx Sl (w : Int32) (w2 : Int64), k + d = 800 → d < K → k ≤ E.1 → EI V (4 * k) E → RC H Tl Nx Sl (4 * k) E → (explE dl d k E = none ∧ ∃ r, f_Mk_follow_Pa_32 n aNl1 aNext1 aNl2 aNext2 K (nI k) H Tl Nx Sl (nI E.1) w w2 = some (.inl (false, r))) ∨ (∃ E' c H' Tl' Nx' Sl' w', explE dl d k E = some E' ∧ f_Mk_follow_Pa_32 n aNl1 aNext1 aNl2 aNext2 K (nI k) H Tl Nx Sl (nI E.1) w w2 = some (.inr (c, H', Tl', Nx', Sl', nI E'.1, w')) ∧ EI V (4 * E'.1) E' ∧ RC H' Tl' Nx' Sl' (4 * E'.1) E') := by
  intro d
  induction d with
  | zero =>
    intro K k E H Tl Nx Sl w w2 hk hK hkW hE hR
    obtain ⟨K, rfl⟩ : ∃ j, K = j + 1 := ⟨K - 1, by omega⟩
    have h8 := hE.2.1
    have e : k = E.1 := by omega
    refine .inr ⟨E, nI k, H, Tl, Nx, Sl, _, rfl, by rw [f_Mk_follow_Pa_32, l800, if_pos (by rw [nJ_le (by omega) (by omega)]; omega)], by rw [← e]; exact hE, by rw [← e]; exact hR⟩
  | succ d ih =>
    intro K k E H Tl Nx Sl w w2 hk hK hkW hE hR
    obtain ⟨K, rfl⟩ : ∃ j, K = j + 1 := ⟨K - 1, by omega⟩
    have h8 := hE.2.1
    rw [f_Mk_follow_Pa_32, l800, if_neg (by rw [nJ_le (by omega) (by omega)]; omega)]
    simp only [explE]
    by_cases hc : E.1 ≤ k
    · have e : k = E.1 := by omega
      rw [if_pos hc, if_pos (by rw [nJ_le (by omega) (by omega)]; exact hc)]
      exact .inr ⟨E, nI k, H, Tl, Nx, Sl, _, rfl, rfl, by rw [← e]; exact hE, by rw [← e]; exact hR⟩
    · rw [if_neg hc, if_neg (by rw [nJ_le (by omega) (by omega)]; exact hc)]
      rcases fo49_Pa hn hV hgo (k := k) 4 n 0 E H Tl Nx Sl w w2 (by omega) (by omega) (by omega) hE hR with ⟨r1, r, r2⟩ | ⟨E1, H1, Tl1, Nx1, Sl1, w1, r1, r2, r3, r4, r5⟩
      · refine .inl ⟨by rw [show 4 * k = 4 * k + 0 from rfl, r1]; rfl, r, ?_⟩
        rw [show (0 : Int32) = nI 0 from rfl, r2]; rfl
      · rw [show (0 : Int32) = nI 0 from rfl, r2, sb_t, el_r, l1, nJ_add]
        have hrec := ih K (k + 1) E1 H1 Tl1 Nx1 Sl1 w1.1 w1.2 (by omega) (by omega) (by omega) (by rw [show 4 * (k + 1) = 4 * k + 4 by omega]; exact r3) (by rw [show 4 * (k + 1) = 4 * k + 4 by omega]; exact r4)
        rw [show iterE dl 4 (4 * k) E = some E1 from r1, sb_t]
        exact hrec
theorem fo_Pa {n : Nat} (hn : 2048 < n) {aNl1 : Nat} {aNext1 : Nat → Int32} {aNl2 : Nat} {aNext2 : Nat → Int32} {dl : wSt → Nat → wSt} {V : wSt → Prop} (hV : ∀ x l, V x → l < 4 → V (dl x l)) (hgo : ∀ x l, V x → l < 4 → f_Pa_go n x.1 x.2 (nI l) aNl1 aNext1 aNl2 aNext2 = some (dl x l)) {x0 : wSt} (hx : V x0)  (hb : f_Pa_begin n = some x0) {H : Nat → Int32} {Tl : Nat → Int64} {Nx Sl : Nat → Int32} : (explE dl 800 0 (Ei x0) = none ∧ ∃ r, f_Mk_follow_Pa n H Tl Nx Sl aNl1 aNext1 aNl2 aNext2 = some (false, r)) ∨ (∃ E' H' Tl' Nx' Sl' w', explE dl 800 0 (Ei x0) = some E' ∧ f_Mk_follow_Pa n H Tl Nx Sl aNl1 aNext1 aNl2 aNext2 = some (true, H', Tl', Nx', Sl', nI E'.1, w') ∧ EI V (4 * E'.1) E' ∧ RC H' Tl' Nx' Sl' (4 * E'.1) E') := by
  obtain ⟨Sl0, a1, a2⟩ := flI_c (n := n) (v := -1) (N := 2048) (by omega) (by omega) Sl
  have hnu := nu_c (n := n) (x := x0) (W := 0) (H := H) (Tl := Tl) (st := fun _ => x0) hn (by omega) (fun k hk => absurd hk (Nat.not_lt_zero _)) (hi_empty a2) (fun i j hi => absurd hi (Nat.not_lt_zero _))
  rcases hnu with ⟨j, a, b⟩ | ⟨a, b, Sl1, c, f⟩ | ⟨a, b, c⟩
  · cases a
  · have hR : RC (upd H 0 x0.1) (vp_updL Tl 0 x0.2) Nx Sl1 (4 * 0) (Ei x0) := by
      refine ⟨fun k hk => ?_, fun t ht => absurd ht (Nat.not_lt_zero _), ?_⟩
      · have hk' : k < 1 := hk
        have : k = 0 := by omega
        subst this
        show (upd H 0 x0.1 0, vp_updL Tl 0 x0.2 0) = x0
        rw [uis, ujs]
      · have : va_up (fun _ => x0) 0 x0 = fun _ => x0 := by
          funext k
          by_cases h : k = 0
          · subst h; exact ups
          · exact upn h
        rw [this] at f
        exact f
    skip
    have hrec := fo32_Pa hn hV hgo 800 n 0 (Ei x0) _ _ Nx Sl1 x0.1 x0.2 (by omega) (by omega) (by show 0 ≤ 1; omega) (ei_inv hx) hR
    have pre : ∀ z, f_Mk_follow_Pa_32 n aNl1 aNext1 aNl2 aNext2 n (nI 0) (upd H 0 x0.1) (vp_updL Tl 0 x0.2) Nx Sl1 (nI (Ei x0).1) x0.1 x0.2 = some z → f_Mk_follow_Pa n H Tl Nx Sl aNl1 aNext1 aNl2 aNext2 = z.elim (fun r => some r) fun x31 => some (true, x31.2.1, x31.2.2.1, x31.2.2.2.1, x31.2.2.2.2.1, x31.2.2.2.2.2.1, x31.2.2.2.2.2.2) := by
      intro z hz
      rw [f_Mk_follow_Pa, a1, sb_t, hb, sb_t, show (0 : Int32) = nI 0 from rfl, c, sb_t]
      have hz' := congrArg (fun q => q.bind fun u31 => u31.elim (fun r => some r) fun x31 => some (true, x31.2.1, x31.2.2.1, x31.2.2.2.1, x31.2.2.2.2.1, x31.2.2.2.2.2.1, x31.2.2.2.2.2.2)) hz
      exact hz'
    rcases hrec with ⟨r1, r, r2⟩ | ⟨E', cc, H', Tl', Nx', Sl', w', r1, r2, r3, r4⟩
    · exact .inl ⟨r1, r, by rw [pre _ r2]; rfl⟩
    · exact .inr ⟨E', H', Tl', Nx', Sl', w', r1, by rw [pre _ r2]; rfl, r3, r4⟩
  · exact absurd (show 0 < 800 by omega) b
theorem fo49_Re {n : Nat} (hn : 2048 < n) {wH : Int32} {aStates1 : Int32} {aNl1 : Nat} {aNext1 : Nat → Int32} {aLast1 : Int64} {dl : wSt → Nat → wSt} {V : wSt → Prop} (hV : ∀ x l, V x → l < 4 → V (dl x l)) (hgo : ∀ x l, V x → l < 4 → f_Re_go n x.1 x.2 (nI l) aStates1 aNl1 aNext1 aLast1 = some (dl x l).2 ∧ (dl x l).1 = wH) {k : Nat} : ∀ d K l E H Tl Nx Sl (w : Int64), l + d = 4 → d < K → k < E.1 → EI V (4 * k + l) E → RC H Tl Nx Sl (4 * k + l) E → (iterE dl d (4 * k + l) E = none ∧ ∃ r, f_Mk_follow_Re_49 n (nI k) wH aStates1 aNl1 aNext1 aLast1 K (nI l) H Tl Nx Sl (nI E.1) w = some (.inl (false, r))) ∨ (∃ E' H' Tl' Nx' Sl' w', iterE dl d (4 * k + l) E = some E' ∧ f_Mk_follow_Re_49 n (nI k) wH aStates1 aNl1 aNext1 aLast1 K (nI l) H Tl Nx Sl (nI E.1) w = some (.inr (nI 4, H', Tl', Nx', Sl', nI E'.1, w')) ∧ EI V (4 * k + 4) E' ∧ RC H' Tl' Nx' Sl' (4 * k + 4) E' ∧ E.1 ≤ E'.1) := by
  intro d
  induction d with
  | zero =>
    intro K l E H Tl Nx Sl w hl hK hk hE hR
    obtain ⟨K, rfl⟩ : ∃ j, K = j + 1 := ⟨K - 1, by omega⟩
    have : l = 4 := by omega
    subst this
    exact .inr ⟨E, H, Tl, Nx, Sl, _, rfl, by rw [f_Mk_follow_Re_49, l4, if_pos (by rw [nJ_le (by omega) (by omega)]; omega)], hE, hR, Nat.le_refl _⟩
  | succ d ih =>
    intro K l E H Tl Nx Sl w hl hK hk hE hR
    obtain ⟨K, rfl⟩ : ∃ j, K = j + 1 := ⟨K - 1, by omega⟩
    have hl4 : l < 4 := by omega
    obtain ⟨c1, c2, c3⟩ := hR
    have h8 := hE.2.1
    have hVk := hE.2.2.2.1 k hk
    have ek := c1 k hk
    have e1 : H k = (E.2.1 k).1 := congrArg Prod.fst ek
    have e2 : Tl k = (E.2.1 k).2 := congrArg Prod.snd ek
    have hdv : (4 * k + l) / 4 = k := by omega
    have hmd : (4 * k + l) % 4 = l := by omega
    have hnu := nu_c (n := n) (x := dl (E.2.1 k) l) hn h8 c1 c3 hE.2.2.1
    rw [(hgo _ _ hVk hl4).2] at hnu
    rw [f_Mk_follow_Re_49, l4, if_neg (by rw [nJ_le (by omega) (by omega)]; omega), nI_gin (by omega) (by omega), ogd_t, ogd_t, nI_nat (by omega), e1, e2, (hgo _ _ hVk hl4).1, sb_t]
    rcases hnu with ⟨j, a, b⟩ | ⟨a, b, Sl', c, f⟩ | ⟨a, b, c⟩
    · have hst : stepE dl E (4 * k + l) = some (E.1, E.2.1, upN E.2.2 (4 * k + l) j) := by
        unfold stepE
        rw [hdv, hmd, a]
      obtain ⟨q1, q2, q3, -⟩ := lookP_some _ _ _ a
      obtain ⟨i1, i2⟩ := stepE_inv hV hE (by omega) hst
      have hrec := ih K (l + 1) (E.1, E.2.1, upN E.2.2 (4 * k + l) j) H Tl (upd Nx (4 * k + l) (nI j)) Sl (dl (E.2.1 k) l).2 (by omega) (by omega) hk i1 ⟨c1, fun t ht => by
        by_cases h : t = 4 * k + l
        · subst h; rw [uis]; exact congrArg nI upNs.symm
        · rw [uin h, c2 t (by omega)]; exact congrArg nI (upNn h).symm, c3⟩
      rw [b, sb_t, if_neg (nI_nm1 (by omega)), nI_mul, nJ_add, nI_gin (by omega) (by omega), ogd_t, nI_nat (by omega), l1, nJ_add]
      rcases hrec with ⟨r1, r2⟩ | ⟨E', H', Tl', Nx', Sl', w', r1, r2, r3, r4, r5⟩
      · exact .inl ⟨by simp only [iterE]; rw [hst]; exact r1, r2⟩
      · exact .inr ⟨E', H', Tl', Nx', Sl', w', by simp only [iterE]; rw [hst]; exact r1, r2, r3, r4, r5⟩
    · have hst : stepE dl E (4 * k + l) = some (E.1 + 1, va_up E.2.1 E.1 (dl (E.2.1 k) l), upN E.2.2 (4 * k + l) E.1) := by
        unfold stepE
        rw [hdv, hmd, a]
        simp only [if_pos b]
      obtain ⟨i1, i2⟩ := stepE_inv hV hE (by omega) hst
      have hrec := ih K (l + 1) (E.1 + 1, va_up E.2.1 E.1 (dl (E.2.1 k) l), upN E.2.2 (4 * k + l) E.1) (upd H E.1 (dl (E.2.1 k) l).1) (vp_updL Tl E.1 (dl (E.2.1 k) l).2) (upd Nx (4 * k + l) (nI E.1)) Sl' (dl (E.2.1 k) l).2 (by omega) (by omega) (by show k < E.1 + 1; omega) i1 ⟨fun k' hk' => by
        have hk'' : k' < E.1 + 1 := hk'
        show (upd H E.1 (dl (E.2.1 k) l).1 k', vp_updL Tl E.1 (dl (E.2.1 k) l).2 k') = va_up E.2.1 E.1 (dl (E.2.1 k) l) k'
        by_cases h : k' = E.1
        · rw [h, uis, ujs, ups]
        · rw [uin h, ujn h, upn h]; exact c1 k' (by omega), fun t ht => by
        by_cases h : t = 4 * k + l
        · subst h; rw [uis]; exact congrArg nI upNs.symm
        · rw [uin h, c2 t (by omega)]; exact congrArg nI (upNn h).symm, f⟩
      rw [(hgo _ _ hVk hl4).2] at hrec
      rw [c, sb_t, if_neg (nI_nm1 (by omega)), nI_mul, nJ_add, nI_gin (by omega) (by omega), ogd_t, nI_nat (by omega), l1, nJ_add]
      rcases hrec with ⟨r1, r2⟩ | ⟨E', H', Tl', Nx', Sl'', w', r1, r2, r3, r4, r5⟩
      · exact .inl ⟨by simp only [iterE]; rw [hst]; exact r1, r2⟩
      · exact .inr ⟨E', H', Tl', Nx', Sl'', w', by simp only [iterE]; rw [hst]; exact r1, r2, r3, r4, by have : E.1 + 1 ≤ E'.1 := r5; omega⟩
    · have hst : stepE dl E (4 * k + l) = none := by
        unfold stepE
        rw [hdv, hmd, a]
        simp only [if_neg b]
      rw [c, sb_t, if_pos rfl]
      exact .inl ⟨by simp only [iterE]; rw [hst]; rfl, _, rfl⟩
theorem fo32_Re {n : Nat} (hn : 2048 < n) {wH : Int32} {aStates1 : Int32} {aNl1 : Nat} {aNext1 : Nat → Int32} {aLast1 : Int64} {dl : wSt → Nat → wSt} {V : wSt → Prop} (hV : ∀ x l, V x → l < 4 → V (dl x l)) (hgo : ∀ x l, V x → l < 4 → f_Re_go n x.1 x.2 (nI l) aStates1 aNl1 aNext1 aLast1 = some (dl x l).2 ∧ (dl x l).1 = wH) : ∀ d K k E H Tl Nx Sl (w : Int64), k + d = 800 → d < K → k ≤ E.1 → EI V (4 * k) E → RC H Tl Nx Sl (4 * k) E → (explE dl d k E = none ∧ ∃ r, f_Mk_follow_Re_32 n wH aStates1 aNl1 aNext1 aLast1 K (nI k) H Tl Nx Sl (nI E.1) w = some (.inl (false, r))) ∨ (∃ E' c H' Tl' Nx' Sl' w', explE dl d k E = some E' ∧ f_Mk_follow_Re_32 n wH aStates1 aNl1 aNext1 aLast1 K (nI k) H Tl Nx Sl (nI E.1) w = some (.inr (c, H', Tl', Nx', Sl', nI E'.1, w')) ∧ EI V (4 * E'.1) E' ∧ RC H' Tl' Nx' Sl' (4 * E'.1) E') := by
  intro d
  induction d with
  | zero =>
    intro K k E H Tl Nx Sl w hk hK hkW hE hR
    obtain ⟨K, rfl⟩ : ∃ j, K = j + 1 := ⟨K - 1, by omega⟩
    have h8 := hE.2.1
    have e : k = E.1 := by omega
    refine .inr ⟨E, nI k, H, Tl, Nx, Sl, _, rfl, by rw [f_Mk_follow_Re_32, l800, if_pos (by rw [nJ_le (by omega) (by omega)]; omega)], by rw [← e]; exact hE, by rw [← e]; exact hR⟩
  | succ d ih =>
    intro K k E H Tl Nx Sl w hk hK hkW hE hR
    obtain ⟨K, rfl⟩ : ∃ j, K = j + 1 := ⟨K - 1, by omega⟩
    have h8 := hE.2.1
    rw [f_Mk_follow_Re_32, l800, if_neg (by rw [nJ_le (by omega) (by omega)]; omega)]
    simp only [explE]
    by_cases hc : E.1 ≤ k
    · have e : k = E.1 := by omega
      rw [if_pos hc, if_pos (by rw [nJ_le (by omega) (by omega)]; exact hc)]
      exact .inr ⟨E, nI k, H, Tl, Nx, Sl, _, rfl, rfl, by rw [← e]; exact hE, by rw [← e]; exact hR⟩
    · rw [if_neg hc, if_neg (by rw [nJ_le (by omega) (by omega)]; exact hc)]
      rcases fo49_Re hn hV hgo (k := k) 4 n 0 E H Tl Nx Sl w (by omega) (by omega) (by omega) hE hR with ⟨r1, r, r2⟩ | ⟨E1, H1, Tl1, Nx1, Sl1, w1, r1, r2, r3, r4, r5⟩
      · refine .inl ⟨by rw [show 4 * k = 4 * k + 0 from rfl, r1]; rfl, r, ?_⟩
        rw [show (0 : Int32) = nI 0 from rfl, r2]; rfl
      · rw [show (0 : Int32) = nI 0 from rfl, r2, sb_t, el_r, l1, nJ_add]
        have hrec := ih K (k + 1) E1 H1 Tl1 Nx1 Sl1 w1 (by omega) (by omega) (by omega) (by rw [show 4 * (k + 1) = 4 * k + 4 by omega]; exact r3) (by rw [show 4 * (k + 1) = 4 * k + 4 by omega]; exact r4)
        rw [show iterE dl 4 (4 * k) E = some E1 from r1, sb_t]
        exact hrec
theorem fo_Re {n : Nat} (hn : 2048 < n) {wH : Int32} {aStates1 : Int32} {aNl1 : Nat} {aNext1 : Nat → Int32} {aLast1 : Int64} {dl : wSt → Nat → wSt} {V : wSt → Prop} (hV : ∀ x l, V x → l < 4 → V (dl x l)) (hgo : ∀ x l, V x → l < 4 → f_Re_go n x.1 x.2 (nI l) aStates1 aNl1 aNext1 aLast1 = some (dl x l).2 ∧ (dl x l).1 = wH) {x0 : wSt} (hx : V x0) (hx1 : x0.1 = wH) (hb : f_Re_begin n = some x0.2) {H : Nat → Int32} {Tl : Nat → Int64} {Nx Sl : Nat → Int32} : (explE dl 800 0 (Ei x0) = none ∧ ∃ r, f_Mk_follow_Re n H Tl Nx Sl wH aStates1 aNl1 aNext1 aLast1 = some (false, r)) ∨ (∃ E' H' Tl' Nx' Sl' w', explE dl 800 0 (Ei x0) = some E' ∧ f_Mk_follow_Re n H Tl Nx Sl wH aStates1 aNl1 aNext1 aLast1 = some (true, H', Tl', Nx', Sl', nI E'.1, w') ∧ EI V (4 * E'.1) E' ∧ RC H' Tl' Nx' Sl' (4 * E'.1) E') := by
  obtain ⟨Sl0, a1, a2⟩ := flI_c (n := n) (v := -1) (N := 2048) (by omega) (by omega) Sl
  have hnu := nu_c (n := n) (x := x0) (W := 0) (H := H) (Tl := Tl) (st := fun _ => x0) hn (by omega) (fun k hk => absurd hk (Nat.not_lt_zero _)) (hi_empty a2) (fun i j hi => absurd hi (Nat.not_lt_zero _))
  rcases hnu with ⟨j, a, b⟩ | ⟨a, b, Sl1, c, f⟩ | ⟨a, b, c⟩
  · cases a
  · have hR : RC (upd H 0 x0.1) (vp_updL Tl 0 x0.2) Nx Sl1 (4 * 0) (Ei x0) := by
      refine ⟨fun k hk => ?_, fun t ht => absurd ht (Nat.not_lt_zero _), ?_⟩
      · have hk' : k < 1 := hk
        have : k = 0 := by omega
        subst this
        show (upd H 0 x0.1 0, vp_updL Tl 0 x0.2 0) = x0
        rw [uis, ujs]
      · have : va_up (fun _ => x0) 0 x0 = fun _ => x0 := by
          funext k
          by_cases h : k = 0
          · subst h; exact ups
          · exact upn h
        rw [this] at f
        exact f
    rw [hx1] at c hR
    have hrec := fo32_Re hn hV hgo 800 n 0 (Ei x0) _ _ Nx Sl1 x0.2 (by omega) (by omega) (by show 0 ≤ 1; omega) (ei_inv hx) hR
    have pre : ∀ z, f_Mk_follow_Re_32 n wH aStates1 aNl1 aNext1 aLast1 n (nI 0) (upd H 0 wH) (vp_updL Tl 0 x0.2) Nx Sl1 (nI (Ei x0).1) x0.2 = some z → f_Mk_follow_Re n H Tl Nx Sl wH aStates1 aNl1 aNext1 aLast1 = z.elim (fun r => some r) fun x31 => some (true, x31.2.1, x31.2.2.1, x31.2.2.2.1, x31.2.2.2.2.1, x31.2.2.2.2.2.1, x31.2.2.2.2.2.2) := by
      intro z hz
      rw [f_Mk_follow_Re, a1, sb_t, hb, sb_t, show (0 : Int32) = nI 0 from rfl, c, sb_t]
      have hz' := congrArg (fun q => q.bind fun u31 => u31.elim (fun r => some r) fun x31 => some (true, x31.2.1, x31.2.2.1, x31.2.2.2.1, x31.2.2.2.2.1, x31.2.2.2.2.2.1, x31.2.2.2.2.2.2)) hz
      exact hz'
    rcases hrec with ⟨r1, r, r2⟩ | ⟨E', cc, H', Tl', Nx', Sl', w', r1, r2, r3, r4⟩
    · exact .inl ⟨r1, r, by rw [pre _ r2]; rfl⟩
    · exact .inr ⟨E', H', Tl', Nx', Sl', w', r1, by rw [pre _ r2]; rfl, r3, r4⟩
  · exact absurd (show 0 < 800 by omega) b
