/-! STAGE 2. A LANGUAGE MORE; THE CALL: not -/
theorem relL_ext {xLang : Nat → Option Nat} {T T' : auTab} {mSize mGoes mSize' mGoes' : Nat → Int32} {mLast mLast' : Nat → Bool} {N q : Nat} (hN : N < 60) (hI : ∀ i, i < N → ∃ q, xLang i = some q ∧ LangOK q T i mSize mGoes mLast) (hE : ∀ i, N ≤ i → xLang i = none) (hq : ∀ i, i < 60 → xLang i ≠ some q) (hT : ∀ z, z ≠ q → T' z = T z) (f1 : ∀ j, j ≠ N → mSize' j = mSize j) (f2 : ∀ x, x < 256 * N → mGoes' x = mGoes x) (f3 : ∀ x, x < 64 * N → mLast' x = mLast x) (hnew : LangOK q T' N mSize' mGoes' mLast') : RelL (va_up xLang N (some q)) (nI (N + 1)) T' (nI (N + 1)) mSize' mGoes' mLast' := by
  refine ⟨N + 1, by omega, rfl, rfl, fun i hi => ?_, fun i hi => by rw [upn (by omega)]; exact hE i (by omega)⟩
  by_cases hiN : i = N
  · subst hiN; exact ⟨q, ups, hnew⟩
  · obtain ⟨p, hp, S, go, fin, hwf, hC, r1, r2, r3⟩ := hI i (by omega)
    have hpq : p ≠ q := fun h => hq i (by omega) (h ▸ hp)
    have h64 := hwf.2.1
    refine ⟨p, by rw [upn hiN]; exact hp, S, go, fin, hwf, by rw [hT p hpq]; exact hC, by rw [f1 i hiN]; exact r1, fun s l hs hl => by rw [f2 _ (by omega)]; exact r2 s l hs hl, fun s hs => by rw [f3 _ (by omega)]; exact r3 s hs⟩
theorem relV_ext {xLang : Nat → Option Nat} {N q : Nat} {sA : Nat → Option Nat} {mV : Nat → Int32} (hN : N < 60) (h : RelV xLang (nI N) sA mV) : RelV (va_up xLang N (some q)) (nI (N + 1)) sA mV := by
  intro v hv
  rcases h v hv with h | ⟨i, p, h1, h2, h3, h4, h5⟩
  · exact .inl h
  · right
    rw [nJ_lt (by omega) (by omega)] at h1
    exact ⟨i, p, by rw [nJ_lt (by omega) (by omega)]; omega, h2, by rw [upn (by omega)]; exact h3, h4, h5⟩
theorem full_f {n N : Nat} {k : Int32} (hN : N < 60) : f_Mo_full n k 0 (nI N) = some (false, 0) := by
  rw [f_Mo_full, l60, if_neg (by rw [nJ_eq (by omega) (by omega)]; omega), fails_f]; rfl
theorem full_t {n : Nat} {k : Int32} (hk : k ≠ 0) : f_Mo_full n k 0 (nI 60) = some (true, k) := by
  rw [f_Mo_full, l60, if_pos rfl, fails_t hk]; rfl
theorem room_t {n N : Nat} (hN : N < 60) : f_RS_requireRoom n (nI N) = some (.inr ()) := by
  rw [f_RS_requireRoom, l60, if_pos (by rw [nJ_lt (by omega) (by omega)]; omega)]
theorem room_f {n : Nat} : f_RS_requireRoom n (nI 60) = some (.inl ("java/lang/IndexOutOfBoundsException", ())) := by
  rw [f_RS_requireRoom, l60, if_neg (by rw [nJ_lt (by omega) (by omega)]; omega)]
theorem no93 {n S i N : Nat} {go : Nat → Nat → Nat} (hwf : WF S go) (hi : i < N) (hN : N < 60) {s : Nat} (hs : s < S) : ∀ d k l (g : Nat → Int32), l + d = 4 → d < k → (∀ s l, s < S → l < 4 → g (4 * (64 * i + s) + l) = nI (go s l)) → (∀ l', l' < l → g (4 * (64 * N + s) + l') = nI (go s l')) → ∃ g', f_Mo_not_93 n (nI s) (nI N) (nI i) k (nI l) g = some (nI 4, g') ∧ (∀ l', l' < 4 → g' (4 * (64 * N + s) + l') = nI (go s l')) ∧ ∀ x, (x < 4 * (64 * N + s)) → g' x = g x := by
  have h64 := hwf.2.1
  intro d
  induction d with
  | zero =>
    intro k l g hl hk hg hg2
    obtain ⟨k, rfl⟩ : ∃ j, k = j + 1 := ⟨k - 1, by omega⟩
    have : l = 4 := by omega
    subst this
    exact ⟨g, by rw [f_Mo_not_93, l4, if_pos (by rw [nJ_le (by omega) (by omega)]; omega)], hg2, fun x _ => rfl⟩
  | succ d ih =>
    intro k l g hl hk hg hg2
    obtain ⟨k, rfl⟩ : ∃ j, k = j + 1 := ⟨k - 1, by omega⟩
    obtain ⟨g', h1, h2, h3⟩ := ih k (l + 1) (upd g (4 * (64 * N + s) + l) (nI (go s l))) (by omega) (by omega) (fun s' l' hs' hl' => by rw [uin (by omega)]; exact hg s' l' hs' hl') (fun l' hl' => by
      by_cases h : l' = l
      · subst h; exact uis
      · rw [uin (by omega)]; exact hg2 l' (by omega))
    refine ⟨g', ?_, h2, fun x hx => by rw [h3 x hx, uin (by omega)]⟩
    rw [f_Mo_not_93, l4, if_neg (by rw [nJ_le (by omega) (by omega)]; omega), go_r h64 (by omega) hg hs (by omega), sb_t]
    simp (disch := omega) only [l64, nI_mul, nJ_add, nI_gin, ogd_t, nI_nat, l1]
    exact h1
theorem no55 {n S i N : Nat} {z : Nat → Int32} {go : Nat → Nat → Nat} {fin : Nat → Bool} (hwf : WF S go) (hi : i < N) (hN : N < 60) (hz : z i = nI S) (hn : 64 < n) : ∀ d k s (g : Nat → Int32) (L : Nat → Bool), s + d = S → d < k → (∀ s l, s < S → l < 4 → g (4 * (64 * i + s) + l) = nI (go s l)) → (∀ s, s < S → L (64 * i + s) = fin s) → (∀ s' l', s' < s → l' < 4 → g (4 * (64 * N + s') + l') = nI (go s' l')) → (∀ s', s' < s → L (64 * N + s') = !fin s') → ∃ g' L', f_Mo_not_55 n (nI N) (nI i) z k (nI s) g L = some (nI S, g', L') ∧ (∀ s' l', s' < S → l' < 4 → g' (4 * (64 * N + s') + l') = nI (go s' l')) ∧ (∀ s', s' < S → L' (64 * N + s') = !fin s') ∧ (∀ x, x < 256 * N → g' x = g x) ∧ ∀ x, x < 64 * N → L' x = L x := by
  have h64 := hwf.2.1
  intro d
  induction d with
  | zero =>
    intro k s g L hs hk hg hL hg2 hL2
    obtain ⟨k, rfl⟩ : ∃ j, k = j + 1 := ⟨k - 1, by omega⟩
    have : s = S := by omega
    subst this
    exact ⟨g, L, by rw [f_Mo_not_55, nI_gin (by omega) (by omega), ogd_t, nI_nat (by omega), hz, if_pos (by rw [nJ_le (by omega) (by omega)]; omega)], hg2, hL2, fun x _ => rfl, fun x _ => rfl⟩
  | succ d ih =>
    intro k s g L hs hk hg hL hg2 hL2
    obtain ⟨k, rfl⟩ : ∃ j, k = j + 1 := ⟨k - 1, by omega⟩
    have hsS : s < S := by omega
    obtain ⟨g1, e1, e2, e3⟩ := no93 (n := n) hwf hi hN hsS 4 n 0 g (by omega) (by omega) hg (fun l' h => absurd h (Nat.not_lt_zero _))
    obtain ⟨g', L', h1, h2, h3, h4, h5⟩ := ih k (s + 1) g1 (va_up L (64 * N + s) (!fin s)) (by omega) (by omega) (fun s' l' a b => by rw [e3 _ (by omega)]; exact hg s' l' a b) (fun s' a => by rw [upn (by omega)]; exact hL s' a) (fun s' l' a b => by
        by_cases h : s' = s
        · subst h; exact e2 l' b
        · rw [e3 _ (by omega)]; exact hg2 s' l' (by omega) b) (fun s' a => by
        by_cases h : s' = s
        · subst h; exact ups
        · rw [upn (by omega)]; exact hL2 s' (by omega))
    refine ⟨g', L', ?_, h2, h3, fun x hx => by rw [h4 x hx, e3 _ (by omega)], fun x hx => by rw [h5 x hx, upn (by omega)]⟩
    rw [f_Mo_not_55, nI_gin (by omega) (by omega), ogd_t, nI_nat (by omega), hz, if_neg (by rw [nJ_le (by omega) (by omega)]; omega), il_r (by omega) hL hsS h64, sb_t]
    have e1' : f_Mo_not_93 n (nI s) (nI N) (nI i) n 0 g = some (nI 4, g1) := e1
    simp (disch := omega) only [l64, nI_mul, nJ_add, nI_gin, ogd_t, nI_nat, e1', sb_t, l1]
    cases hf : fin s
    · rw [hf] at h1
      rw [if_neg (by decide)]; exact h1
    · rw [hf] at h1
      rw [if_pos rfl]; exact h1
theorem nbits {la : Int64} {S : Nat} {fin : Nat → Bool} (h0 : 0 < S) (hS : S ≤ 64) (hla : ∀ i, i < 64 → bit la i = (decide (i < S) && fin i)) : ∀ i, i < 64 → bit ((la ^^^ (-1)) &&& (lushr (-1) (64 - nI S))) i = (decide (i < S) && !fin i) := by
  intro i hi
  rw [l64, nI_sub (by omega), bit_and, bit_xor, bit_m1 hi, lushr_bit (by omega), hla i hi]
  by_cases h : i < S
  · rw [bit_m1 (by omega)]; simp [h]
  · rw [bit_ge (by omega)]; simp [h]
theorem cl_not {n : Nat} (hn : 64 < n) {p0 : Int32} {o : Nat → Int64} {xLang T mSize mGoes mLast} {N : Nat} (hN : N ≤ 60) (hI : ∀ i, i < N → ∃ q, xLang i = some q ∧ LangOK q T i mSize mGoes mLast) (hE : ∀ i, N ≤ i → xLang i = none) : ∃ u w, f_La_not n p0 xLang (nI N) T o = some u ∧ f_Mo_not n p0 (nI N) mSize mGoes mLast = some w ∧ ((∃ (k : Int32) (m : Unit), u = .inl (k, m) ∧ k ≠ 0 ∧ w = (0, k, nI N, mSize, mGoes, mLast)) ∨ (∃ (o2 : Nat → Int64) (v : Int32 × Nat × Int64 × (Nat → Int64) × Int32), u = .inr (o2, v) ∧ w.2.1 = 0 ∧ o2 (0 : Int32).toNatClampNeg = w.1.toInt64 ∧ (∃ i, i < 60 ∧ xLang i = some v.2.1) ∧ N < 60 ∧ v.2.2.2.2 = nI (N + 1) ∧ w.2.2.1 = nI (N + 1) ∧ ∀ q aa : Nat, (∀ i, i < 60 → xLang i ≠ some q) → RelL (va_up xLang N (some q)) (nI (N + 1)) (fun z => if z = q then ((T v.2.1).1, aa, (T v.2.1).2.2.1, (T v.2.1).2.2.2.1, (T v.2.1).2.2.2.2.1, v.2.2.1, v.2.2.2.1) else T z) (nI (N + 1)) w.2.2.2.1 w.2.2.2.2.1 w.2.2.2.2.2)) := by
  by_cases h0 : 0 ≤ p0.toInt ∧ p0.toInt < N
  · obtain ⟨i, hi, rfl⟩ := idx h0.1 h0.2
    by_cases h60 : N = 60
    · subst h60
      refine ⟨.inl (2, ()), _, ?_, ?_, .inl ⟨2, (), rfl, by decide, rfl⟩⟩
      · simp only [f_La_not, f_RS_not, reqL hN, h0, and_self, if_true, sb_t, el_r, el_l, room_f]
        rfl
      · simp only [f_Mo_not, isL hN, h0, and_self, decide_true, sb_t, if_true, fails_f, full_t (show (2 : Int32) ≠ 0 by decide)]
        rfl
    · have hN6 : N < 60 := by omega
      have hi6 : i < 60 := by omega
      obtain ⟨q, hq, S, go, fin, hwf, hC, r1, r2, r3⟩ := hI i hi
      obtain ⟨a1, a2, a3, a4, a5⟩ := hC
      have h64 := hwf.2.1
      have nb := nbits hwf.1 h64 a4
      obtain ⟨ah, g1, g2⟩ := in_c (n := n) (fin := fun i => !fin i) (a := fun _ => 0) hwf a3 nb hn
      have hz : upd mSize N (nI S) i = nI S := by rw [uin (by omega)]; exact r1
      obtain ⟨g', L', m1, m2, m3, m4, m5⟩ := no55 (n := n) (fin := fin) hwf hi hN6 hz hn S n 0 mGoes mLast (by omega) (by omega) r2 r3 (fun s' l' h => absurd h (Nat.not_lt_zero _)) (fun s' h => absurd h (Nat.not_lt_zero _))
      refine ⟨.inr (vp_updL o 0 (nI N).toInt64, (nI N, q, (((T q).2.2.2.2.2.1 ^^^ (-1)) &&& (lushr (-1) (64 - nI S))), ah, nI (N + 1))), (nI N, 0, nI (N + 1), upd mSize N (nI S), g', L'), ?_, ?_, .inr ⟨_, _, rfl, rfl, rfl, ⟨i, hi6, hq⟩, hN6, rfl, rfl, fun q2 aa hq2 => ?_⟩⟩
      · simp only [f_La_not, f_RS_not, reqL hN, h0, and_self, if_true, sb_t, el_r, room_t hN6, nI_gin hi6 (by omega), ogd_t, nI_nat (show i < 2147483648 by omega), hq, oq, f_Au_opposite, a1, a2, g1, nI_gin hN6 (by omega), l1, nJ_add, nI_sub (show 1 ≤ N + 1 by omega), Nat.add_sub_cancel]
        rfl
      · simp only [f_Mo_not, isL hN, h0, and_self, decide_true, sb_t, if_true, fails_f, full_f hN6, nI_gin hi6 (by omega), nI_gin hN6 (by omega), ogd_t, nI_nat (show i < 2147483648 by omega), nI_nat (show N < 2147483648 by omega), r1]
        rw [show f_Mo_not_55 n (nI N) (nI i) (upd mSize N (nI S)) n 0 mGoes mLast = some (nI S, g', L') from m1, sb_t, l1, nJ_add]
        rfl
      · refine relL_ext hN6 hI hE hq2 (fun z hz => if_neg hz) (fun j hj => uin hj) m4 m5 ?_
        refine ⟨S, go, fun s => !fin s, hwf, ?_, uis, m2, m3⟩
        show AuC (if q2 = q2 then _ else T q2).2.2 S go _
        rw [if_pos rfl]
        exact ⟨a1, a2, a3, nb, g2⟩
  · refine ⟨.inl (1, ()), (0, 1, nI N, mSize, mGoes, mLast), ?_, ?_, .inl ⟨1, _, rfl, by decide, rfl⟩⟩
    · simp [f_La_not, f_RS_not, reqL hN, h0]
    · simp [f_Mo_not, isL hN, h0, fails_t]
theorem ok_not {n : Nat} (hn : 64 < n) : sim_not n Rel := by
  intro c T r o p0 hR
  obtain ⟨hL, hV, hB, hS⟩ := hR
  have hL' := hL
  obtain ⟨N, hN, e1, e2, hI, hE⟩ := hL'
  rw [e1] at hV
  obtain ⟨u, w, h1, h2, h3⟩ := cl_not hn (p0 := p0) (o := o) hN hI hE
  rw [← e1] at h1
  rw [← e2] at h2
  refine ⟨u, w, h1, h2, ?_⟩
  rcases h3 with ⟨k, m, a, b, d⟩ | ⟨o2, v, a, b, d, ⟨i, hi, hv⟩, hN6, e, f, g⟩
  · subst d
    refine .inl ⟨k, m, a, b, rfl, ⟨N, hN, e1, rfl, hI, hE⟩, ?_, hB, hS⟩
    show RelV c.1 c.2.1 _ _
    rw [e1]; exact hV
  · refine .inr ⟨o2, v, a, b, d, .inl ⟨i, hi, hv⟩, fun q aa hq => ?_⟩
    have hg := g q aa (fun i hi h => hq (.inl ⟨i, hi, h⟩))
    have hv2 := relV_ext (q := q) hN6 hV
    have en : c.2.1.toNatClampNeg = N := by rw [e1]; exact nI_nat (by omega)
    rw [en]
    refine ⟨?_, ?_, hB, hS⟩
    · show RelL _ v.2.2.2.2 _ w.2.2.1 _ _ _
      rw [e, f]; exact hg
    · show RelV _ v.2.2.2.2 _ _
      rw [e]; exact hv2
