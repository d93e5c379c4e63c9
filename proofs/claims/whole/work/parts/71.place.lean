/-! STAGE 2. SOLVE: the class's places -/
theorem i32_of {x : Int64} {k : Nat} (h : x.toInt = k) (hk : k < 2147483648) : x.toInt32 = nI k := by
  apply Int32.toInt.inj
  rw [nI_int hk]
  have e : x = Int64.ofInt k := by
    apply Int64.toInt.inj
    rw [h, Int64.toInt_ofInt_of_le (by omega) (by omega)]
  have e2 : x = (nI k).toInt64 := by
    apply Int64.toInt.inj
    rw [h, Int32.toInt_toInt64, nI_int hk]
  rw [e2, i32_nI, nI_int hk]
theorem ol_c {n B : Nat} {gF gL gM : Nat → Nat → Int32} {Le Mo : Nat → Int32} {A : Nat → Int64} {sh lg : Nat → Nat} (hn : 64 < n) (hG : GB B gF) (hsl : ∀ w, w < 4 → sh w < 32 ∧ lg w < 32) (hgr : ∀ b u, b < B → u ≤ 4 → (gL b u).toInt = rsL (mnF (FF gF) sh lg b) (4 - u) u ∧ (gM b u).toInt = rsL (mxF (FF gF) sh lg b) (4 - u) u) {v : Nat} (hv : v < 4) {L : Nat → Int32} {t : Nat → Nat} (hL : ∀ w, w < v → L w = nI (t w) ∧ t w < 32) : ∃ X, f_Se_openLengths n (nI v) Le Mo (nI B) A L gF gL gM = some X ∧ ∀ k, k < 64 → bit X k = (decide (k < 32) && (opF B (FF gF) (fun b => (Le b).toInt) (fun b => (Mo b).toInt) (fun w k => bit (A w) k) sh lg) v t k) := by
  have hB := hG.1
  have z0' : (0 : Int64).toInt = 0 := rfl
  have z31 : (31 : Int64).toInt = 31 := rfl
  have hop : ∀ k, (opF B (FF gF) (fun b => (Le b).toInt) (fun b => (Mo b).toInt) (fun w k => bit (A w) k) sh lg) v t k = (bit (A v) k && decide (∀ b, b < B → cnd B (FF gF) (fun b => (Le b).toInt) (fun b => (Mo b).toInt) sh lg v t b k)) := fun k => rfl
  rcases ol10 (n := n) (Le := Le) (Mo := Mo) hn hG hv hsl hL hgr B n 0 31 0 (by omega) (by omega) (by rw [z0']; omega) (by rw [z0']; omega) (by rw [z31]; omega) (by rw [z31]; omega) (fun k hk => by
    rw [z0', z31]
    exact ⟨fun _ b hb => absurd hb (Nat.not_lt_zero _), fun _ => ⟨by omega, by omega⟩⟩) with ⟨a, b⟩ | ⟨to, fr, a, f1, f2, t1, t2, hiff⟩
  · refine ⟨0, ?_, fun k hk => ?_⟩
    · rw [f_Se_openLengths, sb_t, sb_t, sb_t, show f_Se_openLengths_10 n (nI v) Le Mo (nI B) L gF gL gM n 0 31 0 = some (.inl 0) from a]; rfl
    · rw [bit_zero, hop]
      by_cases h32 : k < 32
      · rw [decide_eq_false (b k h32)]; simp
      · simp [h32]
  · have pre : f_Se_openLengths n (nI v) Le Mo (nI B) A L gF gL gM = if fr ≤ to then (f_Se_bitsBetween n fr.toInt32 to.toInt32).bind fun u101 => some (A v &&& u101) else some 0 := by
      rw [f_Se_openLengths, sb_t, sb_t, sb_t, show f_Se_openLengths_10 n (nI v) Le Mo (nI B) L gF gL gM n 0 31 0 = some (.inr (nI B, to, fr)) from a, sb_t, el_r, nI_gin (show v < 4 by omega) (by omega), ogd_t, nI_nat (by omega)]
    rw [pre]
    by_cases hle : fr ≤ to
    · rw [if_pos hle]
      rw [Int64.le_iff_toInt_le] at hle
      obtain ⟨p, hp⟩ : ∃ p : Nat, fr.toInt = p := ⟨fr.toInt.toNat, by omega⟩
      obtain ⟨q, hq⟩ : ∃ q : Nat, to.toInt = q := ⟨to.toInt.toNat, by omega⟩
      obtain ⟨X, x1, x2⟩ := bbt (n := n) (a := p) (b := q) (by omega) (by omega)
      refine ⟨A v &&& X, by rw [i32_of hp (by omega), i32_of hq (by omega), x1]; rfl, fun k hk => ?_⟩
      rw [bit_and, x2 k hk, hop]
      by_cases h32 : k < 32
      · have h := hiff k h32
        rw [hp, hq] at h
        have e : (decide (p ≤ k) && decide (k ≤ q)) = decide (∀ b, b < B → cnd B (FF gF) (fun b => (Le b).toInt) (fun b => (Mo b).toInt) sh lg v t b k) := by
          rw [← Bool.decide_and]
          apply decide_eq_decide.mpr
          rw [← h]
          constructor
          · intro ⟨h1, h2⟩; exact ⟨by omega, by omega⟩
          · intro ⟨h1, h2⟩; exact ⟨by omega, by omega⟩
        rw [e]; simp [h32]
      · have : ¬ k ≤ q := by omega
        simp [h32, this]
    · rw [if_neg hle]
      rw [Int64.le_iff_toInt_le] at hle
      refine ⟨0, rfl, fun k hk => ?_⟩
      rw [bit_zero, hop]
      by_cases h32 : k < 32
      · have h := hiff k h32
        have : ¬ ∀ b, b < B → cnd B (FF gF) (fun b => (Le b).toInt) (fun b => (Mo b).toInt) sh lg v t b k := fun hc => by
          have := h.mpr hc
          omega
        rw [decide_eq_false this]; simp
      · simp [h32]
theorem lushr0 {X : Int64} {k : Nat} (hk : k < 64) (h : lushr X (nI k) = 0) : ∀ j, k ≤ j → j < 64 → bit X j = false := by
  intro j h1 h2
  have this : bit (lushr X (nI k)) (j - k) = bit 0 (j - k) := by rw [h]
  rw [lushr_bit hk, bit_zero, show j - k + k = j by omega] at this
  exact this
theorem pl_4 {n B : Nat} {gF gL gM : Nat → Nat → Int32} {Le Mo : Nat → Int32} {A : Nat → Int64} {sh lg : Nat → Nat} (hn : 64 < n) (hG : GB B gF) (hsl : ∀ w, w < 4 → sh w < 32 ∧ lg w < 32) (hgr : ∀ b u, b < B → u ≤ 4 → (gL b u).toInt = rsL (mnF (FF gF) sh lg b) (4 - u) u ∧ (gM b u).toInt = rsL (mxF (FF gF) sh lg b) (4 - u) u) {L : Nat → Int32} {t : Nat → Nat} (hL : ∀ w, w < 4 → L w = nI (t w) ∧ t w < 32) : (Pl (opF B (FF gF) (fun b => (Le b).toInt) (fun b => (Mo b).toInt) (fun w k => bit (A w) k) sh lg) 0 4 t = none ∧ ∃ L', f_Se_place_1 n (nI 4) Le Mo (nI B) A L gF gL gM = some (false, L') ∧ ∀ w, w < 4 → L' w = L w) ∨ (∃ s L', Pl (opF B (FF gF) (fun b => (Le b).toInt) (fun b => (Mo b).toInt) (fun w k => bit (A w) k) sh lg) 0 4 t = some s ∧ f_Se_place_1 n (nI 4) Le Mo (nI B) A L gF gL gM = some (true, L') ∧ ∀ w, w < 4 → L' w = nI (s w)) := by
  refine .inr ⟨t, L, rfl, ?_, fun w hw => (hL w hw).1⟩
  rw [f_Se_place_1, l4, if_neg (by rw [nJ_lt (by omega) (by omega)]; omega)]
theorem pl_3_16 {n B : Nat} {gF gL gM : Nat → Nat → Int32} {Le Mo : Nat → Int32} {A : Nat → Int64} {sh lg : Nat → Nat} (hn : 64 < n) (hG : GB B gF) (hsl : ∀ w, w < 4 → sh w < 32 ∧ lg w < 32) (hgr : ∀ b u, b < B → u ≤ 4 → (gL b u).toInt = rsL (mnF (FF gF) sh lg b) (4 - u) u ∧ (gM b u).toInt = rsL (mxF (FF gF) sh lg b) (4 - u) u) {X : Int64} {t : Nat → Nat} (hX : ∀ k, k < 64 → bit X k = (decide (k < 32) && (opF B (FF gF) (fun b => (Le b).toInt) (fun b => (Mo b).toInt) (fun w k => bit (A w) k) sh lg) 3 t k)) (ht : ∀ w, w < 3 → t w < 32) : ∀ d K k L, k + d = 32 → d < K → (∀ w, w < 3 → L w = nI (t w)) → (fsm (fun j => if (opF B (FF gF) (fun b => (Le b).toInt) (fun b => (Mo b).toInt) (fun w k => bit (A w) k) sh lg) 3 t j = true then Pl (opF B (FF gF) (fun b => (Le b).toInt) (fun b => (Mo b).toInt) (fun w k => bit (A w) k) sh lg) 0 4 (upN t 3 j) else none) k d = none ∧ ∃ c L', f_Se_place_2_16 n X (nI 3) Le Mo (nI B) A gF gL gM K (nI k) L = some (.inr (c, L')) ∧ ∀ w, w < 3 → L' w = nI (t w)) ∨ (∃ s L', fsm (fun j => if (opF B (FF gF) (fun b => (Le b).toInt) (fun b => (Mo b).toInt) (fun w k => bit (A w) k) sh lg) 3 t j = true then Pl (opF B (FF gF) (fun b => (Le b).toInt) (fun b => (Mo b).toInt) (fun w k => bit (A w) k) sh lg) 0 4 (upN t 3 j) else none) k d = some s ∧ f_Se_place_2_16 n X (nI 3) Le Mo (nI B) A gF gL gM K (nI k) L = some (.inl (true, L')) ∧ ∀ w, w < 4 → L' w = nI (s w)) := by
  intro d
  induction d with
  | zero =>
    intro K k L hk hK hL
    obtain ⟨K, rfl⟩ : ∃ j, K = j + 1 := ⟨K - 1, by omega⟩
    exact .inl ⟨rfl, nI k, L, by rw [f_Se_place_2_16, l31, if_pos (by rw [nJ_lt (by omega) (by omega)]; omega)], hL⟩
  | succ d ih =>
    intro K k L hk hK hL
    obtain ⟨K, rfl⟩ : ∃ j, K = j + 1 := ⟨K - 1, by omega⟩
    rw [f_Se_place_2_16, l31, if_neg (by rw [nJ_lt (by omega) (by omega)]; omega)]
    by_cases h0 : lushr X (nI k) = 0
    · rw [if_pos h0]
      refine .inl ⟨fsm_none _ _ (fun j h1 h2 => if_neg ?_), nI k, L, rfl, hL⟩
      have := lushr0 (by omega) h0 j h1 (by omega)
      rw [hX j (by omega), show decide (j < 32) = true from decide_eq_true (by omega), Bool.true_and] at this
      rw [this]; decide
    · rw [if_neg h0, show nI k + 1 = nI (k + 1) from by rw [l1, nJ_add]]
      have hb : bit X k = (opF B (FF gF) (fun b => (Le b).toInt) (fun b => (Mo b).toInt) (fun w k => bit (A w) k) sh lg) 3 t k := by
        rw [hX k (by omega), show decide (k < 32) = true from decide_eq_true (by omega), Bool.true_and]
      by_cases hbit : (opF B (FF gF) (fun b => (Le b).toInt) (fun b => (Mo b).toInt) (fun w k => bit (A w) k) sh lg) 3 t k = true
      · rw [if_neg (fun h' => by
          have := (lushr1 (x := X) (show k < 64 by omega)).mp h'
          rw [hb, hbit] at this; cases this), nI_gin (by omega) (by omega), ogd_t, nI_nat (by omega), show nI 3 + 1 = nI 4 from by rw [l1, nJ_add]]
        have hL' : ∀ w, w < 4 → upd L 3 (nI k) w = nI (upN t 3 k w) ∧ upN t 3 k w < 32 := by
          intro w hw
          by_cases hwv : w = 3
          · rw [hwv, uis, upNs]; exact ⟨rfl, by omega⟩
          · rw [uin hwv, upNn hwv]; exact ⟨hL w (by omega), ht w (by omega)⟩
        rcases pl_4 (n := n) (Le := Le) (Mo := Mo) (A := A) hn hG hsl hgr (L := upd L 3 (nI k)) (t := upN t 3 k) hL' with ⟨x1, L1, x2, x3⟩ | ⟨s, L1, x1, x2, x3⟩
        · rw [x2, sb_t, if_neg (show ¬ (false, L1).1 = true from Bool.false_ne_true)]
          have hrec := ih K (k + 1) L1 (by omega) (by omega) (fun w hw => by
            rw [x3 w (by omega), uin (by omega)]; exact hL w hw)
          have e : fsm (fun j => if (opF B (FF gF) (fun b => (Le b).toInt) (fun b => (Mo b).toInt) (fun w k => bit (A w) k) sh lg) 3 t j = true then Pl (opF B (FF gF) (fun b => (Le b).toInt) (fun b => (Mo b).toInt) (fun w k => bit (A w) k) sh lg) 0 4 (upN t 3 j) else none) k (d + 1) = fsm (fun j => if (opF B (FF gF) (fun b => (Le b).toInt) (fun b => (Mo b).toInt) (fun w k => bit (A w) k) sh lg) 3 t j = true then Pl (opF B (FF gF) (fun b => (Le b).toInt) (fun b => (Mo b).toInt) (fun w k => bit (A w) k) sh lg) 0 4 (upN t 3 j) else none) (k + 1) d := by
            rw [fsm]
            simp only [hbit, if_true, x1]
          rw [e]
          exact hrec
        · rw [x2, sb_t, if_pos rfl]
          refine .inr ⟨s, L1, ?_, rfl, x3⟩
          rw [fsm]
          simp only [hbit, if_true, x1]
      · rw [if_pos ((lushr1 (x := X) (show k < 64 by omega)).mpr (by rw [hb]; simpa using hbit))]
        have hrec := ih K (k + 1) L (by omega) (by omega) hL
        have e : fsm (fun j => if (opF B (FF gF) (fun b => (Le b).toInt) (fun b => (Mo b).toInt) (fun w k => bit (A w) k) sh lg) 3 t j = true then Pl (opF B (FF gF) (fun b => (Le b).toInt) (fun b => (Mo b).toInt) (fun w k => bit (A w) k) sh lg) 0 4 (upN t 3 j) else none) k (d + 1) = fsm (fun j => if (opF B (FF gF) (fun b => (Le b).toInt) (fun b => (Mo b).toInt) (fun w k => bit (A w) k) sh lg) 3 t j = true then Pl (opF B (FF gF) (fun b => (Le b).toInt) (fun b => (Mo b).toInt) (fun w k => bit (A w) k) sh lg) 0 4 (upN t 3 j) else none) (k + 1) d := by
          rw [fsm]
          simp only [hbit, if_false]
          rfl
        rw [e]
        exact hrec
theorem pl_3 {n B : Nat} {gF gL gM : Nat → Nat → Int32} {Le Mo : Nat → Int32} {A : Nat → Int64} {sh lg : Nat → Nat} (hn : 64 < n) (hG : GB B gF) (hsl : ∀ w, w < 4 → sh w < 32 ∧ lg w < 32) (hgr : ∀ b u, b < B → u ≤ 4 → (gL b u).toInt = rsL (mnF (FF gF) sh lg b) (4 - u) u ∧ (gM b u).toInt = rsL (mxF (FF gF) sh lg b) (4 - u) u) {L : Nat → Int32} {t : Nat → Nat} (hL : ∀ w, w < 3 → L w = nI (t w) ∧ t w < 32) : (Pl (opF B (FF gF) (fun b => (Le b).toInt) (fun b => (Mo b).toInt) (fun w k => bit (A w) k) sh lg) 1 3 t = none ∧ ∃ L', f_Se_place_2 n (nI 3) Le Mo (nI B) A L gF gL gM = some (false, L') ∧ ∀ w, w < 3 → L' w = L w) ∨ (∃ s L', Pl (opF B (FF gF) (fun b => (Le b).toInt) (fun b => (Mo b).toInt) (fun w k => bit (A w) k) sh lg) 1 3 t = some s ∧ f_Se_place_2 n (nI 3) Le Mo (nI B) A L gF gL gM = some (true, L') ∧ ∀ w, w < 4 → L' w = nI (s w)) := by
  obtain ⟨X, x1, x2⟩ := ol_c (n := n) (Le := Le) (Mo := Mo) (A := A) hn hG hsl hgr (v := 3) (by omega) hL
  rw [f_Se_place_2, l4, if_pos (by rw [nJ_lt (by omega) (by omega)]; omega), x1, sb_t]
  rcases pl_3_16 (n := n) (Le := Le) (Mo := Mo) (A := A) hn hG hsl hgr x2 (fun w hw => (hL w hw).2) 32 n 0 L (by omega) (by omega) (fun w hw => (hL w hw).1) with ⟨y1, c, L', y2, y3⟩ | ⟨s, L', y1, y2, y3⟩
  · refine .inl ⟨y1, L', ?_, fun w hw => by rw [y3 w hw, (hL w hw).1]⟩
    exact congrArg (fun q => q.bind fun u17 => u17.elim (fun r => some r) fun x17 => some (false, x17.2)) y2
  · refine .inr ⟨s, L', y1, ?_, y3⟩
    exact congrArg (fun q => q.bind fun u17 => u17.elim (fun r => some r) fun x17 => some (false, x17.2)) y2
theorem pl_2_16 {n B : Nat} {gF gL gM : Nat → Nat → Int32} {Le Mo : Nat → Int32} {A : Nat → Int64} {sh lg : Nat → Nat} (hn : 64 < n) (hG : GB B gF) (hsl : ∀ w, w < 4 → sh w < 32 ∧ lg w < 32) (hgr : ∀ b u, b < B → u ≤ 4 → (gL b u).toInt = rsL (mnF (FF gF) sh lg b) (4 - u) u ∧ (gM b u).toInt = rsL (mxF (FF gF) sh lg b) (4 - u) u) {X : Int64} {t : Nat → Nat} (hX : ∀ k, k < 64 → bit X k = (decide (k < 32) && (opF B (FF gF) (fun b => (Le b).toInt) (fun b => (Mo b).toInt) (fun w k => bit (A w) k) sh lg) 2 t k)) (ht : ∀ w, w < 2 → t w < 32) : ∀ d K k L, k + d = 32 → d < K → (∀ w, w < 2 → L w = nI (t w)) → (fsm (fun j => if (opF B (FF gF) (fun b => (Le b).toInt) (fun b => (Mo b).toInt) (fun w k => bit (A w) k) sh lg) 2 t j = true then Pl (opF B (FF gF) (fun b => (Le b).toInt) (fun b => (Mo b).toInt) (fun w k => bit (A w) k) sh lg) 1 3 (upN t 2 j) else none) k d = none ∧ ∃ c L', f_Se_place_3_16 n X (nI 2) Le Mo (nI B) A gF gL gM K (nI k) L = some (.inr (c, L')) ∧ ∀ w, w < 2 → L' w = nI (t w)) ∨ (∃ s L', fsm (fun j => if (opF B (FF gF) (fun b => (Le b).toInt) (fun b => (Mo b).toInt) (fun w k => bit (A w) k) sh lg) 2 t j = true then Pl (opF B (FF gF) (fun b => (Le b).toInt) (fun b => (Mo b).toInt) (fun w k => bit (A w) k) sh lg) 1 3 (upN t 2 j) else none) k d = some s ∧ f_Se_place_3_16 n X (nI 2) Le Mo (nI B) A gF gL gM K (nI k) L = some (.inl (true, L')) ∧ ∀ w, w < 4 → L' w = nI (s w)) := by
  intro d
  induction d with
  | zero =>
    intro K k L hk hK hL
    obtain ⟨K, rfl⟩ : ∃ j, K = j + 1 := ⟨K - 1, by omega⟩
    exact .inl ⟨rfl, nI k, L, by rw [f_Se_place_3_16, l31, if_pos (by rw [nJ_lt (by omega) (by omega)]; omega)], hL⟩
  | succ d ih =>
    intro K k L hk hK hL
    obtain ⟨K, rfl⟩ : ∃ j, K = j + 1 := ⟨K - 1, by omega⟩
    rw [f_Se_place_3_16, l31, if_neg (by rw [nJ_lt (by omega) (by omega)]; omega)]
    by_cases h0 : lushr X (nI k) = 0
    · rw [if_pos h0]
      refine .inl ⟨fsm_none _ _ (fun j h1 h2 => if_neg ?_), nI k, L, rfl, hL⟩
      have := lushr0 (by omega) h0 j h1 (by omega)
      rw [hX j (by omega), show decide (j < 32) = true from decide_eq_true (by omega), Bool.true_and] at this
      rw [this]; decide
    · rw [if_neg h0, show nI k + 1 = nI (k + 1) from by rw [l1, nJ_add]]
      have hb : bit X k = (opF B (FF gF) (fun b => (Le b).toInt) (fun b => (Mo b).toInt) (fun w k => bit (A w) k) sh lg) 2 t k := by
        rw [hX k (by omega), show decide (k < 32) = true from decide_eq_true (by omega), Bool.true_and]
      by_cases hbit : (opF B (FF gF) (fun b => (Le b).toInt) (fun b => (Mo b).toInt) (fun w k => bit (A w) k) sh lg) 2 t k = true
      · rw [if_neg (fun h' => by
          have := (lushr1 (x := X) (show k < 64 by omega)).mp h'
          rw [hb, hbit] at this; cases this), nI_gin (by omega) (by omega), ogd_t, nI_nat (by omega), show nI 2 + 1 = nI 3 from by rw [l1, nJ_add]]
        have hL' : ∀ w, w < 3 → upd L 2 (nI k) w = nI (upN t 2 k w) ∧ upN t 2 k w < 32 := by
          intro w hw
          by_cases hwv : w = 2
          · rw [hwv, uis, upNs]; exact ⟨rfl, by omega⟩
          · rw [uin hwv, upNn hwv]; exact ⟨hL w (by omega), ht w (by omega)⟩
        rcases pl_3 (n := n) (Le := Le) (Mo := Mo) (A := A) hn hG hsl hgr (L := upd L 2 (nI k)) (t := upN t 2 k) hL' with ⟨x1, L1, x2, x3⟩ | ⟨s, L1, x1, x2, x3⟩
        · rw [x2, sb_t, if_neg (show ¬ (false, L1).1 = true from Bool.false_ne_true)]
          have hrec := ih K (k + 1) L1 (by omega) (by omega) (fun w hw => by
            rw [x3 w (by omega), uin (by omega)]; exact hL w hw)
          have e : fsm (fun j => if (opF B (FF gF) (fun b => (Le b).toInt) (fun b => (Mo b).toInt) (fun w k => bit (A w) k) sh lg) 2 t j = true then Pl (opF B (FF gF) (fun b => (Le b).toInt) (fun b => (Mo b).toInt) (fun w k => bit (A w) k) sh lg) 1 3 (upN t 2 j) else none) k (d + 1) = fsm (fun j => if (opF B (FF gF) (fun b => (Le b).toInt) (fun b => (Mo b).toInt) (fun w k => bit (A w) k) sh lg) 2 t j = true then Pl (opF B (FF gF) (fun b => (Le b).toInt) (fun b => (Mo b).toInt) (fun w k => bit (A w) k) sh lg) 1 3 (upN t 2 j) else none) (k + 1) d := by
            rw [fsm]
            simp only [hbit, if_true, x1]
          rw [e]
          exact hrec
        · rw [x2, sb_t, if_pos rfl]
          refine .inr ⟨s, L1, ?_, rfl, x3⟩
          rw [fsm]
          simp only [hbit, if_true, x1]
      · rw [if_pos ((lushr1 (x := X) (show k < 64 by omega)).mpr (by rw [hb]; simpa using hbit))]
        have hrec := ih K (k + 1) L (by omega) (by omega) hL
        have e : fsm (fun j => if (opF B (FF gF) (fun b => (Le b).toInt) (fun b => (Mo b).toInt) (fun w k => bit (A w) k) sh lg) 2 t j = true then Pl (opF B (FF gF) (fun b => (Le b).toInt) (fun b => (Mo b).toInt) (fun w k => bit (A w) k) sh lg) 1 3 (upN t 2 j) else none) k (d + 1) = fsm (fun j => if (opF B (FF gF) (fun b => (Le b).toInt) (fun b => (Mo b).toInt) (fun w k => bit (A w) k) sh lg) 2 t j = true then Pl (opF B (FF gF) (fun b => (Le b).toInt) (fun b => (Mo b).toInt) (fun w k => bit (A w) k) sh lg) 1 3 (upN t 2 j) else none) (k + 1) d := by
          rw [fsm]
          simp only [hbit, if_false]
          rfl
        rw [e]
        exact hrec
theorem pl_2 {n B : Nat} {gF gL gM : Nat → Nat → Int32} {Le Mo : Nat → Int32} {A : Nat → Int64} {sh lg : Nat → Nat} (hn : 64 < n) (hG : GB B gF) (hsl : ∀ w, w < 4 → sh w < 32 ∧ lg w < 32) (hgr : ∀ b u, b < B → u ≤ 4 → (gL b u).toInt = rsL (mnF (FF gF) sh lg b) (4 - u) u ∧ (gM b u).toInt = rsL (mxF (FF gF) sh lg b) (4 - u) u) {L : Nat → Int32} {t : Nat → Nat} (hL : ∀ w, w < 2 → L w = nI (t w) ∧ t w < 32) : (Pl (opF B (FF gF) (fun b => (Le b).toInt) (fun b => (Mo b).toInt) (fun w k => bit (A w) k) sh lg) 2 2 t = none ∧ ∃ L', f_Se_place_3 n (nI 2) Le Mo (nI B) A L gF gL gM = some (false, L') ∧ ∀ w, w < 2 → L' w = L w) ∨ (∃ s L', Pl (opF B (FF gF) (fun b => (Le b).toInt) (fun b => (Mo b).toInt) (fun w k => bit (A w) k) sh lg) 2 2 t = some s ∧ f_Se_place_3 n (nI 2) Le Mo (nI B) A L gF gL gM = some (true, L') ∧ ∀ w, w < 4 → L' w = nI (s w)) := by
  obtain ⟨X, x1, x2⟩ := ol_c (n := n) (Le := Le) (Mo := Mo) (A := A) hn hG hsl hgr (v := 2) (by omega) hL
  rw [f_Se_place_3, l4, if_pos (by rw [nJ_lt (by omega) (by omega)]; omega), x1, sb_t]
  rcases pl_2_16 (n := n) (Le := Le) (Mo := Mo) (A := A) hn hG hsl hgr x2 (fun w hw => (hL w hw).2) 32 n 0 L (by omega) (by omega) (fun w hw => (hL w hw).1) with ⟨y1, c, L', y2, y3⟩ | ⟨s, L', y1, y2, y3⟩
  · refine .inl ⟨y1, L', ?_, fun w hw => by rw [y3 w hw, (hL w hw).1]⟩
    exact congrArg (fun q => q.bind fun u17 => u17.elim (fun r => some r) fun x17 => some (false, x17.2)) y2
  · refine .inr ⟨s, L', y1, ?_, y3⟩
    exact congrArg (fun q => q.bind fun u17 => u17.elim (fun r => some r) fun x17 => some (false, x17.2)) y2
theorem pl_1_16 {n B : Nat} {gF gL gM : Nat → Nat → Int32} {Le Mo : Nat → Int32} {A : Nat → Int64} {sh lg : Nat → Nat} (hn : 64 < n) (hG : GB B gF) (hsl : ∀ w, w < 4 → sh w < 32 ∧ lg w < 32) (hgr : ∀ b u, b < B → u ≤ 4 → (gL b u).toInt = rsL (mnF (FF gF) sh lg b) (4 - u) u ∧ (gM b u).toInt = rsL (mxF (FF gF) sh lg b) (4 - u) u) {X : Int64} {t : Nat → Nat} (hX : ∀ k, k < 64 → bit X k = (decide (k < 32) && (opF B (FF gF) (fun b => (Le b).toInt) (fun b => (Mo b).toInt) (fun w k => bit (A w) k) sh lg) 1 t k)) (ht : ∀ w, w < 1 → t w < 32) : ∀ d K k L, k + d = 32 → d < K → (∀ w, w < 1 → L w = nI (t w)) → (fsm (fun j => if (opF B (FF gF) (fun b => (Le b).toInt) (fun b => (Mo b).toInt) (fun w k => bit (A w) k) sh lg) 1 t j = true then Pl (opF B (FF gF) (fun b => (Le b).toInt) (fun b => (Mo b).toInt) (fun w k => bit (A w) k) sh lg) 2 2 (upN t 1 j) else none) k d = none ∧ ∃ c L', f_Se_place_4_16 n X (nI 1) Le Mo (nI B) A gF gL gM K (nI k) L = some (.inr (c, L')) ∧ ∀ w, w < 1 → L' w = nI (t w)) ∨ (∃ s L', fsm (fun j => if (opF B (FF gF) (fun b => (Le b).toInt) (fun b => (Mo b).toInt) (fun w k => bit (A w) k) sh lg) 1 t j = true then Pl (opF B (FF gF) (fun b => (Le b).toInt) (fun b => (Mo b).toInt) (fun w k => bit (A w) k) sh lg) 2 2 (upN t 1 j) else none) k d = some s ∧ f_Se_place_4_16 n X (nI 1) Le Mo (nI B) A gF gL gM K (nI k) L = some (.inl (true, L')) ∧ ∀ w, w < 4 → L' w = nI (s w)) := by
  intro d
  induction d with
  | zero =>
    intro K k L hk hK hL
    obtain ⟨K, rfl⟩ : ∃ j, K = j + 1 := ⟨K - 1, by omega⟩
    exact .inl ⟨rfl, nI k, L, by rw [f_Se_place_4_16, l31, if_pos (by rw [nJ_lt (by omega) (by omega)]; omega)], hL⟩
  | succ d ih =>
    intro K k L hk hK hL
    obtain ⟨K, rfl⟩ : ∃ j, K = j + 1 := ⟨K - 1, by omega⟩
    rw [f_Se_place_4_16, l31, if_neg (by rw [nJ_lt (by omega) (by omega)]; omega)]
    by_cases h0 : lushr X (nI k) = 0
    · rw [if_pos h0]
      refine .inl ⟨fsm_none _ _ (fun j h1 h2 => if_neg ?_), nI k, L, rfl, hL⟩
      have := lushr0 (by omega) h0 j h1 (by omega)
      rw [hX j (by omega), show decide (j < 32) = true from decide_eq_true (by omega), Bool.true_and] at this
      rw [this]; decide
    · rw [if_neg h0, show nI k + 1 = nI (k + 1) from by rw [l1, nJ_add]]
      have hb : bit X k = (opF B (FF gF) (fun b => (Le b).toInt) (fun b => (Mo b).toInt) (fun w k => bit (A w) k) sh lg) 1 t k := by
        rw [hX k (by omega), show decide (k < 32) = true from decide_eq_true (by omega), Bool.true_and]
      by_cases hbit : (opF B (FF gF) (fun b => (Le b).toInt) (fun b => (Mo b).toInt) (fun w k => bit (A w) k) sh lg) 1 t k = true
      · rw [if_neg (fun h' => by
          have := (lushr1 (x := X) (show k < 64 by omega)).mp h'
          rw [hb, hbit] at this; cases this), nI_gin (by omega) (by omega), ogd_t, nI_nat (by omega), show nI 1 + 1 = nI 2 from by rw [l1, nJ_add]]
        have hL' : ∀ w, w < 2 → upd L 1 (nI k) w = nI (upN t 1 k w) ∧ upN t 1 k w < 32 := by
          intro w hw
          by_cases hwv : w = 1
          · rw [hwv, uis, upNs]; exact ⟨rfl, by omega⟩
          · rw [uin hwv, upNn hwv]; exact ⟨hL w (by omega), ht w (by omega)⟩
        rcases pl_2 (n := n) (Le := Le) (Mo := Mo) (A := A) hn hG hsl hgr (L := upd L 1 (nI k)) (t := upN t 1 k) hL' with ⟨x1, L1, x2, x3⟩ | ⟨s, L1, x1, x2, x3⟩
        · rw [x2, sb_t, if_neg (show ¬ (false, L1).1 = true from Bool.false_ne_true)]
          have hrec := ih K (k + 1) L1 (by omega) (by omega) (fun w hw => by
            rw [x3 w (by omega), uin (by omega)]; exact hL w hw)
          have e : fsm (fun j => if (opF B (FF gF) (fun b => (Le b).toInt) (fun b => (Mo b).toInt) (fun w k => bit (A w) k) sh lg) 1 t j = true then Pl (opF B (FF gF) (fun b => (Le b).toInt) (fun b => (Mo b).toInt) (fun w k => bit (A w) k) sh lg) 2 2 (upN t 1 j) else none) k (d + 1) = fsm (fun j => if (opF B (FF gF) (fun b => (Le b).toInt) (fun b => (Mo b).toInt) (fun w k => bit (A w) k) sh lg) 1 t j = true then Pl (opF B (FF gF) (fun b => (Le b).toInt) (fun b => (Mo b).toInt) (fun w k => bit (A w) k) sh lg) 2 2 (upN t 1 j) else none) (k + 1) d := by
            rw [fsm]
            simp only [hbit, if_true, x1]
          rw [e]
          exact hrec
        · rw [x2, sb_t, if_pos rfl]
          refine .inr ⟨s, L1, ?_, rfl, x3⟩
          rw [fsm]
          simp only [hbit, if_true, x1]
      · rw [if_pos ((lushr1 (x := X) (show k < 64 by omega)).mpr (by rw [hb]; simpa using hbit))]
        have hrec := ih K (k + 1) L (by omega) (by omega) hL
        have e : fsm (fun j => if (opF B (FF gF) (fun b => (Le b).toInt) (fun b => (Mo b).toInt) (fun w k => bit (A w) k) sh lg) 1 t j = true then Pl (opF B (FF gF) (fun b => (Le b).toInt) (fun b => (Mo b).toInt) (fun w k => bit (A w) k) sh lg) 2 2 (upN t 1 j) else none) k (d + 1) = fsm (fun j => if (opF B (FF gF) (fun b => (Le b).toInt) (fun b => (Mo b).toInt) (fun w k => bit (A w) k) sh lg) 1 t j = true then Pl (opF B (FF gF) (fun b => (Le b).toInt) (fun b => (Mo b).toInt) (fun w k => bit (A w) k) sh lg) 2 2 (upN t 1 j) else none) (k + 1) d := by
          rw [fsm]
          simp only [hbit, if_false]
          rfl
        rw [e]
        exact hrec
theorem pl_1 {n B : Nat} {gF gL gM : Nat → Nat → Int32} {Le Mo : Nat → Int32} {A : Nat → Int64} {sh lg : Nat → Nat} (hn : 64 < n) (hG : GB B gF) (hsl : ∀ w, w < 4 → sh w < 32 ∧ lg w < 32) (hgr : ∀ b u, b < B → u ≤ 4 → (gL b u).toInt = rsL (mnF (FF gF) sh lg b) (4 - u) u ∧ (gM b u).toInt = rsL (mxF (FF gF) sh lg b) (4 - u) u) {L : Nat → Int32} {t : Nat → Nat} (hL : ∀ w, w < 1 → L w = nI (t w) ∧ t w < 32) : (Pl (opF B (FF gF) (fun b => (Le b).toInt) (fun b => (Mo b).toInt) (fun w k => bit (A w) k) sh lg) 3 1 t = none ∧ ∃ L', f_Se_place_4 n (nI 1) Le Mo (nI B) A L gF gL gM = some (false, L') ∧ ∀ w, w < 1 → L' w = L w) ∨ (∃ s L', Pl (opF B (FF gF) (fun b => (Le b).toInt) (fun b => (Mo b).toInt) (fun w k => bit (A w) k) sh lg) 3 1 t = some s ∧ f_Se_place_4 n (nI 1) Le Mo (nI B) A L gF gL gM = some (true, L') ∧ ∀ w, w < 4 → L' w = nI (s w)) := by
  obtain ⟨X, x1, x2⟩ := ol_c (n := n) (Le := Le) (Mo := Mo) (A := A) hn hG hsl hgr (v := 1) (by omega) hL
  rw [f_Se_place_4, l4, if_pos (by rw [nJ_lt (by omega) (by omega)]; omega), x1, sb_t]
  rcases pl_1_16 (n := n) (Le := Le) (Mo := Mo) (A := A) hn hG hsl hgr x2 (fun w hw => (hL w hw).2) 32 n 0 L (by omega) (by omega) (fun w hw => (hL w hw).1) with ⟨y1, c, L', y2, y3⟩ | ⟨s, L', y1, y2, y3⟩
  · refine .inl ⟨y1, L', ?_, fun w hw => by rw [y3 w hw, (hL w hw).1]⟩
    exact congrArg (fun q => q.bind fun u17 => u17.elim (fun r => some r) fun x17 => some (false, x17.2)) y2
  · refine .inr ⟨s, L', y1, ?_, y3⟩
    exact congrArg (fun q => q.bind fun u17 => u17.elim (fun r => some r) fun x17 => some (false, x17.2)) y2
theorem pl_0_16 {n B : Nat} {gF gL gM : Nat → Nat → Int32} {Le Mo : Nat → Int32} {A : Nat → Int64} {sh lg : Nat → Nat} (hn : 64 < n) (hG : GB B gF) (hsl : ∀ w, w < 4 → sh w < 32 ∧ lg w < 32) (hgr : ∀ b u, b < B → u ≤ 4 → (gL b u).toInt = rsL (mnF (FF gF) sh lg b) (4 - u) u ∧ (gM b u).toInt = rsL (mxF (FF gF) sh lg b) (4 - u) u) {X : Int64} {t : Nat → Nat} (hX : ∀ k, k < 64 → bit X k = (decide (k < 32) && (opF B (FF gF) (fun b => (Le b).toInt) (fun b => (Mo b).toInt) (fun w k => bit (A w) k) sh lg) 0 t k)) (ht : ∀ w, w < 0 → t w < 32) : ∀ d K k L, k + d = 32 → d < K → (∀ w, w < 0 → L w = nI (t w)) → (fsm (fun j => if (opF B (FF gF) (fun b => (Le b).toInt) (fun b => (Mo b).toInt) (fun w k => bit (A w) k) sh lg) 0 t j = true then Pl (opF B (FF gF) (fun b => (Le b).toInt) (fun b => (Mo b).toInt) (fun w k => bit (A w) k) sh lg) 3 1 (upN t 0 j) else none) k d = none ∧ ∃ c L', f_Se_place_5_16 n X (nI 0) Le Mo (nI B) A gF gL gM K (nI k) L = some (.inr (c, L')) ∧ ∀ w, w < 0 → L' w = nI (t w)) ∨ (∃ s L', fsm (fun j => if (opF B (FF gF) (fun b => (Le b).toInt) (fun b => (Mo b).toInt) (fun w k => bit (A w) k) sh lg) 0 t j = true then Pl (opF B (FF gF) (fun b => (Le b).toInt) (fun b => (Mo b).toInt) (fun w k => bit (A w) k) sh lg) 3 1 (upN t 0 j) else none) k d = some s ∧ f_Se_place_5_16 n X (nI 0) Le Mo (nI B) A gF gL gM K (nI k) L = some (.inl (true, L')) ∧ ∀ w, w < 4 → L' w = nI (s w)) := by
  intro d
  induction d with
  | zero =>
    intro K k L hk hK hL
    obtain ⟨K, rfl⟩ : ∃ j, K = j + 1 := ⟨K - 1, by omega⟩
    exact .inl ⟨rfl, nI k, L, by rw [f_Se_place_5_16, l31, if_pos (by rw [nJ_lt (by omega) (by omega)]; omega)], hL⟩
  | succ d ih =>
    intro K k L hk hK hL
    obtain ⟨K, rfl⟩ : ∃ j, K = j + 1 := ⟨K - 1, by omega⟩
    rw [f_Se_place_5_16, l31, if_neg (by rw [nJ_lt (by omega) (by omega)]; omega)]
    by_cases h0 : lushr X (nI k) = 0
    · rw [if_pos h0]
      refine .inl ⟨fsm_none _ _ (fun j h1 h2 => if_neg ?_), nI k, L, rfl, hL⟩
      have := lushr0 (by omega) h0 j h1 (by omega)
      rw [hX j (by omega), show decide (j < 32) = true from decide_eq_true (by omega), Bool.true_and] at this
      rw [this]; decide
    · rw [if_neg h0, show nI k + 1 = nI (k + 1) from by rw [l1, nJ_add]]
      have hb : bit X k = (opF B (FF gF) (fun b => (Le b).toInt) (fun b => (Mo b).toInt) (fun w k => bit (A w) k) sh lg) 0 t k := by
        rw [hX k (by omega), show decide (k < 32) = true from decide_eq_true (by omega), Bool.true_and]
      by_cases hbit : (opF B (FF gF) (fun b => (Le b).toInt) (fun b => (Mo b).toInt) (fun w k => bit (A w) k) sh lg) 0 t k = true
      · rw [if_neg (fun h' => by
          have := (lushr1 (x := X) (show k < 64 by omega)).mp h'
          rw [hb, hbit] at this; cases this), nI_gin (by omega) (by omega), ogd_t, nI_nat (by omega), show nI 0 + 1 = nI 1 from by rw [l1, nJ_add]]
        have hL' : ∀ w, w < 1 → upd L 0 (nI k) w = nI (upN t 0 k w) ∧ upN t 0 k w < 32 := by
          intro w hw
          by_cases hwv : w = 0
          · rw [hwv, uis, upNs]; exact ⟨rfl, by omega⟩
          · rw [uin hwv, upNn hwv]; exact ⟨hL w (by omega), ht w (by omega)⟩
        rcases pl_1 (n := n) (Le := Le) (Mo := Mo) (A := A) hn hG hsl hgr (L := upd L 0 (nI k)) (t := upN t 0 k) hL' with ⟨x1, L1, x2, x3⟩ | ⟨s, L1, x1, x2, x3⟩
        · rw [x2, sb_t, if_neg (show ¬ (false, L1).1 = true from Bool.false_ne_true)]
          have hrec := ih K (k + 1) L1 (by omega) (by omega) (fun w hw => by
            rw [x3 w (by omega), uin (by omega)]; exact hL w hw)
          have e : fsm (fun j => if (opF B (FF gF) (fun b => (Le b).toInt) (fun b => (Mo b).toInt) (fun w k => bit (A w) k) sh lg) 0 t j = true then Pl (opF B (FF gF) (fun b => (Le b).toInt) (fun b => (Mo b).toInt) (fun w k => bit (A w) k) sh lg) 3 1 (upN t 0 j) else none) k (d + 1) = fsm (fun j => if (opF B (FF gF) (fun b => (Le b).toInt) (fun b => (Mo b).toInt) (fun w k => bit (A w) k) sh lg) 0 t j = true then Pl (opF B (FF gF) (fun b => (Le b).toInt) (fun b => (Mo b).toInt) (fun w k => bit (A w) k) sh lg) 3 1 (upN t 0 j) else none) (k + 1) d := by
            rw [fsm]
            simp only [hbit, if_true, x1]
          rw [e]
          exact hrec
        · rw [x2, sb_t, if_pos rfl]
          refine .inr ⟨s, L1, ?_, rfl, x3⟩
          rw [fsm]
          simp only [hbit, if_true, x1]
      · rw [if_pos ((lushr1 (x := X) (show k < 64 by omega)).mpr (by rw [hb]; simpa using hbit))]
        have hrec := ih K (k + 1) L (by omega) (by omega) hL
        have e : fsm (fun j => if (opF B (FF gF) (fun b => (Le b).toInt) (fun b => (Mo b).toInt) (fun w k => bit (A w) k) sh lg) 0 t j = true then Pl (opF B (FF gF) (fun b => (Le b).toInt) (fun b => (Mo b).toInt) (fun w k => bit (A w) k) sh lg) 3 1 (upN t 0 j) else none) k (d + 1) = fsm (fun j => if (opF B (FF gF) (fun b => (Le b).toInt) (fun b => (Mo b).toInt) (fun w k => bit (A w) k) sh lg) 0 t j = true then Pl (opF B (FF gF) (fun b => (Le b).toInt) (fun b => (Mo b).toInt) (fun w k => bit (A w) k) sh lg) 3 1 (upN t 0 j) else none) (k + 1) d := by
          rw [fsm]
          simp only [hbit, if_false]
          rfl
        rw [e]
        exact hrec
theorem pl_0 {n B : Nat} {gF gL gM : Nat → Nat → Int32} {Le Mo : Nat → Int32} {A : Nat → Int64} {sh lg : Nat → Nat} (hn : 64 < n) (hG : GB B gF) (hsl : ∀ w, w < 4 → sh w < 32 ∧ lg w < 32) (hgr : ∀ b u, b < B → u ≤ 4 → (gL b u).toInt = rsL (mnF (FF gF) sh lg b) (4 - u) u ∧ (gM b u).toInt = rsL (mxF (FF gF) sh lg b) (4 - u) u) {L : Nat → Int32} {t : Nat → Nat} (hL : ∀ w, w < 0 → L w = nI (t w) ∧ t w < 32) : (Pl (opF B (FF gF) (fun b => (Le b).toInt) (fun b => (Mo b).toInt) (fun w k => bit (A w) k) sh lg) 4 0 t = none ∧ ∃ L', f_Se_place_5 n (nI 0) Le Mo (nI B) A L gF gL gM = some (false, L') ∧ ∀ w, w < 0 → L' w = L w) ∨ (∃ s L', Pl (opF B (FF gF) (fun b => (Le b).toInt) (fun b => (Mo b).toInt) (fun w k => bit (A w) k) sh lg) 4 0 t = some s ∧ f_Se_place_5 n (nI 0) Le Mo (nI B) A L gF gL gM = some (true, L') ∧ ∀ w, w < 4 → L' w = nI (s w)) := by
  obtain ⟨X, x1, x2⟩ := ol_c (n := n) (Le := Le) (Mo := Mo) (A := A) hn hG hsl hgr (v := 0) (by omega) hL
  rw [f_Se_place_5, l4, if_pos (by rw [nJ_lt (by omega) (by omega)]; omega), x1, sb_t]
  rcases pl_0_16 (n := n) (Le := Le) (Mo := Mo) (A := A) hn hG hsl hgr x2 (fun w hw => (hL w hw).2) 32 n 0 L (by omega) (by omega) (fun w hw => (hL w hw).1) with ⟨y1, c, L', y2, y3⟩ | ⟨s, L', y1, y2, y3⟩
  · refine .inl ⟨y1, L', ?_, fun w hw => by rw [y3 w hw, (hL w hw).1]⟩
    exact congrArg (fun q => q.bind fun u17 => u17.elim (fun r => some r) fun x17 => some (false, x17.2)) y2
  · refine .inr ⟨s, L', y1, ?_, y3⟩
    exact congrArg (fun q => q.bind fun u17 => u17.elim (fun r => some r) fun x17 => some (false, x17.2)) y2
