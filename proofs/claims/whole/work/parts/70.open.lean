/-! STAGE 2. SOLVE: the class's open lengths and places -/
theorem ile {a : Int} {n : Nat} {f : Int} (hf : 0 < f) : (-((-a) / f) ≤ (n : Int)) ↔ a ≤ f * n := by
  constructor
  · intro h
    have : -(n : Int) ≤ (-a) / f := by omega
    have h2 := (Int.le_ediv_iff_mul_le hf).mp this
    have h3 : -(n : Int) * f = -(f * n) := by rw [Int.neg_mul, Int.mul_comm]
    omega
  · intro h
    have h3 : -(n : Int) * f = -(f * n) := by rw [Int.neg_mul, Int.mul_comm]
    have : -(n : Int) ≤ (-a) / f := (Int.le_ediv_iff_mul_le hf).mpr (by omega)
    omega
theorem iup {a : Int} {n : Nat} {f : Int} (hf : 0 < f) : ((n : Int) ≤ a / f) ↔ f * n ≤ a := by
  rw [Int.le_ediv_iff_mul_le hf, Int.mul_comm]
theorem dbnd {x f : Int} (hf : 0 < f) (h1 : -4611686018427387904 ≤ x) (h2 : x ≤ 4611686018427387904) : -4611686018427387904 ≤ x / f ∧ x / f ≤ 4611686018427387904 := by
  constructor
  · have : -4611686018427387904 * f ≤ x := by
      have : (-4611686018427387904 : Int) * f ≤ -4611686018427387904 * 1 := Int.mul_le_mul_of_nonpos_left (by omega) (by omega)
      omega
    exact (Int.le_ediv_iff_mul_le hf).mpr this
  · by_cases h : 0 ≤ x
    · have := Int.ediv_le_self (a := x) f h
      omega
    · have := Int.ediv_neg_of_neg_of_pos (show x < 0 by omega) hf
      omega
abbrev cnd (B : Nat) (F : Nat → Nat → Int) (Lo Hi : Nat → Int) (sh lg : Nat → Nat) (v : Nat) (t : Nat → Nat) (b n : Nat) : Prop := Lo b ≤ sm (fun w => F b w * t w) v + F b v * n + rsL (mxF F sh lg b) (3 - v) (v + 1) ∧ sm (fun w => F b w * t w) v + F b v * n + rsL (mnF F sh lg b) (3 - v) (v + 1) ≤ Hi b
theorem ol10 {n B v : Nat} {gF gL gM : Nat → Nat → Int32} {Le Mo L : Nat → Int32} {t sh lg : Nat → Nat} (hn : 64 < n) (hG : GB B gF) (hv : v < 4) (hsl : ∀ w, w < 4 → sh w < 32 ∧ lg w < 32) (hL : ∀ w, w < v → L w = nI (t w) ∧ t w < 32) (hgr : ∀ b u, b < B → u ≤ 4 → (gL b u).toInt = rsL (mnF (FF gF) sh lg b) (4 - u) u ∧ (gM b u).toInt = rsL (mxF (FF gF) sh lg b) (4 - u) u) : ∀ d K i (to fr : Int64), i + d = B → d < K → 0 ≤ fr.toInt → fr.toInt ≤ 4611686018427387904 → to.toInt ≤ 31 → -4611686018427387904 ≤ to.toInt → (∀ k : Nat, k < 32 → ((fr.toInt ≤ k ∧ (k : Int) ≤ to.toInt) ↔ ∀ b, b < i → cnd B (FF gF) (fun b => (Le b).toInt) (fun b => (Mo b).toInt) sh lg v t b k)) → (f_Se_openLengths_10 n (nI v) Le Mo (nI B) L gF gL gM K (nI i) to fr = some (.inl 0) ∧ ∀ k : Nat, k < 32 → ¬ ∀ b, b < B → cnd B (FF gF) (fun b => (Le b).toInt) (fun b => (Mo b).toInt) sh lg v t b k) ∨ (∃ to' fr' : Int64, f_Se_openLengths_10 n (nI v) Le Mo (nI B) L gF gL gM K (nI i) to fr = some (.inr (nI B, to', fr')) ∧ 0 ≤ fr'.toInt ∧ fr'.toInt ≤ 4611686018427387904 ∧ to'.toInt ≤ 31 ∧ -4611686018427387904 ≤ to'.toInt ∧ ∀ k : Nat, k < 32 → ((fr'.toInt ≤ k ∧ (k : Int) ≤ to'.toInt) ↔ ∀ b, b < B → cnd B (FF gF) (fun b => (Le b).toInt) (fun b => (Mo b).toInt) sh lg v t b k)) := by
  have hB := hG.1
  have hall : ∀ b w, b < B → w < 4 → (-3100 ≤ mnF (FF gF) sh lg b w ∧ mnF (FF gF) sh lg b w ≤ 3100) ∧ (-3100 ≤ mxF (FF gF) sh lg b w ∧ mxF (FF gF) sh lg b w ≤ 3100) := by
    intro b w hb hw
    have hf' := hG.2 b w hb hw
    have q := hsl w hw
    have c1 := bnd (f := FF gF b w) (t := (sh w : Int)) hf'.1 hf'.2 (by omega) (by omega)
    have c2 := bnd (f := FF gF b w) (t := (lg w : Int)) hf'.1 hf'.2 (by omega) (by omega)
    unfold mnF mxF
    constructor <;> split <;> assumption
  intro d
  induction d with
  | zero =>
    intro K i to fr hi hK f1 f2 t1 t2 hinv
    obtain ⟨K, rfl⟩ : ∃ j, K = j + 1 := ⟨K - 1, by omega⟩
    have : i = B := by omega
    subst this
    exact .inr ⟨to, fr, by rw [f_Se_openLengths_10, if_pos (by rw [nJ_le (by omega) (by omega)]; omega)], f1, f2, t1, t2, hinv⟩
  | succ d ih =>
    intro K i to fr hi hK f1 f2 t1 t2 hinv
    obtain ⟨K, rfl⟩ : ∃ j, K = j + 1 := ⟨K - 1, by omega⟩
    have hiB : i < B := by omega
    obtain ⟨s, sA, sE⟩ := sbf_c (n := n) hn hG hiB (show v ≤ 4 by omega) hL
    have hsb := sm_bnd (f := fun w => FF gF i w * t w) v (fun w hw => by
      have h1 := hG.2 i w hiB (by omega)
      have h2 := hL w hw
      exact bnd h1.1 h1.2 (by omega) (by omega))
    have hg := hgr i (v + 1) hiB (by omega)
    have e3 : 4 - (v + 1) = 3 - v := by omega
    rw [e3] at hg
    have r1 := rs_bnd (f := mnF (FF gF) sh lg i) (3 - v) (v + 1) (fun w p q => (hall i w hiB (by omega)).1)
    have r2 := rs_bnd (f := mxF (FF gF) sh lg i) (3 - v) (v + 1) (fun w p q => (hall i w hiB (by omega)).2)
    have hf := hG.2 i v hiB hv
    have q1 := (Le i).le_toInt
    have q2 := (Le i).toInt_lt
    have q3 := (Mo i).le_toInt
    have q4 := (Mo i).toInt_lt
    generalize hX : sm (fun w => FF gF i w * t w) v = X at *
    generalize hM : rsL (mxF (FF gF) sh lg i) (3 - v) (v + 1) = M at *
    generalize hN : rsL (mnF (FF gF) sh lg i) (3 - v) (v + 1) = N at *
    have hvi : (v : Int) ≤ 3 := by omega
    have h3v : ((3 - v : Nat) : Int) ≤ 3 := by omega
    generalize hlo : ((Le i).toInt64 - s.toInt64) - (gM i (v + 1)).toInt64 = lo at *
    generalize hup : ((Mo i).toInt64 - s.toInt64) - (gL i (v + 1)).toInt64 = up at *
    have elo : lo.toInt = (Le i).toInt - X - M := by
      have a1 : ((Le i).toInt64 - s.toInt64).toInt = (Le i).toInt - X := by
        rw [sub64 (by rw [Int32.toInt_toInt64, Int32.toInt_toInt64, sE]; omega) (by rw [Int32.toInt_toInt64, Int32.toInt_toInt64, sE]; omega), Int32.toInt_toInt64, Int32.toInt_toInt64, sE]
      rw [← hlo, sub64 (by rw [a1, Int32.toInt_toInt64, hg.2]; omega) (by rw [a1, Int32.toInt_toInt64, hg.2]; omega), a1, Int32.toInt_toInt64, hg.2]
    have eup : up.toInt = (Mo i).toInt - X - N := by
      have a1 : ((Mo i).toInt64 - s.toInt64).toInt = (Mo i).toInt - X := by
        rw [sub64 (by rw [Int32.toInt_toInt64, Int32.toInt_toInt64, sE]; omega) (by rw [Int32.toInt_toInt64, Int32.toInt_toInt64, sE]; omega), Int32.toInt_toInt64, Int32.toInt_toInt64, sE]
      rw [← hup, sub64 (by rw [a1, Int32.toInt_toInt64, hg.1]; omega) (by rw [a1, Int32.toInt_toInt64, hg.1]; omega), a1, Int32.toInt_toInt64, hg.1]
    have lob : -4611686018427387904 ≤ lo.toInt ∧ lo.toInt ≤ 4611686018427387904 := by omega
    have upb : -4611686018427387904 ≤ up.toInt ∧ up.toInt ≤ 4611686018427387904 := by omega
    have hcnd : ∀ k : Nat, cnd B (FF gF) (fun b => (Le b).toInt) (fun b => (Mo b).toInt) sh lg v t i k ↔ lo.toInt ≤ FF gF i v * k ∧ FF gF i v * k ≤ up.toInt := by
      intro k
      unfold cnd
      rw [hX, hM, hN, elo, eup]
      show (Le i).toInt ≤ X + FF gF i v * k + M ∧ X + FF gF i v * k + N ≤ (Mo i).toInt ↔ _
      constructor
      · intro h; constructor <;> omega
      · intro h; constructor <;> omega
    have step : ∀ (to' fr' : Int64), 0 ≤ fr'.toInt → fr'.toInt ≤ 4611686018427387904 → to'.toInt ≤ 31 → -4611686018427387904 ≤ to'.toInt → (∀ k : Nat, k < 32 → ((fr'.toInt ≤ k ∧ (k : Int) ≤ to'.toInt) ↔ (fr.toInt ≤ k ∧ (k : Int) ≤ to.toInt) ∧ lo.toInt ≤ FF gF i v * k ∧ FF gF i v * k ≤ up.toInt)) → ∀ k : Nat, k < 32 → ((fr'.toInt ≤ k ∧ (k : Int) ≤ to'.toInt) ↔ ∀ b, b < i + 1 → cnd B (FF gF) (fun b => (Le b).toInt) (fun b => (Mo b).toInt) sh lg v t b k) := by
      intro to' fr' _ _ _ _ h k hk
      rw [h k hk, hinv k hk, ← hcnd k]
      constructor
      · intro ⟨h1, h2⟩ b hb
        by_cases hbi : b = i
        · rw [hbi]; exact h2
        · exact h1 b (by omega)
      · intro h1
        exact ⟨fun b hb => h1 b (by omega), h1 i (by omega)⟩
    have z64 : (0 : Int64).toInt = 0 := rfl
    rw [f_Se_openLengths_10, if_neg (by rw [nJ_le (by omega) (by omega)]; omega), sA, sb_t, sb_t, nI_gin (by omega) (by omega), ogd_t, ogd_t, show nI v + 1 = nI (v + 1) from by rw [l1, nJ_add], nI_gin (show v + 1 < 5 by omega) (by omega), ogd_t, sb_t, ogd_t, ogd_t, ogd_t, sb_t, ogd_t, nI_gin (show v < 4 by omega) (by omega), ogd_t, sb_t, nI_nat (show i < 2147483648 by omega), nI_nat (show v + 1 < 2147483648 by omega), nI_nat (show v < 2147483648 by omega), hlo, hup, show nI i + 1 = nI (i + 1) from by rw [l1, nJ_add]]
    rcases Int.lt_trichotomy (FF gF i v) 0 with hneg | hzero | hpos
    · have hne : ¬ gF i v = 0 := by
        intro e
        unfold FF at hneg
        rw [e, i0] at hneg
        omega
      have hle : gF i v ≤ 0 := by rw [Int32.le_iff_toInt_le, i0]; unfold FF at hneg; omega
      have hnle : ¬ 0 ≤ gF i v := by rw [Int32.le_iff_toInt_le, i0]; unfold FF at hneg; omega
      rw [if_neg hne, if_pos hle, if_neg hnle]
      have en : ((-(gF i v)).toInt64).toInt = -(FF gF i v) := by
        rw [Int32.toInt_toInt64, neg32 (by unfold FF at hf; omega)]; rfl
      have hp : 0 < ((-(gF i v)).toInt64).toInt := by rw [en]; omega
      have enu := neg64 (x := up) (by omega) (by omega)
      have enl := neg64 (x := lo) (by omega) (by omega)
      obtain ⟨c1, c2, c3⟩ := qab (n := n) (x := -up) hp (by rw [enu]; omega) (by rw [enu]; omega)
      obtain ⟨d1, d2, d3⟩ := fdv (n := n) (x := -lo) hp
      rw [enu, en] at c3
      rw [enl, en] at d3
      have bd1 := dbnd (x := - -up.toInt) (f := -(FF gF i v)) (by omega) (by omega) (by omega)
      have bd2 := dbnd (x := -lo.toInt) (f := -(FF gF i v)) (by omega) (by omega) (by omega)
      rw [c2, sb_t, sb_t, d2, sb_t, sb_t]
      have x1 : ∀ k : Nat, (-(- -up.toInt / -(FF gF i v)) ≤ (k : Int)) ↔ FF gF i v * k ≤ up.toInt := by
        intro k
        rw [ile (by omega)]
        have : -(FF gF i v) * (k : Int) = -(FF gF i v * k) := Int.neg_mul _ _
        omega
      have x2 : ∀ k : Nat, ((k : Int) ≤ -lo.toInt / -(FF gF i v)) ↔ lo.toInt ≤ FF gF i v * k := by
        intro k
        rw [iup (by omega)]
        have : -(FF gF i v) * (k : Int) = -(FF gF i v * k) := Int.neg_mul _ _
        omega
      generalize hfr : (if c1 < fr then fr else c1) = fr' at *
      generalize hto : (if d1 < to then d1 else to) = to' at *
      have efr : fr'.toInt = if c1.toInt < fr.toInt then fr.toInt else c1.toInt := by
        rw [← hfr]
        by_cases h : c1 < fr
        · rw [if_pos h, if_pos (Int64.lt_iff_toInt_lt.mp h)]
        · rw [if_neg h, if_neg (fun h' => h (Int64.lt_iff_toInt_lt.mpr h'))]
      have eto : to'.toInt = if d1.toInt < to.toInt then d1.toInt else to.toInt := by
        rw [← hto]
        by_cases h : d1 < to
        · rw [if_pos h, if_pos (Int64.lt_iff_toInt_lt.mp h)]
        · rw [if_neg h, if_neg (fun h' => h (Int64.lt_iff_toInt_lt.mpr h'))]
      have g1 : 0 ≤ fr'.toInt := by rw [efr]; split <;> omega
      have g2 : fr'.toInt ≤ 4611686018427387904 := by rw [efr]; split <;> omega
      have g3 : to'.toInt ≤ 31 := by rw [eto]; split <;> omega
      have g4 : -4611686018427387904 ≤ to'.toInt := by rw [eto]; split <;> omega
      refine ih K (i + 1) to' fr' (by omega) (by omega) g1 g2 g3 g4 (step to' fr' g1 g2 g3 g4 (fun k hk => ?_))
      rw [← x1 k, ← x2 k, ← c3, ← d3, efr, eto]
      constructor
      · intro h
        split at h <;> split at h <;> omega
      · intro h
        split <;> split <;> omega
    · have he : gF i v = 0 := by
        apply Int32.toInt.inj
        exact hzero
      rw [if_pos he]
      have hk0 : ∀ k : Nat, FF gF i v * k = 0 := fun k => by rw [hzero, Int.zero_mul]
      by_cases hl : 0 < lo
      · rw [if_pos hl]
        rw [Int64.lt_iff_toInt_lt, z64] at hl
        refine .inl ⟨rfl, fun k hk h => ?_⟩
        have := (hcnd k).mp (h i hiB)
        rw [hk0 k] at this
        omega
      · rw [if_neg hl]
        rw [Int64.lt_iff_toInt_lt, z64] at hl
        by_cases hu : 0 ≤ up
        · rw [if_pos hu]
          rw [Int64.le_iff_toInt_le, z64] at hu
          rw [if_pos (by rw [he]; decide), if_pos (by rw [he]; decide)]
          refine ih K (i + 1) to fr (by omega) (by omega) f1 f2 t1 t2 (step to fr f1 f2 t1 t2 (fun k hk => ?_))
          rw [hk0 k]
          constructor
          · intro h; exact ⟨h, by omega, by omega⟩
          · intro h; exact h.1
        · rw [if_neg hu]
          rw [Int64.le_iff_toInt_le, z64] at hu
          refine .inl ⟨rfl, fun k hk h => ?_⟩
          have := (hcnd k).mp (h i hiB)
          rw [hk0 k] at this
          omega
    · have hne : ¬ gF i v = 0 := by
        intro e
        unfold FF at hpos
        rw [e, i0] at hpos
        omega
      have hnle : ¬ gF i v ≤ 0 := by rw [Int32.le_iff_toInt_le, i0]; unfold FF at hpos; omega
      have hle : 0 ≤ gF i v := by rw [Int32.le_iff_toInt_le, i0]; unfold FF at hpos; omega
      rw [if_neg hne, if_neg hnle]
      have en : ((gF i v).toInt64).toInt = FF gF i v := Int32.toInt_toInt64 _
      have hp : 0 < ((gF i v).toInt64).toInt := by rw [en]; omega
      obtain ⟨c1, c2, c3⟩ := qab (n := n) (x := lo) hp (by omega) (by omega)
      obtain ⟨d1, d2, d3⟩ := fdv (n := n) (x := up) hp
      rw [en] at c3 d3
      have bd1 := dbnd (x := -lo.toInt) (f := FF gF i v) (by omega) (by omega) (by omega)
      have bd2 := dbnd (x := up.toInt) (f := FF gF i v) (by omega) (by omega) (by omega)
      rw [c2, sb_t, sb_t, d2, sb_t, sb_t, if_pos hle]
      have x1 : ∀ k : Nat, (-(-lo.toInt / FF gF i v) ≤ (k : Int)) ↔ lo.toInt ≤ FF gF i v * k := fun k => ile (by omega)
      have x2 : ∀ k : Nat, ((k : Int) ≤ up.toInt / FF gF i v) ↔ FF gF i v * k ≤ up.toInt := fun k => iup (by omega)
      generalize hfr : (if c1 < fr then fr else c1) = fr' at *
      generalize hto : (if d1 < to then d1 else to) = to' at *
      have efr : fr'.toInt = if c1.toInt < fr.toInt then fr.toInt else c1.toInt := by
        rw [← hfr]
        by_cases h : c1 < fr
        · rw [if_pos h, if_pos (Int64.lt_iff_toInt_lt.mp h)]
        · rw [if_neg h, if_neg (fun h' => h (Int64.lt_iff_toInt_lt.mpr h'))]
      have eto : to'.toInt = if d1.toInt < to.toInt then d1.toInt else to.toInt := by
        rw [← hto]
        by_cases h : d1 < to
        · rw [if_pos h, if_pos (Int64.lt_iff_toInt_lt.mp h)]
        · rw [if_neg h, if_neg (fun h' => h (Int64.lt_iff_toInt_lt.mpr h'))]
      have g1 : 0 ≤ fr'.toInt := by rw [efr]; split <;> omega
      have g2 : fr'.toInt ≤ 4611686018427387904 := by rw [efr]; split <;> omega
      have g3 : to'.toInt ≤ 31 := by rw [eto]; split <;> omega
      have g4 : -4611686018427387904 ≤ to'.toInt := by rw [eto]; split <;> omega
      refine ih K (i + 1) to' fr' (by omega) (by omega) g1 g2 g3 g4 (step to' fr' g1 g2 g3 g4 (fun k hk => ?_))
      rw [← x1 k, ← x2 k, ← c3, ← d3, efr, eto]
      constructor
      · intro h
        split at h <;> split at h <;> omega
      · intro h
        split <;> split <;> omega
