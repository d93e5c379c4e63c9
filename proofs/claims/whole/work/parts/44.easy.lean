/-! STAGE 2. THE CALLS: clear, variable, bound, length, word -/
theorem i0 : (0 : Int32).toInt = 0 := rfl
theorem reqL {n : Nat} {p : Int32} {N : Nat} (hN : N ≤ 60) : f_RS_requireLanguage n p (nI N) = if 0 ≤ p.toInt ∧ p.toInt < N then some (.inr ()) else some (.inl ("java/lang/IllegalArgumentException", ())) := by
  unfold f_RS_requireLanguage
  simp only [Int32.lt_iff_toInt_lt, nI_int (show N < 2147483648 by omega), i0]
  by_cases h1 : p.toInt < 0
  · rw [if_pos h1, if_neg (by omega)]
  · rw [if_neg h1]
    by_cases h2 : p.toInt < N
    · rw [if_pos h2, if_pos (by omega)]
    · rw [if_neg h2, if_neg (by omega)]
theorem reqB {n : Nat} {p a b : Int32} : f_RS_requireBetween n p a b = if a.toInt ≤ p.toInt ∧ p.toInt ≤ b.toInt then some (.inr ()) else some (.inl ("java/lang/IllegalArgumentException", ())) := by
  unfold f_RS_requireBetween
  simp only [Int32.lt_iff_toInt_lt, Int32.le_iff_toInt_le]
  by_cases h1 : p.toInt < a.toInt
  · rw [if_pos h1, if_neg (by omega)]
  · rw [if_neg h1]
    by_cases h2 : p.toInt ≤ b.toInt
    · rw [if_pos h2, if_pos (by omega)]
    · rw [if_neg h2, if_neg (by omega)]
theorem in03 {n : Nat} {p : Int32} : f_Mo_in n p.toInt64 0 3 = some (decide (0 ≤ p.toInt ∧ p.toInt ≤ 3)) := by
  have h2 : (0 : Int64) = Int64.ofInt 0 := rfl
  have h3 : (3 : Int64) = Int64.ofInt 3 := rfl
  rw [h2, h3, in32 (by omega) (by omega) (by omega) (by omega)]; simp
theorem in031 {n : Nat} {p : Int32} : f_Mo_in n p.toInt64 0 31 = some (decide (0 ≤ p.toInt ∧ p.toInt ≤ 31)) := by
  have h2 : (0 : Int64) = Int64.ofInt 0 := rfl
  have h3 : (31 : Int64) = Int64.ofInt 31 := rfl
  rw [h2, h3, in32 (by omega) (by omega) (by omega) (by omega)]; simp
theorem in01000 {n : Nat} {p : Int32} : f_Mo_in n p.toInt64 0 1000 = some (decide (0 ≤ p.toInt ∧ p.toInt ≤ 1000)) := by
  have h2 : (0 : Int64) = Int64.ofInt 0 := rfl
  have h3 : (1000 : Int64) = Int64.ofInt 1000 := rfl
  rw [h2, h3, in32 (by omega) (by omega) (by omega) (by omega)]; simp
theorem inF {n : Nat} {p : Int32} : f_Mo_in n p.toInt64 (-100) 100 = some (decide (-100 ≤ p.toInt ∧ p.toInt ≤ 100)) := by
  have h2 : (-100 : Int64) = Int64.ofInt (-100) := rfl
  have h3 : (100 : Int64) = Int64.ofInt 100 := rfl
  rw [h2, h3, in32 (by omega) (by omega) (by omega) (by omega)]; simp
theorem isL {n : Nat} {p : Int32} {N : Nat} (hN : N ≤ 60) : f_Mo_isLanguage n p (nI N) = some (decide (0 ≤ p.toInt ∧ p.toInt < N)) := by
  rw [isLang_eq hN]; simp
theorem idx {p : Int32} {k : Nat} (h0 : 0 ≤ p.toInt) (h1 : p.toInt < k) : ∃ i, i < k ∧ p = nI i := ⟨p.toInt.toNat, by omega, nI_cases h0⟩
theorem ups {α : Type} {f : Nat → α} {k : Nat} {v : α} : va_up f k v k = v := if_pos rfl
theorem upn {α : Type} {f : Nat → α} {k j : Nat} {v : α} (h : j ≠ k) : va_up f k v j = f j := if_neg h
theorem uis {f : Nat → Int32} {k : Nat} {v : Int32} : upd f k v k = v := if_pos rfl
theorem uin {f : Nat → Int32} {k j : Nat} {v : Int32} (h : j ≠ k) : upd f k v j = f j := if_neg h
theorem ujs {f : Nat → Int64} {k : Nat} {v : Int64} : vp_updL f k v k = v := if_pos rfl
theorem ujn {f : Nat → Int64} {k j : Nat} {v : Int64} (h : j ≠ k) : vp_updL f k v j = f j := if_neg h
theorem c03 : (0:Int32).toInt = 0 ∧ (3:Int32).toInt = 3 ∧ (31:Int32).toInt = 31 ∧ (1000:Int32).toInt = 1000 ∧ (-100:Int32).toInt = -100 ∧ (100:Int32).toInt = 100 := by decide
theorem z0 : (0 : Int32).toNatClampNeg = 0 := rfl
theorem cl_length {n : Nat} {p0 : Int32} {o : Nat → Int64} {sKept sKeptLengths sKeptWords mLength mWord mKept} (hS : RelS sKept sKeptLengths sKeptWords mLength mWord mKept) : ∃ u w, f_La_length n p0 sKept sKeptLengths o = some u ∧ f_Mo_length n p0 mLength mKept = some w ∧ ((∃ (k : Int32) (m : Unit), u = .inl (k, m) ∧ k ≠ 0 ∧ w.2 = k) ∨ ∃ (o2 : Nat → Int64) (v : Int32), u = .inr (o2, v) ∧ w.2 = 0 ∧ o2 (0 : Int32).toNatClampNeg = w.1.toInt64) := by
  obtain ⟨c0, c3, -⟩ := c03
  obtain ⟨hS1, hS2⟩ := hS
  by_cases h : 0 ≤ p0.toInt ∧ p0.toInt ≤ 3
  · obtain ⟨v, hv, rfl⟩ := idx (k := 4) h.1 (by omega)
    have hn := nI_nat (show v < 2147483648 by omega)
    have hg := nI_gin hv (by omega)
    cases mKept with
    | false =>
      refine ⟨.inl (2, ()), (0, 2), ?_, ?_, .inl ⟨2, (), rfl, by decide, rfl⟩⟩
      · simp [f_La_length, f_RS_length, reqB, f_RS_requireSolution, hS1, c0, c3, h]
      · simp [f_Mo_length, in03, h, fails_f, fails_t]
    | true =>
      refine ⟨.inr (vp_updL o 0 (mLength v).toInt64, mLength v), (mLength v, 0), ?_, ?_, .inr ⟨_, _, rfl, rfl, rfl⟩⟩
      · simp [f_La_length, f_RS_length, reqB, f_RS_requireSolution, hS1, c0, c3, h, hg, ogd_t, hn, hS2 rfl v hv, z0]
      · simp [f_Mo_length, in03, h, fails_f, fails_t, hg, ogd_t, hn]
  · refine ⟨.inl (1, ()), (0, 1), ?_, ?_, .inl ⟨1, (), rfl, by decide, rfl⟩⟩
    · simp [f_La_length, f_RS_length, reqB, c0, c3, h]
    · simp [f_Mo_length, in03, h, fails_f, fails_t]
theorem ok_length {n : Nat} : sim_length n Rel := by
  intro c T r o p0 hR
  obtain ⟨hL, hV, hB, hS⟩ := hR
  obtain ⟨u, w, h1, h2, h3⟩ := cl_length (n := n) (p0 := p0) (o := o) hS
  refine ⟨u, w, h1, h2, ?_⟩
  rcases h3 with ⟨k, m, a, b, d⟩ | ⟨o2, v, a, b, d⟩
  · exact .inl ⟨k, m, a, b, d, hL, hV, hB, hS⟩
  · exact .inr ⟨o2, v, a, b, d, hL, hV, hB, hS⟩
theorem cl_word {n : Nat} {p0 : Int32} {o : Nat → Int64} {sKept sKeptLengths sKeptWords mLength mWord mKept} (hS : RelS sKept sKeptLengths sKeptWords mLength mWord mKept) : ∃ u w, f_La_word n p0 sKept sKeptWords o = some u ∧ f_Mo_word n p0 mWord mKept = some w ∧ ((∃ (k : Int32) (m : Unit), u = .inl (k, m) ∧ k ≠ 0 ∧ w.2 = k) ∨ ∃ (o2 : Nat → Int64) (v : Int64), u = .inr (o2, v) ∧ w.2 = 0 ∧ o2 (0 : Int32).toNatClampNeg = w.1) := by
  obtain ⟨c0, c3, -⟩ := c03
  obtain ⟨hS1, hS2⟩ := hS
  by_cases h : 0 ≤ p0.toInt ∧ p0.toInt ≤ 3
  · obtain ⟨v, hv, rfl⟩ := idx (k := 4) h.1 (by omega)
    have hn := nI_nat (show v < 2147483648 by omega)
    have hg := nI_gin hv (by omega)
    cases mKept with
    | false =>
      refine ⟨.inl (2, ()), (0, 2), ?_, ?_, .inl ⟨2, (), rfl, by decide, rfl⟩⟩
      · simp [f_La_word, f_RS_word, reqB, f_RS_requireSolution, hS1, c0, c3, h]
      · simp [f_Mo_word, in03, h, fails_f, fails_t]
    | true =>
      refine ⟨.inr (vp_updL o 0 (mWord v), mWord v), (mWord v, 0), ?_, ?_, .inr ⟨_, _, rfl, rfl, rfl⟩⟩
      · simp [f_La_word, f_RS_word, reqB, f_RS_requireSolution, hS1, c0, c3, h, hg, ogd_t, hn, hS2 rfl v hv, z0]
      · simp [f_Mo_word, in03, h, fails_f, fails_t, hg, ogd_t, hn]
  · refine ⟨.inl (1, ()), (0, 1), ?_, ?_, .inl ⟨1, (), rfl, by decide, rfl⟩⟩
    · simp [f_La_word, f_RS_word, reqB, c0, c3, h]
    · simp [f_Mo_word, in03, h, fails_f, fails_t]
theorem ok_word {n : Nat} : sim_word n Rel := by
  intro c T r o p0 hR
  obtain ⟨hL, hV, hB, hS⟩ := hR
  obtain ⟨u, w, h1, h2, h3⟩ := cl_word (n := n) (p0 := p0) (o := o) hS
  refine ⟨u, w, h1, h2, ?_⟩
  rcases h3 with ⟨k, m, a, b, d⟩ | ⟨o2, v, a, b, d⟩
  · exact .inl ⟨k, m, a, b, d, hL, hV, hB, hS⟩
  · exact .inr ⟨o2, v, a, b, d, hL, hV, hB, hS⟩
theorem cl_clear {n : Nat} (hn : 5 ≤ n) {xLang : Nat → Option Nat} {xCount : Int32} {sAssigned : Nat → Option Nat} {mVariable : Nat → Int32} : ∃ v w, f_RS_clear n sAssigned = some (.inr v) ∧ f_Mo_clear n mVariable = some w ∧ RelV xLang xCount v.1 w.2.2.1 ∧ v.2.1 = nI 0 ∧ w.2.1 = nI 0 ∧ v.2.2 = false ∧ w.2.2.2 = false ∧ ∀ i q, i < 4 → v.1 i = some q → False := by
  obtain ⟨k, rfl⟩ : ∃ k, n = k + 5 := ⟨n - 5, by omega⟩
  refine ⟨(va_up (va_up (va_up (va_up sAssigned 0 none) 1 none) 2 none) 3 none, 0, false), (0, 0, upd (upd (upd (upd mVariable 0 (-1)) 1 (-1)) 2 (-1)) 3 (-1), false), rfl, rfl, ?_, rfl, rfl, rfl, rfl, ?_⟩
  · intro v hv
    left
    have : v = 0 ∨ v = 1 ∨ v = 2 ∨ v = 3 := by omega
    rcases this with rfl | rfl | rfl | rfl <;> simp [va_up, upd]
  · intro i q hi h
    have : i = 0 ∨ i = 1 ∨ i = 2 ∨ i = 3 := by omega
    rcases this with rfl | rfl | rfl | rfl <;> simp [va_up] at h
theorem relB0 {sLeast sMost sCount gF gL gM mBounds mFactor mLeast mMost sLeast' sMost' mFactor' mLeast' mMost'} (hB : RelB sLeast sMost sCount gF gL gM mBounds mFactor mLeast mMost) {sCount' mBounds'} (h1 : sCount' = nI 0) (h2 : mBounds' = nI 0) : RelB sLeast' sMost' sCount' gF gL gM mBounds' mFactor' mLeast' mMost' :=
  ⟨⟨0, by omega, h1, h2, fun b hb => absurd hb (Nat.not_lt_zero _)⟩, hB.2⟩
theorem ok_clear {n : Nat} (hn : 5 ≤ n) : sim_clear n Rel := by
  intro c T r hR
  obtain ⟨hL, hV, hB, hS⟩ := hR
  obtain ⟨v, w, h1, h2, h3, h4, h5, h6, h7, h8⟩ := cl_clear hn
  refine ⟨v, w, h1, h2, ⟨hL, h3, relB0 hB h4 h5, h6.trans h7.symm, fun h => by rw [show _ = false from h7] at h; cases h⟩, ?_⟩
  intro q hq
  rcases hq with h | ⟨i, hi, h⟩
  · exact .inl h
  · exact absurd h (fun h => h8 i q hi h)
theorem cl_variable {n : Nat} {p0 p1 : Int32} {xLang : Nat → Option Nat} {N : Nat} (hN : N ≤ 60) (hI : ∀ i, i < N → ∃ q, xLang i = some q) {sAssigned : Nat → Option Nat} {mVariable : Nat → Int32} (hV : RelV xLang (nI N) sAssigned mVariable) : ∃ u w, f_La_variable n p0 p1 xLang (nI N) sAssigned = some u ∧ f_Mo_variable n p0 p1 (nI N) mVariable = some w ∧ ((u = .inl (1, sAssigned) ∧ w = (1, mVariable)) ∨ ∃ v, u = .inr v ∧ w.1 = 0 ∧ RelV xLang (nI N) v w.2 ∧ ∀ i q, i < 4 → v i = some q → sAssigned i = some q ∨ ∃ j, j < 60 ∧ xLang j = some q) := by
  obtain ⟨c0, c3, -⟩ := c03
  by_cases h : 0 ≤ p0.toInt ∧ p0.toInt ≤ 3
  · obtain ⟨v, hv, rfl⟩ := idx (k := 4) h.1 (by omega)
    have hn := nI_nat (show v < 2147483648 by omega)
    have hg := nI_gin hv (by omega)
    by_cases h1 : p1 = -1
    · refine ⟨.inr (va_up sAssigned v none), (0, upd mVariable v (-1)), ?_, ?_, .inr ⟨_, rfl, rfl, ?_, ?_⟩⟩
      · simp [f_La_variable, f_RS_variable, reqB, c0, c3, h, h1, f_Se_assign_N, hg, ogd_t, hn]
      · simp [f_Mo_variable, in03, h, h1, fails_f, hg, ogd_t, hn]
      · intro w hw
        by_cases hwv : w = v
        · subst hwv; left; exact ⟨ups, uis⟩
        · have := hV w hw
          show (va_up sAssigned v none w = none ∧ upd mVariable v (-1) w = -1) ∨ ∃ i q, nI i < nI N ∧ i < 60 ∧ xLang i = some q ∧ va_up sAssigned v none w = some q ∧ upd mVariable v (-1) w = nI i
          rw [upn hwv, uin hwv]; exact this
      · intro i q hi hq
        by_cases hwv : i = v
        · subst hwv
          rw [ups] at hq; cases hq
        · rw [upn hwv] at hq; exact .inl hq
    · by_cases h2 : 0 ≤ p1.toInt ∧ p1.toInt < N
      · obtain ⟨i, hi, rfl⟩ := idx h2.1 h2.2
        obtain ⟨q, hq⟩ := hI i hi
        have hn2 := nI_nat (show i < 2147483648 by omega)
        have hg2 := nI_gin (show i < 60 by omega) (by omega)
        refine ⟨.inr (va_up sAssigned v (some q)), (0, upd mVariable v (nI i)), ?_, ?_, .inr ⟨_, rfl, rfl, ?_, ?_⟩⟩
        · simp [f_La_variable, f_RS_variable, reqB, c0, c3, h, h1, f_Se_assign_R, hg, ogd_t, hn, reqL hN, h2, hg2, hn2, hq, oq]
        · simp [f_Mo_variable, in03, h, h1, fails_f, hg, ogd_t, hn, isL hN, h2]
        · intro w hw
          show (va_up sAssigned v (some q) w = none ∧ upd mVariable v (nI i) w = -1) ∨ ∃ i_1 q_1, nI i_1 < nI N ∧ i_1 < 60 ∧ xLang i_1 = some q_1 ∧ va_up sAssigned v (some q) w = some q_1 ∧ upd mVariable v (nI i) w = nI i_1
          by_cases hwv : w = v
          · subst hwv; right
            refine ⟨i, q, ?_, by omega, hq, ups, uis⟩
            rw [nJ_lt (by omega) (by omega)]; exact hi
          · rw [upn hwv, uin hwv]; exact hV w hw
        · intro j q2 hj hq3
          by_cases hwv : j = v
          · subst hwv
            rw [ups] at hq3; cases hq3
            exact .inr ⟨i, by omega, hq⟩
          · rw [upn hwv] at hq3; exact .inl hq3
      · refine ⟨.inl (1, sAssigned), (1, mVariable), ?_, ?_, .inl ⟨rfl, rfl⟩⟩
        · simp [f_La_variable, f_RS_variable, reqB, c0, c3, h, h1, reqL hN, h2]
        · simp [f_Mo_variable, in03, h, h1, fails_f, fails_t, isL hN, h2]
  · refine ⟨.inl (1, sAssigned), (1, mVariable), ?_, ?_, .inl ⟨rfl, rfl⟩⟩
    · simp [f_La_variable, f_RS_variable, reqB, c0, c3, h]
    · simp [f_Mo_variable, in03, h, fails_f, fails_t]
theorem ok_variable {n : Nat} : sim_variable n Rel := by
  intro c T r p0 p1 hR
  obtain ⟨hL, hV, hB, hS⟩ := hR
  have hL' := hL
  obtain ⟨N, hN, e1, e2, hI, hE⟩ := hL'
  rw [e1] at hV
  obtain ⟨u, w, h1, h2, h3⟩ := cl_variable (n := n) (p0 := p0) (p1 := p1) hN (fun i hi => (hI i hi).imp fun q h => h.1) hV
  rw [← e1] at h1
  rw [← e2] at h2
  refine ⟨u, w, h1, h2, ?_⟩
  rcases h3 with ⟨a, b⟩ | ⟨v, a, b, d, e⟩
  · subst b
    refine .inl ⟨1, _, a, by decide, rfl, ⟨hL, ?_, hB, hS⟩, fun q hq => hq⟩
    show RelV c.1 c.2.1 _ _
    rw [e1]; exact hV
  · refine .inr ⟨v, a, b, ⟨hL, ?_, hB, hS⟩, ?_⟩
    · show RelV c.1 c.2.1 _ _
      rw [e1]; exact d
    · intro q hq
      rcases hq with hq | ⟨i, hi, hq⟩
      · exact .inl hq
      · rcases e i q hi hq with h | h
        · exact .inr ⟨i, hi, h⟩
        · exact .inl h
theorem gup_s {g : Nat → Nat → Int32} {i : Nat} {r : Nat → Int32} : gup g i r i = r := if_pos rfl
theorem gup_n {g : Nat → Nat → Int32} {i j : Nat} {r : Nat → Int32} (h : j ≠ i) : gup g i r j = g j := if_neg h
theorem cl_bound {n : Nat} {p0 p1 p2 p3 p4 p5 : Int32} {o : Nat → Int64} {sLeast sMost sCount gF gL gM mBounds mFactor mLeast mMost} (hB : RelB sLeast sMost sCount gF gL gM mBounds mFactor mLeast mMost) : ∃ u w, f_La_bound n p0 p1 p2 p3 p4 p5 sLeast sMost sCount gF o = some u ∧ f_Mo_bound n p0 p1 p2 p3 p4 p5 mBounds mFactor mLeast mMost = some w ∧ ((∃ (k : Int32) (m : (Nat → Int32) × (Nat → Int32) × Int32 × (Nat → Nat → Int32)), u = .inl (k, m) ∧ k ≠ 0 ∧ w.2.1 = k ∧ RelB m.1 m.2.1 m.2.2.1 m.2.2.2 gL gM w.2.2.1 w.2.2.2.1 w.2.2.2.2.1 w.2.2.2.2.2) ∨ ∃ (o2 : Nat → Int64) (v : Int32 × (Nat → Int32) × (Nat → Int32) × Int32 × (Nat → Nat → Int32)), u = .inr (o2, v) ∧ w.2.1 = 0 ∧ o2 (0 : Int32).toNatClampNeg = w.1.toInt64 ∧ RelB v.2.1 v.2.2.1 v.2.2.2.1 v.2.2.2.2 gL gM w.2.2.1 w.2.2.2.1 w.2.2.2.2.1 w.2.2.2.2.2) := by
  obtain ⟨-, -, -, -, cm, cp⟩ := c03
  obtain ⟨⟨B, hB8, rfl, rfl, hb⟩, hg4⟩ := hB
  have hB : RelB sLeast sMost (nI B) gF gL gM (nI B) mFactor mLeast mMost := ⟨⟨B, hB8, rfl, rfl, hb⟩, hg4⟩
  have bad : (f_La_bound n p0 p1 p2 p3 p4 p5 sLeast sMost (nI B) gF o = some (.inl (1, (sLeast, sMost, nI B, gF))) ∧ f_Mo_bound n p0 p1 p2 p3 p4 p5 (nI B) mFactor mLeast mMost = some (0, 1, nI B, mFactor, mLeast, mMost)) → ∃ u w, f_La_bound n p0 p1 p2 p3 p4 p5 sLeast sMost (nI B) gF o = some u ∧ f_Mo_bound n p0 p1 p2 p3 p4 p5 (nI B) mFactor mLeast mMost = some w ∧ ((∃ (k : Int32) (m : (Nat → Int32) × (Nat → Int32) × Int32 × (Nat → Nat → Int32)), u = .inl (k, m) ∧ k ≠ 0 ∧ w.2.1 = k ∧ RelB m.1 m.2.1 m.2.2.1 m.2.2.2 gL gM w.2.2.1 w.2.2.2.1 w.2.2.2.2.1 w.2.2.2.2.2) ∨ ∃ (o2 : Nat → Int64) (v : Int32 × (Nat → Int32) × (Nat → Int32) × Int32 × (Nat → Nat → Int32)), u = .inr (o2, v) ∧ w.2.1 = 0 ∧ o2 (0 : Int32).toNatClampNeg = w.1.toInt64 ∧ RelB v.2.1 v.2.2.1 v.2.2.2.1 v.2.2.2.2 gL gM w.2.2.1 w.2.2.2.1 w.2.2.2.2.1 w.2.2.2.2.2) := fun hh => ⟨_, _, hh.1, hh.2, .inl ⟨1, _, rfl, by decide, rfl, hB⟩⟩
  by_cases h0 : -100 ≤ p0.toInt ∧ p0.toInt ≤ 100
  · by_cases h1 : -100 ≤ p1.toInt ∧ p1.toInt ≤ 100
    · by_cases h2 : -100 ≤ p2.toInt ∧ p2.toInt ≤ 100
      · by_cases h3 : -100 ≤ p3.toInt ∧ p3.toInt ≤ 100
        · clear bad
          by_cases h8 : B = 8
          · subst h8
            refine ⟨_, (0, 2, nI 8, mFactor, mLeast, mMost), ?_, ?_, .inl ⟨2, (sLeast, sMost, nI 8, gF), rfl, by decide, rfl, hB⟩⟩
            · simp [f_La_bound, f_RS_bound, f_RS_requireFactor, reqB, cm, cp, h0, h1, h2, h3, f_Se_isFull, l8, nJ_lt]
            · simp [f_Mo_bound, inF, h0, h1, h2, h3, fails_f, fails_t, l8]
          · have hBl : B < 8 := by omega
            have hn := nI_nat (show B < 2147483648 by omega)
            have hg := nI_gin hBl (by omega)
            have e1 : ¬ nI B = nI 8 := by rw [nJ_eq (by omega) (by omega)]; exact h8
            have e2 : nI B < nI 8 := by rw [nJ_lt (by omega) (by omega)]; exact hBl
            have e3 : gin (4 * nI B) 32 = true := by rw [l4, nI_mul]; exact nI_gin (by omega) (by omega)
            have e4 : gin (4 * nI B + 1) 32 = true := by rw [l4, l1, nI_mul, nJ_add]; exact nI_gin (by omega) (by omega)
            have e5 : gin (4 * nI B + 2) 32 = true := by rw [l4, l2, nI_mul, nJ_add]; exact nI_gin (by omega) (by omega)
            have e6 : gin (4 * nI B + 3) 32 = true := by rw [l4, l3, nI_mul, nJ_add]; exact nI_gin (by omega) (by omega)
            have m3 : (4 * nI B).toNatClampNeg = 4 * B := by rw [l4, nI_mul]; exact nI_nat (by omega)
            have m4 : (4 * nI B + 1).toNatClampNeg = 4 * B + 1 := by rw [l4, l1, nI_mul, nJ_add]; exact nI_nat (by omega)
            have m5 : (4 * nI B + 2).toNatClampNeg = 4 * B + 2 := by rw [l4, l2, nI_mul, nJ_add]; exact nI_nat (by omega)
            have m6 : (4 * nI B + 3).toNatClampNeg = 4 * B + 3 := by rw [l4, l3, nI_mul, nJ_add]; exact nI_nat (by omega)
            have g0 : gin 0 4 = true := by decide
            have g1 : gin 1 4 = true := by decide
            have g2 : gin 2 4 = true := by decide
            have g3 : gin 3 4 = true := by decide
            have hC : f_La_bound n p0 p1 p2 p3 p4 p5 sLeast sMost (nI B) gF o = some (.inr (vp_updL o 0 (nI B + 1).toInt64, (nI B + 1, upd sLeast B p4, upd sMost B p5, nI B + 1, gup (gup (gup (gup gF B (upd (gF B) 0 p0)) B (upd ((gup gF B (upd (gF B) 0 p0)) B) 1 p1)) B (upd ((gup (gup gF B (upd (gF B) 0 p0)) B (upd ((gup gF B (upd (gF B) 0 p0)) B) 1 p1)) B) 2 p2)) B (upd ((gup (gup (gup gF B (upd (gF B) 0 p0)) B (upd ((gup gF B (upd (gF B) 0 p0)) B) 1 p1)) B (upd ((gup (gup gF B (upd (gF B) 0 p0)) B (upd ((gup gF B (upd (gF B) 0 p0)) B) 1 p1)) B) 2 p2)) B) 3 p3)))) := by
              simp [f_La_bound, f_RS_bound, f_RS_requireFactor, reqB, cm, cp, h0, h1, h2, h3, f_Se_isFull, l8, e2, f_Se_addBound, hg, g0, g1, g2, g3, ogd_t, hn, z0, show (1:Int32).toNatClampNeg = 1 from rfl, show (2:Int32).toNatClampNeg = 2 from rfl, show (3:Int32).toNatClampNeg = 3 from rfl]
            have hM : f_Mo_bound n p0 p1 p2 p3 p4 p5 (nI B) mFactor mLeast mMost = some (nI B + 1, 0, nI B + 1, upd (upd (upd (upd mFactor (4 * B) p0) (4 * B + 1) p1) (4 * B + 2) p2) (4 * B + 3) p3, upd mLeast B p4, upd mMost B p5) := by
              simp [f_Mo_bound, inF, h0, h1, h2, h3, fails_f, fails_t, l8, e1, e3, e4, e5, e6, hg, ogd_t, m3, m4, m5, m6, hn]
            refine ⟨_, _, hC, hM, .inr ⟨_, _, rfl, rfl, rfl, ⟨⟨B + 1, by omega, ?_, ?_, ?_⟩, hg4⟩⟩⟩
            · rw [l1, nJ_add]
            · rw [l1, nJ_add]
            · intro b hbb
              show upd sLeast B p4 b = upd mLeast B p4 b ∧ upd sMost B p5 b = upd mMost B p5 b ∧ _
              by_cases hbB : b = B
              · subst hbB
                refine ⟨by rw [uis, uis], by rw [uis, uis], fun v hv => ?_⟩
                simp only [gup_s]
                have : v = 0 ∨ v = 1 ∨ v = 2 ∨ v = 3 := by omega
                rcases this with rfl | rfl | rfl | rfl <;> simp [upd, h0, h1, h2, h3]
                all_goals omega
              · have := hb b (by omega)
                refine ⟨by rw [uin hbB, uin hbB]; exact this.1, by rw [uin hbB, uin hbB]; exact this.2.1, fun v hv => ?_⟩
                simp only [gup_n hbB]
                rw [uin (by omega), uin (by omega), uin (by omega), uin (by omega)]
                exact this.2.2 v hv
        · exact bad ⟨by simp [f_La_bound, f_RS_bound, f_RS_requireFactor, reqB, cm, cp, h0, h1, h2, h3], by simp [f_Mo_bound, inF, h0, h1, h2, h3, fails_f, fails_t]⟩
      · exact bad ⟨by simp [f_La_bound, f_RS_bound, f_RS_requireFactor, reqB, cm, cp, h0, h1, h2], by simp [f_Mo_bound, inF, h0, h1, h2, fails_f, fails_t]⟩
    · exact bad ⟨by simp [f_La_bound, f_RS_bound, f_RS_requireFactor, reqB, cm, cp, h0, h1], by simp [f_Mo_bound, inF, h0, h1, fails_f, fails_t]⟩
  · exact bad ⟨by simp [f_La_bound, f_RS_bound, f_RS_requireFactor, reqB, cm, cp, h0], by simp [f_Mo_bound, inF, h0, fails_f, fails_t]⟩
theorem ok_bound {n : Nat} : sim_bound n Rel := by
  intro c T r o p0 p1 p2 p3 p4 p5 hR
  obtain ⟨hL, hV, hB, hS⟩ := hR
  obtain ⟨u, w, h1, h2, h3⟩ := cl_bound (n := n) (p0 := p0) (p1 := p1) (p2 := p2) (p3 := p3) (p4 := p4) (p5 := p5) (o := o) hB
  refine ⟨u, w, h1, h2, ?_⟩
  rcases h3 with ⟨k, m, a, b, d, e⟩ | ⟨o2, v, a, b, d, e⟩
  · exact .inl ⟨k, m, a, b, d, hL, hV, e, hS⟩
  · exact .inr ⟨o2, v, a, b, d, hL, hV, e, hS⟩
