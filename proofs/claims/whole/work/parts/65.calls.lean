/-! STAGE 2. THE CALLS: then, or, and, again -/
theorem cl_then {n : Nat} (hn : 2048 < n) {p0 p1 : Int32} {o : Nat → Int64} {xLang : Nat → Option Nat} {T : auTab} {mSize mGoes : Nat → Int32} {mLast : Nat → Bool} {N : Nat} (hN : N ≤ 60) (hI : ∀ i, i < N → ∃ q, xLang i = some q ∧ LangOK q T i mSize mGoes mLast) (hE : ∀ i, N ≤ i → xLang i = none) (kHeads : Nat → Int32) (kTails : Nat → Int64) (kNext kSlots : Nat → Int32) (kReached : Int32) (kClassOf kFinerOf kMarkOf kFirstOf kMarkSlots : Nat → Int32) (kClasses : Int32) (mLeft mNext mGroup mFresh mLeader mNumber : Nat → Int32) (mRight : Nat → Int64) (mEnds : Nat → Bool) (mWay : Int32) : ∃ u w, f_La_then n p0 p1 xLang (nI N) kHeads kTails kNext kSlots kReached kClassOf kFinerOf kMarkOf kFirstOf kMarkSlots kClasses T o = some u ∧ f_Mo_then n p0 p1 (nI N) mSize mGoes mLast mLeft mNext mGroup mFresh mLeader mNumber mRight mEnds mWay = some w ∧ ((∃ (k : Int32) (m : (Nat → Int32) × (Nat → Int64) × (Nat → Int32) × (Nat → Int32) × Int32 × (Nat → Int32) × (Nat → Int32) × (Nat → Int32) × (Nat → Int32) × (Nat → Int32) × Int32), u = .inl (k, m) ∧ k ≠ 0 ∧ w.2.1 = k ∧ w.2.2.1 = nI N ∧ w.2.2.2.1 = mSize ∧ w.2.2.2.2.1 = mGoes ∧ w.2.2.2.2.2.1 = mLast) ∨ (∃ (o2 : Nat → Int64) (v : Int32 × auP × Int32 × (Nat → Int32) × (Nat → Int64) × (Nat → Int32) × (Nat → Int32) × Int32 × (Nat → Int32) × (Nat → Int32) × (Nat → Int32) × (Nat → Int32) × (Nat → Int32) × Int32), u = .inr (o2, v) ∧ w.2.1 = 0 ∧ o2 (0 : Int32).toNatClampNeg = w.1.toInt64 ∧ N < 60 ∧ v.2.2.1 = nI (N + 1) ∧ w.2.2.1 = nI (N + 1) ∧ ∀ q an aa : Nat, (∀ i, i < 60 → xLang i ≠ some q) → RelL (va_up xLang N (some q)) (nI (N + 1)) (fun z => if z = q then (an, aa, v.2.1.1, (4 * v.2.1.1).toNatClampNeg, v.2.1.2.2.1, v.2.1.2.1, v.2.1.2.2.2) else T z) (nI (N + 1)) w.2.2.2.1 w.2.2.2.2.1 w.2.2.2.2.2.1)) := by
  by_cases h0 : 0 ≤ p0.toInt ∧ p0.toInt < N
  · by_cases h1 : 0 ≤ p1.toInt ∧ p1.toInt < N
    · obtain ⟨i, hi, rfl⟩ := idx h0.1 h0.2
      obtain ⟨j, hj, rfl⟩ := idx h1.1 h1.2
      by_cases h60 : N = 60
      · subst h60
        refine ⟨.inl (2, (kHeads, kTails, kNext, kSlots, kReached, kClassOf, kFinerOf, kMarkOf, kFirstOf, kMarkSlots, kClasses)), (0, 2, nI 60, mSize, mGoes, mLast, mLeft, mNext, mGroup, mFresh, mLeader, mNumber, mRight, mEnds, mWay), ?_, ?_, .inl ⟨2, _, rfl, by decide, rfl, rfl, rfl, rfl, rfl⟩⟩
        · simp only [f_La_then, f_RS_then, reqL hN, h0, h1, and_self, if_true, sb_t, el_r, el_l, room_f]
          rfl
        · simp only [f_Mo_then, f_Mo_made, isL hN, h0, h1, and_self, decide_true, sb_t, if_true, fails_f, Bool.false_eq_true, if_false, full_t (show (2 : Int32) ≠ 0 by decide)]
      · have hN6 : N < 60 := by omega
        obtain ⟨q, hq, S1, g1, f1, w1, ⟨a1, a2, a3, a4, a5⟩, hR1⟩ := hI i hi
        obtain ⟨q2, hq2, S2, g2, f2, w2, ⟨b1, b2, b3, b4, b5⟩, hR2⟩ := hI j hj
        have hmk := mk_Ch (n := n) hn (dl := (dlC g1 g2 f1 S2)) (e := (eC f2 S2)) (V := (VC S1)) (vC_s w1) (goC_c w1 w2 a3 b3 a4 (by omega)) (fun x _ => enC_c w2.2.1 b4 x) (x0 := (nI 0, if f1 0 = true then 1 else 0)) ⟨0, w1.1, rfl⟩ (by rw [f_Ch_begin, f_Ch_backBegunAt, show f_Au_isLast n 0 (T q).2.2.2.2.2.1 = some (f1 0) from il_c a4 w1.1 w1.2.1, sb_t]; cases f1 0 <;> rfl) kHeads kTails kNext kSlots kClassOf kFinerOf kMarkOf kFirstOf kMarkSlots kClasses
        have hmr := made_r (n := n) hn (how := 2) (dl := (dlC g1 g2 f1 S2)) (e := (eC f2 S2)) (V := (VC S1)) hN6 hi hj (vC_s w1) (stC_r w1 w2 (by omega) (by omega) hR1 hR2 (by omega)) (x0 := (nI 0, if f1 0 = true then 1 else 0)) ⟨0, w1.1, rfl⟩ mLeft mNext mGroup mFresh mLeader mNumber mRight mEnds mWay (by
          have e1 := enC_r (n := n) (i1 := i) w2 (show j < 60 by omega) hR2 (by omega) (nI 0, 1)
          have e2 := enC_r (n := n) (i1 := i) w2 (show j < 60 by omega) hR2 (by omega) (nI 0, 0)
          rw [f_Mo_explored, if_pos rfl, show f_Mo_isLast n (nI i) 0 mLast = some (f1 0) from il_r (by omega) hR1.2.2 w1.1 w1.2.1, sb_t, show f_Mo_ends n 2 (nI i) (nI j) 0 1 mSize mLast = some (eC f2 S2 (nI 0, 1)) from e1, show f_Mo_ends n 2 (nI i) (nI j) 0 0 mSize mLast = some (eC f2 S2 (nI 0, 0)) from e2, sb_t, sb_t]
          by_cases hf : f1 0 = true
          · simp only [if_pos hf]; rfl
          · simp only [if_neg hf]; rfl)
        rcases hmk with ⟨x1, z, x2⟩ | ⟨E, C, la, nx, ah, z, x1, hEI, hF, x2, x3⟩
        · rcases hmr with ⟨y1, z', y2⟩ | ⟨E', C', mG', mL', z', y1, -⟩
          · refine ⟨.inl (3, (z.1, z.2.1, z.2.2.1, z.2.2.2.1, z.2.2.2.2.1, z.2.2.2.2.2.1, z.2.2.2.2.2.2.1, z.2.2.2.2.2.2.2.1, z.2.2.2.2.2.2.2.2.1, z.2.2.2.2.2.2.2.2.2.1, z.2.2.2.2.2.2.2.2.2.2.1)), (0, 3, nI N, mSize, mGoes, mLast, z'), ?_, ?_, .inl ⟨3, _, rfl, by decide, rfl, rfl, rfl, rfl, rfl⟩⟩
            · simp only [f_La_then, f_RS_then, reqL hN, h0, h1, and_self, if_true, sb_t, el_r, el_l, room_t hN6, nI_gin (show i < 60 by omega) (by omega), nI_nat (show i < 2147483648 by omega), nI_gin (show j < 60 by omega) (by omega), nI_nat (show j < 2147483648 by omega), ogd_t, hq, hq2, oq, a1, a2, b1, b2, x2]
              rfl
            · rw [f_Mo_then, y2]; rfl
          · rw [x1] at y1; cases y1
        · rcases hmr with ⟨y1, z', y2⟩ | ⟨E', C', mG', mL', z', y1, y2, y3, y4, y5⟩
          · rw [x1] at y1; cases y1
          · rw [x1] at y1
            simp only [Option.some.injEq, Prod.mk.injEq] at y1
            obtain ⟨rfl, rfl⟩ := y1
            have hwf := (fin_wf hEI hF).1
            have h64 := hwf.2.1
            refine ⟨.inr (vp_updL o 0 (nI N).toInt64, (nI N, (nI C.1, la, nx, ah), nI (N + 1), z.1, z.2.1, z.2.2.1, z.2.2.2.1, z.2.2.2.2.1, z.2.2.2.2.2.1, z.2.2.2.2.2.2.1, z.2.2.2.2.2.2.2.1, z.2.2.2.2.2.2.2.2.1, z.2.2.2.2.2.2.2.2.2.1, z.2.2.2.2.2.2.2.2.2.2.1)), (nI N, 0, nI (N + 1), upd mSize N (nI C.1), mG', mL', z'), ?_, ?_, .inr ⟨_, _, rfl, rfl, rfl, hN6, rfl, rfl, fun p an aa hp => ?_⟩⟩
            · simp only [f_La_then, f_RS_then, reqL hN, h0, h1, and_self, if_true, sb_t, el_r, el_l, room_t hN6, nI_gin (show i < 60 by omega) (by omega), nI_nat (show i < 2147483648 by omega), nI_gin (show j < 60 by omega) (by omega), nI_nat (show j < 2147483648 by omega), ogd_t, hq, hq2, oq, a1, a2, b1, b2, x2, nI_gin hN6 (show 60 ≤ 2147483648 by omega), show nI N + 1 = nI (N + 1) from by rw [l1, nJ_add], show nI (N + 1) - 1 = nI N from by rw [l1, nI_sub (by omega), Nat.add_sub_cancel]]
              rfl
            · rw [f_Mo_then, y2]; rfl
            · refine relL_ext hN6 hI hE hp (fun z hz => if_neg hz) (fun j hj => uin hj) y3 y4 ⟨C.1, goF E C, finF (eC f2 S2) E C, hwf, ?_, y5⟩
              show AuC (if p = p then _ else T p).2.2 C.1 _ _
              rw [if_pos rfl]
              show AuC (nI C.1, (4 * nI C.1).toNatClampNeg, nx, la, ah) C.1 _ _
              rw [show (4 * nI C.1).toNatClampNeg = 4 * C.1 from by rw [l4, nI_mul, nI_nat (by omega)]]
              exact x3
    · refine ⟨.inl (1, (kHeads, kTails, kNext, kSlots, kReached, kClassOf, kFinerOf, kMarkOf, kFirstOf, kMarkSlots, kClasses)), (0, 1, nI N, mSize, mGoes, mLast, mLeft, mNext, mGroup, mFresh, mLeader, mNumber, mRight, mEnds, mWay), ?_, ?_, .inl ⟨1, _, rfl, by decide, rfl, rfl, rfl, rfl, rfl⟩⟩
      · simp [f_La_then, f_RS_then, reqL hN, h0, h1]
      · simp [f_Mo_then, f_Mo_made, isL hN, h0, h1, fails_t]
  · refine ⟨.inl (1, (kHeads, kTails, kNext, kSlots, kReached, kClassOf, kFinerOf, kMarkOf, kFirstOf, kMarkSlots, kClasses)), (0, 1, nI N, mSize, mGoes, mLast, mLeft, mNext, mGroup, mFresh, mLeader, mNumber, mRight, mEnds, mWay), ?_, ?_, .inl ⟨1, _, rfl, by decide, rfl, rfl, rfl, rfl, rfl⟩⟩
    · simp [f_La_then, f_RS_then, reqL hN, h0]
    · simp [f_Mo_then, f_Mo_made, isL hN, h0, fails_t]
theorem ok_then {n : Nat} (hn : 2048 < n) : sim_then n Rel := by
  intro c T r o p0 p1 hR
  obtain ⟨hL, hV, hB, hS⟩ := hR
  have hL' := hL
  obtain ⟨N, hN, e1, e2, hI, hE⟩ := hL'
  rw [e1] at hV
  obtain ⟨u, w, h1, h2, h3⟩ := cl_then hn (p0 := p0) (p1 := p1) (o := o) hN hI hE c.2.2.1 c.2.2.2.1 c.2.2.2.2.1 c.2.2.2.2.2.1 c.2.2.2.2.2.2.1 c.2.2.2.2.2.2.2.1 c.2.2.2.2.2.2.2.2.1 c.2.2.2.2.2.2.2.2.2.1 c.2.2.2.2.2.2.2.2.2.2.1 c.2.2.2.2.2.2.2.2.2.2.2.1 c.2.2.2.2.2.2.2.2.2.2.2.2.1 r.2.2.2.2.2.2.1 r.2.2.2.2.2.2.2.1 r.2.2.2.2.2.2.2.2.1 r.2.2.2.2.2.2.2.2.2.1 r.2.2.2.2.2.2.2.2.2.2.1 r.2.2.2.2.2.2.2.2.2.2.2.1 r.2.2.2.2.2.2.2.2.2.2.2.2.1 r.2.2.2.2.2.2.2.2.2.2.2.2.2.1 r.2.2.2.2.2.2.2.2.2.2.2.2.2.2.1
  rw [← e1] at h1
  rw [← e2] at h2
  refine ⟨u, w, h1, h2, ?_⟩
  rcases h3 with ⟨k, m, a, b, d, f1, f2, f3, f4⟩ | ⟨o2, v, a, b, d, hN6, e, f, g⟩
  · refine .inl ⟨k, m, a, b, d, ?_, ?_, hB, hS⟩
    · show RelL c.1 c.2.1 T w.2.2.1 w.2.2.2.1 w.2.2.2.2.1 w.2.2.2.2.2.1
      rw [f1, f2, f3, f4]; exact ⟨N, hN, e1, rfl, hI, hE⟩
    · show RelV c.1 c.2.1 _ _
      rw [e1]; exact hV
  · refine .inr ⟨o2, v, a, b, d, fun q an aa hq => ?_⟩
    have hg := g q an aa (fun i hi h => hq (.inl ⟨i, hi, h⟩))
    have hv2 := relV_ext (q := q) hN6 hV
    have en : c.2.1.toNatClampNeg = N := by rw [e1]; exact nI_nat (by omega)
    rw [en]
    refine ⟨?_, ?_, hB, hS⟩
    · show RelL _ v.2.2.1 _ w.2.2.1 _ _ _
      rw [e, f]; exact hg
    · show RelV _ v.2.2.1 _ _
      rw [e]; exact hv2
theorem cl_or {n : Nat} (hn : 2048 < n) {p0 p1 : Int32} {o : Nat → Int64} {xLang : Nat → Option Nat} {T : auTab} {mSize mGoes : Nat → Int32} {mLast : Nat → Bool} {N : Nat} (hN : N ≤ 60) (hI : ∀ i, i < N → ∃ q, xLang i = some q ∧ LangOK q T i mSize mGoes mLast) (hE : ∀ i, N ≤ i → xLang i = none) (kHeads : Nat → Int32) (kTails : Nat → Int64) (kNext kSlots : Nat → Int32) (kReached : Int32) (kClassOf kFinerOf kMarkOf kFirstOf kMarkSlots : Nat → Int32) (kClasses : Int32) (mLeft mNext mGroup mFresh mLeader mNumber : Nat → Int32) (mRight : Nat → Int64) (mEnds : Nat → Bool) (mWay : Int32) : ∃ u w, f_La_or n p0 p1 xLang (nI N) kHeads kTails kNext kSlots kReached kClassOf kFinerOf kMarkOf kFirstOf kMarkSlots kClasses T o = some u ∧ f_Mo_or n p0 p1 (nI N) mSize mGoes mLast mLeft mNext mGroup mFresh mLeader mNumber mRight mEnds mWay = some w ∧ ((∃ (k : Int32) (m : (Nat → Int32) × (Nat → Int64) × (Nat → Int32) × (Nat → Int32) × Int32 × (Nat → Int32) × (Nat → Int32) × (Nat → Int32) × (Nat → Int32) × (Nat → Int32) × Int32), u = .inl (k, m) ∧ k ≠ 0 ∧ w.2.1 = k ∧ w.2.2.1 = nI N ∧ w.2.2.2.1 = mSize ∧ w.2.2.2.2.1 = mGoes ∧ w.2.2.2.2.2.1 = mLast) ∨ (∃ (o2 : Nat → Int64) (v : Int32 × auP × Int32 × (Nat → Int32) × (Nat → Int64) × (Nat → Int32) × (Nat → Int32) × Int32 × (Nat → Int32) × (Nat → Int32) × (Nat → Int32) × (Nat → Int32) × (Nat → Int32) × Int32), u = .inr (o2, v) ∧ w.2.1 = 0 ∧ o2 (0 : Int32).toNatClampNeg = w.1.toInt64 ∧ N < 60 ∧ v.2.2.1 = nI (N + 1) ∧ w.2.2.1 = nI (N + 1) ∧ ∀ q an aa : Nat, (∀ i, i < 60 → xLang i ≠ some q) → RelL (va_up xLang N (some q)) (nI (N + 1)) (fun z => if z = q then (an, aa, v.2.1.1, (4 * v.2.1.1).toNatClampNeg, v.2.1.2.2.1, v.2.1.2.1, v.2.1.2.2.2) else T z) (nI (N + 1)) w.2.2.2.1 w.2.2.2.2.1 w.2.2.2.2.2.1)) := by
  by_cases h0 : 0 ≤ p0.toInt ∧ p0.toInt < N
  · by_cases h1 : 0 ≤ p1.toInt ∧ p1.toInt < N
    · obtain ⟨i, hi, rfl⟩ := idx h0.1 h0.2
      obtain ⟨j, hj, rfl⟩ := idx h1.1 h1.2
      by_cases h60 : N = 60
      · subst h60
        refine ⟨.inl (2, (kHeads, kTails, kNext, kSlots, kReached, kClassOf, kFinerOf, kMarkOf, kFirstOf, kMarkSlots, kClasses)), (0, 2, nI 60, mSize, mGoes, mLast, mLeft, mNext, mGroup, mFresh, mLeader, mNumber, mRight, mEnds, mWay), ?_, ?_, .inl ⟨2, _, rfl, by decide, rfl, rfl, rfl, rfl, rfl⟩⟩
        · simp only [f_La_or, f_RS_or, reqL hN, h0, h1, and_self, if_true, sb_t, el_r, el_l, room_f]
          rfl
        · simp only [f_Mo_or, f_Mo_made, isL hN, h0, h1, and_self, decide_true, sb_t, if_true, fails_f, Bool.false_eq_true, if_false, full_t (show (2 : Int32) ≠ 0 by decide)]
      · have hN6 : N < 60 := by omega
        obtain ⟨q, hq, S1, g1, f1, w1, ⟨a1, a2, a3, a4, a5⟩, hR1⟩ := hI i hi
        obtain ⟨q2, hq2, S2, g2, f2, w2, ⟨b1, b2, b3, b4, b5⟩, hR2⟩ := hI j hj
        have hmk := mk_Pa (n := n) hn (dl := (dlP g1 g2)) (e := (eO f1 f2)) (V := (VP S1 S2)) (vP_s w1 w2) (goP_c w1 w2 a3 b3) (fun x hx => enP_c w1.2.1 w2.2.1 a4 b4 false x hx) (x0 := (nI 0, (nI 0).toInt64)) ⟨0, 0, w1.1, w2.1, rfl⟩ (rfl) kHeads kTails kNext kSlots kClassOf kFinerOf kMarkOf kFirstOf kMarkSlots kClasses
        have hmr := made_r (n := n) hn (how := 0) (dl := (dlP g1 g2)) (e := (eO f1 f2)) (V := (VP S1 S2)) hN6 hi hj (vP_s w1 w2) (stO_r w1 w2 (by omega) (by omega) hR1 hR2) (x0 := (nI 0, (nI 0).toInt64)) ⟨0, 0, w1.1, w2.1, rfl⟩ mLeft mNext mGroup mFresh mLeader mNumber mRight mEnds mWay (by
          have e1 := (enO_r (n := n) w1 w2 (show i < 60 by omega) (show j < 60 by omega) hR1 hR2 (nI 0, (nI 0).toInt64) ⟨0, 0, w1.1, w2.1, rfl⟩).1
          rw [f_Mo_explored, if_neg (by decide), show f_Mo_ends n 0 (nI i) (nI j) 0 0 mSize mLast = some (eO f1 f2 (nI 0, (nI 0).toInt64)) from e1, sb_t]
          rfl)
        rcases hmk with ⟨x1, z, x2⟩ | ⟨E, C, la, nx, ah, z, x1, hEI, hF, x2, x3⟩
        · rcases hmr with ⟨y1, z', y2⟩ | ⟨E', C', mG', mL', z', y1, -⟩
          · refine ⟨.inl (3, (z.1, z.2.1, z.2.2.1, z.2.2.2.1, z.2.2.2.2.1, z.2.2.2.2.2.1, z.2.2.2.2.2.2.1, z.2.2.2.2.2.2.2.1, z.2.2.2.2.2.2.2.2.1, z.2.2.2.2.2.2.2.2.2.1, z.2.2.2.2.2.2.2.2.2.2.1)), (0, 3, nI N, mSize, mGoes, mLast, z'), ?_, ?_, .inl ⟨3, _, rfl, by decide, rfl, rfl, rfl, rfl, rfl⟩⟩
            · simp only [f_La_or, f_RS_or, reqL hN, h0, h1, and_self, if_true, sb_t, el_r, el_l, room_t hN6, nI_gin (show i < 60 by omega) (by omega), nI_nat (show i < 2147483648 by omega), nI_gin (show j < 60 by omega) (by omega), nI_nat (show j < 2147483648 by omega), ogd_t, hq, hq2, oq, a1, a2, b1, b2, x2]
              rfl
            · rw [f_Mo_or, y2]; rfl
          · rw [x1] at y1; cases y1
        · rcases hmr with ⟨y1, z', y2⟩ | ⟨E', C', mG', mL', z', y1, y2, y3, y4, y5⟩
          · rw [x1] at y1; cases y1
          · rw [x1] at y1
            simp only [Option.some.injEq, Prod.mk.injEq] at y1
            obtain ⟨rfl, rfl⟩ := y1
            have hwf := (fin_wf hEI hF).1
            have h64 := hwf.2.1
            refine ⟨.inr (vp_updL o 0 (nI N).toInt64, (nI N, (nI C.1, la, nx, ah), nI (N + 1), z.1, z.2.1, z.2.2.1, z.2.2.2.1, z.2.2.2.2.1, z.2.2.2.2.2.1, z.2.2.2.2.2.2.1, z.2.2.2.2.2.2.2.1, z.2.2.2.2.2.2.2.2.1, z.2.2.2.2.2.2.2.2.2.1, z.2.2.2.2.2.2.2.2.2.2.1)), (nI N, 0, nI (N + 1), upd mSize N (nI C.1), mG', mL', z'), ?_, ?_, .inr ⟨_, _, rfl, rfl, rfl, hN6, rfl, rfl, fun p an aa hp => ?_⟩⟩
            · simp only [f_La_or, f_RS_or, reqL hN, h0, h1, and_self, if_true, sb_t, el_r, el_l, room_t hN6, nI_gin (show i < 60 by omega) (by omega), nI_nat (show i < 2147483648 by omega), nI_gin (show j < 60 by omega) (by omega), nI_nat (show j < 2147483648 by omega), ogd_t, hq, hq2, oq, a1, a2, b1, b2, x2, nI_gin hN6 (show 60 ≤ 2147483648 by omega), show nI N + 1 = nI (N + 1) from by rw [l1, nJ_add], show nI (N + 1) - 1 = nI N from by rw [l1, nI_sub (by omega), Nat.add_sub_cancel]]
              rfl
            · rw [f_Mo_or, y2]; rfl
            · refine relL_ext hN6 hI hE hp (fun z hz => if_neg hz) (fun j hj => uin hj) y3 y4 ⟨C.1, goF E C, finF (eO f1 f2) E C, hwf, ?_, y5⟩
              show AuC (if p = p then _ else T p).2.2 C.1 _ _
              rw [if_pos rfl]
              show AuC (nI C.1, (4 * nI C.1).toNatClampNeg, nx, la, ah) C.1 _ _
              rw [show (4 * nI C.1).toNatClampNeg = 4 * C.1 from by rw [l4, nI_mul, nI_nat (by omega)]]
              exact x3
    · refine ⟨.inl (1, (kHeads, kTails, kNext, kSlots, kReached, kClassOf, kFinerOf, kMarkOf, kFirstOf, kMarkSlots, kClasses)), (0, 1, nI N, mSize, mGoes, mLast, mLeft, mNext, mGroup, mFresh, mLeader, mNumber, mRight, mEnds, mWay), ?_, ?_, .inl ⟨1, _, rfl, by decide, rfl, rfl, rfl, rfl, rfl⟩⟩
      · simp [f_La_or, f_RS_or, reqL hN, h0, h1]
      · simp [f_Mo_or, f_Mo_made, isL hN, h0, h1, fails_t]
  · refine ⟨.inl (1, (kHeads, kTails, kNext, kSlots, kReached, kClassOf, kFinerOf, kMarkOf, kFirstOf, kMarkSlots, kClasses)), (0, 1, nI N, mSize, mGoes, mLast, mLeft, mNext, mGroup, mFresh, mLeader, mNumber, mRight, mEnds, mWay), ?_, ?_, .inl ⟨1, _, rfl, by decide, rfl, rfl, rfl, rfl, rfl⟩⟩
    · simp [f_La_or, f_RS_or, reqL hN, h0]
    · simp [f_Mo_or, f_Mo_made, isL hN, h0, fails_t]
theorem ok_or {n : Nat} (hn : 2048 < n) : sim_or n Rel := by
  intro c T r o p0 p1 hR
  obtain ⟨hL, hV, hB, hS⟩ := hR
  have hL' := hL
  obtain ⟨N, hN, e1, e2, hI, hE⟩ := hL'
  rw [e1] at hV
  obtain ⟨u, w, h1, h2, h3⟩ := cl_or hn (p0 := p0) (p1 := p1) (o := o) hN hI hE c.2.2.1 c.2.2.2.1 c.2.2.2.2.1 c.2.2.2.2.2.1 c.2.2.2.2.2.2.1 c.2.2.2.2.2.2.2.1 c.2.2.2.2.2.2.2.2.1 c.2.2.2.2.2.2.2.2.2.1 c.2.2.2.2.2.2.2.2.2.2.1 c.2.2.2.2.2.2.2.2.2.2.2.1 c.2.2.2.2.2.2.2.2.2.2.2.2.1 r.2.2.2.2.2.2.1 r.2.2.2.2.2.2.2.1 r.2.2.2.2.2.2.2.2.1 r.2.2.2.2.2.2.2.2.2.1 r.2.2.2.2.2.2.2.2.2.2.1 r.2.2.2.2.2.2.2.2.2.2.2.1 r.2.2.2.2.2.2.2.2.2.2.2.2.1 r.2.2.2.2.2.2.2.2.2.2.2.2.2.1 r.2.2.2.2.2.2.2.2.2.2.2.2.2.2.1
  rw [← e1] at h1
  rw [← e2] at h2
  refine ⟨u, w, h1, h2, ?_⟩
  rcases h3 with ⟨k, m, a, b, d, f1, f2, f3, f4⟩ | ⟨o2, v, a, b, d, hN6, e, f, g⟩
  · refine .inl ⟨k, m, a, b, d, ?_, ?_, hB, hS⟩
    · show RelL c.1 c.2.1 T w.2.2.1 w.2.2.2.1 w.2.2.2.2.1 w.2.2.2.2.2.1
      rw [f1, f2, f3, f4]; exact ⟨N, hN, e1, rfl, hI, hE⟩
    · show RelV c.1 c.2.1 _ _
      rw [e1]; exact hV
  · refine .inr ⟨o2, v, a, b, d, fun q an aa hq => ?_⟩
    have hg := g q an aa (fun i hi h => hq (.inl ⟨i, hi, h⟩))
    have hv2 := relV_ext (q := q) hN6 hV
    have en : c.2.1.toNatClampNeg = N := by rw [e1]; exact nI_nat (by omega)
    rw [en]
    refine ⟨?_, ?_, hB, hS⟩
    · show RelL _ v.2.2.1 _ w.2.2.1 _ _ _
      rw [e, f]; exact hg
    · show RelV _ v.2.2.1 _ _
      rw [e]; exact hv2
theorem cl_and {n : Nat} (hn : 2048 < n) {p0 p1 : Int32} {o : Nat → Int64} {xLang : Nat → Option Nat} {T : auTab} {mSize mGoes : Nat → Int32} {mLast : Nat → Bool} {N : Nat} (hN : N ≤ 60) (hI : ∀ i, i < N → ∃ q, xLang i = some q ∧ LangOK q T i mSize mGoes mLast) (hE : ∀ i, N ≤ i → xLang i = none) (kHeads : Nat → Int32) (kTails : Nat → Int64) (kNext kSlots : Nat → Int32) (kReached : Int32) (kClassOf kFinerOf kMarkOf kFirstOf kMarkSlots : Nat → Int32) (kClasses : Int32) (mLeft mNext mGroup mFresh mLeader mNumber : Nat → Int32) (mRight : Nat → Int64) (mEnds : Nat → Bool) (mWay : Int32) : ∃ u w, f_La_and n p0 p1 xLang (nI N) kHeads kTails kNext kSlots kReached kClassOf kFinerOf kMarkOf kFirstOf kMarkSlots kClasses T o = some u ∧ f_Mo_and n p0 p1 (nI N) mSize mGoes mLast mLeft mNext mGroup mFresh mLeader mNumber mRight mEnds mWay = some w ∧ ((∃ (k : Int32) (m : (Nat → Int32) × (Nat → Int64) × (Nat → Int32) × (Nat → Int32) × Int32 × (Nat → Int32) × (Nat → Int32) × (Nat → Int32) × (Nat → Int32) × (Nat → Int32) × Int32), u = .inl (k, m) ∧ k ≠ 0 ∧ w.2.1 = k ∧ w.2.2.1 = nI N ∧ w.2.2.2.1 = mSize ∧ w.2.2.2.2.1 = mGoes ∧ w.2.2.2.2.2.1 = mLast) ∨ (∃ (o2 : Nat → Int64) (v : Int32 × auP × Int32 × (Nat → Int32) × (Nat → Int64) × (Nat → Int32) × (Nat → Int32) × Int32 × (Nat → Int32) × (Nat → Int32) × (Nat → Int32) × (Nat → Int32) × (Nat → Int32) × Int32), u = .inr (o2, v) ∧ w.2.1 = 0 ∧ o2 (0 : Int32).toNatClampNeg = w.1.toInt64 ∧ N < 60 ∧ v.2.2.1 = nI (N + 1) ∧ w.2.2.1 = nI (N + 1) ∧ ∀ q an aa : Nat, (∀ i, i < 60 → xLang i ≠ some q) → RelL (va_up xLang N (some q)) (nI (N + 1)) (fun z => if z = q then (an, aa, v.2.1.1, (4 * v.2.1.1).toNatClampNeg, v.2.1.2.2.1, v.2.1.2.1, v.2.1.2.2.2) else T z) (nI (N + 1)) w.2.2.2.1 w.2.2.2.2.1 w.2.2.2.2.2.1)) := by
  by_cases h0 : 0 ≤ p0.toInt ∧ p0.toInt < N
  · by_cases h1 : 0 ≤ p1.toInt ∧ p1.toInt < N
    · obtain ⟨i, hi, rfl⟩ := idx h0.1 h0.2
      obtain ⟨j, hj, rfl⟩ := idx h1.1 h1.2
      by_cases h60 : N = 60
      · subst h60
        refine ⟨.inl (2, (kHeads, kTails, kNext, kSlots, kReached, kClassOf, kFinerOf, kMarkOf, kFirstOf, kMarkSlots, kClasses)), (0, 2, nI 60, mSize, mGoes, mLast, mLeft, mNext, mGroup, mFresh, mLeader, mNumber, mRight, mEnds, mWay), ?_, ?_, .inl ⟨2, _, rfl, by decide, rfl, rfl, rfl, rfl, rfl⟩⟩
        · simp only [f_La_and, f_RS_and, reqL hN, h0, h1, and_self, if_true, sb_t, el_r, el_l, room_f]
          rfl
        · simp only [f_Mo_and, f_Mo_made, isL hN, h0, h1, and_self, decide_true, sb_t, if_true, fails_f, Bool.false_eq_true, if_false, full_t (show (2 : Int32) ≠ 0 by decide)]
      · have hN6 : N < 60 := by omega
        obtain ⟨q, hq, S1, g1, f1, w1, ⟨a1, a2, a3, a4, a5⟩, hR1⟩ := hI i hi
        obtain ⟨q2, hq2, S2, g2, f2, w2, ⟨b1, b2, b3, b4, b5⟩, hR2⟩ := hI j hj
        have hmk := mk_Pa (n := n) hn (dl := (dlP g1 g2)) (e := (eA f1 f2)) (V := (VP S1 S2)) (vP_s w1 w2) (goP_c w1 w2 a3 b3) (fun x hx => enP_c w1.2.1 w2.2.1 a4 b4 true x hx) (x0 := (nI 0, (nI 0).toInt64)) ⟨0, 0, w1.1, w2.1, rfl⟩ (rfl) kHeads kTails kNext kSlots kClassOf kFinerOf kMarkOf kFirstOf kMarkSlots kClasses
        have hmr := made_r (n := n) hn (how := 1) (dl := (dlP g1 g2)) (e := (eA f1 f2)) (V := (VP S1 S2)) hN6 hi hj (vP_s w1 w2) (stA_r w1 w2 (by omega) (by omega) hR1 hR2) (x0 := (nI 0, (nI 0).toInt64)) ⟨0, 0, w1.1, w2.1, rfl⟩ mLeft mNext mGroup mFresh mLeader mNumber mRight mEnds mWay (by
          have e1 := (enO_r (n := n) w1 w2 (show i < 60 by omega) (show j < 60 by omega) hR1 hR2 (nI 0, (nI 0).toInt64) ⟨0, 0, w1.1, w2.1, rfl⟩).2
          rw [f_Mo_explored, if_neg (by decide), show f_Mo_ends n 1 (nI i) (nI j) 0 0 mSize mLast = some (eA f1 f2 (nI 0, (nI 0).toInt64)) from e1, sb_t]
          rfl)
        rcases hmk with ⟨x1, z, x2⟩ | ⟨E, C, la, nx, ah, z, x1, hEI, hF, x2, x3⟩
        · rcases hmr with ⟨y1, z', y2⟩ | ⟨E', C', mG', mL', z', y1, -⟩
          · refine ⟨.inl (3, (z.1, z.2.1, z.2.2.1, z.2.2.2.1, z.2.2.2.2.1, z.2.2.2.2.2.1, z.2.2.2.2.2.2.1, z.2.2.2.2.2.2.2.1, z.2.2.2.2.2.2.2.2.1, z.2.2.2.2.2.2.2.2.2.1, z.2.2.2.2.2.2.2.2.2.2.1)), (0, 3, nI N, mSize, mGoes, mLast, z'), ?_, ?_, .inl ⟨3, _, rfl, by decide, rfl, rfl, rfl, rfl, rfl⟩⟩
            · simp only [f_La_and, f_RS_and, reqL hN, h0, h1, and_self, if_true, sb_t, el_r, el_l, room_t hN6, nI_gin (show i < 60 by omega) (by omega), nI_nat (show i < 2147483648 by omega), nI_gin (show j < 60 by omega) (by omega), nI_nat (show j < 2147483648 by omega), ogd_t, hq, hq2, oq, a1, a2, b1, b2, x2]
              rfl
            · rw [f_Mo_and, y2]; rfl
          · rw [x1] at y1; cases y1
        · rcases hmr with ⟨y1, z', y2⟩ | ⟨E', C', mG', mL', z', y1, y2, y3, y4, y5⟩
          · rw [x1] at y1; cases y1
          · rw [x1] at y1
            simp only [Option.some.injEq, Prod.mk.injEq] at y1
            obtain ⟨rfl, rfl⟩ := y1
            have hwf := (fin_wf hEI hF).1
            have h64 := hwf.2.1
            refine ⟨.inr (vp_updL o 0 (nI N).toInt64, (nI N, (nI C.1, la, nx, ah), nI (N + 1), z.1, z.2.1, z.2.2.1, z.2.2.2.1, z.2.2.2.2.1, z.2.2.2.2.2.1, z.2.2.2.2.2.2.1, z.2.2.2.2.2.2.2.1, z.2.2.2.2.2.2.2.2.1, z.2.2.2.2.2.2.2.2.2.1, z.2.2.2.2.2.2.2.2.2.2.1)), (nI N, 0, nI (N + 1), upd mSize N (nI C.1), mG', mL', z'), ?_, ?_, .inr ⟨_, _, rfl, rfl, rfl, hN6, rfl, rfl, fun p an aa hp => ?_⟩⟩
            · simp only [f_La_and, f_RS_and, reqL hN, h0, h1, and_self, if_true, sb_t, el_r, el_l, room_t hN6, nI_gin (show i < 60 by omega) (by omega), nI_nat (show i < 2147483648 by omega), nI_gin (show j < 60 by omega) (by omega), nI_nat (show j < 2147483648 by omega), ogd_t, hq, hq2, oq, a1, a2, b1, b2, x2, nI_gin hN6 (show 60 ≤ 2147483648 by omega), show nI N + 1 = nI (N + 1) from by rw [l1, nJ_add], show nI (N + 1) - 1 = nI N from by rw [l1, nI_sub (by omega), Nat.add_sub_cancel]]
              rfl
            · rw [f_Mo_and, y2]; rfl
            · refine relL_ext hN6 hI hE hp (fun z hz => if_neg hz) (fun j hj => uin hj) y3 y4 ⟨C.1, goF E C, finF (eA f1 f2) E C, hwf, ?_, y5⟩
              show AuC (if p = p then _ else T p).2.2 C.1 _ _
              rw [if_pos rfl]
              show AuC (nI C.1, (4 * nI C.1).toNatClampNeg, nx, la, ah) C.1 _ _
              rw [show (4 * nI C.1).toNatClampNeg = 4 * C.1 from by rw [l4, nI_mul, nI_nat (by omega)]]
              exact x3
    · refine ⟨.inl (1, (kHeads, kTails, kNext, kSlots, kReached, kClassOf, kFinerOf, kMarkOf, kFirstOf, kMarkSlots, kClasses)), (0, 1, nI N, mSize, mGoes, mLast, mLeft, mNext, mGroup, mFresh, mLeader, mNumber, mRight, mEnds, mWay), ?_, ?_, .inl ⟨1, _, rfl, by decide, rfl, rfl, rfl, rfl, rfl⟩⟩
      · simp [f_La_and, f_RS_and, reqL hN, h0, h1]
      · simp [f_Mo_and, f_Mo_made, isL hN, h0, h1, fails_t]
  · refine ⟨.inl (1, (kHeads, kTails, kNext, kSlots, kReached, kClassOf, kFinerOf, kMarkOf, kFirstOf, kMarkSlots, kClasses)), (0, 1, nI N, mSize, mGoes, mLast, mLeft, mNext, mGroup, mFresh, mLeader, mNumber, mRight, mEnds, mWay), ?_, ?_, .inl ⟨1, _, rfl, by decide, rfl, rfl, rfl, rfl, rfl⟩⟩
    · simp [f_La_and, f_RS_and, reqL hN, h0]
    · simp [f_Mo_and, f_Mo_made, isL hN, h0, fails_t]
theorem ok_and {n : Nat} (hn : 2048 < n) : sim_and n Rel := by
  intro c T r o p0 p1 hR
  obtain ⟨hL, hV, hB, hS⟩ := hR
  have hL' := hL
  obtain ⟨N, hN, e1, e2, hI, hE⟩ := hL'
  rw [e1] at hV
  obtain ⟨u, w, h1, h2, h3⟩ := cl_and hn (p0 := p0) (p1 := p1) (o := o) hN hI hE c.2.2.1 c.2.2.2.1 c.2.2.2.2.1 c.2.2.2.2.2.1 c.2.2.2.2.2.2.1 c.2.2.2.2.2.2.2.1 c.2.2.2.2.2.2.2.2.1 c.2.2.2.2.2.2.2.2.2.1 c.2.2.2.2.2.2.2.2.2.2.1 c.2.2.2.2.2.2.2.2.2.2.2.1 c.2.2.2.2.2.2.2.2.2.2.2.2.1 r.2.2.2.2.2.2.1 r.2.2.2.2.2.2.2.1 r.2.2.2.2.2.2.2.2.1 r.2.2.2.2.2.2.2.2.2.1 r.2.2.2.2.2.2.2.2.2.2.1 r.2.2.2.2.2.2.2.2.2.2.2.1 r.2.2.2.2.2.2.2.2.2.2.2.2.1 r.2.2.2.2.2.2.2.2.2.2.2.2.2.1 r.2.2.2.2.2.2.2.2.2.2.2.2.2.2.1
  rw [← e1] at h1
  rw [← e2] at h2
  refine ⟨u, w, h1, h2, ?_⟩
  rcases h3 with ⟨k, m, a, b, d, f1, f2, f3, f4⟩ | ⟨o2, v, a, b, d, hN6, e, f, g⟩
  · refine .inl ⟨k, m, a, b, d, ?_, ?_, hB, hS⟩
    · show RelL c.1 c.2.1 T w.2.2.1 w.2.2.2.1 w.2.2.2.2.1 w.2.2.2.2.2.1
      rw [f1, f2, f3, f4]; exact ⟨N, hN, e1, rfl, hI, hE⟩
    · show RelV c.1 c.2.1 _ _
      rw [e1]; exact hV
  · refine .inr ⟨o2, v, a, b, d, fun q an aa hq => ?_⟩
    have hg := g q an aa (fun i hi h => hq (.inl ⟨i, hi, h⟩))
    have hv2 := relV_ext (q := q) hN6 hV
    have en : c.2.1.toNatClampNeg = N := by rw [e1]; exact nI_nat (by omega)
    rw [en]
    refine ⟨?_, ?_, hB, hS⟩
    · show RelL _ v.2.2.1 _ w.2.2.1 _ _ _
      rw [e, f]; exact hg
    · show RelV _ v.2.2.1 _ _
      rw [e]; exact hv2
theorem cl_again {n : Nat} (hn : 2048 < n) {p0 : Int32} {o : Nat → Int64} {xLang : Nat → Option Nat} {T : auTab} {mSize mGoes : Nat → Int32} {mLast : Nat → Bool} {N : Nat} (hN : N ≤ 60) (hI : ∀ i, i < N → ∃ q, xLang i = some q ∧ LangOK q T i mSize mGoes mLast) (hE : ∀ i, N ≤ i → xLang i = none) (kHeads : Nat → Int32) (kTails : Nat → Int64) (kNext kSlots : Nat → Int32) (kReached : Int32) (kClassOf kFinerOf kMarkOf kFirstOf kMarkSlots : Nat → Int32) (kClasses : Int32) (mLeft mNext mGroup mFresh mLeader mNumber : Nat → Int32) (mRight : Nat → Int64) (mEnds : Nat → Bool) (mWay : Int32) : ∃ u w, f_La_again n p0 xLang (nI N) kHeads kTails kNext kSlots kReached kClassOf kFinerOf kMarkOf kFirstOf kMarkSlots kClasses T o = some u ∧ f_Mo_again n p0 (nI N) mSize mGoes mLast mLeft mNext mGroup mFresh mLeader mNumber mRight mEnds mWay = some w ∧ ((∃ (k : Int32) (m : (Nat → Int32) × (Nat → Int64) × (Nat → Int32) × (Nat → Int32) × Int32 × (Nat → Int32) × (Nat → Int32) × (Nat → Int32) × (Nat → Int32) × (Nat → Int32) × Int32), u = .inl (k, m) ∧ k ≠ 0 ∧ w.2.1 = k ∧ w.2.2.1 = nI N ∧ w.2.2.2.1 = mSize ∧ w.2.2.2.2.1 = mGoes ∧ w.2.2.2.2.2.1 = mLast) ∨ (∃ (o2 : Nat → Int64) (v : Int32 × auP × Int32 × (Nat → Int32) × (Nat → Int64) × (Nat → Int32) × (Nat → Int32) × Int32 × (Nat → Int32) × (Nat → Int32) × (Nat → Int32) × (Nat → Int32) × (Nat → Int32) × Int32), u = .inr (o2, v) ∧ w.2.1 = 0 ∧ o2 (0 : Int32).toNatClampNeg = w.1.toInt64 ∧ N < 60 ∧ v.2.2.1 = nI (N + 1) ∧ w.2.2.1 = nI (N + 1) ∧ ∀ q an aa : Nat, (∀ i, i < 60 → xLang i ≠ some q) → RelL (va_up xLang N (some q)) (nI (N + 1)) (fun z => if z = q then (an, aa, v.2.1.1, (4 * v.2.1.1).toNatClampNeg, v.2.1.2.2.1, v.2.1.2.1, v.2.1.2.2.2) else T z) (nI (N + 1)) w.2.2.2.1 w.2.2.2.2.1 w.2.2.2.2.2.1)) := by
  by_cases h0 : 0 ≤ p0.toInt ∧ p0.toInt < N
  · obtain ⟨i, hi, rfl⟩ := idx h0.1 h0.2
    by_cases h60 : N = 60
    · subst h60
      refine ⟨.inl (2, (kHeads, kTails, kNext, kSlots, kReached, kClassOf, kFinerOf, kMarkOf, kFirstOf, kMarkSlots, kClasses)), (0, 2, nI 60, mSize, mGoes, mLast, mLeft, mNext, mGroup, mFresh, mLeader, mNumber, mRight, mEnds, mWay), ?_, ?_, .inl ⟨2, _, rfl, by decide, rfl, rfl, rfl, rfl, rfl⟩⟩
      · simp only [f_La_again, f_RS_again, reqL hN, h0, and_self, if_true, sb_t, el_r, el_l, room_f]
        rfl
      · simp only [f_Mo_again, f_Mo_made, isL hN, h0, and_self, decide_true, sb_t, if_true, fails_f, Bool.false_eq_true, if_false, full_t (show (2 : Int32) ≠ 0 by decide)]
    · have hN6 : N < 60 := by omega
      obtain ⟨q, hq, S1, g1, f1, w1, ⟨a1, a2, a3, a4, a5⟩, hR1⟩ := hI i hi
      have hmk := mk_Re (n := n) hn (dl := (dlR g1 f1 S1)) (e := (eR f1 S1)) (V := VR) vR_s (goR_c w1 a3 a4 (by omega)) (fun x _ => enR_c w1.2.1 a4 x) (x0 := (nI 0, 0)) rfl rfl (rfl) kHeads kTails kNext kSlots kClassOf kFinerOf kMarkOf kFirstOf kMarkSlots kClasses
      have hmr := made_r (n := n) hn (how := 3) (dl := (dlR g1 f1 S1)) (e := (eR f1 S1)) (V := VR) hN6 hi hi vR_s (stR_r w1 (by omega) hR1 (by omega)) (x0 := (nI 0, 0)) rfl mLeft mNext mGroup mFresh mLeader mNumber mRight mEnds mWay (by
        have e1 := enR_r (n := n) (i2 := i) w1 (show i < 60 by omega) hR1 (by omega) (nI 0, 0)
        rw [f_Mo_explored, if_neg (by decide), show f_Mo_ends n 3 (nI i) (nI i) 0 0 mSize mLast = some (eR f1 S1 (nI 0, 0)) from e1, sb_t]
        rfl)
      rcases hmk with ⟨x1, z, x2⟩ | ⟨E, C, la, nx, ah, z, x1, hEI, hF, x2, x3⟩
      · rcases hmr with ⟨y1, z', y2⟩ | ⟨E', C', mG', mL', z', y1, -⟩
        · refine ⟨.inl (3, (z.1, z.2.1, z.2.2.1, z.2.2.2.1, z.2.2.2.2.1, z.2.2.2.2.2.1, z.2.2.2.2.2.2.1, z.2.2.2.2.2.2.2.1, z.2.2.2.2.2.2.2.2.1, z.2.2.2.2.2.2.2.2.2.1, z.2.2.2.2.2.2.2.2.2.2.1)), (0, 3, nI N, mSize, mGoes, mLast, z'), ?_, ?_, .inl ⟨3, _, rfl, by decide, rfl, rfl, rfl, rfl, rfl⟩⟩
          · simp only [f_La_again, f_RS_again, reqL hN, h0, and_self, if_true, sb_t, el_r, el_l, room_t hN6, nI_gin (show i < 60 by omega) (by omega), nI_nat (show i < 2147483648 by omega), ogd_t, hq, oq, a1, a2, x2]
            rfl
          · rw [f_Mo_again, y2]; rfl
        · rw [x1] at y1; cases y1
      · rcases hmr with ⟨y1, z', y2⟩ | ⟨E', C', mG', mL', z', y1, y2, y3, y4, y5⟩
        · rw [x1] at y1; cases y1
        · rw [x1] at y1
          simp only [Option.some.injEq, Prod.mk.injEq] at y1
          obtain ⟨rfl, rfl⟩ := y1
          have hwf := (fin_wf hEI hF).1
          have h64 := hwf.2.1
          refine ⟨.inr (vp_updL o 0 (nI N).toInt64, (nI N, (nI C.1, la, nx, ah), nI (N + 1), z.1, z.2.1, z.2.2.1, z.2.2.2.1, z.2.2.2.2.1, z.2.2.2.2.2.1, z.2.2.2.2.2.2.1, z.2.2.2.2.2.2.2.1, z.2.2.2.2.2.2.2.2.1, z.2.2.2.2.2.2.2.2.2.1, z.2.2.2.2.2.2.2.2.2.2.1)), (nI N, 0, nI (N + 1), upd mSize N (nI C.1), mG', mL', z'), ?_, ?_, .inr ⟨_, _, rfl, rfl, rfl, hN6, rfl, rfl, fun p an aa hp => ?_⟩⟩
          · simp only [f_La_again, f_RS_again, reqL hN, h0, and_self, if_true, sb_t, el_r, el_l, room_t hN6, nI_gin (show i < 60 by omega) (by omega), nI_nat (show i < 2147483648 by omega), ogd_t, hq, oq, a1, a2, x2, nI_gin hN6 (show 60 ≤ 2147483648 by omega), show nI N + 1 = nI (N + 1) from by rw [l1, nJ_add], show nI (N + 1) - 1 = nI N from by rw [l1, nI_sub (by omega), Nat.add_sub_cancel]]
            rfl
          · rw [f_Mo_again, y2]; rfl
          · refine relL_ext hN6 hI hE hp (fun z hz => if_neg hz) (fun j hj => uin hj) y3 y4 ⟨C.1, goF E C, finF (eR f1 S1) E C, hwf, ?_, y5⟩
            show AuC (if p = p then _ else T p).2.2 C.1 _ _
            rw [if_pos rfl]
            show AuC (nI C.1, (4 * nI C.1).toNatClampNeg, nx, la, ah) C.1 _ _
            rw [show (4 * nI C.1).toNatClampNeg = 4 * C.1 from by rw [l4, nI_mul, nI_nat (by omega)]]
            exact x3
  · refine ⟨.inl (1, (kHeads, kTails, kNext, kSlots, kReached, kClassOf, kFinerOf, kMarkOf, kFirstOf, kMarkSlots, kClasses)), (0, 1, nI N, mSize, mGoes, mLast, mLeft, mNext, mGroup, mFresh, mLeader, mNumber, mRight, mEnds, mWay), ?_, ?_, .inl ⟨1, _, rfl, by decide, rfl, rfl, rfl, rfl, rfl⟩⟩
    · simp [f_La_again, f_RS_again, reqL hN, h0]
    · simp [f_Mo_again, f_Mo_made, isL hN, h0, fails_t]
theorem ok_again {n : Nat} (hn : 2048 < n) : sim_again n Rel := by
  intro c T r o p0 hR
  obtain ⟨hL, hV, hB, hS⟩ := hR
  have hL' := hL
  obtain ⟨N, hN, e1, e2, hI, hE⟩ := hL'
  rw [e1] at hV
  obtain ⟨u, w, h1, h2, h3⟩ := cl_again hn (p0 := p0) (o := o) hN hI hE c.2.2.1 c.2.2.2.1 c.2.2.2.2.1 c.2.2.2.2.2.1 c.2.2.2.2.2.2.1 c.2.2.2.2.2.2.2.1 c.2.2.2.2.2.2.2.2.1 c.2.2.2.2.2.2.2.2.2.1 c.2.2.2.2.2.2.2.2.2.2.1 c.2.2.2.2.2.2.2.2.2.2.2.1 c.2.2.2.2.2.2.2.2.2.2.2.2.1 r.2.2.2.2.2.2.1 r.2.2.2.2.2.2.2.1 r.2.2.2.2.2.2.2.2.1 r.2.2.2.2.2.2.2.2.2.1 r.2.2.2.2.2.2.2.2.2.2.1 r.2.2.2.2.2.2.2.2.2.2.2.1 r.2.2.2.2.2.2.2.2.2.2.2.2.1 r.2.2.2.2.2.2.2.2.2.2.2.2.2.1 r.2.2.2.2.2.2.2.2.2.2.2.2.2.2.1
  rw [← e1] at h1
  rw [← e2] at h2
  refine ⟨u, w, h1, h2, ?_⟩
  rcases h3 with ⟨k, m, a, b, d, f1, f2, f3, f4⟩ | ⟨o2, v, a, b, d, hN6, e, f, g⟩
  · refine .inl ⟨k, m, a, b, d, ?_, ?_, hB, hS⟩
    · show RelL c.1 c.2.1 T w.2.2.1 w.2.2.2.1 w.2.2.2.2.1 w.2.2.2.2.2.1
      rw [f1, f2, f3, f4]; exact ⟨N, hN, e1, rfl, hI, hE⟩
    · show RelV c.1 c.2.1 _ _
      rw [e1]; exact hV
  · refine .inr ⟨o2, v, a, b, d, fun q an aa hq => ?_⟩
    have hg := g q an aa (fun i hi h => hq (.inl ⟨i, hi, h⟩))
    have hv2 := relV_ext (q := q) hN6 hV
    have en : c.2.1.toNatClampNeg = N := by rw [e1]; exact nI_nat (by omega)
    rw [en]
    refine ⟨?_, ?_, hB, hS⟩
    · show RelL _ v.2.2.1 _ w.2.2.1 _ _ _
      rw [e, f]; exact hg
    · show RelV _ v.2.2.1 _ _
      rw [e]; exact hv2
