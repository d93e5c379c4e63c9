/-! STAGE 2. WHAT IS COME TO IN ORDER IS NUMBERED IN ORDER -/
def gT (E : wE) (C : cC) (t : Nat) : Nat := C.2.2 (E.2.2 (4 * C.2.1 (t / 4) + t % 4))
theorem fin_ord {V : wSt → Prop} {E : wE} {C : cC} {c0 : Nat → Nat} (hE : EI V (4 * E.1) E) (hF : Fin9 E.1 E.2.2 c0 C) : (∀ k q, k < C.1 → (∀ t, t < 4 * k → gT E C t < q) → 0 < q → k < q) ∧ (∀ k l q, k < C.1 → l < 4 → 0 < q → q < C.1 → (∀ t, t < 4 * k + l → gT E C t < q) → gT E C (4 * k + l) ≤ q) := by
  obtain ⟨key, hC, hst, -⟩ := hF
  obtain ⟨c1, c2, c3, c4, c5⟩ := hC
  obtain ⟨e1, e2, e3, e4, e5, e6, e7⟩ := hE
  have mono : ∀ a b, a < C.1 → b < C.1 → C.2.1 a < C.2.1 b → a < b := by
    intro a b ha hb h
    apply Classical.byContradiction
    intro hn
    by_cases hab : a = b
    · subst hab; omega
    · have := c4 b a (by omega) ha; omega
  have mono2 : ∀ a b, a < C.1 → b < C.1 → C.2.1 a ≤ C.2.1 b → a ≤ b := by
    intro a b ha hb h
    apply Classical.byContradiction
    intro hn
    have := c4 b a (by omega) ha; omega
  have gTe : ∀ c l, l < 4 → gT E C (4 * c + l) = C.2.2 (E.2.2 (4 * C.2.1 c + l)) := by
    intro c l hl
    unfold gT
    rw [show (4 * c + l) / 4 = c by omega, show (4 * c + l) % 4 = l by omega]
  have par : ∀ t s, t < 4 * E.1 → E.2.2 t = s → s < E.1 → C.2.2 (t / 4) < C.1 ∧ C.2.1 (C.2.2 (t / 4)) ≤ t / 4 ∧ gT E C (4 * C.2.2 (t / 4) + t % 4) = C.2.2 s := by
    intro t s ht hts hs
    have hp := c3 (t / 4) (by omega)
    refine ⟨hp.1, hp.2.2, ?_⟩
    rw [gTe _ _ (by omega)]
    have hnm : C.2.2 (C.2.1 (C.2.2 (t / 4))) = C.2.2 (t / 4) := (c2 _ hp.1).2
    have h1 := hst (C.2.1 (C.2.2 (t / 4))) (t / 4) (by omega) (by omega) hnm (t % 4) (by omega)
    rw [h1, show 4 * (t / 4) + t % 4 = t by omega, hts]
  refine ⟨fun k q hk hq h0 => ?_, fun k l q hk hl h0 hqm hq => ?_⟩
  · by_cases hk0 : k = 0
    · omega
    · have hld := c2 k hk
      have hpos : 0 < C.2.1 k := by have := c4 0 k (by omega) hk; omega
      obtain ⟨t, t1, t2, t3⟩ := e6 (C.2.1 k) hpos hld.1
      obtain ⟨p1, p2, p3⟩ := par t _ t1 t2 hld.1
      have hlt := mono _ k p1 hk (by omega)
      have := hq _ (show 4 * C.2.2 (t / 4) + t % 4 < 4 * k by omega)
      rw [p3, hld.2] at this
      exact this
  · apply Classical.byContradiction
    intro hgt
    rw [gTe k l hl] at hgt
    have hld := c2 k hk
    have ht0 : 4 * C.2.1 k + l < 4 * E.1 := by omega
    have hu := e5 _ ht0
    have hcu := c3 _ hu
    have hldq := c2 q hqm
    have hq1 : C.2.1 q < C.2.1 (C.2.2 (E.2.2 (4 * C.2.1 k + l))) := c4 q _ (by omega) hcu.1
    have hpos : 0 < C.2.1 q := by have := c4 0 q (by omega) hqm; omega
    obtain ⟨t', t1, t2⟩ := e7 _ ht0 (C.2.1 q) hpos (by omega)
    obtain ⟨p1, p2, p3⟩ := par t' _ (by omega) t2 hldq.1
    have hlt : 4 * C.2.2 (t' / 4) + t' % 4 < 4 * k + l := by
      by_cases hpk : t' / 4 < C.2.1 k
      · have := mono _ k p1 hk (by omega); omega
      · have := mono2 _ k p1 hk (by omega); omega
    have := hq _ hlt
    rw [p3, hldq.2] at this
    omega
def IDn (E : wE) (C : cC) (T : Nat) (R : rS) : Prop :=
  0 < R.1 ∧ R.1 ≤ C.1 ∧ (∀ j, j < R.1 → R.2.1 j = j) ∧ (∀ g, g < C.1 → R.2.2.1 g = if g < R.1 then some g else none) ∧ (∀ t, t < T → R.2.2.2 t = gT E C t) ∧ ∀ t, t < T → gT E C t < R.1
theorem id_step {V : wSt → Prop} {E : wE} {C : cC} {c0 : Nat → Nat} (hE : EI V (4 * E.1) E) (hF : Fin9 E.1 E.2.2 c0 C) {k l : Nat} (hk : k < C.1) (hl : l < 4) {R : rS} (hR : IDn E C (4 * k + l) R) (hkR : k < R.1) : IDn E C (4 * k + l + 1) (rstep (gT E C) R (4 * k + l)) ∧ R.1 ≤ (rstep (gT E C) R (4 * k + l)).1 := by
  obtain ⟨r1, r2, r3, r4, r5, r6⟩ := hR
  have hwf := (fin_wf hE hF).1
  have hg : gT E C (4 * k + l) < C.1 := by
    have := hwf.2.2 k l hk hl
    unfold goF at this
    unfold gT
    rw [show (4 * k + l) / 4 = k by omega, show (4 * k + l) % 4 = l by omega]
    exact this
  have hgE : gT E C (4 * R.2.1 ((4 * k + l) / 4) + (4 * k + l) % 4) = gT E C (4 * k + l) := by
    rw [show (4 * k + l) / 4 = k by omega, show (4 * k + l) % 4 = l by omega, r3 k hkR]
  unfold rstep
  rw [hgE]
  by_cases hlt : gT E C (4 * k + l) < R.1
  · have e := r4 _ hg
    rw [if_pos hlt] at e
    rw [e]
    refine ⟨⟨r1, r2, r3, r4, fun t ht => ?_, fun t ht => ?_⟩, Nat.le_refl _⟩
    · show upN R.2.2.2 (4 * k + l) (gT E C (4 * k + l)) t = gT E C t
      by_cases h : t = 4 * k + l
      · rw [h, upNs]
      · rw [upNn h]; exact r5 t (by omega)
    · by_cases h : t = 4 * k + l
      · rw [h]; exact hlt
      · exact r6 t (by omega)
  · have hq : gT E C (4 * k + l) = R.1 := by
      have := (fin_ord hE hF).2 k l R.1 hk hl r1 (by omega) r6
      omega
    have e := r4 _ hg
    rw [if_neg hlt] at e
    rw [e]
    simp only [hq]
    refine ⟨⟨Nat.succ_pos _, by show R.1 + 1 ≤ C.1; omega, fun j hj => ?_, fun g hg' => ?_, fun t ht => ?_, fun t ht => ?_⟩, Nat.le_succ _⟩
    · have hj' : j < R.1 + 1 := hj
      show upN R.2.1 R.1 R.1 j = j
      by_cases h : j = R.1
      · rw [h, upNs]
      · rw [upNn h]; exact r3 j (by omega)
    · show va_up R.2.2.1 R.1 (some R.1) g = if g < R.1 + 1 then some g else none
      by_cases h : g = R.1
      · rw [h, ups, if_pos (by omega)]
      · rw [upn h, r4 g hg']
        by_cases h2 : g < R.1
        · rw [if_pos h2, if_pos (by omega)]
        · rw [if_neg h2, if_neg (by omega)]
    · show upN R.2.2.2 (4 * k + l) R.1 t = gT E C t
      by_cases h : t = 4 * k + l
      · rw [h, upNs, hq]
      · rw [upNn h]; exact r5 t (by omega)
    · show gT E C t < R.1 + 1
      by_cases h : t = 4 * k + l
      · rw [h, hq]; omega
      · have := r6 t (by omega); omega
theorem id_iter {V : wSt → Prop} {E : wE} {C : cC} {c0 : Nat → Nat} (hE : EI V (4 * E.1) E) (hF : Fin9 E.1 E.2.2 c0 C) {k : Nat} (hk : k < C.1) : ∀ d l R, l + d = 4 → IDn E C (4 * k + l) R → k < R.1 → IDn E C (4 * k + 4) (riter (gT E C) d (4 * k + l) R) := by
  intro d
  induction d with
  | zero =>
    intro l R hl hR hkR
    have : l = 4 := by omega
    subst this
    exact hR
  | succ d ih =>
    intro l R hl hR hkR
    obtain ⟨a, b⟩ := id_step hE hF hk (by omega) hR hkR
    simp only [riter]
    exact ih (l + 1) _ (by omega) a (by omega)
theorem id_run {V : wSt → Prop} {E : wE} {C : cC} {c0 : Nat → Nat} (hE : EI V (4 * E.1) E) (hF : Fin9 E.1 E.2.2 c0 C) : ∀ d k R, k + d = C.1 → IDn E C (4 * k) R → (rrun (gT E C) d k R).1 = C.1 ∧ IDn E C (4 * C.1) (rrun (gT E C) d k R) := by
  intro d
  induction d with
  | zero =>
    intro k R hk hR
    have hkC : k = C.1 := by omega
    subst hkC
    refine ⟨?_, hR⟩
    show R.1 = C.1
    have h0 := hR.1
    have h1 := hR.2.1
    apply Classical.byContradiction
    intro hne
    have := (fin_ord hE hF).1 R.1 R.1 (by omega) (fun t ht => hR.2.2.2.2.2 t (by omega)) h0
    omega
  | succ d ih =>
    intro k R hk hR
    have hkR : k < R.1 := (fin_ord hE hF).1 k R.1 (by omega) hR.2.2.2.2.2 hR.1
    simp only [rrun]
    rw [if_neg (by omega)]
    exact ih (k + 1) _ (by omega) (by rw [show 4 * (k + 1) = 4 * k + 4 by omega]; exact id_iter hE hF (by omega) 4 0 R (by omega) hR hkR)
theorem nm0 {V : wSt → Prop} {E : wE} {C : cC} {c0 : Nat → Nat} (hE : EI V (4 * E.1) E) (hF : Fin9 E.1 E.2.2 c0 C) : C.2.2 0 = 0 ∧ 0 < C.1 := by
  obtain ⟨key, hC, -, -⟩ := hF
  have h := hC.2.2.1 0 hE.1
  refine ⟨?_, by omega⟩
  apply Classical.byContradiction
  intro hn
  have := hC.2.2.2.1 0 (C.2.2 0) (by omega) h.1
  omega
theorem id_all {V : wSt → Prop} {E : wE} {C : cC} {c0 : Nat → Nat} (hE : EI V (4 * E.1) E) (hF : Fin9 E.1 E.2.2 c0 C) : (rrun (gT E C) C.1 0 (r00 (C.2.2 0))).1 = C.1 ∧ (∀ j, j < C.1 → (rrun (gT E C) C.1 0 (r00 (C.2.2 0))).2.1 j = j) ∧ ∀ t, t < 4 * C.1 → (rrun (gT E C) C.1 0 (r00 (C.2.2 0))).2.2.2 t = gT E C t := by
  obtain ⟨h0, hpos⟩ := nm0 hE hF
  have h := id_run hE hF C.1 0 (r00 (C.2.2 0)) (by omega) (by
    rw [h0]
    refine ⟨Nat.zero_lt_one, hpos, fun j hj => ?_, fun g hg => ?_, fun t ht => absurd ht (Nat.not_lt_zero _), fun t ht => absurd ht (Nat.not_lt_zero _)⟩
    · have hj' : j < 1 := hj
      have : j = 0 := by omega
      subst this
      show upN (fun _ => 0) 0 0 0 = 0
      rw [upNs]
    · show va_up (fun _ => none) 0 (some 0) g = if g < 1 then some g else none
      by_cases hg0 : g = 0
      · rw [hg0, ups, if_pos (by omega)]
      · rw [upn hg0, if_neg (by omega)])
  have hR := h.2
  exact ⟨h.1, fun j hj => hR.2.2.1 j (by rw [h.1]; exact hj), hR.2.2.2.2.1⟩
/-- the reference's making -/
theorem made_r {n : Nat} (hn : 2048 < n) {how : Int32} {i1 i2 N : Nat} (hN : N < 60) (h1 : i1 < N) (h2 : i2 < N) {mSize mGoes : Nat → Int32} {mLast : Nat → Bool} {dl : wSt → Nat → wSt} {e : wSt → Bool} {V : wSt → Prop} (hV : ∀ x l, V x → l < 4 → V (dl x l)) (hs : StepR n how (nI i1) (nI i2) mSize mGoes mLast dl e V) {x0 : wSt} (hx : V x0) (L : Nat → Int32) (Nx : Nat → Int32) (Gr Fr Ld Nu : Nat → Int32) (R : Nat → Int64) (En : Nat → Bool) (Wy : Int32) (hexp : f_Mo_explored n how (nI i1) (nI i2) mSize mGoes mLast L Nx R En = (f_Mo_come n x0.1 x0.2 (e x0) L R En 0).bind fun u3 => (f_Mo_explored_47 n how (nI i1) (nI i2) mSize mGoes mLast n 0 u3.2.1 Nx u3.2.2.1 u3.2.2.2.1 u3.2.2.2.2).bind fun u => u.elim (fun r => some r) fun x => some (true, x.2.1, x.2.2.1, x.2.2.2.1, x.2.2.2.2.1, x.2.2.2.2.2)) : (idl dl e x0 = none ∧ ∃ z, f_Mo_made n how (nI i1) (nI i2) (nI N) mSize mGoes mLast L Nx Gr Fr Ld Nu R En Wy = some (0, 3, nI N, mSize, mGoes, mLast, z)) ∨ (∃ E C mG' mL' z, idl dl e x0 = some (E, C) ∧ f_Mo_made n how (nI i1) (nI i2) (nI N) mSize mGoes mLast L Nx Gr Fr Ld Nu R En Wy = some (nI N, 0, nI (N + 1), upd mSize N (nI C.1), mG', mL', z) ∧ (∀ x, x < 256 * N → mG' x = mGoes x) ∧ (∀ x, x < 64 * N → mL' x = mLast x) ∧ AuR N (upd mSize N (nI C.1)) mG' mL' C.1 (goF E C) (finF e E C)) := by
  have q1 : 0 ≤ (nI i1).toInt ∧ (nI i1).toInt < N := by rw [nI_int (by omega)]; omega
  have q2 : 0 ≤ (nI i2).toInt ∧ (nI i2).toInt < N := by rw [nI_int (by omega)]; omega
  have hb : ∃ L1 R1 En1, f_Mo_come n x0.1 x0.2 (e x0) L R En 0 = some (nI 0, L1, R1, En1, nI 1) ∧ f_Mo_explored n how (nI i1) (nI i2) mSize mGoes mLast L Nx R En = (f_Mo_explored_47 n how (nI i1) (nI i2) mSize mGoes mLast n 0 L1 Nx R1 En1 (nI 1)).bind fun u => u.elim (fun r => some r) fun x => some (true, x.2.1, x.2.2.1, x.2.2.2.1, x.2.2.2.2.1, x.2.2.2.2.2) := by
    rcases co_r (n := n) (x := x0) (b := e x0) (L := L) (R := R) (En := En) (W := 0) (st := fun _ => x0) (by omega) (by omega) (fun k hk => absurd hk (Nat.not_lt_zero _)) with ⟨j, a, -⟩ | ⟨a, b, c⟩ | ⟨a, b, c⟩
    · cases a
    · refine ⟨_, _, _, c, ?_⟩
      rw [hexp, show f_Mo_come n x0.1 x0.2 (e x0) L R En 0 = _ from c, sb_t]
    · exact absurd (show 0 < 800 by omega) b
  have pre : f_Mo_made n how (nI i1) (nI i2) (nI N) mSize mGoes mLast L Nx Gr Fr Ld Nu R En Wy = (f_Mo_explored n how (nI i1) (nI i2) mSize mGoes mLast L Nx R En).bind fun u23 => if u23.1 = true then (f_Mo_lessened n (nI N) mSize mGoes mLast u23.2.2.1 Gr Fr Ld Nu u23.2.2.2.2.1 u23.2.2.2.2.2).bind fun u27 => if u27.1 = true then some (nI N, 0, nI N + 1, u27.2.1, u27.2.2.1, u27.2.2.2.1, u23.2.1, u23.2.2.1, u27.2.2.2.2.1, u27.2.2.2.2.2.1, u27.2.2.2.2.2.2.1, u27.2.2.2.2.2.2.2, u23.2.2.2.1, u23.2.2.2.2.1, u23.2.2.2.2.2) else some (0, 3, nI N, u27.2.1, u27.2.2.1, u27.2.2.2.1, u23.2.1, u23.2.2.1, u27.2.2.2.2.1, u27.2.2.2.2.2.1, u27.2.2.2.2.2.2.1, u27.2.2.2.2.2.2.2, u23.2.2.2.1, u23.2.2.2.2.1, u23.2.2.2.2.2) else some (0, 3, nI N, mSize, mGoes, mLast, u23.2.1, u23.2.2.1, Gr, Fr, Ld, Nu, u23.2.2.2.1, u23.2.2.2.2.1, u23.2.2.2.2.2) := by
    simp only [f_Mo_made, isL (show N ≤ 60 by omega), q1, q2, and_self, decide_true, sb_t, if_true, fails_f, full_f hN, Bool.false_eq_true, if_false, fails_t (show (3 : Int32) ≠ 0 by decide)]
  rw [pre]
  rcases ex_r (n := n) (by omega) hV hs hx L R En Nx hb with ⟨a, r, b⟩ | ⟨E, L', R', En', Nx', a, b, hE, hR⟩
  · refine .inl ⟨by unfold idl; rw [a], (r.1, r.2.1, Gr, Fr, Ld, Nu, r.2.2.1, r.2.2.2.1, r.2.2.2.2), ?_⟩
    rw [b]; rfl
  · obtain ⟨r, r1, r2⟩ := rf_ex (en := enE e E) hE
    have r3 := rfC_zero hE.1 (fun t ht => hE.2.2.2.2.1 t ht) (prevE hE.1 m0E_ok) r1
    have hl := les_r (n := n) (a := N) (mS := mSize) (mG := mGoes) (mL := mLast) (Gr := Gr) (Fr := Fr) (Ld := Ld) (Nu := Nu) (En := En') (en := enE e E) hn (by omega) hE.1 hE.2.1 hN hR.2.2 (fun t ht => hE.2.2.2.2.1 t ht) (fun k hk => hR.2.1 k hk) r3 (fun C hC => by
      obtain ⟨key, hk, -, -⟩ := r2 C hC
      exact ⟨key, hk⟩)
    rcases hl with ⟨c1, z, c2⟩ | ⟨C, mG', mL', z, c1, c2, c3, c4, c5, c6, c7⟩
    · subst c1
      refine .inl ⟨by unfold idl; rw [a]; simp only [r1], (L', Nx', z.1, z.2.1, z.2.2.1, z.2.2.2, R', En', nI E.1), ?_⟩
      rw [b, sb_t, if_pos rfl, c2, sb_t]
      rfl
    · subst c1
      have hF := r2 C rfl
      obtain ⟨i1', i2', i3'⟩ := id_all hE hF
      have eG : (fun t => C.2.2 (E.2.2 (4 * C.2.1 (t / 4) + t % 4))) = gT E C := rfl
      rw [eG] at c2 c5 c6 c7
      rw [i1'] at c2 c6 c7
      refine .inr ⟨E, C, mG', mL', (L', Nx', z.1, z.2.1, z.2.2.1, z.2.2.2, R', En', nI E.1), by unfold idl; rw [a]; simp only [r1], ?_, c3, c4, uis, fun s l hs hl => ?_, fun s hs => ?_⟩
      · rw [b, sb_t, if_pos rfl, c2, sb_t, if_pos rfl, l1, nJ_add]
      · have := c6 (4 * s + l) (by omega)
        rw [i3' _ (by omega)] at this
        rw [show 4 * (64 * N + s) + l = 4 * (64 * N) + (4 * s + l) by omega, this]
        unfold gT goF
        rw [show (4 * s + l) / 4 = s by omega, show (4 * s + l) % 4 = l by omega]
      · have := c7 s hs
        rw [i2' s hs] at this
        exact this
