/-! STAGE 2. THE WAYS: both sides' steps -/
def gset (g : Nat → Nat → Nat) (l : Nat) (X : Int64) : Nat → Int64
  | 0 => 0
  | s + 1 => if bit X s = true then gset g l X s ||| lshl 1 (nI (g s l)) else gset g l X s
theorem gset_bit {g : Nat → Nat → Nat} {l : Nat} {X : Int64} : ∀ S, (∀ s, s < S → g s l < 64) → ∀ b, b < 64 → (bit (gset g l X S) b = true ↔ ∃ t, t < S ∧ bit X t = true ∧ g t l = b) := by
  intro S
  induction S with
  | zero =>
    intro _ b hb
    simp only [gset, bit_zero]
    constructor
    · intro h; cases h
    · intro ⟨t, h, _⟩; omega
  | succ S ih =>
    intro hg b hb
    have ih' := ih (fun s hs => hg s (by omega)) b hb
    simp only [gset]
    by_cases hx : bit X S = true
    · rw [if_pos hx, bit_set (hg S (by omega)) hb, Bool.or_eq_true, ih', decide_eq_true_eq]
      constructor
      · intro h
        rcases h with ⟨t, a, c⟩ | h
        · exact ⟨t, by omega, c⟩
        · exact ⟨S, by omega, hx, h.symm⟩
      · intro ⟨t, a, c, e⟩
        by_cases ht : t = S
        · subst ht; exact .inr e.symm
        · exact .inl ⟨t, by omega, c, e⟩
    · rw [if_neg hx, ih']
      constructor
      · intro ⟨t, a, c⟩; exact ⟨t, by omega, c⟩
      · intro ⟨t, a, c, e⟩
        by_cases ht : t = S
        · subst ht; exact absurd c hx
        · exact ⟨t, by omega, c, e⟩
theorem gset_c {n S l : Nat} {nx : Nat → Int32} {go : Nat → Nat → Nat} {X : Int64} (hwf : WF S go) (hgo : ∀ s l, s < S → l < 4 → nx (4 * s + l) = nI (go s l)) (hl : l < 4) (hn : 64 < n) : f_Au_goAll n X (nI l) (nI S) (4 * S) nx = some (gset go l X S) := by
  obtain ⟨r, h1, h2⟩ := ga_c (n := n) (X := X) hwf hgo hl hn
  rw [h1]
  refine congrArg some (bit_iff fun b hb => (h2 b hb).trans (gset_bit S (fun s hs => ?_) b hb).symm)
  have := hwf.2.2 s l hs hl
  have := hwf.2.1
  omega
theorem gset_r {n S i l : Nat} {mSize mGoes : Nat → Int32} {go : Nat → Nat → Nat} {X : Int64} (hwf : WF S go) (hi : i < 60) (hz : mSize i = nI S) (hgo : ∀ s l, s < S → l < 4 → mGoes (4 * (64 * i + s) + l) = nI (go s l)) (hl : l < 4) (hn : 64 < n) : f_Mo_step n (nI i) X (nI l) mSize mGoes = some (gset go l X S) := by
  obtain ⟨r, h1, h2⟩ := st_r (n := n) (X := X) hwf hi hz hgo hl hn
  rw [h1]
  refine congrArg some (bit_iff fun b hb => (h2 b hb).trans (gset_bit S (fun s hs => ?_) b hb).symm)
  have := hwf.2.2 s l hs hl
  have := hwf.2.1
  omega
def hasB (f : Nat → Bool) (S : Nat) (X : Int64) : Bool := (lookP (fun t => bit X t && f t) 0 S).isSome
theorem hasB_iff {f : Nat → Bool} {S : Nat} {X : Int64} : hasB f S X = true ↔ ∃ t, t < S ∧ bit X t = true ∧ f t = true := by
  unfold hasB
  cases h : lookP (fun t => bit X t && f t) 0 S with
  | none =>
    have := lookP_none _ _ h
    constructor
    · intro h; cases h
    · intro ⟨t, a, b, c⟩
      have := this t (by omega) (by omega)
      simp [b, c] at this
  | some j =>
    obtain ⟨a, b, c, -⟩ := lookP_some _ _ _ h
    simp only [Bool.and_eq_true] at c
    exact ⟨fun _ => ⟨j, by omega, c⟩, fun _ => rfl⟩
theorem bool_iff {a b : Bool} (h : a = true ↔ b = true) : a = b := by
  cases a <;> cases b <;> simp_all
theorem hasB_c {n S : Nat} {la X : Int64} {fin : Nat → Bool} (hS : S ≤ 64) (hla : ∀ i, i < 64 → bit la i = (decide (i < S) && fin i)) : f_Au_hasLast n X la = some (hasB fin S X) := by
  obtain ⟨b, h1, h2⟩ := hla_c (n := n) (X := X) hS hla
  rw [h1, bool_iff (h2.trans hasB_iff.symm)]
theorem hasB_r {n S i : Nat} {mSize : Nat → Int32} {mLast : Nat → Bool} {fin : Nat → Bool} {X : Int64} (hS : S ≤ 64) (hi : i < 60) (hz : mSize i = nI S) (hla : ∀ s, s < S → mLast (64 * i + s) = fin s) (hn : 64 < n) : f_Mo_hasLast n (nI i) X mSize mLast = some (hasB fin S X) := by
  obtain ⟨b, h1, h2⟩ := hl_r (n := n) (X := X) hS hi hz hla hn
  rw [h1, bool_iff (h2.trans hasB_iff.symm)]
def dlP (g1 g2 : Nat → Nat → Nat) (x : wSt) (l : Nat) : wSt := (nI (g1 x.1.toNatClampNeg l), (nI (g2 (uN x.2) l)).toInt64)
def VP (S1 S2 : Nat) (x : wSt) : Prop := ∃ p q, p < S1 ∧ q < S2 ∧ x = (nI p, (nI q).toInt64)
def eO (f1 f2 : Nat → Bool) (x : wSt) : Bool := f1 x.1.toNatClampNeg || f2 (uN x.2)
def eA (f1 f2 : Nat → Bool) (x : wSt) : Bool := f1 x.1.toNatClampNeg && f2 (uN x.2)
def dlC (g1 g2 : Nat → Nat → Nat) (f1 : Nat → Bool) (S2 : Nat) (x : wSt) (l : Nat) : wSt := (nI (g1 x.1.toNatClampNeg l), gset g2 l x.2 S2 ||| (if f1 (g1 x.1.toNatClampNeg l) = true then 1 else 0))
def VC (S1 : Nat) (x : wSt) : Prop := ∃ p, p < S1 ∧ x.1 = nI p
def eC (f2 : Nat → Bool) (S2 : Nat) (x : wSt) : Bool := hasB f2 S2 x.2
def eR (f : Nat → Bool) (S : Nat) (x : wSt) : Bool := decide (x.2 = 0) || hasB f S x.2
def dlR (g : Nat → Nat → Nat) (f : Nat → Bool) (S : Nat) (x : wSt) (l : Nat) : wSt := (nI 0, gset g l (if eR f S x = true then x.2 ||| 1 else x.2) S)
def VR (x : wSt) : Prop := x.1 = nI 0
theorem uN_nI {q : Nat} (h : q < 2147483648) : uN ((nI q).toInt64) = q := by
  rw [nI_long h]
  unfold uN
  rw [Int64.toBitVec_ofNat', BitVec.toNat_ofNat]; omega
theorem i32_nI {q : Nat} : ((nI q).toInt64).toInt32 = nI q := by simp
theorem vP_s {S1 S2 : Nat} {g1 g2 : Nat → Nat → Nat} (w1 : WF S1 g1) (w2 : WF S2 g2) : ∀ x l, VP S1 S2 x → l < 4 → VP S1 S2 (dlP g1 g2 x l) := by
  intro x l ⟨p, q, hp, hq, e⟩ hl
  have := w1.2.1
  have := w2.2.1
  subst e
  refine ⟨g1 p l, g2 q l, w1.2.2 p l hp hl, w2.2.2 q l hq hl, ?_⟩
  show (nI (g1 (nI p).toNatClampNeg l), (nI (g2 (uN (nI q).toInt64) l)).toInt64) = _
  rw [nI_nat (by omega), uN_nI (by omega)]
theorem vC_s {S1 S2 : Nat} {g1 g2 : Nat → Nat → Nat} {f1 : Nat → Bool} (w1 : WF S1 g1) : ∀ x l, VC S1 x → l < 4 → VC S1 (dlC g1 g2 f1 S2 x l) := by
  intro x l ⟨p, hp, e⟩ hl
  have := w1.2.1
  refine ⟨g1 p l, w1.2.2 p l hp hl, ?_⟩
  show nI (g1 x.1.toNatClampNeg l) = _
  rw [e, nI_nat (by omega)]
theorem vR_s {S : Nat} {g : Nat → Nat → Nat} {f : Nat → Bool} : ∀ x l, VR x → l < 4 → VR (dlR g f S x l) := fun x l _ _ => rfl
theorem goP_c {n S1 S2 : Nat} {nx1 nx2 : Nat → Int32} {g1 g2 : Nat → Nat → Nat} (w1 : WF S1 g1) (w2 : WF S2 g2) (h1 : ∀ s l, s < S1 → l < 4 → nx1 (4 * s + l) = nI (g1 s l)) (h2 : ∀ s l, s < S2 → l < 4 → nx2 (4 * s + l) = nI (g2 s l)) : ∀ x l, VP S1 S2 x → l < 4 → f_Pa_go n x.1 x.2 (nI l) (4 * S1) nx1 (4 * S2) nx2 = some (dlP g1 g2 x l) := by
  intro x l ⟨p, q, hp, hq, e⟩ hl
  have z1 := w1.2.1
  have z2 := w2.2.1
  subst e
  rw [f_Pa_go, go_c z1 h1 hp hl, sb_t, i32_nI, go_c z2 h2 hq hl, sb_t]
  show _ = some (nI (g1 (nI p).toNatClampNeg l), (nI (g2 (uN (nI q).toInt64) l)).toInt64)
  rw [nI_nat (by omega), uN_nI (by omega)]
theorem goC_c {n S1 S2 : Nat} {nx1 nx2 : Nat → Int32} {g1 g2 : Nat → Nat → Nat} {f1 : Nat → Bool} {la1 : Int64} (w1 : WF S1 g1) (w2 : WF S2 g2) (h1 : ∀ s l, s < S1 → l < 4 → nx1 (4 * s + l) = nI (g1 s l)) (h2 : ∀ s l, s < S2 → l < 4 → nx2 (4 * s + l) = nI (g2 s l)) (hl1 : ∀ i, i < 64 → bit la1 i = (decide (i < S1) && f1 i)) (hn : 64 < n) : ∀ x l, VC S1 x → l < 4 → f_Ch_go n x.1 x.2 (nI l) (4 * S1) nx1 la1 (nI S2) (4 * S2) nx2 = some (dlC g1 g2 f1 S2 x l) := by
  intro x l ⟨p, hp, e⟩ hl
  have z1 := w1.2.1
  have b1 := w1.2.2 p l hp hl
  rw [f_Ch_go, e, go_c z1 h1 hp hl, sb_t, gset_c w2 h2 hl hn, sb_t, f_Ch_backBegunAt, il_c hl1 b1 z1, sb_t]
  show _ = some (nI (g1 x.1.toNatClampNeg l), gset g2 l x.2 S2 ||| (if f1 (g1 x.1.toNatClampNeg l) = true then 1 else 0))
  rw [e, nI_nat (by omega)]
  cases f1 (g1 p l) <;> rfl
theorem enR_c {n S : Nat} {la : Int64} {f : Nat → Bool} (hS : S ≤ 64) (hla : ∀ i, i < 64 → bit la i = (decide (i < S) && f i)) (x : wSt) : f_Re_endsAt n x.1 x.2 la = some (eR f S x) := by
  rw [f_Re_endsAt, hasB_c hS hla, sb_t]
  unfold eR
  by_cases h : x.2 = 0
  · rw [if_pos h]; simp [h]
  · rw [if_neg h]
    simp only [h, decide_false, Bool.false_or]
    cases hasB f S x.2 <;> rfl
theorem goR_c {n S : Nat} {nx : Nat → Int32} {g : Nat → Nat → Nat} {f : Nat → Bool} {la : Int64} (w : WF S g) (h : ∀ s l, s < S → l < 4 → nx (4 * s + l) = nI (g s l)) (hla : ∀ i, i < 64 → bit la i = (decide (i < S) && f i)) (hn : 64 < n) : ∀ x l, VR x → l < 4 → f_Re_go n x.1 x.2 (nI l) (nI S) (4 * S) nx la = some (dlR g f S x l).2 ∧ (dlR g f S x l).1 = 0 := by
  intro x l hx hl
  refine ⟨?_, rfl⟩
  rw [f_Re_go, enR_c w.2.1 hla, sb_t, gset_c w h hl hn, gset_c w h hl hn, sb_t, sb_t, Int64.or_zero]
  show _ = some (gset g l (if eR f S x = true then x.2 ||| 1 else x.2) S)
  cases eR f S x <;> rfl
theorem enP_c {n S1 S2 : Nat} {f1 f2 : Nat → Bool} {la1 la2 : Int64} (z1 : S1 ≤ 64) (z2 : S2 ≤ 64) (hl1 : ∀ i, i < 64 → bit la1 i = (decide (i < S1) && f1 i)) (hl2 : ∀ i, i < 64 → bit la2 i = (decide (i < S2) && f2 i)) (b : Bool) : ∀ x, VP S1 S2 x → f_Pa_endsAt n x.1 x.2 b la1 la2 = some (if b = true then eA f1 f2 x else eO f1 f2 x) := by
  intro x ⟨p, q, hp, hq, e⟩
  subst e
  rw [f_Pa_endsAt, il_c hl1 hp z1, sb_t, i32_nI, il_c hl2 hq z2, sb_t]
  unfold eA eO
  rw [show ((nI p, (nI q).toInt64) : wSt).1 = nI p from rfl, show ((nI p, (nI q).toInt64) : wSt).2 = (nI q).toInt64 from rfl, nI_nat (by omega), uN_nI (by omega)]
  cases b <;> cases f1 p <;> cases f2 q <;> rfl
theorem enC_c {n S2 : Nat} {f2 : Nat → Bool} {la2 : Int64} (z2 : S2 ≤ 64) (hl2 : ∀ i, i < 64 → bit la2 i = (decide (i < S2) && f2 i)) (x : wSt) : f_Ch_endsAt n x.1 x.2 la2 = some (eC f2 S2 x) := by
  rw [f_Ch_endsAt, hasB_c z2 hl2]; rfl
/-! the reference's come and explored -/
theorem co3 {n : Nat} {x : wSt} {L : Nat → Int32} {R : Nat → Int64} {En : Nat → Bool} {W : Nat} {st : Nat → wSt} (hW : W ≤ 800) (hA : ∀ k, k < W → (L k, R k) = st k) : ∀ d K k, k + d = W → d < K → (∃ j, lookP (fun k => decide (st k = x)) k d = some j ∧ f_Mo_come_3 n x.1 x.2 L R En (nI W) K (nI k) = some (.inl (nI j, L, R, En, nI W))) ∨ (lookP (fun k => decide (st k = x)) k d = none ∧ f_Mo_come_3 n x.1 x.2 L R En (nI W) K (nI k) = some (.inr (nI W))) := by
  intro d
  induction d with
  | zero =>
    intro K k hk hK
    obtain ⟨K, rfl⟩ : ∃ j, K = j + 1 := ⟨K - 1, by omega⟩
    have : k = W := by omega
    subst this
    exact .inr ⟨rfl, by rw [f_Mo_come_3, if_pos (by rw [nJ_le (by omega) (by omega)]; omega)]⟩
  | succ d ih =>
    intro K k hk hK
    obtain ⟨K, rfl⟩ : ∃ j, K = j + 1 := ⟨K - 1, by omega⟩
    have hak := hA k (by omega)
    rw [f_Mo_come_3, if_neg (by rw [nJ_le (by omega) (by omega)]; omega), nI_gin (by omega) (by omega), ogd_t, ogd_t, nI_nat (by omega), l1, nJ_add]
    simp only [lookP]
    by_cases hx : st k = x
    · left
      rw [hx] at hak
      have e1 : L k = x.1 := congrArg Prod.fst hak
      have e2 : R k = x.2 := congrArg Prod.snd hak
      exact ⟨k, by rw [if_pos (decide_eq_true hx)], by rw [if_pos e1, if_pos e2]⟩
    · rw [if_neg (by simpa using hx)]
      have hrec := ih K (k + 1) (by omega) (by omega)
      by_cases e1 : L k = x.1
      · rw [if_pos e1]
        by_cases e2 : R k = x.2
        · exfalso; apply hx; rw [← hak, e1, e2]
        · rw [if_neg e2]; exact hrec
      · rw [if_neg e1]; exact hrec
theorem co_r {n : Nat} {x : wSt} {b : Bool} {L : Nat → Int32} {R : Nat → Int64} {En : Nat → Bool} {W : Nat} {st : Nat → wSt} (hn : 800 < n) (hW : W ≤ 800) (hA : ∀ k, k < W → (L k, R k) = st k) : (∃ j, lookP (fun k => decide (st k = x)) 0 W = some j ∧ f_Mo_come n x.1 x.2 b L R En (nI W) = some (nI j, L, R, En, nI W)) ∨ (lookP (fun k => decide (st k = x)) 0 W = none ∧ W < 800 ∧ f_Mo_come n x.1 x.2 b L R En (nI W) = some (nI W, upd L W x.1, vp_updL R W x.2, va_up En W b, nI (W + 1))) ∨ (lookP (fun k => decide (st k = x)) 0 W = none ∧ ¬ W < 800 ∧ f_Mo_come n x.1 x.2 b L R En (nI W) = some (-1, L, R, En, nI W)) := by
  rcases co3 (n := n) (x := x) (En := En) hW hA W n 0 (by omega) (by omega) with ⟨j, a, b⟩ | ⟨a, b⟩
  · exact .inl ⟨j, a, by rw [f_Mo_come, l0, b]; rfl⟩
  · by_cases h8 : W < 800
    · refine .inr (.inl ⟨a, h8, ?_⟩)
      rw [f_Mo_come, l0, b, sb_t, el_r, l800, if_neg (by rw [nJ_eq (by omega) (by omega)]; omega), nI_gin h8 (by omega), ogd_t, ogd_t, ogd_t, nI_nat (by omega), l1, nJ_add]
    · refine .inr (.inr ⟨a, h8, ?_⟩)
      have : W = 800 := by omega
      rw [f_Mo_come, l0, b, sb_t, el_r, l800, if_pos (by rw [this])]
def RR (e : wSt → Bool) (L : Nat → Int32) (R : Nat → Int64) (En : Nat → Bool) (Nx : Nat → Int32) (T : Nat) (E : wE) : Prop :=
  (∀ k, k < E.1 → (L k, R k) = E.2.1 k) ∧ (∀ k, k < E.1 → En k = e (E.2.1 k)) ∧ ∀ t, t < T → Nx t = nI (E.2.2 t)
def StepR (n : Nat) (how i1 i2 : Int32) (mSize mGoes : Nat → Int32) (mLast : Nat → Bool) (dl : wSt → Nat → wSt) (e : wSt → Bool) (V : wSt → Prop) : Prop :=
  ∀ x k l K L R En Nx W, V x → k < 800 → l < 4 → (L k, R k) = x → f_Mo_explored_59 n (nI k) how i1 i2 mSize mGoes mLast (K + 1) (nI l) L Nx R En W = (f_Mo_come n (dl x l).1 (dl x l).2 (e (dl x l)) L R En W).bind fun u => if 0 ≤ u.1 then ogd (gin ((4 * nI k) + nI l) 3200) (f_Mo_explored_59 n (nI k) how i1 i2 mSize mGoes mLast K (nI l + 1) u.2.1 (upd Nx ((4 * nI k) + nI l).toNatClampNeg u.1) u.2.2.1 u.2.2.2.1 u.2.2.2.2) else some (.inl (false, u.2.1, Nx, u.2.2.1, u.2.2.2.1, u.2.2.2.2))
theorem ex59 {n : Nat} (hn : 800 < n) {how i1 i2 : Int32} {mSize mGoes : Nat → Int32} {mLast : Nat → Bool} {dl : wSt → Nat → wSt} {e : wSt → Bool} {V : wSt → Prop} (hV : ∀ x l, V x → l < 4 → V (dl x l)) (hs : StepR n how i1 i2 mSize mGoes mLast dl e V) {k : Nat} : ∀ d K l E L R En Nx, l + d = 4 → d < K → k < E.1 → EI V (4 * k + l) E → RR e L R En Nx (4 * k + l) E → (iterE dl d (4 * k + l) E = none ∧ ∃ r, f_Mo_explored_59 n (nI k) how i1 i2 mSize mGoes mLast K (nI l) L Nx R En (nI E.1) = some (.inl (false, r))) ∨ (∃ E' L' R' En' Nx', iterE dl d (4 * k + l) E = some E' ∧ f_Mo_explored_59 n (nI k) how i1 i2 mSize mGoes mLast K (nI l) L Nx R En (nI E.1) = some (.inr (nI 4, L', Nx', R', En', nI E'.1)) ∧ EI V (4 * k + 4) E' ∧ RR e L' R' En' Nx' (4 * k + 4) E' ∧ E.1 ≤ E'.1) := by
  intro d
  induction d with
  | zero =>
    intro K l E L R En Nx hl hK hk hE hR
    obtain ⟨K, rfl⟩ : ∃ j, K = j + 1 := ⟨K - 1, by omega⟩
    have : l = 4 := by omega
    subst this
    exact .inr ⟨E, L, R, En, Nx, rfl, by rw [f_Mo_explored_59, l4, if_pos (by rw [nJ_le (by omega) (by omega)]; omega)], hE, hR, Nat.le_refl _⟩
  | succ d ih =>
    intro K l E L R En Nx hl hK hk hE hR
    obtain ⟨K, rfl⟩ : ∃ j, K = j + 1 := ⟨K - 1, by omega⟩
    have hl4 : l < 4 := by omega
    obtain ⟨c1, c2, c3⟩ := hR
    have h8 := hE.2.1
    have hVk := hE.2.2.2.1 k hk
    have hdv : (4 * k + l) / 4 = k := by omega
    have hmd : (4 * k + l) % 4 = l := by omega
    have hco := co_r (n := n) (x := dl (E.2.1 k) l) (b := e (dl (E.2.1 k) l)) (En := En) hn h8 c1
    rw [hs (E.2.1 k) k l K L R En Nx (nI E.1) hVk (by omega) hl4 (c1 k hk)]
    rcases hco with ⟨j, a, b⟩ | ⟨a, b, c⟩ | ⟨a, b, c⟩
    · have hst : stepE dl E (4 * k + l) = some (E.1, E.2.1, upN E.2.2 (4 * k + l) j) := by
        unfold stepE
        rw [hdv, hmd, a]
      obtain ⟨q1, q2, q3, -⟩ := lookP_some _ _ _ a
      obtain ⟨i1', i2'⟩ := stepE_inv hV hE (by omega) hst
      have hrec := ih K (l + 1) (E.1, E.2.1, upN E.2.2 (4 * k + l) j) L R En (upd Nx (4 * k + l) (nI j)) (by omega) (by omega) hk i1' ⟨c1, c2, fun t ht => by
        by_cases h : t = 4 * k + l
        · subst h; rw [uis]; exact congrArg nI upNs.symm
        · rw [uin h, c3 t (by omega)]; exact congrArg nI (upNn h).symm⟩
      rw [b, sb_t, if_pos (by show (0 : Int32) ≤ nI j; rw [l0, nJ_le (by omega) (by omega)]; omega), l4, nI_mul, nJ_add, nI_gin (by omega) (by omega), ogd_t, nI_nat (by omega), l1, nJ_add]
      rcases hrec with ⟨r1, r2⟩ | ⟨E', L', R', En', Nx', r1, r2, r3, r4, r5⟩
      · exact .inl ⟨by simp only [iterE]; rw [hst]; exact r1, r2⟩
      · exact .inr ⟨E', L', R', En', Nx', by simp only [iterE]; rw [hst]; exact r1, r2, r3, r4, r5⟩
    · have hst : stepE dl E (4 * k + l) = some (E.1 + 1, va_up E.2.1 E.1 (dl (E.2.1 k) l), upN E.2.2 (4 * k + l) E.1) := by
        unfold stepE
        rw [hdv, hmd, a]
        simp only [if_pos b]
      obtain ⟨i1', i2'⟩ := stepE_inv hV hE (by omega) hst
      have hrec := ih K (l + 1) (E.1 + 1, va_up E.2.1 E.1 (dl (E.2.1 k) l), upN E.2.2 (4 * k + l) E.1) (upd L E.1 (dl (E.2.1 k) l).1) (vp_updL R E.1 (dl (E.2.1 k) l).2) (va_up En E.1 (e (dl (E.2.1 k) l))) (upd Nx (4 * k + l) (nI E.1)) (by omega) (by omega) (by show k < E.1 + 1; omega) i1' ⟨fun k' hk' => by
        have hk'' : k' < E.1 + 1 := hk'
        show (upd L E.1 (dl (E.2.1 k) l).1 k', vp_updL R E.1 (dl (E.2.1 k) l).2 k') = va_up E.2.1 E.1 (dl (E.2.1 k) l) k'
        by_cases h : k' = E.1
        · rw [h, uis, ujs, ups]
        · rw [uin h, ujn h, upn h]; exact c1 k' (by omega), fun k' hk' => by
        have hk'' : k' < E.1 + 1 := hk'
        show va_up En E.1 (e (dl (E.2.1 k) l)) k' = e (va_up E.2.1 E.1 (dl (E.2.1 k) l) k')
        by_cases h : k' = E.1
        · rw [h, ups, ups]
        · rw [upn h, upn h]; exact c2 k' (by omega), fun t ht => by
        by_cases h : t = 4 * k + l
        · subst h; rw [uis]; exact congrArg nI upNs.symm
        · rw [uin h, c3 t (by omega)]; exact congrArg nI (upNn h).symm⟩
      rw [c, sb_t, if_pos (by show (0 : Int32) ≤ nI E.1; rw [l0, nJ_le (by omega) (by omega)]; omega), l4, nI_mul, nJ_add, nI_gin (by omega) (by omega), ogd_t, nI_nat (by omega), l1, nJ_add]
      rcases hrec with ⟨r1, r2⟩ | ⟨E', L', R', En', Nx', r1, r2, r3, r4, r5⟩
      · exact .inl ⟨by simp only [iterE]; rw [hst]; exact r1, r2⟩
      · exact .inr ⟨E', L', R', En', Nx', by simp only [iterE]; rw [hst]; exact r1, r2, r3, r4, by have : E.1 + 1 ≤ E'.1 := r5; omega⟩
    · have hst : stepE dl E (4 * k + l) = none := by
        unfold stepE
        rw [hdv, hmd, a]
        simp only [if_neg b]
      rw [c, sb_t, if_neg (by show ¬ (0 : Int32) ≤ -1; decide)]
      exact .inl ⟨by simp only [iterE]; rw [hst]; rfl, _, rfl⟩
theorem ex47 {n : Nat} (hn : 800 < n) {how i1 i2 : Int32} {mSize mGoes : Nat → Int32} {mLast : Nat → Bool} {dl : wSt → Nat → wSt} {e : wSt → Bool} {V : wSt → Prop} (hV : ∀ x l, V x → l < 4 → V (dl x l)) (hs : StepR n how i1 i2 mSize mGoes mLast dl e V) : ∀ d K k E L R En Nx, k + d = 800 → d < K → k ≤ E.1 → EI V (4 * k) E → RR e L R En Nx (4 * k) E → (explE dl d k E = none ∧ ∃ r, f_Mo_explored_47 n how i1 i2 mSize mGoes mLast K (nI k) L Nx R En (nI E.1) = some (.inl (false, r))) ∨ (∃ E' c L' R' En' Nx', explE dl d k E = some E' ∧ f_Mo_explored_47 n how i1 i2 mSize mGoes mLast K (nI k) L Nx R En (nI E.1) = some (.inr (c, L', Nx', R', En', nI E'.1)) ∧ EI V (4 * E'.1) E' ∧ RR e L' R' En' Nx' (4 * E'.1) E') := by
  intro d
  induction d with
  | zero =>
    intro K k E L R En Nx hk hK hkW hE hR
    obtain ⟨K, rfl⟩ : ∃ j, K = j + 1 := ⟨K - 1, by omega⟩
    have h8 := hE.2.1
    have e : k = E.1 := by omega
    exact .inr ⟨E, nI k, L, R, En, Nx, rfl, by rw [f_Mo_explored_47, if_pos (by rw [nJ_le (by omega) (by omega)]; omega)], by rw [← e]; exact hE, by rw [← e]; exact hR⟩
  | succ d ih =>
    intro K k E L R En Nx hk hK hkW hE hR
    obtain ⟨K, rfl⟩ : ∃ j, K = j + 1 := ⟨K - 1, by omega⟩
    have h8 := hE.2.1
    rw [f_Mo_explored_47]
    simp only [explE]
    by_cases hc : E.1 ≤ k
    · have e : k = E.1 := by omega
      rw [if_pos hc, if_pos (by rw [nJ_le (by omega) (by omega)]; exact hc)]
      exact .inr ⟨E, nI k, L, R, En, Nx, rfl, rfl, by rw [← e]; exact hE, by rw [← e]; exact hR⟩
    · rw [if_neg hc, if_neg (by rw [nJ_le (by omega) (by omega)]; exact hc)]
      rcases ex59 hn hV hs (k := k) 4 n 0 E L R En Nx (by omega) (by omega) (by omega) hE hR with ⟨r1, r, r2⟩ | ⟨E1, L1, R1, En1, Nx1, r1, r2, r3, r4, r5⟩
      · refine .inl ⟨by rw [show 4 * k = 4 * k + 0 from rfl, r1]; rfl, r, ?_⟩
        rw [show (0 : Int32) = nI 0 from rfl, r2]; rfl
      · rw [show (0 : Int32) = nI 0 from rfl, r2, sb_t, el_r, l1, nJ_add]
        have hrec := ih K (k + 1) E1 L1 R1 En1 Nx1 (by omega) (by omega) (by omega) (by rw [show 4 * (k + 1) = 4 * k + 4 by omega]; exact r3) (by rw [show 4 * (k + 1) = 4 * k + 4 by omega]; exact r4)
        rw [show iterE dl 4 (4 * k) E = some E1 from r1, sb_t]
        exact hrec
