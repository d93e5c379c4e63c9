/-! STAGE 2. THE CLASS'S MAKER: the joined automaton -/
def m0E (en : Nat → Bool) (W : Nat) : Nat := if (lookP (fun j => en j != en 0) 0 W).isSome = true then 2 else 1
theorem m0E_ok {en : Nat → Bool} {W : Nat} : (m0E en W = 1 ∧ ∀ j, j < W → en j = en 0) ∨ (m0E en W = 2 ∧ ∃ j, j < W ∧ en j ≠ en 0) := by
  unfold m0E
  cases h : lookP (fun j => en j != en 0) 0 W with
  | none =>
    left
    refine ⟨rfl, fun j hj => ?_⟩
    have := lookP_none _ _ h j (by omega) (by omega)
    simpa using this
  | some j =>
    right
    obtain ⟨a, b, c, -⟩ := lookP_some _ _ _ h
    exact ⟨rfl, j, by omega, by simpa using c⟩
theorem m0E_le {en : Nat → Bool} {W : Nat} : m0E en W ≤ 2 ∧ 1 ≤ m0E en W := by
  unfold m0E; split <;> omega
def enE (e : wSt → Bool) (E : wE) (k : Nat) : Bool := e (E.2.1 k)
def idl (dl : wSt → Nat → wSt) (e : wSt → Bool) (x0 : wSt) : Option (wE × cC) :=
  match explE dl 800 0 (Ei x0) with
  | none => none
  | some E => match rfC E.2.2 E.1 64 (c0E (enE e E)) (m0E (enE e E) E.1) with
    | some (some C) => some (E, C)
    | _ => none
def goF (E : wE) (C : cC) (g l : Nat) : Nat := C.2.2 (E.2.2 (4 * C.2.1 g + l))
def finF (e : wSt → Bool) (E : wE) (C : cC) (g : Nat) : Bool := e (E.2.1 (C.2.1 g))
theorem c0E_eq {en : Nat → Bool} {i j : Nat} : c0E en i = c0E en j ↔ en i = en j := by
  unfold c0E; cases en i <;> cases en j <;> simp
theorem c0E_lt {en : Nat → Bool} {i : Nat} : c0E en i < 2 := by
  unfold c0E; split <;> omega
theorem rf_ex {V : wSt → Prop} {E : wE} {en : Nat → Bool} (hE : EI V (4 * E.1) E) : ∃ r, rfC E.2.2 E.1 64 (c0E en) (m0E en E.1) = some r ∧ ∀ C, r = some C → Fin9 E.1 E.2.2 (c0E en) C := by
  have h := m0E_le (en := en) (W := E.1)
  exact rfC_end (fun t ht => hE.2.2.2.2.1 t ht) 64 (c0E en) (m0E en E.1) (prevE hE.1 m0E_ok) (by omega) (by omega) (fun i j _ _ e => e)
theorem fin_wf {V : wSt → Prop} {E : wE} {C : cC} {c0 : Nat → Nat} (hE : EI V (4 * E.1) E) (hF : Fin9 E.1 E.2.2 c0 C) : WF C.1 (goF E C) ∧ (∀ g, g < C.1 → C.2.1 g < E.1) ∧ ∀ k, k < E.1 → C.2.2 k < C.1 := by
  obtain ⟨key, hC, -, -⟩ := hF
  refine ⟨⟨?_, hC.1, fun g l hg hl => ?_⟩, fun g hg => (hC.2.1 g hg).1, fun k hk => (hC.2.2.1 k hk).1⟩
  · have := (hC.2.2.1 0 hE.1).1
    omega
  · have h1 := (hC.2.1 g hg).1
    exact (hC.2.2.1 _ (hE.2.2.2.2.1 _ (by omega))).1
theorem sp7_Br {n W : Nat} {bEnd : Int32} {H : Nat → Int32} {Tl : Nat → Int64} {en : Nat → Bool} (hW : W ≤ 800) (he : ∀ k, k < W → f_Br_endsAt n (H k) (Tl k) bEnd = some (en k)) : ∀ d K k Cl m, k + d = W → d < K → (∀ j, j < k → Cl j = nI (c0E en j)) → ((m = 1 ∧ ∀ j, j < k → en j = en 0) ∨ (m = 2 ∧ ∃ j, j < k ∧ en j ≠ en 0)) → ∃ Cl' m', f_Mk_splitByEnd_Br_7 n H Tl (nI W) bEnd K (nI k) Cl (nI m) = some (nI W, Cl', nI m') ∧ (∀ j, j < W → Cl' j = nI (c0E en j)) ∧ ((m' = 1 ∧ ∀ j, j < W → en j = en 0) ∨ (m' = 2 ∧ ∃ j, j < W ∧ en j ≠ en 0)) := by
  intro d
  induction d with
  | zero =>
    intro K k Cl m hk hK hC hm
    obtain ⟨K, rfl⟩ : ∃ j, K = j + 1 := ⟨K - 1, by omega⟩
    have : k = W := by omega
    subst this
    exact ⟨Cl, m, by rw [f_Mk_splitByEnd_Br_7, if_pos (by rw [nJ_le (by omega) (by omega)]; omega)], hC, hm⟩
  | succ d ih =>
    intro K k Cl m hk hK hC hm
    obtain ⟨K, rfl⟩ : ∃ j, K = j + 1 := ⟨K - 1, by omega⟩
    have key : f_Mk_splitByEnd_Br_7 n H Tl (nI W) bEnd (K + 1) (nI k) Cl (nI m) = if en k = en 0 then f_Mk_splitByEnd_Br_7 n H Tl (nI W) bEnd K (nI (k + 1)) (upd Cl k (nI (c0E en k))) (nI m) else f_Mk_splitByEnd_Br_7 n H Tl (nI W) bEnd K (nI (k + 1)) (upd Cl k (nI (c0E en k))) (nI 2) := by
      have e0 : upd Cl k (nI (c0E en k)) 0 = nI (c0E en 0) := by
        by_cases h : k = 0
        · subst h; exact uis
        · rw [uin (fun h' => h h'.symm)]; exact hC 0 (by omega)
      have hcond : (upd Cl k (nI (c0E en k)) k = upd Cl k (nI (c0E en k)) 0) = (en k = en 0) := by
        rw [uis, e0, nJ_eq (by have := c0E_lt (en := en) (i := k); omega) (by have := c0E_lt (en := en) (i := 0); omega)]
        exact propext c0E_eq
      rw [f_Mk_splitByEnd_Br_7, if_neg (by rw [nJ_le (by omega) (by omega)]; omega), nI_gin (by omega) (by omega), ogd_t, ogd_t, nI_nat (by omega), he k (by omega), sb_t, show gin 0 800 = true from by decide]
      simp only [ogd_t, show (0 : Int32).toNatClampNeg = 0 from rfl, show nI k + 1 = nI (k + 1) from by rw [l1, nJ_add]]
      have c1 : en k = true → (1 : Int32) = nI (c0E en k) := fun h => by unfold c0E; rw [if_pos h]; rfl
      have c2 : ¬ en k = true → (0 : Int32) = nI (c0E en k) := fun h => by unfold c0E; rw [if_neg h]; rfl
      by_cases h : en k = true
      · rw [if_pos h, c1 h]
        simp only [hcond]
        rfl
      · rw [if_neg h, c2 h]
        simp only [hcond]
        rfl
    have hC' : ∀ j, j < k + 1 → upd Cl k (nI (c0E en k)) j = nI (c0E en j) := fun j hj => by
      by_cases h : j = k
      · rw [h, uis]
      · rw [uin h]; exact hC j (by omega)
    rw [key]
    by_cases h : en k = en 0
    · rw [if_pos h]
      refine ih K (k + 1) _ m (by omega) (by omega) hC' ?_
      rcases hm with ⟨a, b⟩ | ⟨a, j, b, c⟩
      · refine .inl ⟨a, fun j hj => ?_⟩
        by_cases hjk : j = k
        · rw [hjk]; exact h
        · exact b j (by omega)
      · exact .inr ⟨a, j, by omega, c⟩
    · rw [if_neg h]
      exact ih K (k + 1) _ 2 (by omega) (by omega) hC' (.inr ⟨rfl, k, by omega, h⟩)
theorem sp_Br {n W : Nat} {bEnd : Int32} {H : Nat → Int32} {Tl : Nat → Int64} {en : Nat → Bool} (hn : 800 < n) (hW : W ≤ 800) (he : ∀ k, k < W → f_Br_endsAt n (H k) (Tl k) bEnd = some (en k)) (Cl : Nat → Int32) : ∃ Cl', f_Mk_splitByEnd_Br n H Tl (nI W) Cl bEnd = some (Cl', nI (m0E en W)) ∧ ∀ j, j < W → Cl' j = nI (c0E en j) := by
  obtain ⟨Cl', m', a, b, c⟩ := sp7_Br (n := n) hW he W n 0 Cl 1 (by omega) (by omega) (fun j hj => absurd hj (Nat.not_lt_zero _)) (.inl ⟨rfl, fun j hj => absurd hj (Nat.not_lt_zero _)⟩)
  have hm : m' = m0E en W := by
    rcases c with ⟨c1, c2⟩ | ⟨c1, j, c2, c3⟩ <;> rcases m0E_ok (en := en) (W := W) with ⟨d1, d2⟩ | ⟨d1, j', d2, d3⟩
    · omega
    · exact absurd (c2 j' d2) d3
    · exact absurd (d2 j c2) c3
    · omega
  subst hm
  refine ⟨Cl', ?_, b⟩
  rw [f_Mk_splitByEnd_Br, l0, l1]
  exact congrArg (fun q => q.bind fun u27 => some (u27.2.1, u27.2.2)) a
theorem j35_Br {n W m : Nat} {Nx Cl : Nat → Int32} {nx nm : Nat → Nat} (hW : W ≤ 800) (hm : m ≤ 64) (hN : ∀ t, t < 4 * W → Nx t = nI (nx t)) (hnx : ∀ t, t < 4 * W → nx t < W) (hc : ∀ k, k < W → Cl k = nI (nm k)) {g s : Nat} (hg : g < m) (hs : s < W) : ∀ d K l F, l + d = 4 → d < K → (∀ l', l' < l → F (4 * g + l') = nI (nm (nx (4 * s + l')))) → ∃ F', f_Mk_joined_Br_35 n (nI s) (nI g) Nx Cl (4 * m) K (nI l) F = some (nI 4, F') ∧ (∀ l', l' < 4 → F' (4 * g + l') = nI (nm (nx (4 * s + l')))) ∧ ∀ x, x < 4 * g → F' x = F x := by
  intro d
  induction d with
  | zero =>
    intro K l F hl hK hF
    obtain ⟨K, rfl⟩ : ∃ j, K = j + 1 := ⟨K - 1, by omega⟩
    have : l = 4 := by omega
    subst this
    exact ⟨F, by rw [f_Mk_joined_Br_35, l4, if_pos (by rw [nJ_le (by omega) (by omega)]; omega)], hF, fun x _ => rfl⟩
  | succ d ih =>
    intro K l F hl hK hF
    obtain ⟨K, rfl⟩ : ∃ j, K = j + 1 := ⟨K - 1, by omega⟩
    have hx := hnx (4 * s + l) (by omega)
    obtain ⟨F', a, b, c⟩ := ih K (l + 1) (upd F (4 * g + l) (nI (nm (nx (4 * s + l))))) (by omega) (by omega) (fun l' hl' => by
      by_cases h : l' = l
      · subst h; exact uis
      · rw [uin (by omega)]; exact hF l' (by omega))
    refine ⟨F', ?_, b, fun x hx' => by rw [c x hx', uin (by omega)]⟩
    rw [f_Mk_joined_Br_35, l4, if_neg (by rw [nJ_le (by omega) (by omega)]; omega), nI_mul, nJ_add, nI_gin (by omega) (by omega), ogd_t, nI_nat (by omega), hN _ (by omega), nI_gin (by omega) (by omega), ogd_t, nI_nat (by omega), nI_mul, nJ_add, nI_gin (by omega) (by omega), ogd_t, nI_nat (by omega), hc _ hx, l1, nJ_add]
    exact a
theorem j14_Br {n W m : Nat} {bEnd : Int32} {H : Nat → Int32} {Tl : Nat → Int64} {Nx Cl Fi : Nat → Int32} {nx nm ld : Nat → Nat} {en : Nat → Bool} (hn : 64 < n) (hW : W ≤ 800) (hm : m ≤ 64) (hN : ∀ t, t < 4 * W → Nx t = nI (nx t)) (hnx : ∀ t, t < 4 * W → nx t < W) (hc : ∀ k, k < W → Cl k = nI (nm k)) (hf : ∀ g, g < m → Fi g = nI (ld g)) (hld : ∀ g, g < m → ld g < W) (he : ∀ k, k < W → f_Br_endsAt n (H k) (Tl k) bEnd = some (en k)) : ∀ d K g la F, g + d = m → d < K → (∀ i, i < 64 → bit la i = (decide (i < g) && en (ld i))) → (∀ g' l', g' < g → l' < 4 → F (4 * g' + l') = nI (nm (nx (4 * ld g' + l')))) → ∃ la' F', f_Mk_joined_Br_14 n H Tl Nx Cl Fi (nI m) bEnd (4 * m) K (nI g) la F = some (nI m, la', F') ∧ (∀ i, i < 64 → bit la' i = (decide (i < m) && en (ld i))) ∧ ∀ g' l', g' < m → l' < 4 → F' (4 * g' + l') = nI (nm (nx (4 * ld g' + l'))) := by
  intro d
  induction d with
  | zero =>
    intro K g la F hg hK h1 h2
    obtain ⟨K, rfl⟩ : ∃ j, K = j + 1 := ⟨K - 1, by omega⟩
    have : g = m := by omega
    subst this
    exact ⟨la, F, by rw [f_Mk_joined_Br_14, if_pos (by rw [nJ_le (by omega) (by omega)]; omega)], h1, h2⟩
  | succ d ih =>
    intro K g la F hg hK h1 h2
    obtain ⟨K, rfl⟩ : ∃ j, K = j + 1 := ⟨K - 1, by omega⟩
    have hs := hld g (by omega)
    obtain ⟨F1, a, b, c⟩ := j35_Br (n := n) (nm := nm) hW hm hN hnx hc (show g < m by omega) hs 4 n 0 F (by omega) (by omega) (fun l' hl' => absurd hl' (Nat.not_lt_zero _))
    have h2' : ∀ g' l', g' < g + 1 → l' < 4 → F1 (4 * g' + l') = nI (nm (nx (4 * ld g' + l'))) := by
      intro g' l' hg' hl'
      by_cases h : g' = g
      · subst h; exact b l' hl'
      · rw [c _ (by omega)]; exact h2 g' l' (by omega) hl'
    rw [f_Mk_joined_Br_14, if_neg (by rw [nJ_le (by omega) (by omega)]; omega), nI_gin (by omega) (by omega), ogd_t, nI_nat (by omega), hf g (by omega), show (0 : Int32) = nI 0 from rfl, a, sb_t, nI_gin (by omega) (by omega), ogd_t, ogd_t, nI_nat (by omega), he _ hs, sb_t, l1, nJ_add]
    by_cases h : en (ld g) = true
    · rw [if_pos h]
      refine ih K (g + 1) _ F1 (by omega) (by omega) (fun i hi => ?_) h2'
      rw [bit_set (by omega) hi, h1 i hi]
      by_cases hig : i = g
      · subst hig; simp [h]
      · have : (i < g + 1) = (i < g) := propext ⟨fun h => by omega, fun h => by omega⟩
        simp [hig, this]
    · rw [if_neg h]
      refine ih K (g + 1) _ F1 (by omega) (by omega) (fun i hi => ?_) h2'
      rw [h1 i hi]
      by_cases hig : i = g
      · subst hig
        have : en (ld i) = false := by simpa using h
        simp [this]
      · have : (i < g + 1) = (i < g) := propext ⟨fun h => by omega, fun h => by omega⟩
        simp [this]
theorem mk_Br {n : Nat} (hn : 2048 < n) {wT : Int64} {bS bEnd : Int32} {dl : wSt → Nat → wSt} {e : wSt → Bool} {V : wSt → Prop} (hV : ∀ x l, V x → l < 4 → V (dl x l)) (hgo : ∀ x l, V x → l < 4 → f_Br_go n x.1 x.2 (nI l) bS = some (dl x l).1 ∧ (dl x l).2 = wT) (hen : ∀ x, V x → f_Br_endsAt n x.1 x.2 bEnd = some (e x)) {x0 : wSt} (hx : V x0) (hx2 : x0.2 = wT) (hb : f_Br_begin n = some x0.1) (H : Nat → Int32) (Tl : Nat → Int64) (Nx Sl Cl Fn Mk Fi Ms : Nat → Int32) (cc : Int32) : (idl dl e x0 = none ∧ ∃ z, f_Mk_makeA_Br n H Tl Nx Sl Cl Fn Mk Fi Ms cc wT bS bEnd = some (none, z)) ∨ (∃ E C la nx ah z, idl dl e x0 = some (E, C) ∧ EI V (4 * E.1) E ∧ Fin9 E.1 E.2.2 (c0E (enE e E)) C ∧ f_Mk_makeA_Br n H Tl Nx Sl Cl Fn Mk Fi Ms cc wT bS bEnd = some (some (nI C.1, la, nx, ah), z) ∧ AuC (nI C.1, 4 * C.1, nx, la, ah) C.1 (goF E C) (finF e E C)) := by
  rcases fo_Br hn hV hgo hx hx2 hb (H := H) (Tl := Tl) (Nx := Nx) (Sl := Sl) with ⟨a, r, b⟩ | ⟨E, H1, Tl1, Nx1, Sl1, w1, a, b, hE, hR⟩
  · refine .inl ⟨by unfold idl; rw [a], (r.1, r.2.1, r.2.2.1, r.2.2.2.1, r.2.2.2.2.1, Cl, Fn, Mk, Fi, Ms, cc, r.2.2.2.2.2), ?_⟩
    rw [f_Mk_makeA_Br, f_Mk_make_Br, b, sb_t]
    rfl
  · have h8 := hE.2.1
    have he : ∀ k, k < E.1 → f_Br_endsAt n (H1 k) (Tl1 k) bEnd = some (enE e E k) := by
      intro k hk
      have e1 : H1 k = (E.2.1 k).1 := congrArg Prod.fst (hR.1 k hk)
      have e2 : Tl1 k = (E.2.1 k).2 := congrArg Prod.snd (hR.1 k hk)
      rw [e1, e2]
      exact hen _ (hE.2.2.2.1 k hk)
    obtain ⟨Cl1, s1, s2⟩ := sp_Br (n := n) (by omega) h8 he Cl
    obtain ⟨r, r1, r2⟩ := rf_ex (en := enE e E) hE
    have hm2 := m0E_le (en := enE e E) (W := E.1)
    rcases se_c (n := n) (by omega) h8 hR.2.1 (fun t ht => hE.2.2.2.2.1 t ht) s2 (fun k _ => by have := c0E_lt (en := enE e E) (i := k); omega) (by omega) r1 Fn Mk Fi Ms with ⟨t1, z, t2⟩ | ⟨C, Cl2, Fn2, Mk2, Fi2, Ms2, t1, t2, t3, t4⟩
    · subst t1
      refine .inl ⟨by unfold idl; rw [a]; simp only [r1], (H1, Tl1, Nx1, Sl1, nI E.1, z.1, z.2.1, z.2.2.1, z.2.2.2.1, z.2.2.2.2.1, z.2.2.2.2.2, w1), ?_⟩
      rw [f_Mk_makeA_Br, f_Mk_make_Br, b, sb_t, if_pos rfl, s1, sb_t, t2, sb_t]
      rfl
    · subst t1
      have hF := r2 C rfl
      obtain ⟨hwf, w2, w3⟩ := fin_wf hE hF
      obtain ⟨la, F, j1, j2, j3⟩ := j14_Br (n := n) (by omega) h8 hwf.2.1 hR.2.1 (fun t ht => hE.2.2.2.2.1 t ht) t3 t4 w2 he C.1 n 0 0 (fun _ => 0) (by omega) (by have := hwf.2.1; omega) (fun i hi => by rw [bit_zero]; simp) (fun g' l' h => absurd h (Nat.not_lt_zero _))
      obtain ⟨ah, i1, i2⟩ := in_c (n := n) (S := C.1) (nx := F) (go := goF E C) (fin := finF e E C) (la := la) (a := fun _ => 0) hwf (fun s l hs hl => j3 s l hs hl) j2 (by omega)
      have h64 := hwf.2.1
      refine .inr ⟨E, C, la, F, ah, (H1, Tl1, Nx1, Sl1, nI E.1, Cl2, Fn2, Mk2, Fi2, Ms2, nI C.1, w1), by unfold idl; rw [a]; simp only [r1], hE, hF, ?_, ⟨rfl, rfl, fun s l hs hl => j3 s l hs hl, j2, i2⟩⟩
      rw [f_Mk_makeA_Br, f_Mk_make_Br, b, sb_t, if_pos rfl, s1, sb_t, t2, sb_t, if_pos rfl, sb_t, el_r]
      have hjA : f_Mk_joinedA_Br n H1 Tl1 Nx1 Cl2 Fi2 (nI C.1) bEnd = some (la, F, ah) := by
        rw [f_Mk_joinedA_Br, l4, nI_mul, nI_gin (by omega) (by omega), ogd_t, nI_nat (by omega), f_Mk_joined_Br, show f_Mk_joined_Br_14 n H1 Tl1 Nx1 Cl2 Fi2 (nI C.1) bEnd (4 * C.1) n 0 0 (fun _ => 0) = some (nI C.1, la, F) from j1, sb_t, sb_t, i1, sb_t]
      exact congrArg (fun q => q.bind fun v => some (some (nI C.1, v.1, v.2.1, v.2.2), (H1, Tl1, Nx1, Sl1, nI E.1, Cl2, Fn2, Mk2, Fi2, Ms2, nI C.1, w1))) hjA
theorem sp7_Ch {n W : Nat} {aLast2 : Int64} {H : Nat → Int32} {Tl : Nat → Int64} {en : Nat → Bool} (hW : W ≤ 800) (he : ∀ k, k < W → f_Ch_endsAt n (H k) (Tl k) aLast2 = some (en k)) : ∀ d K k Cl m, k + d = W → d < K → (∀ j, j < k → Cl j = nI (c0E en j)) → ((m = 1 ∧ ∀ j, j < k → en j = en 0) ∨ (m = 2 ∧ ∃ j, j < k ∧ en j ≠ en 0)) → ∃ Cl' m', f_Mk_splitByEnd_Ch_7 n H Tl (nI W) aLast2 K (nI k) Cl (nI m) = some (nI W, Cl', nI m') ∧ (∀ j, j < W → Cl' j = nI (c0E en j)) ∧ ((m' = 1 ∧ ∀ j, j < W → en j = en 0) ∨ (m' = 2 ∧ ∃ j, j < W ∧ en j ≠ en 0)) := by
  intro d
  induction d with
  | zero =>
    intro K k Cl m hk hK hC hm
    obtain ⟨K, rfl⟩ : ∃ j, K = j + 1 := ⟨K - 1, by omega⟩
    have : k = W := by omega
    subst this
    exact ⟨Cl, m, by rw [f_Mk_splitByEnd_Ch_7, if_pos (by rw [nJ_le (by omega) (by omega)]; omega)], hC, hm⟩
  | succ d ih =>
    intro K k Cl m hk hK hC hm
    obtain ⟨K, rfl⟩ : ∃ j, K = j + 1 := ⟨K - 1, by omega⟩
    have key : f_Mk_splitByEnd_Ch_7 n H Tl (nI W) aLast2 (K + 1) (nI k) Cl (nI m) = if en k = en 0 then f_Mk_splitByEnd_Ch_7 n H Tl (nI W) aLast2 K (nI (k + 1)) (upd Cl k (nI (c0E en k))) (nI m) else f_Mk_splitByEnd_Ch_7 n H Tl (nI W) aLast2 K (nI (k + 1)) (upd Cl k (nI (c0E en k))) (nI 2) := by
      have e0 : upd Cl k (nI (c0E en k)) 0 = nI (c0E en 0) := by
        by_cases h : k = 0
        · subst h; exact uis
        · rw [uin (fun h' => h h'.symm)]; exact hC 0 (by omega)
      have hcond : (upd Cl k (nI (c0E en k)) k = upd Cl k (nI (c0E en k)) 0) = (en k = en 0) := by
        rw [uis, e0, nJ_eq (by have := c0E_lt (en := en) (i := k); omega) (by have := c0E_lt (en := en) (i := 0); omega)]
        exact propext c0E_eq
      rw [f_Mk_splitByEnd_Ch_7, if_neg (by rw [nJ_le (by omega) (by omega)]; omega), nI_gin (by omega) (by omega), ogd_t, ogd_t, nI_nat (by omega), he k (by omega), sb_t, show gin 0 800 = true from by decide]
      simp only [ogd_t, show (0 : Int32).toNatClampNeg = 0 from rfl, show nI k + 1 = nI (k + 1) from by rw [l1, nJ_add]]
      have c1 : en k = true → (1 : Int32) = nI (c0E en k) := fun h => by unfold c0E; rw [if_pos h]; rfl
      have c2 : ¬ en k = true → (0 : Int32) = nI (c0E en k) := fun h => by unfold c0E; rw [if_neg h]; rfl
      by_cases h : en k = true
      · rw [if_pos h, c1 h]
        simp only [hcond]
        rfl
      · rw [if_neg h, c2 h]
        simp only [hcond]
        rfl
    have hC' : ∀ j, j < k + 1 → upd Cl k (nI (c0E en k)) j = nI (c0E en j) := fun j hj => by
      by_cases h : j = k
      · rw [h, uis]
      · rw [uin h]; exact hC j (by omega)
    rw [key]
    by_cases h : en k = en 0
    · rw [if_pos h]
      refine ih K (k + 1) _ m (by omega) (by omega) hC' ?_
      rcases hm with ⟨a, b⟩ | ⟨a, j, b, c⟩
      · refine .inl ⟨a, fun j hj => ?_⟩
        by_cases hjk : j = k
        · rw [hjk]; exact h
        · exact b j (by omega)
      · exact .inr ⟨a, j, by omega, c⟩
    · rw [if_neg h]
      exact ih K (k + 1) _ 2 (by omega) (by omega) hC' (.inr ⟨rfl, k, by omega, h⟩)
theorem sp_Ch {n W : Nat} {aLast2 : Int64} {H : Nat → Int32} {Tl : Nat → Int64} {en : Nat → Bool} (hn : 800 < n) (hW : W ≤ 800) (he : ∀ k, k < W → f_Ch_endsAt n (H k) (Tl k) aLast2 = some (en k)) (Cl : Nat → Int32) : ∃ Cl', f_Mk_splitByEnd_Ch n H Tl (nI W) Cl aLast2 = some (Cl', nI (m0E en W)) ∧ ∀ j, j < W → Cl' j = nI (c0E en j) := by
  obtain ⟨Cl', m', a, b, c⟩ := sp7_Ch (n := n) hW he W n 0 Cl 1 (by omega) (by omega) (fun j hj => absurd hj (Nat.not_lt_zero _)) (.inl ⟨rfl, fun j hj => absurd hj (Nat.not_lt_zero _)⟩)
  have hm : m' = m0E en W := by
    rcases c with ⟨c1, c2⟩ | ⟨c1, j, c2, c3⟩ <;> rcases m0E_ok (en := en) (W := W) with ⟨d1, d2⟩ | ⟨d1, j', d2, d3⟩
    · omega
    · exact absurd (c2 j' d2) d3
    · exact absurd (d2 j c2) c3
    · omega
  subst hm
  refine ⟨Cl', ?_, b⟩
  rw [f_Mk_splitByEnd_Ch, l0, l1]
  exact congrArg (fun q => q.bind fun u27 => some (u27.2.1, u27.2.2)) a
theorem j35_Ch {n W m : Nat} {Nx Cl : Nat → Int32} {nx nm : Nat → Nat} (hW : W ≤ 800) (hm : m ≤ 64) (hN : ∀ t, t < 4 * W → Nx t = nI (nx t)) (hnx : ∀ t, t < 4 * W → nx t < W) (hc : ∀ k, k < W → Cl k = nI (nm k)) {g s : Nat} (hg : g < m) (hs : s < W) : ∀ d K l F, l + d = 4 → d < K → (∀ l', l' < l → F (4 * g + l') = nI (nm (nx (4 * s + l')))) → ∃ F', f_Mk_joined_Ch_35 n (nI s) (nI g) Nx Cl (4 * m) K (nI l) F = some (nI 4, F') ∧ (∀ l', l' < 4 → F' (4 * g + l') = nI (nm (nx (4 * s + l')))) ∧ ∀ x, x < 4 * g → F' x = F x := by
  intro d
  induction d with
  | zero =>
    intro K l F hl hK hF
    obtain ⟨K, rfl⟩ : ∃ j, K = j + 1 := ⟨K - 1, by omega⟩
    have : l = 4 := by omega
    subst this
    exact ⟨F, by rw [f_Mk_joined_Ch_35, l4, if_pos (by rw [nJ_le (by omega) (by omega)]; omega)], hF, fun x _ => rfl⟩
  | succ d ih =>
    intro K l F hl hK hF
    obtain ⟨K, rfl⟩ : ∃ j, K = j + 1 := ⟨K - 1, by omega⟩
    have hx := hnx (4 * s + l) (by omega)
    obtain ⟨F', a, b, c⟩ := ih K (l + 1) (upd F (4 * g + l) (nI (nm (nx (4 * s + l))))) (by omega) (by omega) (fun l' hl' => by
      by_cases h : l' = l
      · subst h; exact uis
      · rw [uin (by omega)]; exact hF l' (by omega))
    refine ⟨F', ?_, b, fun x hx' => by rw [c x hx', uin (by omega)]⟩
    rw [f_Mk_joined_Ch_35, l4, if_neg (by rw [nJ_le (by omega) (by omega)]; omega), nI_mul, nJ_add, nI_gin (by omega) (by omega), ogd_t, nI_nat (by omega), hN _ (by omega), nI_gin (by omega) (by omega), ogd_t, nI_nat (by omega), nI_mul, nJ_add, nI_gin (by omega) (by omega), ogd_t, nI_nat (by omega), hc _ hx, l1, nJ_add]
    exact a
theorem j14_Ch {n W m : Nat} {aLast2 : Int64} {H : Nat → Int32} {Tl : Nat → Int64} {Nx Cl Fi : Nat → Int32} {nx nm ld : Nat → Nat} {en : Nat → Bool} (hn : 64 < n) (hW : W ≤ 800) (hm : m ≤ 64) (hN : ∀ t, t < 4 * W → Nx t = nI (nx t)) (hnx : ∀ t, t < 4 * W → nx t < W) (hc : ∀ k, k < W → Cl k = nI (nm k)) (hf : ∀ g, g < m → Fi g = nI (ld g)) (hld : ∀ g, g < m → ld g < W) (he : ∀ k, k < W → f_Ch_endsAt n (H k) (Tl k) aLast2 = some (en k)) : ∀ d K g la F, g + d = m → d < K → (∀ i, i < 64 → bit la i = (decide (i < g) && en (ld i))) → (∀ g' l', g' < g → l' < 4 → F (4 * g' + l') = nI (nm (nx (4 * ld g' + l')))) → ∃ la' F', f_Mk_joined_Ch_14 n H Tl Nx Cl Fi (nI m) (4 * m) aLast2 K (nI g) la F = some (nI m, la', F') ∧ (∀ i, i < 64 → bit la' i = (decide (i < m) && en (ld i))) ∧ ∀ g' l', g' < m → l' < 4 → F' (4 * g' + l') = nI (nm (nx (4 * ld g' + l'))) := by
  intro d
  induction d with
  | zero =>
    intro K g la F hg hK h1 h2
    obtain ⟨K, rfl⟩ : ∃ j, K = j + 1 := ⟨K - 1, by omega⟩
    have : g = m := by omega
    subst this
    exact ⟨la, F, by rw [f_Mk_joined_Ch_14, if_pos (by rw [nJ_le (by omega) (by omega)]; omega)], h1, h2⟩
  | succ d ih =>
    intro K g la F hg hK h1 h2
    obtain ⟨K, rfl⟩ : ∃ j, K = j + 1 := ⟨K - 1, by omega⟩
    have hs := hld g (by omega)
    obtain ⟨F1, a, b, c⟩ := j35_Ch (n := n) (nm := nm) hW hm hN hnx hc (show g < m by omega) hs 4 n 0 F (by omega) (by omega) (fun l' hl' => absurd hl' (Nat.not_lt_zero _))
    have h2' : ∀ g' l', g' < g + 1 → l' < 4 → F1 (4 * g' + l') = nI (nm (nx (4 * ld g' + l'))) := by
      intro g' l' hg' hl'
      by_cases h : g' = g
      · subst h; exact b l' hl'
      · rw [c _ (by omega)]; exact h2 g' l' (by omega) hl'
    rw [f_Mk_joined_Ch_14, if_neg (by rw [nJ_le (by omega) (by omega)]; omega), nI_gin (by omega) (by omega), ogd_t, nI_nat (by omega), hf g (by omega), show (0 : Int32) = nI 0 from rfl, a, sb_t, nI_gin (by omega) (by omega), ogd_t, ogd_t, nI_nat (by omega), he _ hs, sb_t, l1, nJ_add]
    by_cases h : en (ld g) = true
    · rw [if_pos h]
      refine ih K (g + 1) _ F1 (by omega) (by omega) (fun i hi => ?_) h2'
      rw [bit_set (by omega) hi, h1 i hi]
      by_cases hig : i = g
      · subst hig; simp [h]
      · have : (i < g + 1) = (i < g) := propext ⟨fun h => by omega, fun h => by omega⟩
        simp [hig, this]
    · rw [if_neg h]
      refine ih K (g + 1) _ F1 (by omega) (by omega) (fun i hi => ?_) h2'
      rw [h1 i hi]
      by_cases hig : i = g
      · subst hig
        have : en (ld i) = false := by simpa using h
        simp [this]
      · have : (i < g + 1) = (i < g) := propext ⟨fun h => by omega, fun h => by omega⟩
        simp [this]
theorem mk_Ch {n : Nat} (hn : 2048 < n) {aNl1 : Nat} {aNext1 : Nat → Int32} {aLast1 : Int64} {aStates2 : Int32} {aNl2 : Nat} {aNext2 : Nat → Int32} {aLast2 : Int64} {dl : wSt → Nat → wSt} {e : wSt → Bool} {V : wSt → Prop} (hV : ∀ x l, V x → l < 4 → V (dl x l)) (hgo : ∀ x l, V x → l < 4 → f_Ch_go n x.1 x.2 (nI l) aNl1 aNext1 aLast1 aStates2 aNl2 aNext2 = some (dl x l)) (hen : ∀ x, V x → f_Ch_endsAt n x.1 x.2 aLast2 = some (e x)) {x0 : wSt} (hx : V x0)  (hb : f_Ch_begin n aLast1 = some x0) (H : Nat → Int32) (Tl : Nat → Int64) (Nx Sl Cl Fn Mk Fi Ms : Nat → Int32) (cc : Int32) : (idl dl e x0 = none ∧ ∃ z, f_Mk_makeA_Ch n H Tl Nx Sl Cl Fn Mk Fi Ms cc aNl1 aNext1 aLast1 aStates2 aNl2 aNext2 aLast2 = some (none, z)) ∨ (∃ E C la nx ah z, idl dl e x0 = some (E, C) ∧ EI V (4 * E.1) E ∧ Fin9 E.1 E.2.2 (c0E (enE e E)) C ∧ f_Mk_makeA_Ch n H Tl Nx Sl Cl Fn Mk Fi Ms cc aNl1 aNext1 aLast1 aStates2 aNl2 aNext2 aLast2 = some (some (nI C.1, la, nx, ah), z) ∧ AuC (nI C.1, 4 * C.1, nx, la, ah) C.1 (goF E C) (finF e E C)) := by
  rcases fo_Ch hn hV hgo hx hb (H := H) (Tl := Tl) (Nx := Nx) (Sl := Sl) with ⟨a, r, b⟩ | ⟨E, H1, Tl1, Nx1, Sl1, w1, a, b, hE, hR⟩
  · refine .inl ⟨by unfold idl; rw [a], (r.1, r.2.1, r.2.2.1, r.2.2.2.1, r.2.2.2.2.1, Cl, Fn, Mk, Fi, Ms, cc, r.2.2.2.2.2), ?_⟩
    rw [f_Mk_makeA_Ch, f_Mk_make_Ch, b, sb_t]
    rfl
  · have h8 := hE.2.1
    have he : ∀ k, k < E.1 → f_Ch_endsAt n (H1 k) (Tl1 k) aLast2 = some (enE e E k) := by
      intro k hk
      have e1 : H1 k = (E.2.1 k).1 := congrArg Prod.fst (hR.1 k hk)
      have e2 : Tl1 k = (E.2.1 k).2 := congrArg Prod.snd (hR.1 k hk)
      rw [e1, e2]
      exact hen _ (hE.2.2.2.1 k hk)
    obtain ⟨Cl1, s1, s2⟩ := sp_Ch (n := n) (by omega) h8 he Cl
    obtain ⟨r, r1, r2⟩ := rf_ex (en := enE e E) hE
    have hm2 := m0E_le (en := enE e E) (W := E.1)
    rcases se_c (n := n) (by omega) h8 hR.2.1 (fun t ht => hE.2.2.2.2.1 t ht) s2 (fun k _ => by have := c0E_lt (en := enE e E) (i := k); omega) (by omega) r1 Fn Mk Fi Ms with ⟨t1, z, t2⟩ | ⟨C, Cl2, Fn2, Mk2, Fi2, Ms2, t1, t2, t3, t4⟩
    · subst t1
      refine .inl ⟨by unfold idl; rw [a]; simp only [r1], (H1, Tl1, Nx1, Sl1, nI E.1, z.1, z.2.1, z.2.2.1, z.2.2.2.1, z.2.2.2.2.1, z.2.2.2.2.2, w1), ?_⟩
      rw [f_Mk_makeA_Ch, f_Mk_make_Ch, b, sb_t, if_pos rfl, s1, sb_t, t2, sb_t]
      rfl
    · subst t1
      have hF := r2 C rfl
      obtain ⟨hwf, w2, w3⟩ := fin_wf hE hF
      obtain ⟨la, F, j1, j2, j3⟩ := j14_Ch (n := n) (by omega) h8 hwf.2.1 hR.2.1 (fun t ht => hE.2.2.2.2.1 t ht) t3 t4 w2 he C.1 n 0 0 (fun _ => 0) (by omega) (by have := hwf.2.1; omega) (fun i hi => by rw [bit_zero]; simp) (fun g' l' h => absurd h (Nat.not_lt_zero _))
      obtain ⟨ah, i1, i2⟩ := in_c (n := n) (S := C.1) (nx := F) (go := goF E C) (fin := finF e E C) (la := la) (a := fun _ => 0) hwf (fun s l hs hl => j3 s l hs hl) j2 (by omega)
      have h64 := hwf.2.1
      refine .inr ⟨E, C, la, F, ah, (H1, Tl1, Nx1, Sl1, nI E.1, Cl2, Fn2, Mk2, Fi2, Ms2, nI C.1, w1), by unfold idl; rw [a]; simp only [r1], hE, hF, ?_, ⟨rfl, rfl, fun s l hs hl => j3 s l hs hl, j2, i2⟩⟩
      rw [f_Mk_makeA_Ch, f_Mk_make_Ch, b, sb_t, if_pos rfl, s1, sb_t, t2, sb_t, if_pos rfl, sb_t, el_r]
      have hjA : f_Mk_joinedA_Ch n H1 Tl1 Nx1 Cl2 Fi2 (nI C.1) aLast2 = some (la, F, ah) := by
        rw [f_Mk_joinedA_Ch, l4, nI_mul, nI_gin (by omega) (by omega), ogd_t, nI_nat (by omega), f_Mk_joined_Ch, show f_Mk_joined_Ch_14 n H1 Tl1 Nx1 Cl2 Fi2 (nI C.1) (4 * C.1) aLast2 n 0 0 (fun _ => 0) = some (nI C.1, la, F) from j1, sb_t, sb_t, i1, sb_t]
      exact congrArg (fun q => q.bind fun v => some (some (nI C.1, v.1, v.2.1, v.2.2), (H1, Tl1, Nx1, Sl1, nI E.1, Cl2, Fn2, Mk2, Fi2, Ms2, nI C.1, w1))) hjA
theorem sp7_Pa {n W : Nat} {pBoth : Bool} {aLast1 aLast2 : Int64} {H : Nat → Int32} {Tl : Nat → Int64} {en : Nat → Bool} (hW : W ≤ 800) (he : ∀ k, k < W → f_Pa_endsAt n (H k) (Tl k) pBoth aLast1 aLast2 = some (en k)) : ∀ d K k Cl m, k + d = W → d < K → (∀ j, j < k → Cl j = nI (c0E en j)) → ((m = 1 ∧ ∀ j, j < k → en j = en 0) ∨ (m = 2 ∧ ∃ j, j < k ∧ en j ≠ en 0)) → ∃ Cl' m', f_Mk_splitByEnd_Pa_7 n H Tl (nI W) pBoth aLast1 aLast2 K (nI k) Cl (nI m) = some (nI W, Cl', nI m') ∧ (∀ j, j < W → Cl' j = nI (c0E en j)) ∧ ((m' = 1 ∧ ∀ j, j < W → en j = en 0) ∨ (m' = 2 ∧ ∃ j, j < W ∧ en j ≠ en 0)) := by
  intro d
  induction d with
  | zero =>
    intro K k Cl m hk hK hC hm
    obtain ⟨K, rfl⟩ : ∃ j, K = j + 1 := ⟨K - 1, by omega⟩
    have : k = W := by omega
    subst this
    exact ⟨Cl, m, by rw [f_Mk_splitByEnd_Pa_7, if_pos (by rw [nJ_le (by omega) (by omega)]; omega)], hC, hm⟩
  | succ d ih =>
    intro K k Cl m hk hK hC hm
    obtain ⟨K, rfl⟩ : ∃ j, K = j + 1 := ⟨K - 1, by omega⟩
    have key : f_Mk_splitByEnd_Pa_7 n H Tl (nI W) pBoth aLast1 aLast2 (K + 1) (nI k) Cl (nI m) = if en k = en 0 then f_Mk_splitByEnd_Pa_7 n H Tl (nI W) pBoth aLast1 aLast2 K (nI (k + 1)) (upd Cl k (nI (c0E en k))) (nI m) else f_Mk_splitByEnd_Pa_7 n H Tl (nI W) pBoth aLast1 aLast2 K (nI (k + 1)) (upd Cl k (nI (c0E en k))) (nI 2) := by
      have e0 : upd Cl k (nI (c0E en k)) 0 = nI (c0E en 0) := by
        by_cases h : k = 0
        · subst h; exact uis
        · rw [uin (fun h' => h h'.symm)]; exact hC 0 (by omega)
      have hcond : (upd Cl k (nI (c0E en k)) k = upd Cl k (nI (c0E en k)) 0) = (en k = en 0) := by
        rw [uis, e0, nJ_eq (by have := c0E_lt (en := en) (i := k); omega) (by have := c0E_lt (en := en) (i := 0); omega)]
        exact propext c0E_eq
      rw [f_Mk_splitByEnd_Pa_7, if_neg (by rw [nJ_le (by omega) (by omega)]; omega), nI_gin (by omega) (by omega), ogd_t, ogd_t, nI_nat (by omega), he k (by omega), sb_t, show gin 0 800 = true from by decide]
      simp only [ogd_t, show (0 : Int32).toNatClampNeg = 0 from rfl, show nI k + 1 = nI (k + 1) from by rw [l1, nJ_add]]
      have c1 : en k = true → (1 : Int32) = nI (c0E en k) := fun h => by unfold c0E; rw [if_pos h]; rfl
      have c2 : ¬ en k = true → (0 : Int32) = nI (c0E en k) := fun h => by unfold c0E; rw [if_neg h]; rfl
      by_cases h : en k = true
      · rw [if_pos h, c1 h]
        simp only [hcond]
        rfl
      · rw [if_neg h, c2 h]
        simp only [hcond]
        rfl
    have hC' : ∀ j, j < k + 1 → upd Cl k (nI (c0E en k)) j = nI (c0E en j) := fun j hj => by
      by_cases h : j = k
      · rw [h, uis]
      · rw [uin h]; exact hC j (by omega)
    rw [key]
    by_cases h : en k = en 0
    · rw [if_pos h]
      refine ih K (k + 1) _ m (by omega) (by omega) hC' ?_
      rcases hm with ⟨a, b⟩ | ⟨a, j, b, c⟩
      · refine .inl ⟨a, fun j hj => ?_⟩
        by_cases hjk : j = k
        · rw [hjk]; exact h
        · exact b j (by omega)
      · exact .inr ⟨a, j, by omega, c⟩
    · rw [if_neg h]
      exact ih K (k + 1) _ 2 (by omega) (by omega) hC' (.inr ⟨rfl, k, by omega, h⟩)
theorem sp_Pa {n W : Nat} {pBoth : Bool} {aLast1 aLast2 : Int64} {H : Nat → Int32} {Tl : Nat → Int64} {en : Nat → Bool} (hn : 800 < n) (hW : W ≤ 800) (he : ∀ k, k < W → f_Pa_endsAt n (H k) (Tl k) pBoth aLast1 aLast2 = some (en k)) (Cl : Nat → Int32) : ∃ Cl', f_Mk_splitByEnd_Pa n H Tl (nI W) Cl pBoth aLast1 aLast2 = some (Cl', nI (m0E en W)) ∧ ∀ j, j < W → Cl' j = nI (c0E en j) := by
  obtain ⟨Cl', m', a, b, c⟩ := sp7_Pa (n := n) hW he W n 0 Cl 1 (by omega) (by omega) (fun j hj => absurd hj (Nat.not_lt_zero _)) (.inl ⟨rfl, fun j hj => absurd hj (Nat.not_lt_zero _)⟩)
  have hm : m' = m0E en W := by
    rcases c with ⟨c1, c2⟩ | ⟨c1, j, c2, c3⟩ <;> rcases m0E_ok (en := en) (W := W) with ⟨d1, d2⟩ | ⟨d1, j', d2, d3⟩
    · omega
    · exact absurd (c2 j' d2) d3
    · exact absurd (d2 j c2) c3
    · omega
  subst hm
  refine ⟨Cl', ?_, b⟩
  rw [f_Mk_splitByEnd_Pa, l0, l1]
  exact congrArg (fun q => q.bind fun u27 => some (u27.2.1, u27.2.2)) a
theorem j35_Pa {n W m : Nat} {Nx Cl : Nat → Int32} {nx nm : Nat → Nat} (hW : W ≤ 800) (hm : m ≤ 64) (hN : ∀ t, t < 4 * W → Nx t = nI (nx t)) (hnx : ∀ t, t < 4 * W → nx t < W) (hc : ∀ k, k < W → Cl k = nI (nm k)) {g s : Nat} (hg : g < m) (hs : s < W) : ∀ d K l F, l + d = 4 → d < K → (∀ l', l' < l → F (4 * g + l') = nI (nm (nx (4 * s + l')))) → ∃ F', f_Mk_joined_Pa_35 n (nI s) (nI g) Nx Cl (4 * m) K (nI l) F = some (nI 4, F') ∧ (∀ l', l' < 4 → F' (4 * g + l') = nI (nm (nx (4 * s + l')))) ∧ ∀ x, x < 4 * g → F' x = F x := by
  intro d
  induction d with
  | zero =>
    intro K l F hl hK hF
    obtain ⟨K, rfl⟩ : ∃ j, K = j + 1 := ⟨K - 1, by omega⟩
    have : l = 4 := by omega
    subst this
    exact ⟨F, by rw [f_Mk_joined_Pa_35, l4, if_pos (by rw [nJ_le (by omega) (by omega)]; omega)], hF, fun x _ => rfl⟩
  | succ d ih =>
    intro K l F hl hK hF
    obtain ⟨K, rfl⟩ : ∃ j, K = j + 1 := ⟨K - 1, by omega⟩
    have hx := hnx (4 * s + l) (by omega)
    obtain ⟨F', a, b, c⟩ := ih K (l + 1) (upd F (4 * g + l) (nI (nm (nx (4 * s + l))))) (by omega) (by omega) (fun l' hl' => by
      by_cases h : l' = l
      · subst h; exact uis
      · rw [uin (by omega)]; exact hF l' (by omega))
    refine ⟨F', ?_, b, fun x hx' => by rw [c x hx', uin (by omega)]⟩
    rw [f_Mk_joined_Pa_35, l4, if_neg (by rw [nJ_le (by omega) (by omega)]; omega), nI_mul, nJ_add, nI_gin (by omega) (by omega), ogd_t, nI_nat (by omega), hN _ (by omega), nI_gin (by omega) (by omega), ogd_t, nI_nat (by omega), nI_mul, nJ_add, nI_gin (by omega) (by omega), ogd_t, nI_nat (by omega), hc _ hx, l1, nJ_add]
    exact a
theorem j14_Pa {n W m : Nat} {pBoth : Bool} {aLast1 aLast2 : Int64} {H : Nat → Int32} {Tl : Nat → Int64} {Nx Cl Fi : Nat → Int32} {nx nm ld : Nat → Nat} {en : Nat → Bool} (hn : 64 < n) (hW : W ≤ 800) (hm : m ≤ 64) (hN : ∀ t, t < 4 * W → Nx t = nI (nx t)) (hnx : ∀ t, t < 4 * W → nx t < W) (hc : ∀ k, k < W → Cl k = nI (nm k)) (hf : ∀ g, g < m → Fi g = nI (ld g)) (hld : ∀ g, g < m → ld g < W) (he : ∀ k, k < W → f_Pa_endsAt n (H k) (Tl k) pBoth aLast1 aLast2 = some (en k)) : ∀ d K g la F, g + d = m → d < K → (∀ i, i < 64 → bit la i = (decide (i < g) && en (ld i))) → (∀ g' l', g' < g → l' < 4 → F (4 * g' + l') = nI (nm (nx (4 * ld g' + l')))) → ∃ la' F', f_Mk_joined_Pa_14 n H Tl Nx Cl Fi (nI m) pBoth (4 * m) aLast1 aLast2 K (nI g) la F = some (nI m, la', F') ∧ (∀ i, i < 64 → bit la' i = (decide (i < m) && en (ld i))) ∧ ∀ g' l', g' < m → l' < 4 → F' (4 * g' + l') = nI (nm (nx (4 * ld g' + l'))) := by
  intro d
  induction d with
  | zero =>
    intro K g la F hg hK h1 h2
    obtain ⟨K, rfl⟩ : ∃ j, K = j + 1 := ⟨K - 1, by omega⟩
    have : g = m := by omega
    subst this
    exact ⟨la, F, by rw [f_Mk_joined_Pa_14, if_pos (by rw [nJ_le (by omega) (by omega)]; omega)], h1, h2⟩
  | succ d ih =>
    intro K g la F hg hK h1 h2
    obtain ⟨K, rfl⟩ : ∃ j, K = j + 1 := ⟨K - 1, by omega⟩
    have hs := hld g (by omega)
    obtain ⟨F1, a, b, c⟩ := j35_Pa (n := n) (nm := nm) hW hm hN hnx hc (show g < m by omega) hs 4 n 0 F (by omega) (by omega) (fun l' hl' => absurd hl' (Nat.not_lt_zero _))
    have h2' : ∀ g' l', g' < g + 1 → l' < 4 → F1 (4 * g' + l') = nI (nm (nx (4 * ld g' + l'))) := by
      intro g' l' hg' hl'
      by_cases h : g' = g
      · subst h; exact b l' hl'
      · rw [c _ (by omega)]; exact h2 g' l' (by omega) hl'
    rw [f_Mk_joined_Pa_14, if_neg (by rw [nJ_le (by omega) (by omega)]; omega), nI_gin (by omega) (by omega), ogd_t, nI_nat (by omega), hf g (by omega), show (0 : Int32) = nI 0 from rfl, a, sb_t, nI_gin (by omega) (by omega), ogd_t, ogd_t, nI_nat (by omega), he _ hs, sb_t, l1, nJ_add]
    by_cases h : en (ld g) = true
    · rw [if_pos h]
      refine ih K (g + 1) _ F1 (by omega) (by omega) (fun i hi => ?_) h2'
      rw [bit_set (by omega) hi, h1 i hi]
      by_cases hig : i = g
      · subst hig; simp [h]
      · have : (i < g + 1) = (i < g) := propext ⟨fun h => by omega, fun h => by omega⟩
        simp [hig, this]
    · rw [if_neg h]
      refine ih K (g + 1) _ F1 (by omega) (by omega) (fun i hi => ?_) h2'
      rw [h1 i hi]
      by_cases hig : i = g
      · subst hig
        have : en (ld i) = false := by simpa using h
        simp [this]
      · have : (i < g + 1) = (i < g) := propext ⟨fun h => by omega, fun h => by omega⟩
        simp [this]
theorem mk_Pa {n : Nat} (hn : 2048 < n) {pBoth : Bool} {aNl1 : Nat} {aNext1 : Nat → Int32} {aLast1 : Int64} {aNl2 : Nat} {aNext2 : Nat → Int32} {aLast2 : Int64} {dl : wSt → Nat → wSt} {e : wSt → Bool} {V : wSt → Prop} (hV : ∀ x l, V x → l < 4 → V (dl x l)) (hgo : ∀ x l, V x → l < 4 → f_Pa_go n x.1 x.2 (nI l) aNl1 aNext1 aNl2 aNext2 = some (dl x l)) (hen : ∀ x, V x → f_Pa_endsAt n x.1 x.2 pBoth aLast1 aLast2 = some (e x)) {x0 : wSt} (hx : V x0)  (hb : f_Pa_begin n = some x0) (H : Nat → Int32) (Tl : Nat → Int64) (Nx Sl Cl Fn Mk Fi Ms : Nat → Int32) (cc : Int32) : (idl dl e x0 = none ∧ ∃ z, f_Mk_makeA_Pa n H Tl Nx Sl Cl Fn Mk Fi Ms cc pBoth aNl1 aNext1 aLast1 aNl2 aNext2 aLast2 = some (none, z)) ∨ (∃ E C la nx ah z, idl dl e x0 = some (E, C) ∧ EI V (4 * E.1) E ∧ Fin9 E.1 E.2.2 (c0E (enE e E)) C ∧ f_Mk_makeA_Pa n H Tl Nx Sl Cl Fn Mk Fi Ms cc pBoth aNl1 aNext1 aLast1 aNl2 aNext2 aLast2 = some (some (nI C.1, la, nx, ah), z) ∧ AuC (nI C.1, 4 * C.1, nx, la, ah) C.1 (goF E C) (finF e E C)) := by
  rcases fo_Pa hn hV hgo hx hb (H := H) (Tl := Tl) (Nx := Nx) (Sl := Sl) with ⟨a, r, b⟩ | ⟨E, H1, Tl1, Nx1, Sl1, w1, a, b, hE, hR⟩
  · refine .inl ⟨by unfold idl; rw [a], (r.1, r.2.1, r.2.2.1, r.2.2.2.1, r.2.2.2.2.1, Cl, Fn, Mk, Fi, Ms, cc, r.2.2.2.2.2), ?_⟩
    rw [f_Mk_makeA_Pa, f_Mk_make_Pa, b, sb_t]
    rfl
  · have h8 := hE.2.1
    have he : ∀ k, k < E.1 → f_Pa_endsAt n (H1 k) (Tl1 k) pBoth aLast1 aLast2 = some (enE e E k) := by
      intro k hk
      have e1 : H1 k = (E.2.1 k).1 := congrArg Prod.fst (hR.1 k hk)
      have e2 : Tl1 k = (E.2.1 k).2 := congrArg Prod.snd (hR.1 k hk)
      rw [e1, e2]
      exact hen _ (hE.2.2.2.1 k hk)
    obtain ⟨Cl1, s1, s2⟩ := sp_Pa (n := n) (by omega) h8 he Cl
    obtain ⟨r, r1, r2⟩ := rf_ex (en := enE e E) hE
    have hm2 := m0E_le (en := enE e E) (W := E.1)
    rcases se_c (n := n) (by omega) h8 hR.2.1 (fun t ht => hE.2.2.2.2.1 t ht) s2 (fun k _ => by have := c0E_lt (en := enE e E) (i := k); omega) (by omega) r1 Fn Mk Fi Ms with ⟨t1, z, t2⟩ | ⟨C, Cl2, Fn2, Mk2, Fi2, Ms2, t1, t2, t3, t4⟩
    · subst t1
      refine .inl ⟨by unfold idl; rw [a]; simp only [r1], (H1, Tl1, Nx1, Sl1, nI E.1, z.1, z.2.1, z.2.2.1, z.2.2.2.1, z.2.2.2.2.1, z.2.2.2.2.2, w1), ?_⟩
      rw [f_Mk_makeA_Pa, f_Mk_make_Pa, b, sb_t, if_pos rfl, s1, sb_t, t2, sb_t]
      rfl
    · subst t1
      have hF := r2 C rfl
      obtain ⟨hwf, w2, w3⟩ := fin_wf hE hF
      obtain ⟨la, F, j1, j2, j3⟩ := j14_Pa (n := n) (by omega) h8 hwf.2.1 hR.2.1 (fun t ht => hE.2.2.2.2.1 t ht) t3 t4 w2 he C.1 n 0 0 (fun _ => 0) (by omega) (by have := hwf.2.1; omega) (fun i hi => by rw [bit_zero]; simp) (fun g' l' h => absurd h (Nat.not_lt_zero _))
      obtain ⟨ah, i1, i2⟩ := in_c (n := n) (S := C.1) (nx := F) (go := goF E C) (fin := finF e E C) (la := la) (a := fun _ => 0) hwf (fun s l hs hl => j3 s l hs hl) j2 (by omega)
      have h64 := hwf.2.1
      refine .inr ⟨E, C, la, F, ah, (H1, Tl1, Nx1, Sl1, nI E.1, Cl2, Fn2, Mk2, Fi2, Ms2, nI C.1, w1), by unfold idl; rw [a]; simp only [r1], hE, hF, ?_, ⟨rfl, rfl, fun s l hs hl => j3 s l hs hl, j2, i2⟩⟩
      rw [f_Mk_makeA_Pa, f_Mk_make_Pa, b, sb_t, if_pos rfl, s1, sb_t, t2, sb_t, if_pos rfl, sb_t, el_r]
      have hjA : f_Mk_joinedA_Pa n H1 Tl1 Nx1 Cl2 Fi2 (nI C.1) pBoth aLast1 aLast2 = some (la, F, ah) := by
        rw [f_Mk_joinedA_Pa, l4, nI_mul, nI_gin (by omega) (by omega), ogd_t, nI_nat (by omega), f_Mk_joined_Pa, show f_Mk_joined_Pa_14 n H1 Tl1 Nx1 Cl2 Fi2 (nI C.1) pBoth (4 * C.1) aLast1 aLast2 n 0 0 (fun _ => 0) = some (nI C.1, la, F) from j1, sb_t, sb_t, i1, sb_t]
      exact congrArg (fun q => q.bind fun v => some (some (nI C.1, v.1, v.2.1, v.2.2), (H1, Tl1, Nx1, Sl1, nI E.1, Cl2, Fn2, Mk2, Fi2, Ms2, nI C.1, w1))) hjA
theorem sp7_Re {n W : Nat} {aLast1 : Int64} {H : Nat → Int32} {Tl : Nat → Int64} {en : Nat → Bool} (hW : W ≤ 800) (he : ∀ k, k < W → f_Re_endsAt n (H k) (Tl k) aLast1 = some (en k)) : ∀ d K k Cl m, k + d = W → d < K → (∀ j, j < k → Cl j = nI (c0E en j)) → ((m = 1 ∧ ∀ j, j < k → en j = en 0) ∨ (m = 2 ∧ ∃ j, j < k ∧ en j ≠ en 0)) → ∃ Cl' m', f_Mk_splitByEnd_Re_7 n H Tl (nI W) aLast1 K (nI k) Cl (nI m) = some (nI W, Cl', nI m') ∧ (∀ j, j < W → Cl' j = nI (c0E en j)) ∧ ((m' = 1 ∧ ∀ j, j < W → en j = en 0) ∨ (m' = 2 ∧ ∃ j, j < W ∧ en j ≠ en 0)) := by
  intro d
  induction d with
  | zero =>
    intro K k Cl m hk hK hC hm
    obtain ⟨K, rfl⟩ : ∃ j, K = j + 1 := ⟨K - 1, by omega⟩
    have : k = W := by omega
    subst this
    exact ⟨Cl, m, by rw [f_Mk_splitByEnd_Re_7, if_pos (by rw [nJ_le (by omega) (by omega)]; omega)], hC, hm⟩
  | succ d ih =>
    intro K k Cl m hk hK hC hm
    obtain ⟨K, rfl⟩ : ∃ j, K = j + 1 := ⟨K - 1, by omega⟩
    have key : f_Mk_splitByEnd_Re_7 n H Tl (nI W) aLast1 (K + 1) (nI k) Cl (nI m) = if en k = en 0 then f_Mk_splitByEnd_Re_7 n H Tl (nI W) aLast1 K (nI (k + 1)) (upd Cl k (nI (c0E en k))) (nI m) else f_Mk_splitByEnd_Re_7 n H Tl (nI W) aLast1 K (nI (k + 1)) (upd Cl k (nI (c0E en k))) (nI 2) := by
      have e0 : upd Cl k (nI (c0E en k)) 0 = nI (c0E en 0) := by
        by_cases h : k = 0
        · subst h; exact uis
        · rw [uin (fun h' => h h'.symm)]; exact hC 0 (by omega)
      have hcond : (upd Cl k (nI (c0E en k)) k = upd Cl k (nI (c0E en k)) 0) = (en k = en 0) := by
        rw [uis, e0, nJ_eq (by have := c0E_lt (en := en) (i := k); omega) (by have := c0E_lt (en := en) (i := 0); omega)]
        exact propext c0E_eq
      rw [f_Mk_splitByEnd_Re_7, if_neg (by rw [nJ_le (by omega) (by omega)]; omega), nI_gin (by omega) (by omega), ogd_t, ogd_t, nI_nat (by omega), he k (by omega), sb_t, show gin 0 800 = true from by decide]
      simp only [ogd_t, show (0 : Int32).toNatClampNeg = 0 from rfl, show nI k + 1 = nI (k + 1) from by rw [l1, nJ_add]]
      have c1 : en k = true → (1 : Int32) = nI (c0E en k) := fun h => by unfold c0E; rw [if_pos h]; rfl
      have c2 : ¬ en k = true → (0 : Int32) = nI (c0E en k) := fun h => by unfold c0E; rw [if_neg h]; rfl
      by_cases h : en k = true
      · rw [if_pos h, c1 h]
        simp only [hcond]
        rfl
      · rw [if_neg h, c2 h]
        simp only [hcond]
        rfl
    have hC' : ∀ j, j < k + 1 → upd Cl k (nI (c0E en k)) j = nI (c0E en j) := fun j hj => by
      by_cases h : j = k
      · rw [h, uis]
      · rw [uin h]; exact hC j (by omega)
    rw [key]
    by_cases h : en k = en 0
    · rw [if_pos h]
      refine ih K (k + 1) _ m (by omega) (by omega) hC' ?_
      rcases hm with ⟨a, b⟩ | ⟨a, j, b, c⟩
      · refine .inl ⟨a, fun j hj => ?_⟩
        by_cases hjk : j = k
        · rw [hjk]; exact h
        · exact b j (by omega)
      · exact .inr ⟨a, j, by omega, c⟩
    · rw [if_neg h]
      exact ih K (k + 1) _ 2 (by omega) (by omega) hC' (.inr ⟨rfl, k, by omega, h⟩)
theorem sp_Re {n W : Nat} {aLast1 : Int64} {H : Nat → Int32} {Tl : Nat → Int64} {en : Nat → Bool} (hn : 800 < n) (hW : W ≤ 800) (he : ∀ k, k < W → f_Re_endsAt n (H k) (Tl k) aLast1 = some (en k)) (Cl : Nat → Int32) : ∃ Cl', f_Mk_splitByEnd_Re n H Tl (nI W) Cl aLast1 = some (Cl', nI (m0E en W)) ∧ ∀ j, j < W → Cl' j = nI (c0E en j) := by
  obtain ⟨Cl', m', a, b, c⟩ := sp7_Re (n := n) hW he W n 0 Cl 1 (by omega) (by omega) (fun j hj => absurd hj (Nat.not_lt_zero _)) (.inl ⟨rfl, fun j hj => absurd hj (Nat.not_lt_zero _)⟩)
  have hm : m' = m0E en W := by
    rcases c with ⟨c1, c2⟩ | ⟨c1, j, c2, c3⟩ <;> rcases m0E_ok (en := en) (W := W) with ⟨d1, d2⟩ | ⟨d1, j', d2, d3⟩
    · omega
    · exact absurd (c2 j' d2) d3
    · exact absurd (d2 j c2) c3
    · omega
  subst hm
  refine ⟨Cl', ?_, b⟩
  rw [f_Mk_splitByEnd_Re, l0, l1]
  exact congrArg (fun q => q.bind fun u27 => some (u27.2.1, u27.2.2)) a
theorem j35_Re {n W m : Nat} {Nx Cl : Nat → Int32} {nx nm : Nat → Nat} (hW : W ≤ 800) (hm : m ≤ 64) (hN : ∀ t, t < 4 * W → Nx t = nI (nx t)) (hnx : ∀ t, t < 4 * W → nx t < W) (hc : ∀ k, k < W → Cl k = nI (nm k)) {g s : Nat} (hg : g < m) (hs : s < W) : ∀ d K l F, l + d = 4 → d < K → (∀ l', l' < l → F (4 * g + l') = nI (nm (nx (4 * s + l')))) → ∃ F', f_Mk_joined_Re_35 n (nI s) (nI g) Nx Cl (4 * m) K (nI l) F = some (nI 4, F') ∧ (∀ l', l' < 4 → F' (4 * g + l') = nI (nm (nx (4 * s + l')))) ∧ ∀ x, x < 4 * g → F' x = F x := by
  intro d
  induction d with
  | zero =>
    intro K l F hl hK hF
    obtain ⟨K, rfl⟩ : ∃ j, K = j + 1 := ⟨K - 1, by omega⟩
    have : l = 4 := by omega
    subst this
    exact ⟨F, by rw [f_Mk_joined_Re_35, l4, if_pos (by rw [nJ_le (by omega) (by omega)]; omega)], hF, fun x _ => rfl⟩
  | succ d ih =>
    intro K l F hl hK hF
    obtain ⟨K, rfl⟩ : ∃ j, K = j + 1 := ⟨K - 1, by omega⟩
    have hx := hnx (4 * s + l) (by omega)
    obtain ⟨F', a, b, c⟩ := ih K (l + 1) (upd F (4 * g + l) (nI (nm (nx (4 * s + l))))) (by omega) (by omega) (fun l' hl' => by
      by_cases h : l' = l
      · subst h; exact uis
      · rw [uin (by omega)]; exact hF l' (by omega))
    refine ⟨F', ?_, b, fun x hx' => by rw [c x hx', uin (by omega)]⟩
    rw [f_Mk_joined_Re_35, l4, if_neg (by rw [nJ_le (by omega) (by omega)]; omega), nI_mul, nJ_add, nI_gin (by omega) (by omega), ogd_t, nI_nat (by omega), hN _ (by omega), nI_gin (by omega) (by omega), ogd_t, nI_nat (by omega), nI_mul, nJ_add, nI_gin (by omega) (by omega), ogd_t, nI_nat (by omega), hc _ hx, l1, nJ_add]
    exact a
theorem j14_Re {n W m : Nat} {aLast1 : Int64} {H : Nat → Int32} {Tl : Nat → Int64} {Nx Cl Fi : Nat → Int32} {nx nm ld : Nat → Nat} {en : Nat → Bool} (hn : 64 < n) (hW : W ≤ 800) (hm : m ≤ 64) (hN : ∀ t, t < 4 * W → Nx t = nI (nx t)) (hnx : ∀ t, t < 4 * W → nx t < W) (hc : ∀ k, k < W → Cl k = nI (nm k)) (hf : ∀ g, g < m → Fi g = nI (ld g)) (hld : ∀ g, g < m → ld g < W) (he : ∀ k, k < W → f_Re_endsAt n (H k) (Tl k) aLast1 = some (en k)) : ∀ d K g la F, g + d = m → d < K → (∀ i, i < 64 → bit la i = (decide (i < g) && en (ld i))) → (∀ g' l', g' < g → l' < 4 → F (4 * g' + l') = nI (nm (nx (4 * ld g' + l')))) → ∃ la' F', f_Mk_joined_Re_14 n H Tl Nx Cl Fi (nI m) (4 * m) aLast1 K (nI g) la F = some (nI m, la', F') ∧ (∀ i, i < 64 → bit la' i = (decide (i < m) && en (ld i))) ∧ ∀ g' l', g' < m → l' < 4 → F' (4 * g' + l') = nI (nm (nx (4 * ld g' + l'))) := by
  intro d
  induction d with
  | zero =>
    intro K g la F hg hK h1 h2
    obtain ⟨K, rfl⟩ : ∃ j, K = j + 1 := ⟨K - 1, by omega⟩
    have : g = m := by omega
    subst this
    exact ⟨la, F, by rw [f_Mk_joined_Re_14, if_pos (by rw [nJ_le (by omega) (by omega)]; omega)], h1, h2⟩
  | succ d ih =>
    intro K g la F hg hK h1 h2
    obtain ⟨K, rfl⟩ : ∃ j, K = j + 1 := ⟨K - 1, by omega⟩
    have hs := hld g (by omega)
    obtain ⟨F1, a, b, c⟩ := j35_Re (n := n) (nm := nm) hW hm hN hnx hc (show g < m by omega) hs 4 n 0 F (by omega) (by omega) (fun l' hl' => absurd hl' (Nat.not_lt_zero _))
    have h2' : ∀ g' l', g' < g + 1 → l' < 4 → F1 (4 * g' + l') = nI (nm (nx (4 * ld g' + l'))) := by
      intro g' l' hg' hl'
      by_cases h : g' = g
      · subst h; exact b l' hl'
      · rw [c _ (by omega)]; exact h2 g' l' (by omega) hl'
    rw [f_Mk_joined_Re_14, if_neg (by rw [nJ_le (by omega) (by omega)]; omega), nI_gin (by omega) (by omega), ogd_t, nI_nat (by omega), hf g (by omega), show (0 : Int32) = nI 0 from rfl, a, sb_t, nI_gin (by omega) (by omega), ogd_t, ogd_t, nI_nat (by omega), he _ hs, sb_t, l1, nJ_add]
    by_cases h : en (ld g) = true
    · rw [if_pos h]
      refine ih K (g + 1) _ F1 (by omega) (by omega) (fun i hi => ?_) h2'
      rw [bit_set (by omega) hi, h1 i hi]
      by_cases hig : i = g
      · subst hig; simp [h]
      · have : (i < g + 1) = (i < g) := propext ⟨fun h => by omega, fun h => by omega⟩
        simp [hig, this]
    · rw [if_neg h]
      refine ih K (g + 1) _ F1 (by omega) (by omega) (fun i hi => ?_) h2'
      rw [h1 i hi]
      by_cases hig : i = g
      · subst hig
        have : en (ld i) = false := by simpa using h
        simp [this]
      · have : (i < g + 1) = (i < g) := propext ⟨fun h => by omega, fun h => by omega⟩
        simp [this]
theorem mk_Re {n : Nat} (hn : 2048 < n) {wH : Int32} {aStates1 : Int32} {aNl1 : Nat} {aNext1 : Nat → Int32} {aLast1 : Int64} {dl : wSt → Nat → wSt} {e : wSt → Bool} {V : wSt → Prop} (hV : ∀ x l, V x → l < 4 → V (dl x l)) (hgo : ∀ x l, V x → l < 4 → f_Re_go n x.1 x.2 (nI l) aStates1 aNl1 aNext1 aLast1 = some (dl x l).2 ∧ (dl x l).1 = wH) (hen : ∀ x, V x → f_Re_endsAt n x.1 x.2 aLast1 = some (e x)) {x0 : wSt} (hx : V x0) (hx1 : x0.1 = wH) (hb : f_Re_begin n = some x0.2) (H : Nat → Int32) (Tl : Nat → Int64) (Nx Sl Cl Fn Mk Fi Ms : Nat → Int32) (cc : Int32) : (idl dl e x0 = none ∧ ∃ z, f_Mk_makeA_Re n H Tl Nx Sl Cl Fn Mk Fi Ms cc wH aStates1 aNl1 aNext1 aLast1 = some (none, z)) ∨ (∃ E C la nx ah z, idl dl e x0 = some (E, C) ∧ EI V (4 * E.1) E ∧ Fin9 E.1 E.2.2 (c0E (enE e E)) C ∧ f_Mk_makeA_Re n H Tl Nx Sl Cl Fn Mk Fi Ms cc wH aStates1 aNl1 aNext1 aLast1 = some (some (nI C.1, la, nx, ah), z) ∧ AuC (nI C.1, 4 * C.1, nx, la, ah) C.1 (goF E C) (finF e E C)) := by
  rcases fo_Re hn hV hgo hx hx1 hb (H := H) (Tl := Tl) (Nx := Nx) (Sl := Sl) with ⟨a, r, b⟩ | ⟨E, H1, Tl1, Nx1, Sl1, w1, a, b, hE, hR⟩
  · refine .inl ⟨by unfold idl; rw [a], (r.1, r.2.1, r.2.2.1, r.2.2.2.1, r.2.2.2.2.1, Cl, Fn, Mk, Fi, Ms, cc, r.2.2.2.2.2), ?_⟩
    rw [f_Mk_makeA_Re, f_Mk_make_Re, b, sb_t]
    rfl
  · have h8 := hE.2.1
    have he : ∀ k, k < E.1 → f_Re_endsAt n (H1 k) (Tl1 k) aLast1 = some (enE e E k) := by
      intro k hk
      have e1 : H1 k = (E.2.1 k).1 := congrArg Prod.fst (hR.1 k hk)
      have e2 : Tl1 k = (E.2.1 k).2 := congrArg Prod.snd (hR.1 k hk)
      rw [e1, e2]
      exact hen _ (hE.2.2.2.1 k hk)
    obtain ⟨Cl1, s1, s2⟩ := sp_Re (n := n) (by omega) h8 he Cl
    obtain ⟨r, r1, r2⟩ := rf_ex (en := enE e E) hE
    have hm2 := m0E_le (en := enE e E) (W := E.1)
    rcases se_c (n := n) (by omega) h8 hR.2.1 (fun t ht => hE.2.2.2.2.1 t ht) s2 (fun k _ => by have := c0E_lt (en := enE e E) (i := k); omega) (by omega) r1 Fn Mk Fi Ms with ⟨t1, z, t2⟩ | ⟨C, Cl2, Fn2, Mk2, Fi2, Ms2, t1, t2, t3, t4⟩
    · subst t1
      refine .inl ⟨by unfold idl; rw [a]; simp only [r1], (H1, Tl1, Nx1, Sl1, nI E.1, z.1, z.2.1, z.2.2.1, z.2.2.2.1, z.2.2.2.2.1, z.2.2.2.2.2, w1), ?_⟩
      rw [f_Mk_makeA_Re, f_Mk_make_Re, b, sb_t, if_pos rfl, s1, sb_t, t2, sb_t]
      rfl
    · subst t1
      have hF := r2 C rfl
      obtain ⟨hwf, w2, w3⟩ := fin_wf hE hF
      obtain ⟨la, F, j1, j2, j3⟩ := j14_Re (n := n) (by omega) h8 hwf.2.1 hR.2.1 (fun t ht => hE.2.2.2.2.1 t ht) t3 t4 w2 he C.1 n 0 0 (fun _ => 0) (by omega) (by have := hwf.2.1; omega) (fun i hi => by rw [bit_zero]; simp) (fun g' l' h => absurd h (Nat.not_lt_zero _))
      obtain ⟨ah, i1, i2⟩ := in_c (n := n) (S := C.1) (nx := F) (go := goF E C) (fin := finF e E C) (la := la) (a := fun _ => 0) hwf (fun s l hs hl => j3 s l hs hl) j2 (by omega)
      have h64 := hwf.2.1
      refine .inr ⟨E, C, la, F, ah, (H1, Tl1, Nx1, Sl1, nI E.1, Cl2, Fn2, Mk2, Fi2, Ms2, nI C.1, w1), by unfold idl; rw [a]; simp only [r1], hE, hF, ?_, ⟨rfl, rfl, fun s l hs hl => j3 s l hs hl, j2, i2⟩⟩
      rw [f_Mk_makeA_Re, f_Mk_make_Re, b, sb_t, if_pos rfl, s1, sb_t, t2, sb_t, if_pos rfl, sb_t, el_r]
      have hjA : f_Mk_joinedA_Re n H1 Tl1 Nx1 Cl2 Fi2 (nI C.1) aLast1 = some (la, F, ah) := by
        rw [f_Mk_joinedA_Re, l4, nI_mul, nI_gin (by omega) (by omega), ogd_t, nI_nat (by omega), f_Mk_joined_Re, show f_Mk_joined_Re_14 n H1 Tl1 Nx1 Cl2 Fi2 (nI C.1) (4 * C.1) aLast1 n 0 0 (fun _ => 0) = some (nI C.1, la, F) from j1, sb_t, sb_t, i1, sb_t]
      exact congrArg (fun q => q.bind fun v => some (some (nI C.1, v.1, v.2.1, v.2.2), (H1, Tl1, Nx1, Sl1, nI E.1, Cl2, Fn2, Mk2, Fi2, Ms2, nI C.1, w1))) hjA
