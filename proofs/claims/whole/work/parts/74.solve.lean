/-! STAGE 2. THE CALL: solve -/
theorem choose4 {α : Type} (a0 : α) {P : Nat → α → Prop} (h : ∀ v, v < 4 → ∃ a, P v a) : ∃ f : Nat → α, ∀ v, v < 4 → P v (f v) := by
  have h2 : ∀ v, ∃ a, v < 4 → P v a := by
    intro v
    by_cases hv : v < 4
    · obtain ⟨a, ha⟩ := h v hv; exact ⟨a, fun _ => ha⟩
    · exact ⟨a0, fun h => absurd h hv⟩
  exact ⟨fun v => Classical.choose (h2 v), fun v hv => Classical.choose_spec (h2 v) hv⟩
theorem find_ok {n m B : Nat} {T : auTab} {mSize mGoes : Nat → Int32} {mLast : Nat → Bool} {sA : Nat → Option Nat} {mV : Nat → Int32} {ac : Nat → Nat → Bool} {gF gL gM : Nat → Nat → Int32} {Le Mo mF mLe mMo : Nat → Int32} (hn : 64 < n) (hm : m < 32) (hG : GB B gF) (hBO : BO B gF Le Mo mF mLe mMo) (h4 : ∀ b, gL b 4 = 0 ∧ gM b 4 = 0) (hO : ∀ v, v < 4 → VarOK T mSize mGoes mLast (sA v) (mV v) (ac v)) (sAl : Nat → Int64) (sLn kL : Nat → Int32) (kW : Nat → Int64) (mLen : Nat → Int32) (mWord Ls : Nat → Int64) (mKept : Bool) (my : Nat → Bool) (tr : Nat → Int32) : (∃ a l gL' gM' w, f_Se_find n (nI m) sA Le Mo (nI B) sAl sLn kL kW gF gL gM T = some (false, a, l, false, kL, kW, gL', gM') ∧ (∀ b, gL' b 4 = 0 ∧ gM' b 4 = 0) ∧ f_Mo_solve n (nI m) (nI B) mSize mGoes mLast mV mF mLe mMo mLen mWord mKept Ls my tr = some (false, 0, mLen, mWord, false, w)) ∨ (∃ a l kL' kW' gL' gM' mLen' mWord' w, f_Se_find n (nI m) sA Le Mo (nI B) sAl sLn kL kW gF gL gM T = some (true, a, l, true, kL', kW', gL', gM') ∧ (∀ b, gL' b 4 = 0 ∧ gM' b 4 = 0) ∧ f_Mo_solve n (nI m) (nI B) mSize mGoes mLast mV mF mLe mMo mLen mWord mKept Ls my tr = some (true, 0, mLen', mWord', true, w) ∧ ∀ v, v < 4 → kL' v = mLen' v ∧ kW' v = mWord' v) := by
  have hB := hG.1
  obtain ⟨Ls1, my1, s1, s2⟩ := so39 (n := n) hn hm hO 4 n 0 Ls my (by omega) (by omega) (fun w j hw => absurd hw (Nat.not_lt_zero _))
  have hin : 0 ≤ (nI m).toInt ∧ (nI m).toInt ≤ 31 := by rw [nI_int (by omega)]; omega
  have preM : f_Mo_solve n (nI m) (nI B) mSize mGoes mLast mV mF mLe mMo mLen mWord mKept Ls my tr = (f_Mo_found n (nI m) (nI B) mF mLe mMo my1 tr).bind fun u40 => if u40.1 = true then (f_Mo_solve_149 n mSize mGoes mLast mV u40.2 n 0 mLen mWord Ls1).bind fun u68 => some (true, 0, u68.2.1, u68.2.2.1, true, u68.2.2.2, my1, u40.2) else some (false, 0, mLen, mWord, false, Ls1, my1, u40.2) := by
    simp only [f_Mo_solve, in031, hin, and_self, decide_true, sb_t, if_true, fails_f, Bool.false_eq_true, if_false, show f_Mo_solve_39 n (nI m) mSize mGoes mLast mV n 0 Ls my = some (nI 4, Ls1, my1) from s1]
  obtain ⟨all, A, a1, a2, a3⟩ := al4 (n := n) (gF := gF) hn hm hB hO 4 n 0 true sAl (by omega) (by omega) (fun w hw => absurd hw (Nat.not_lt_zero _)) ⟨fun _ w hw => absurd hw (Nat.not_lt_zero _), fun _ => rfl⟩
  have preA : f_Se_allowLengths n (nI m) sA (nI B) sAl gF T = some (all, A) := by
    rw [f_Se_allowLengths, l0, a1]; rfl
  have hfd := fd_r (n := n) (Le := Le) (Mo := Mo) hn hm hG hBO s2 tr
  by_cases hall : all = true
  · -- the search
    obtain ⟨sh, hsh⟩ := choose4 0 (P := fun v s => s < 32 ∧ f_Se_shortestAllowed n (nI v) A = some (nI s) ∧ ∀ j, j < s → bit (A v) j = false) (fun v hv => sa_c hn hv)
    obtain ⟨lg, hlg⟩ := choose4 0 (P := fun v s => s < 32 ∧ f_Se_longestAllowed n (nI v) A = some (nI s) ∧ ∀ j, s < j → j < 32 → bit (A v) j = false) (fun v hv => la_c hn hv)
    obtain ⟨gL1, gM1, g1, g2, g3⟩ := fl2 (n := n) (sh := sh) (lg := lg) hn hG (fun v hv => ⟨(hsh v hv).1, (hlg v hv).1, (hsh v hv).2.1, (hlg v hv).2.1⟩) B n 0 gL gM (by omega) (by omega) h4 (fun b' v hb => absurd hb (Nat.not_lt_zero _))
    have hpl := pl_0 (n := n) (Le := Le) (Mo := Mo) (A := A) hn hG (fun w hw => ⟨(hsh w hw).1, (hlg w hw).1⟩) g3 (L := sLn) (t := fun _ => 0) (fun w hw => absurd hw (Nat.not_lt_zero _))
    have e1 := Pl_Sr (B := B) (F := FF gF) (Lo := fun b => (Le b).toInt) (Hi := fun b => (Mo b).toInt) (al := fun w k => bit (A w) k) (sh := sh) (lg := lg) (fun w k hw hk h => by
      constructor
      · apply Classical.byContradiction
        intro hn'
        have := (hsh w hw).2.2 k (by omega)
        rw [this] at h; cases h
      · apply Classical.byContradiction
        intro hn'
        have := (hlg w hw).2.2 k (by omega) hk
        rw [this] at h; cases h) 3 0 (fun _ => 0) (by omega)
    have e2 := Sr_al (may := mayF m ac) (al := fun w k => bit (A w) k) (H := Hd B (FF gF) (fun b => (Le b).toInt) (fun b => (Mo b).toInt)) (wgF B gF) (fun v hv hw k hk => bool_iff ((a2 v hv k (by omega)).trans ⟨fun h => h.1, fun h => ⟨h, .inl hw⟩⟩)) (fun v hv hw k hk => (a2 v hv k (by omega)).trans ⟨fun h => ⟨h.1, h.2.resolve_left hw⟩, fun h => ⟨h.1, .inr h.2⟩⟩) (fun v hv hw => Hd_indep (fun b hb => by
      apply Classical.byContradiction
      intro hne
      exact hw ⟨b, hb, hne⟩)) 4 0 (fun _ => 0) (by omega)
    have e3 := e1.trans e2
    have preF : ∀ z, f_Se_place_5 n (nI 0) Le Mo (nI B) A sLn gF gL1 gM1 = some z → f_Se_findLengths n Le Mo (nI B) A sLn gF gL gM = some (z.1, z.2, gL1, gM1) := by
      intro z hz
      rw [f_Se_findLengths, l0, g1, sb_t, hz, sb_t]
    rcases hpl with ⟨x1, L', x2, x3⟩ | ⟨s, L', x1, x2, x3⟩
    · rcases hfd with ⟨y1, tr', y2⟩ | ⟨s', tr', y1, y2, y3⟩
      · refine .inl ⟨A, L', gL1, gM1, (Ls1, my1, tr'), ?_, g2, ?_⟩
        · rw [f_Se_find, preA, sb_t, if_pos hall, preF _ x2, sb_t]
          rfl
        · rw [preM, y2]; rfl
      · rw [e3, y1] at x1; cases x1
    · rcases hfd with ⟨y1, tr', y2⟩ | ⟨s', tr', y1, y2, y3⟩
      · rw [e3, y1] at x1; cases x1
      · have hss : s' = s := by
          rw [e3, y1] at x1
          cases x1; rfl
        subst hss
        have hsp := Sr_spec _ _ _ _ y1
        obtain ⟨W, hW⟩ := choose4 (0 : Int64) (P := fun v w => KW n T mSize mGoes mLast (sA v) (mV v) (s' v) w) (fun v hv => by
          have h5 := hsp.2.1 v (by omega) (by omega)
          have h6 := h5.1
          unfold mayF at h6
          rw [Bool.and_eq_true] at h6
          exact kw_ex hn h5.2 (hO v hv) h6.2)
        obtain ⟨kL', kW', k1, k2⟩ := kw2 (n := n) (L := L') x3 hW 4 n 0 kL kW (by omega) (by omega) (fun w hw => absurd hw (Nat.not_lt_zero _))
        obtain ⟨mL', mW', Ls', m1, m2⟩ := so149 (n := n) (tr := tr') y3 hW 4 n 0 mLen mWord Ls1 (by omega) (by omega) (fun w hw => absurd hw (Nat.not_lt_zero _))
        refine .inr ⟨A, L', kL', kW', gL1, gM1, mL', mW', (Ls', my1, tr'), ?_, g2, ?_, fun v hv => ?_⟩
        · have k1' : f_Se_keepWords n sA L' kL kW T = some (kL', kW') := by
            rw [f_Se_keepWords, l0, k1]; rfl
          rw [f_Se_find, preA, sb_t, if_pos hall, preF _ x2, sb_t, if_pos rfl, if_pos rfl]
          exact congrArg (fun q => q.bind fun u14 => some (true, A, L', true, u14.1, u14.2, gL1, gM1)) k1'
        · rw [preM, y2, sb_t, if_pos rfl, show f_Mo_solve_149 n mSize mGoes mLast mV (true, tr').2 n 0 mLen mWord Ls1 = some (nI 4, mL', mW', Ls') from m1]
          rfl
        · rw [(k2 v hv).1, (k2 v hv).2, (m2 v hv).1, (m2 v hv).2]; exact ⟨rfl, rfl⟩
  · -- some variable has no length
    rcases hfd with ⟨y1, tr', y2⟩ | ⟨s', tr', y1, y2, y3⟩
    · refine .inl ⟨A, sLn, gL, gM, (Ls1, my1, tr'), ?_, h4, ?_⟩
      · rw [f_Se_find, preA, sb_t, if_neg hall]
        rfl
      · rw [preM, y2]; rfl
    · exfalso
      apply hall
      apply a3.mpr
      intro w hw
      have := (Sr_spec _ _ _ _ y1).2.1 w (by omega) (by omega)
      exact ⟨s' w, this.2, this.1⟩
theorem var_ok {xLang : Nat → Option Nat} {xCount : Int32} {T : auTab} {mLanguages : Int32} {mSize mGoes : Nat → Int32} {mLast : Nat → Bool} {sA : Nat → Option Nat} {mV : Nat → Int32} (hL : RelL xLang xCount T mLanguages mSize mGoes mLast) (hV : RelV xLang xCount sA mV) : ∀ v, v < 4 → ∃ ac, VarOK T mSize mGoes mLast (sA v) (mV v) ac := by
  intro v hv
  obtain ⟨N, hN, e1, e2, hI, hE⟩ := hL
  rcases hV v hv with ⟨h1, h2⟩ | ⟨i, q, h1, h2, h3, h4, h5⟩
  · exact ⟨fun k => decide (k = 0), .inl ⟨h1, h2, fun k => rfl⟩⟩
  · rw [e1, nJ_lt (by omega) (by omega)] at h1
    obtain ⟨q', hq', S, go, fin, hwf, hC, hR⟩ := hI i h1
    rw [h3] at hq'
    cases hq'
    exact ⟨fun k => acc go fin k 0, .inr ⟨i, q, S, go, fin, h2, h4, h5, hwf, hC, hR, fun k => rfl⟩⟩
theorem ok_solve {n : Nat} (hn : 64 < n) : sim_solve n Rel := by
  intro c T r o p0 hR
  obtain ⟨hL, hV, hB, hS⟩ := hR
  obtain ⟨c0, c3, c31, -⟩ := c03
  have hB' := hB
  obtain ⟨⟨B, hB8, e1, e2, hb⟩, hg4⟩ := hB'
  obtain ⟨ac, hO⟩ := choose4 (fun _ => false) (var_ok hL hV)
  by_cases h : 0 ≤ p0.toInt ∧ p0.toInt ≤ 31
  · obtain ⟨m, hm, rfl⟩ := idx (k := 32) h.1 (by omega)
    have hG : GB B c.2.2.2.2.2.2.2.2.2.2.2.2.2.2.2.2.2.2.2.2.2.2.2.2.2.2.1 := ⟨hB8, fun b v hb' hv => ((hb b hb').2.2 v hv).2⟩
    have hBO : BO B c.2.2.2.2.2.2.2.2.2.2.2.2.2.2.2.2.2.2.2.2.2.2.2.2.2.2.1 c.2.2.2.2.2.2.2.2.2.2.2.2.2.2.2.2.2.2.1 c.2.2.2.2.2.2.2.2.2.2.2.2.2.2.2.2.2.2.2.1 r.2.2.2.2.2.2.2.2.2.2.2.2.2.2.2.2.1 r.2.2.2.2.2.2.2.2.2.2.2.2.2.2.2.2.2.1 r.2.2.2.2.2.2.2.2.2.2.2.2.2.2.2.2.2.2.1 := fun b hb' => ⟨(hb b hb').1, (hb b hb').2.1, fun v hv => ((hb b hb').2.2 v hv).1⟩
    have key := find_ok (n := n) (m := m) hn hm hG hBO hg4 hO c.2.2.2.2.2.2.2.2.2.2.2.2.2.2.2.2.2.2.2.2.2.1 c.2.2.2.2.2.2.2.2.2.2.2.2.2.2.2.2.2.2.2.2.2.2.1 c.2.2.2.2.2.2.2.2.2.2.2.2.2.2.2.2.2.2.2.2.2.2.2.2.1 c.2.2.2.2.2.2.2.2.2.2.2.2.2.2.2.2.2.2.2.2.2.2.2.2.2.1 r.2.2.2.2.2.2.2.2.2.2.2.2.2.2.2.2.2.2.2.1 r.2.2.2.2.2.2.2.2.2.2.2.2.2.2.2.2.2.2.2.2.1 r.2.2.2.2.2.2.2.2.2.2.2.2.2.2.2.2.2.2.2.2.2.2.2.2.1 r.2.2.2.2.2.2.2.2.2.2.2.2.2.2.2.2.2.2.2.2.2.1 r.2.2.2.2.2.2.2.2.2.2.2.2.2.2.2.2.2.2.2.2.2.2.2.2.2.2.2.1 r.2.2.2.2.2.2.2.2.2.2.2.2.2.2.2.2.2.2.2.2.2.2.2.2.2.2.2.2
    have preC : ∀ z, f_Se_find n (nI m) c.2.2.2.2.2.2.2.2.2.2.2.2.2.2.2.2.2.1 c.2.2.2.2.2.2.2.2.2.2.2.2.2.2.2.2.2.2.1 c.2.2.2.2.2.2.2.2.2.2.2.2.2.2.2.2.2.2.2.1 (nI B) c.2.2.2.2.2.2.2.2.2.2.2.2.2.2.2.2.2.2.2.2.2.1 c.2.2.2.2.2.2.2.2.2.2.2.2.2.2.2.2.2.2.2.2.2.2.1 c.2.2.2.2.2.2.2.2.2.2.2.2.2.2.2.2.2.2.2.2.2.2.2.2.1 c.2.2.2.2.2.2.2.2.2.2.2.2.2.2.2.2.2.2.2.2.2.2.2.2.2.1 c.2.2.2.2.2.2.2.2.2.2.2.2.2.2.2.2.2.2.2.2.2.2.2.2.2.2.1 c.2.2.2.2.2.2.2.2.2.2.2.2.2.2.2.2.2.2.2.2.2.2.2.2.2.2.2.1 c.2.2.2.2.2.2.2.2.2.2.2.2.2.2.2.2.2.2.2.2.2.2.2.2.2.2.2.2 T = some z → f_La_solve n (nI m) c.2.2.2.2.2.2.2.2.2.2.2.2.2.2.2.2.2.1 c.2.2.2.2.2.2.2.2.2.2.2.2.2.2.2.2.2.2.1 c.2.2.2.2.2.2.2.2.2.2.2.2.2.2.2.2.2.2.2.1 c.2.2.2.2.2.2.2.2.2.2.2.2.2.2.2.2.2.2.2.2.1 c.2.2.2.2.2.2.2.2.2.2.2.2.2.2.2.2.2.2.2.2.2.1 c.2.2.2.2.2.2.2.2.2.2.2.2.2.2.2.2.2.2.2.2.2.2.1 c.2.2.2.2.2.2.2.2.2.2.2.2.2.2.2.2.2.2.2.2.2.2.2.1 c.2.2.2.2.2.2.2.2.2.2.2.2.2.2.2.2.2.2.2.2.2.2.2.2.1 c.2.2.2.2.2.2.2.2.2.2.2.2.2.2.2.2.2.2.2.2.2.2.2.2.2.1 c.2.2.2.2.2.2.2.2.2.2.2.2.2.2.2.2.2.2.2.2.2.2.2.2.2.2.1 c.2.2.2.2.2.2.2.2.2.2.2.2.2.2.2.2.2.2.2.2.2.2.2.2.2.2.2.1 c.2.2.2.2.2.2.2.2.2.2.2.2.2.2.2.2.2.2.2.2.2.2.2.2.2.2.2.2 T o = some (.inr (vp_updL o 0 (if z.1 = true then 1 else 0), z)) := by
      intro z hz
      rw [e1, f_La_solve, f_RS_solve, reqB, c0, c31, if_pos h, sb_t, el_r, hz]
      rfl
    rcases key with ⟨a, l, gL', gM', w, x1, x2, x3⟩ | ⟨a, l, kL', kW', gL', gM', mL', mW', w, x1, x2, x3, x4⟩
    · rw [← e2] at x3
      exact ⟨_, _, preC _ x1, x3, .inr ⟨_, _, rfl, rfl, rfl, hL, hV, ⟨⟨B, hB8, e1, e2, hb⟩, x2⟩, rfl, fun h => by cases h⟩⟩
    · rw [← e2] at x3
      exact ⟨_, _, preC _ x1, x3, .inr ⟨_, _, rfl, rfl, rfl, hL, hV, ⟨⟨B, hB8, e1, e2, hb⟩, x2⟩, rfl, fun _ v hv => x4 v hv⟩⟩
  · refine ⟨.inl (1, _), (false, 1, r.2.2.2.2.2.2.2.2.2.2.2.2.2.2.2.2.2.2.2.1, r.2.2.2.2.2.2.2.2.2.2.2.2.2.2.2.2.2.2.2.2.1, r.2.2.2.2.2.2.2.2.2.2.2.2.2.2.2.2.2.2.2.2.2.1, r.2.2.2.2.2.2.2.2.2.2.2.2.2.2.2.2.2.2.2.2.2.2.2.2.1, r.2.2.2.2.2.2.2.2.2.2.2.2.2.2.2.2.2.2.2.2.2.2.2.2.2.2.2.1, r.2.2.2.2.2.2.2.2.2.2.2.2.2.2.2.2.2.2.2.2.2.2.2.2.2.2.2.2), ?_, ?_, .inl ⟨1, (c.2.2.2.2.2.2.2.2.2.2.2.2.2.2.2.2.2.2.2.2.2.1, c.2.2.2.2.2.2.2.2.2.2.2.2.2.2.2.2.2.2.2.2.2.2.1, c.2.2.2.2.2.2.2.2.2.2.2.2.2.2.2.2.2.2.2.2.2.2.2.1, c.2.2.2.2.2.2.2.2.2.2.2.2.2.2.2.2.2.2.2.2.2.2.2.2.1, c.2.2.2.2.2.2.2.2.2.2.2.2.2.2.2.2.2.2.2.2.2.2.2.2.2.1, c.2.2.2.2.2.2.2.2.2.2.2.2.2.2.2.2.2.2.2.2.2.2.2.2.2.2.2.1, c.2.2.2.2.2.2.2.2.2.2.2.2.2.2.2.2.2.2.2.2.2.2.2.2.2.2.2.2), rfl, by decide, rfl, hL, hV, hB, hS⟩⟩
    · rw [f_La_solve, f_RS_solve, reqB, c0, c31, if_neg h]
      rfl
    · simp only [f_Mo_solve, in031, h, decide_false, sb_t, Bool.false_eq_true, if_false, fails_t (show (1 : Int32) ≠ 0 by decide), if_true]
