/-! STAGE 2. THE COUNT OF BITS -/
theorem and16 {a b m M : Nat} (ha : a < 16) (hm : m < 16) : (a + 16 * b) &&& (m + 16 * M) = (a &&& m) + 16 * (b &&& M) := by
  have h1 : ((a + 16 * b) &&& (m + 16 * M)) / 2 ^ 4 = b &&& M := by
    rw [Nat.and_div_two_pow]
    congr 1 <;> omega
  have h2 : ((a + 16 * b) &&& (m + 16 * M)) % 2 ^ 4 = a &&& m := by
    rw [Nat.and_mod_two_pow]
    congr 1 <;> omega
  omega
def mk16 (m : Nat) : Nat → Nat
  | 0 => 0
  | k + 1 => m + 16 * mk16 m k
def Dg (f : Nat → Nat) : Nat → Nat → Nat
  | 0, _ => 0
  | k + 1, X => f (X % 16) + 16 * Dg f k (X / 16)
theorem Dg_id : ∀ k X, X < 16 ^ k → Dg (fun a => a) k X = X := by
  intro k
  induction k with
  | zero => intro X h; simp [Dg] at *; omega
  | succ k ih =>
    intro X h
    simp only [Dg]
    rw [ih (X / 16) (by rw [Nat.pow_succ] at h; omega)]
    omega
theorem Dg_add {f g h : Nat → Nat} (hf : ∀ a, a < 16 → f a + g a = h a) : ∀ k X, Dg f k X + Dg g k X = Dg h k X := by
  intro k
  induction k with
  | zero => intro X; rfl
  | succ k ih =>
    intro X
    simp only [Dg]
    have := ih (X / 16)
    have := hf (X % 16) (by omega)
    omega
theorem fin16 : ∀ a : Fin 16, ∀ c : Fin 2, (a.val / 2 + 8 * c.val) &&& 5 = (a.val / 2) &&& 5 := by decide
theorem fin16b : ∀ a : Fin 16, ∀ c : Fin 4, (a.val / 4 + 4 * c.val) &&& 3 = (a.val / 4) &&& 3 := by decide
theorem Dg_half : ∀ k X, (X / 2) &&& mk16 5 k = Dg (fun a => (a / 2) &&& 5) k X := by
  intro k
  induction k with
  | zero => intro X; simp [mk16, Dg]
  | succ k ih =>
    intro X
    have e : X / 2 = (X % 16 / 2 + 8 * (X / 16 % 2)) + 16 * (X / 16 / 2) := by omega
    rw [e]
    simp only [mk16, Dg]
    rw [and16 (by omega) (by omega), ih, fin16 ⟨X % 16, by omega⟩ ⟨X / 16 % 2, by omega⟩]
theorem Dg_and {g : Nat → Nat} (hg : ∀ a, a < 16 → g a < 16) : ∀ k X, Dg g k X &&& mk16 3 k = Dg (fun a => g a &&& 3) k X := by
  intro k
  induction k with
  | zero => intro X; simp [mk16, Dg]
  | succ k ih =>
    intro X
    simp only [mk16, Dg]
    rw [and16 (hg _ (by omega)) (by omega), ih]
theorem Dg_quart {g : Nat → Nat} (hg : ∀ a, a < 16 → g a < 16) : ∀ k X, (Dg g k X / 4) &&& mk16 3 k = Dg (fun a => (g a / 4) &&& 3) k X := by
  intro k
  induction k with
  | zero => intro X; simp [mk16, Dg]
  | succ k ih =>
    intro X
    simp only [Dg]
    have h0 := hg (X % 16) (by omega)
    generalize hb : g (X % 16) = c at *
    have e : (c + 16 * Dg g k (X / 16)) / 4 = (c / 4 + 4 * (Dg g k (X / 16) % 4)) + 16 * (Dg g k (X / 16) / 4) := by omega
    rw [e]
    simp only [mk16]
    rw [and16 (by omega) (by omega), ih, fin16b ⟨c, h0⟩ ⟨Dg g k (X / 16) % 4, by omega⟩]
def g1n (a : Nat) : Nat := a - ((a / 2) &&& 5)
def p16 (a : Nat) : Nat := (g1n a &&& 3) + ((g1n a / 4) &&& 3)
theorem g1_ok : ∀ a : Fin 16, g1n a.val + ((a.val / 2) &&& 5) = a.val ∧ g1n a.val < 16 ∧ p16 a.val = a.val % 2 + a.val / 2 % 2 + a.val / 4 % 2 + a.val / 8 % 2 := by decide
theorem p16_le {a : Nat} (h : a < 16) : p16 a ≤ 4 := by
  have := (g1_ok ⟨a, h⟩).2.2
  simp only at this
  omega
theorem u2_eq {X : Nat} (h : X < 16 ^ 16) : ((X - ((X / 2) &&& mk16 5 16)) &&& mk16 3 16) + (((X - ((X / 2) &&& mk16 5 16)) / 4) &&& mk16 3 16) = Dg p16 16 X := by
  have e1 : X - ((X / 2) &&& mk16 5 16) = Dg g1n 16 X := by
    rw [Dg_half]
    have := Dg_add (f := g1n) (g := fun a => (a / 2) &&& 5) (h := fun a => a) (fun a ha => (g1_ok ⟨a, ha⟩).1) 16 X
    rw [Dg_id 16 X h] at this
    omega
  rw [e1, Dg_and (fun a ha => (g1_ok ⟨a, ha⟩).2.1), Dg_quart (fun a ha => (g1_ok ⟨a, ha⟩).2.1)]
  exact Dg_add (fun a ha => rfl) 16 X
def bc : Nat → Nat → Nat
  | 0, _ => 0
  | k + 1, X => X % 2 + bc k (X / 2)
def ps : Nat → Nat → Nat
  | 0, _ => 0
  | k + 1, X => p16 (X % 16) + ps k (X / 16)
theorem ps_bc : ∀ k X, ps k X = bc (4 * k) X := by
  intro k
  induction k with
  | zero => intro X; rfl
  | succ k ih =>
    intro X
    rw [show 4 * (k + 1) = 4 * k + 1 + 1 + 1 + 1 by omega]
    simp only [ps, bc]
    rw [ih, (g1_ok ⟨X % 16, by omega⟩).2.2]
    have : X / 2 / 2 / 2 / 2 = X / 16 := by omega
    rw [this]
    simp only
    omega
def V256 : List Nat → Nat
  | [] => 0
  | c :: l => c + 256 * V256 l
theorem V_and : ∀ l : List Nat, (∀ c ∈ l, c < 256) → V256 l &&& V256 (l.map fun _ => 15) = V256 (l.map fun c => c % 16) := by
  intro l
  induction l with
  | nil => intro _; rfl
  | cons c l ih =>
    intro h
    have hc := h c (List.mem_cons_self ..)
    have hl := ih (fun x hx => h x (List.mem_cons_of_mem _ hx))
    simp only [V256, List.map]
    have e1 : c + 256 * V256 l = c % 16 + 16 * (c / 16 + 16 * V256 l) := by omega
    have e2 : 15 + 256 * V256 (l.map fun _ => 15) = 15 + 16 * (0 + 16 * V256 (l.map fun _ => 15)) := by omega
    rw [e1, e2, and16 (by omega) (by omega), and16 (by omega) (by omega), hl]
    have e3 : c % 16 &&& 15 = c % 16 := by
      have := Nat.and_two_pow_sub_one_eq_mod (c % 16) 4
      rw [show (2 : Nat) ^ 4 - 1 = 15 from rfl] at this
      rw [this]; omega
    rw [e3, Nat.and_zero]
    omega
theorem dv256 {a W : Nat} (h : a < 256) : (a + 256 * W) / 256 = W := by omega
theorem dv2 {a b W : Nat} (h : a < 256) (hb : b < 256) : (a + 256 * (b + 256 * W)) / 65536 = W := by
  rw [show (65536 : Nat) = 256 * 256 from rfl, ← Nat.div_div_eq_div_mul, dv256 h, dv256 hb]
theorem dv4 {a b c d W : Nat} (h : a < 256) (hb : b < 256) (hc : c < 256) (hd : d < 256) : (a + 256 * (b + 256 * (c + 256 * (d + 256 * W)))) / 4294967296 = W := by
  rw [show (4294967296 : Nat) = 65536 * 65536 from rfl, ← Nat.div_div_eq_div_mul, dv2 h hb, dv2 hc hd]
theorem ad2' (a b A B : Nat) : (a + 256 * A) + (b + 256 * B) = (a + b) + 256 * (A + B) := by omega
theorem ad1 (a A B : Nat) : (a + 256 * A) + B = (a + B) + 256 * A := by omega
theorem low7 {s0 s1 s2 s3 s4 s5 s6 s7 : Nat} (h0 : s0 ≤ 8) (h1 : s1 ≤ 8) (h2 : s2 ≤ 8) (h3 : s3 ≤ 8) (h4 : s4 ≤ 8) (h5 : s5 ≤ 8) (h6 : s6 ≤ 8) (h7 : s7 ≤ 8) : ∀ U3, U3 = V256 [s0, s1, s2, s3, s4, s5, s6, s7] → ∀ U4, U4 = U3 + U3 / 256 → ∀ U5, U5 = U4 + U4 / 65536 → ∀ U6, U6 = U5 + U5 / 4294967296 → U6 < 18446744073709551616 ∧ U5 < 18446744073709551616 ∧ U4 < 18446744073709551616 ∧ U6 % 128 = s0 + s1 + s2 + s3 + s4 + s5 + s6 + s7 := by
  intro U3 e3 U4 e4 U5 e5 U6 e6
  simp only [V256] at e3
  rw [e3, dv256 (by omega)] at e4
  simp only [ad2'] at e4
  rw [e4, dv2 (by omega) (by omega)] at e5
  simp only [ad2'] at e5
  rw [e5, dv4 (by omega) (by omega) (by omega) (by omega)] at e6
  simp only [ad2'] at e6
  clear e3
  refine ⟨?_, ?_, ?_, ?_⟩
  · clear e4 e5; omega
  · clear e4 e6; omega
  · clear e5 e6; omega
  · clear e4 e5
    rw [e6]
    omega
theorem dv16 {a W : Nat} (h : a < 16) : (a + 16 * W) / 16 = W := by omega
theorem ad16 (a b A B : Nat) : (a + 16 * A) + (b + 16 * B) = (a + b) + 16 * (A + B) := by omega
theorem hx16 (a b W : Nat) : a + 16 * (b + 16 * W) = (a + 16 * b) + 256 * W := by omega
theorem swar {X : Nat} (h : X < 16 ^ 16) : ∀ U2, U2 = ((X - ((X / 2) &&& mk16 5 16)) &&& mk16 3 16) + (((X - ((X / 2) &&& mk16 5 16)) / 4) &&& mk16 3 16) → ∀ U3, U3 = ((U2 + U2 / 16) &&& 1085102592571150095) → ∀ U4, U4 = U3 + U3 / 256 → ∀ U5, U5 = U4 + U4 / 65536 → ∀ U6, U6 = U5 + U5 / 4294967296 → U2 + U2 / 16 < 18446744073709551616 ∧ U6 < 18446744073709551616 ∧ U5 < 18446744073709551616 ∧ U4 < 18446744073709551616 ∧ U6 % 128 = bc 64 X := by
  intro U2 e2 U3 e3 U4 e4 U5 e5 U6 e6
  rw [u2_eq h] at e2
  have hb := ps_bc 16 X
  simp only [Dg, ps] at e2 hb
  rw [show 4 * 16 = 64 from rfl] at hb
  have l0 : p16 (X % 16) ≤ 4 := p16_le (by omega)
  have l1 : p16 (X / 16 % 16) ≤ 4 := p16_le (by omega)
  have l2 : p16 (X / 16 / 16 % 16) ≤ 4 := p16_le (by omega)
  have l3 : p16 (X / 16 / 16 / 16 % 16) ≤ 4 := p16_le (by omega)
  have l4 : p16 (X / 16 / 16 / 16 / 16 % 16) ≤ 4 := p16_le (by omega)
  have l5 : p16 (X / 16 / 16 / 16 / 16 / 16 % 16) ≤ 4 := p16_le (by omega)
  have l6 : p16 (X / 16 / 16 / 16 / 16 / 16 / 16 % 16) ≤ 4 := p16_le (by omega)
  have l7 : p16 (X / 16 / 16 / 16 / 16 / 16 / 16 / 16 % 16) ≤ 4 := p16_le (by omega)
  have l8 : p16 (X / 16 / 16 / 16 / 16 / 16 / 16 / 16 / 16 % 16) ≤ 4 := p16_le (by omega)
  have l9 : p16 (X / 16 / 16 / 16 / 16 / 16 / 16 / 16 / 16 / 16 % 16) ≤ 4 := p16_le (by omega)
  have l10 : p16 (X / 16 / 16 / 16 / 16 / 16 / 16 / 16 / 16 / 16 / 16 % 16) ≤ 4 := p16_le (by omega)
  have l11 : p16 (X / 16 / 16 / 16 / 16 / 16 / 16 / 16 / 16 / 16 / 16 / 16 % 16) ≤ 4 := p16_le (by omega)
  have l12 : p16 (X / 16 / 16 / 16 / 16 / 16 / 16 / 16 / 16 / 16 / 16 / 16 / 16 % 16) ≤ 4 := p16_le (by omega)
  have l13 : p16 (X / 16 / 16 / 16 / 16 / 16 / 16 / 16 / 16 / 16 / 16 / 16 / 16 / 16 % 16) ≤ 4 := p16_le (by omega)
  have l14 : p16 (X / 16 / 16 / 16 / 16 / 16 / 16 / 16 / 16 / 16 / 16 / 16 / 16 / 16 / 16 % 16) ≤ 4 := p16_le (by omega)
  have l15 : p16 (X / 16 / 16 / 16 / 16 / 16 / 16 / 16 / 16 / 16 / 16 / 16 / 16 / 16 / 16 / 16 % 16) ≤ 4 := p16_le (by omega)
  revert e2 hb l0 l1 l2 l3 l4 l5 l6 l7 l8 l9 l10 l11 l12 l13 l14 l15
  generalize p16 (X % 16) = p0
  generalize p16 (X / 16 % 16) = p1
  generalize p16 (X / 16 / 16 % 16) = p2
  generalize p16 (X / 16 / 16 / 16 % 16) = p3
  generalize p16 (X / 16 / 16 / 16 / 16 % 16) = p4
  generalize p16 (X / 16 / 16 / 16 / 16 / 16 % 16) = p5
  generalize p16 (X / 16 / 16 / 16 / 16 / 16 / 16 % 16) = p6
  generalize p16 (X / 16 / 16 / 16 / 16 / 16 / 16 / 16 % 16) = p7
  generalize p16 (X / 16 / 16 / 16 / 16 / 16 / 16 / 16 / 16 % 16) = p8
  generalize p16 (X / 16 / 16 / 16 / 16 / 16 / 16 / 16 / 16 / 16 % 16) = p9
  generalize p16 (X / 16 / 16 / 16 / 16 / 16 / 16 / 16 / 16 / 16 / 16 % 16) = p10
  generalize p16 (X / 16 / 16 / 16 / 16 / 16 / 16 / 16 / 16 / 16 / 16 / 16 % 16) = p11
  generalize p16 (X / 16 / 16 / 16 / 16 / 16 / 16 / 16 / 16 / 16 / 16 / 16 / 16 % 16) = p12
  generalize p16 (X / 16 / 16 / 16 / 16 / 16 / 16 / 16 / 16 / 16 / 16 / 16 / 16 / 16 % 16) = p13
  generalize p16 (X / 16 / 16 / 16 / 16 / 16 / 16 / 16 / 16 / 16 / 16 / 16 / 16 / 16 / 16 % 16) = p14
  generalize p16 (X / 16 / 16 / 16 / 16 / 16 / 16 / 16 / 16 / 16 / 16 / 16 / 16 / 16 / 16 / 16 % 16) = p15
  generalize bc 64 X = tot
  intro e2 hb l0 l1 l2 l3 l4 l5 l6 l7 l8 l9 l10 l11 l12 l13 l14 l15
  have v2 : U2 + U2 / 16 = V256 [(p0 + p1) + 16 * (p1 + p2), (p2 + p3) + 16 * (p3 + p4), (p4 + p5) + 16 * (p5 + p6), (p6 + p7) + 16 * (p7 + p8), (p8 + p9) + 16 * (p9 + p10), (p10 + p11) + 16 * (p11 + p12), (p12 + p13) + 16 * (p13 + p14), (p14 + p15) + 16 * p15] := by
    rw [e2, dv16 (by omega)]
    simp only [ad16, Nat.mul_zero, Nat.add_zero]
    simp only [hx16, V256, Nat.mul_zero, Nat.add_zero]
    rw [Nat.add_right_comm p14 (16 * p15) p15]
  have hm : (1085102592571150095 : Nat) = V256 ([(p0 + p1) + 16 * (p1 + p2), (p2 + p3) + 16 * (p3 + p4), (p4 + p5) + 16 * (p5 + p6), (p6 + p7) + 16 * (p7 + p8), (p8 + p9) + 16 * (p9 + p10), (p10 + p11) + 16 * (p11 + p12), (p12 + p13) + 16 * (p13 + p14), (p14 + p15) + 16 * p15].map fun _ => 15) := by
    simp only [V256, List.map]
  have hlt : ∀ c ∈ [(p0 + p1) + 16 * (p1 + p2), (p2 + p3) + 16 * (p3 + p4), (p4 + p5) + 16 * (p5 + p6), (p6 + p7) + 16 * (p7 + p8), (p8 + p9) + 16 * (p9 + p10), (p10 + p11) + 16 * (p11 + p12), (p12 + p13) + 16 * (p13 + p14), (p14 + p15) + 16 * p15], c < 256 := by
    clear e2 hb e3 e4 e5 e6 v2 hm
    simp only [List.forall_mem_cons]
    refine ⟨by omega, by omega, by omega, by omega, by omega, by omega, by omega, by omega, fun x hx => by cases hx⟩
  rw [v2, hm, V_and _ hlt] at e3
  simp only [List.map] at e3
  have hh := low7 (s0 := p0 + p1) (s1 := p2 + p3) (s2 := p4 + p5) (s3 := p6 + p7) (s4 := p8 + p9) (s5 := p10 + p11) (s6 := p12 + p13) (s7 := p14 + p15) (by omega) (by omega) (by omega) (by omega) (by omega) (by omega) (by omega) (by omega) U3 (by
    rw [e3]
    congr 1
    simp only [List.cons.injEq]
    clear e2 hb e3 e4 e5 e6 v2 hm hlt
    refine ⟨?_, ?_, ?_, ?_, ?_, ?_, ?_, ?_, trivial⟩ <;> omega) U4 e4 U5 e5 U6 e6
  refine ⟨?_, hh.1, hh.2.1, hh.2.2.1, ?_⟩
  · rw [v2]; simp only [V256]
    clear e2 hb e3 e4 e5 e6 v2 hm hlt hh
    omega
  · rw [hh.2.2.2, ← hb]
    clear e2 hb e3 e4 e5 e6 v2 hm hlt hh
    omega
