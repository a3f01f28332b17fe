/-! bits of rule numbers -/
theorem bN_test (a k : Nat) : bN a k = 1 ↔ a.testBit k = true := by
  unfold bN
  rw [Nat.testBit_eq_decide_div_mod_eq]
  simp
theorem bN_or (a b k : Nat) : bN (a ||| b) k = 1 ↔ (bN a k = 1 ∨ bN b k = 1) := by
  rw [bN_test, bN_test, bN_test, Nat.testBit_or]
  simp
theorem bN_and (a b k : Nat) : bN (a &&& b) k = 1 ↔ (bN a k = 1 ∧ bN b k = 1) := by
  rw [bN_test, bN_test, bN_test, Nat.testBit_and]
  simp
theorem bN_shl {b : Nat} (hb : b < 2) (j k : Nat) : bN (b * 2 ^ j) k = 1 ↔ (b = 1 ∧ k = j) := by
  rcases (show b = 0 ∨ b = 1 by omega) with rfl | rfl
  · rw [Nat.zero_mul, bN_test]
    simp
  · rw [Nat.one_mul, bN_test, Nat.testBit_two_pow]
    simp
    exact eq_comm
theorem bN_zero (k : Nat) : bN 0 k = 0 := by
  unfold bN
  simp
theorem or64 {A B x y : Nat} (hA : A < 64) (hx : x < 64) : (A + 64 * B) ||| x ||| (y * 64) = (A ||| x) + 64 * (B ||| y) := by
  have e1 : A + 64 * B = 64 * B ||| A := by
    have : 64 * B + A = 64 * B ||| A := Nat.two_pow_add_eq_or_of_lt (i := 6) (b := A) hA B
    omega
  have hAx : A ||| x < 64 := Nat.or_lt_two_pow (n := 6) hA hx
  have e2 : (A ||| x) + 64 * (B ||| y) = 64 * (B ||| y) ||| (A ||| x) := by
    have : 64 * (B ||| y) + (A ||| x) = 64 * (B ||| y) ||| (A ||| x) := Nat.two_pow_add_eq_or_of_lt (i := 6) (b := A ||| x) hAx (B ||| y)
    omega
  have e3 : 64 * (B ||| y) = 64 * B ||| 64 * y := by
    apply Nat.eq_of_testBit_eq
    intro i
    rw [show (64 : Nat) = 2 ^ 6 from rfl]
    simp only [Nat.testBit_or, Nat.testBit_two_pow_mul]
    cases decide (6 ≤ i) <;> simp
  rw [e1, e2, e3, Nat.mul_comm y 64]
  apply Nat.eq_of_testBit_eq
  intro i
  simp only [Nat.testBit_or]
  cases (64 * B).testBit i <;> cases A.testBit i <;> cases x.testBit i <;> cases (64 * y).testBit i <;> rfl
/-- a pair in one number -/
def encX (x : PX) : Nat := x.1 + 64 * x.2
theorem encX_inj {x y : PX} (h1 : x.1 < 64) (h2 : y.1 < 64) (e : encX x = encX y) : x = y := by
  unfold encX at e
  have e1 : x.1 = y.1 := by omega
  have e2 : x.2 = y.2 := by omega
  exact Prod.ext e1 e2
/-- the rules that fit, here in the bits 0 .. 15, there in 16 .. 31 -/
def FitV (rl : List Ru) (on on' s : Nat) (x y : PX) (v : Nat) : Prop := ∀ k, k < 16 → ((bN v k = 1 ↔ (k < rl.length ∧ bN on k = 1 ∧ (ruA rl k).1 = s ∧ fitR (ruA rl k) x.1 y.1)) ∧ (bN v (k + 16) = 1 ↔ (k < rl.length ∧ bN on' k = 1 ∧ (ruA rl k).1 = s ∧ fitR (ruA rl k) x.2 y.2)))
/-- the rules of a sign -/
def RoV (rl : List Ru) (on on' s v : Nat) : Prop := ∀ k, k < 16 → ((bN v k = 1 ↔ (k < rl.length ∧ bN on k = 1 ∧ (ruA rl k).1 = s)) ∧ (bN v (k + 16) = 1 ↔ (k < rl.length ∧ bN on' k = 1 ∧ (ruA rl k).1 = s)))
/-- the rules below n whose first (second) arm may be of this pair -/
def AfV (rl : List Ru) (n : Nat) (x : PX) (v : Nat) : Prop := ∀ k, k < 16 → ((bN v k = 1 ↔ (k < n ∧ 1 ≤ armsN (ruA rl k).1 ∧ bN x.1 (ruA rl k).2.1 = 1)) ∧ (bN v (k + 16) = 1 ↔ (k < n ∧ 1 ≤ armsN (ruA rl k).1 ∧ bN x.2 (ruA rl k).2.1 = 1)))
def AsV (rl : List Ru) (n : Nat) (y : PX) (v : Nat) : Prop := ∀ k, k < 16 → ((bN v k = 1 ↔ (k < n ∧ 2 ≤ armsN (ruA rl k).1 ∧ bN y.1 (ruA rl k).2.2.1 = 1)) ∧ (bN v (k + 16) = 1 ↔ (k < n ∧ 2 ≤ armsN (ruA rl k).1 ∧ bN y.2 (ruA rl k).2.2.1 = 1)))
theorem fit0 {rl : List Ru} {on on' s v : Nat} {x y : PX} (h : RoV rl on on' s v) (hs : armsN s = 0) : FitV rl on on' s x y v := by
  intro k hk
  have f : ∀ p q, (ruA rl k).1 = s → fitR (ruA rl k) p q := fun p q e => ⟨fun z => by rw [e] at z; omega, fun z => by rw [e] at z; omega⟩
  obtain ⟨h1, h2⟩ := h k hk
  rw [h1, h2]
  exact ⟨⟨fun z => ⟨z.1, z.2.1, z.2.2, f _ _ z.2.2⟩, fun z => ⟨z.1, z.2.1, z.2.2.1⟩⟩, ⟨fun z => ⟨z.1, z.2.1, z.2.2, f _ _ z.2.2⟩, fun z => ⟨z.1, z.2.1, z.2.2.1⟩⟩⟩
theorem fit1 {rl : List Ru} {on on' s v u : Nat} {x y : PX} (h : RoV rl on on' s v) (g : AfV rl rl.length x u) (hs : armsN s = 1) : FitV rl on on' s x y (v &&& u) := by
  intro k hk
  obtain ⟨h1, h2⟩ := h k hk
  obtain ⟨g1, g2⟩ := g k hk
  rw [bN_and, bN_and, h1, h2, g1, g2]
  constructor
  · constructor
    · rintro ⟨⟨a, b, c⟩, ⟨d, e, f⟩⟩
      exact ⟨a, b, c, fun _ => f, fun z => by rw [c] at z; omega⟩
    · rintro ⟨a, b, c, d, e⟩
      exact ⟨⟨a, b, c⟩, a, by rw [c]; omega, d (by rw [c]; omega)⟩
  · constructor
    · rintro ⟨⟨a, b, c⟩, ⟨d, e, f⟩⟩
      exact ⟨a, b, c, fun _ => f, fun z => by rw [c] at z; omega⟩
    · rintro ⟨a, b, c, d, e⟩
      exact ⟨⟨a, b, c⟩, a, by rw [c]; omega, d (by rw [c]; omega)⟩
theorem fit2 {rl : List Ru} {on on' s v u w : Nat} {x y : PX} (h : RoV rl on on' s v) (g : AfV rl rl.length x u) (f : AsV rl rl.length y w) (hs : armsN s = 2) : FitV rl on on' s x y (v &&& (u &&& w)) := by
  intro k hk
  obtain ⟨h1, h2⟩ := h k hk
  obtain ⟨g1, g2⟩ := g k hk
  obtain ⟨f1, f2⟩ := f k hk
  rw [bN_and, bN_and, bN_and, bN_and, h1, h2, g1, g2, f1, f2]
  constructor
  · constructor
    · rintro ⟨⟨a, b, c⟩, ⟨d, e, f⟩, ⟨d', e', f'⟩⟩
      exact ⟨a, b, c, fun _ => f, fun _ => f'⟩
    · rintro ⟨a, b, c, d, e⟩
      exact ⟨⟨a, b, c⟩, ⟨a, by rw [c]; omega, d (by rw [c]; omega)⟩, ⟨a, by rw [c]; omega, e (by rw [c]; omega)⟩⟩
  · constructor
    · rintro ⟨⟨a, b, c⟩, ⟨d, e, f⟩, ⟨d', e', f'⟩⟩
      exact ⟨a, b, c, fun _ => f, fun _ => f'⟩
    · rintro ⟨a, b, c, d, e⟩
      exact ⟨⟨a, b, c⟩, ⟨a, by rw [c]; omega, d (by rw [c]; omega)⟩, ⟨a, by rw [c]; omega, e (by rw [c]; omega)⟩⟩
/-- one rule more in the results -/
theorem outK_bit {rl : List Ru} {on s p q k b : Nat} (hb : b < 2) (h : b = 1 ↔ (bN on k = 1 ∧ (ruA rl k).1 = s ∧ fitR (ruA rl k) p q)) : outK rl on s p q (k + 1) = outK rl on s p q k ||| b * 2 ^ (ruA rl k).2.2.2 := by
  by_cases c : b = 1
  · rw [outK_yes (h.mp c), c, Nat.one_mul]
  · rw [outK_no (fun z => c (h.mpr z)), show b = 0 by omega, Nat.zero_mul, Nat.or_zero]
theorem outK_none {rl : List Ru} {on s p q : Nat} (h : ∀ k, k < rl.length → ¬ (bN on k = 1 ∧ (ruA rl k).1 = s ∧ fitR (ruA rl k) p q)) : ∀ k, k ≤ rl.length → outK rl on s p q k = 0
  | 0, _ => by rw [outK]
  | k + 1, hk => by rw [outK_no (h k (by omega))]; exact outK_none h k (by omega)
