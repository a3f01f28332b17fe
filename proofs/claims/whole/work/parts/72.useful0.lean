/-! useful: passes over the rules, six of them are enough -/
def subB (a b : Nat) : Prop := a ||| b = b
theorem subB_bit {a b : Nat} (h : subB a b) {k : Nat} (hk : bN a k = 1) : bN b k = 1 := by
  unfold subB at h
  rw [← h]
  exact (bN_or a b k).mpr (Or.inl hk)
theorem subB_or (a b : Nat) : subB a (a ||| b) := by
  unfold subB
  rw [← Nat.or_assoc, Nat.or_self]
theorem subB_tr {a b c : Nat} (h : subB a b) (g : subB b c) : subB a c := by
  unfold subB at *
  rw [← g, ← Nat.or_assoc, h]
theorem subB_rf (a : Nat) : subB a a := Nat.or_self a
theorem subB_as {a b : Nat} (h : subB a b) (g : subB b a) : a = b := by
  unfold subB at *
  rw [Nat.or_comm, h] at g
  exact g.symm
def itrN (f : Nat → Nat) : Nat → Nat → Nat
  | 0, S => S
  | n + 1, S => f (itrN f n S)
def pop6 : Nat → Nat
  | a => bN a 0 + bN a 1 + bN a 2 + bN a 3 + bN a 4 + bN a 5
set_option maxRecDepth 100000 in
theorem pop6_lt : ∀ a : Fin 64, ∀ b : Fin 64, a.val ||| b.val = b.val → a.val ≠ b.val → pop6 a.val < pop6 b.val := by decide +kernel
set_option maxRecDepth 100000 in
theorem pop6_all : ∀ a : Fin 64, 6 ≤ pop6 a.val → a.val = 63 := by decide +kernel
set_option maxRecDepth 100000 in
theorem top63 : ∀ b : Fin 64, 63 ||| b.val = b.val → b.val = 63 := by decide +kernel
theorem itrN_ok {f : Nat → Nat} (h : ∀ S, S < 64 → f S < 64 ∧ subB S (f S)) {S : Nat} (hS : S < 64) : ∀ n, itrN f n S < 64
  | 0 => hS
  | n + 1 => (h _ (itrN_ok h hS n)).1
theorem itrN_fix {f : Nat → Nat} {S n : Nat} (h : f (itrN f n S) = itrN f n S) : ∀ m, n ≤ m → itrN f m S = itrN f n S
  | 0, hm => by
    have : n = 0 := by omega
    rw [this]
  | m + 1, hm => by
    by_cases c : n = m + 1
    · rw [c]
    · have ih := itrN_fix h m (by omega)
      show f (itrN f m S) = _
      rw [ih]; exact h
theorem fix6 {f : Nat → Nat} (h : ∀ S, S < 64 → f S < 64 ∧ subB S (f S)) {S : Nat} (hS : S < 64) : f (itrN f 6 S) = itrN f 6 S := by
  have key : ∀ n, f (itrN f n S) = itrN f n S ∨ n ≤ pop6 (itrN f n S) := by
    intro n
    induction n with
    | zero => exact Or.inr (Nat.zero_le _)
    | succ n ih =>
      rcases ih with ih | ih
      · refine Or.inl ?_
        show f (f (itrN f n S)) = f (itrN f n S)
        rw [ih, ih]
      · by_cases c : itrN f n S = f (itrN f n S)
        · refine Or.inl ?_
          show f (f (itrN f n S)) = f (itrN f n S)
          rw [← c]; exact c.symm
        · refine Or.inr ?_
          have l1 := itrN_ok h hS n
          obtain ⟨l2, l3⟩ := h _ l1
          have := pop6_lt ⟨_, l1⟩ ⟨_, l2⟩ l3 c
          show n + 1 ≤ pop6 (f (itrN f n S))
          simp only at this
          omega
  rcases key 6 with k | k
  · exact k
  · have l := itrN_ok h hS 6
    have e := pop6_all ⟨_, l⟩ k
    simp only at e
    rw [e]
    obtain ⟨l2, l3⟩ := h 63 (by omega)
    exact top63 ⟨_, l2⟩ l3
/-- one pass of reaching -/
noncomputable def psR (rl : List Ru) (on S : Nat) : Nat → Nat
  | 0 => S
  | k + 1 => by
    classical
    exact if bN on k = 1 ∧ fitR (ruA rl k) (psR rl on S k) (psR rl on S k) then psR rl on S k ||| 2 ^ (ruA rl k).2.2.2 else psR rl on S k
theorem psR_yes {rl : List Ru} {on S k : Nat} (h : bN on k = 1 ∧ fitR (ruA rl k) (psR rl on S k) (psR rl on S k)) : psR rl on S (k + 1) = psR rl on S k ||| 2 ^ (ruA rl k).2.2.2 := by rw [psR, if_pos h]
theorem psR_no {rl : List Ru} {on S k : Nat} (h : ¬ (bN on k = 1 ∧ fitR (ruA rl k) (psR rl on S k) (psR rl on S k))) : psR rl on S (k + 1) = psR rl on S k := by rw [psR, if_neg h]
def armS (r : Ru) : Nat := (if 1 ≤ armsN r.1 then 2 ^ r.2.1 else 0) ||| (if 2 ≤ armsN r.1 then 2 ^ r.2.2.1 else 0)
/-- one pass of use -/
noncomputable def psU (rl : List Ru) (on R S : Nat) : Nat → Nat
  | 0 => S
  | k + 1 => by
    classical
    exact if bN on k = 1 ∧ bN (psU rl on R S k) (ruA rl k).2.2.2 = 1 ∧ fitR (ruA rl k) R R then psU rl on R S k ||| armS (ruA rl k) else psU rl on R S k
theorem psU_yes {rl : List Ru} {on R S k : Nat} (h : bN on k = 1 ∧ bN (psU rl on R S k) (ruA rl k).2.2.2 = 1 ∧ fitR (ruA rl k) R R) : psU rl on R S (k + 1) = psU rl on R S k ||| armS (ruA rl k) := by rw [psU, if_pos h]
theorem psU_no {rl : List Ru} {on R S k : Nat} (h : ¬ (bN on k = 1 ∧ bN (psU rl on R S k) (ruA rl k).2.2.2 = 1 ∧ fitR (ruA rl k) R R)) : psU rl on R S (k + 1) = psU rl on R S k := by rw [psU, if_neg h]
theorem okR {rl : List Ru} (h : ∀ r ∈ rl, OkRu r) {j : Nat} (hj : j < rl.length) : OkRu (ruA rl j) := by
  unfold ruA
  rw [List.getD_eq_getElem?_getD, List.getElem?_eq_getElem hj]
  exact h _ (List.getElem_mem hj)
theorem p2_64 {f : Nat} (h : f < 6) : 2 ^ f < 64 := Nat.pow_lt_pow_right (n := 6) (by omega) h
theorem armS_lt {r : Ru} (h : OkRu r) : armS r < 64 := by
  unfold armS
  refine Nat.or_lt_two_pow (n := 6) ?_ ?_
  · split
    · exact p2_64 h.2.1
    · decide
  · split
    · exact p2_64 h.2.2.1
    · decide
theorem psR_ok {rl : List Ru} (hrl : ∀ r ∈ rl, OkRu r) (on : Nat) {S : Nat} (hS : S < 64) : ∀ k, k ≤ rl.length → psR rl on S k < 64 ∧ subB S (psR rl on S k)
  | 0, _ => ⟨hS, subB_rf S⟩
  | k + 1, hk => by
    obtain ⟨h1, h2⟩ := psR_ok hrl on hS k (by omega)
    by_cases c : bN on k = 1 ∧ fitR (ruA rl k) (psR rl on S k) (psR rl on S k)
    · rw [psR_yes c]
      exact ⟨Nat.or_lt_two_pow (n := 6) h1 (p2_64 (okR hrl (by omega)).2.2.2), subB_tr h2 (subB_or _ _)⟩
    · rw [psR_no c]; exact ⟨h1, h2⟩
theorem psU_ok {rl : List Ru} (hrl : ∀ r ∈ rl, OkRu r) (on R : Nat) {S : Nat} (hS : S < 64) : ∀ k, k ≤ rl.length → psU rl on R S k < 64 ∧ subB S (psU rl on R S k)
  | 0, _ => ⟨hS, subB_rf S⟩
  | k + 1, hk => by
    obtain ⟨h1, h2⟩ := psU_ok hrl on R hS k (by omega)
    by_cases c : bN on k = 1 ∧ bN (psU rl on R S k) (ruA rl k).2.2.2 = 1 ∧ fitR (ruA rl k) R R
    · rw [psU_yes c]
      exact ⟨Nat.or_lt_two_pow (n := 6) h1 (armS_lt (okR hrl (by omega))), subB_tr h2 (subB_or _ _)⟩
    · rw [psU_no c]; exact ⟨h1, h2⟩
noncomputable def rchS (rl : List Ru) (on : Nat) : Nat := itrN (fun S => psR rl on S rl.length) 6 0
noncomputable def useS (rl : List Ru) (on g : Nat) : Nat := itrN (fun S => psU rl on (rchS rl on) S rl.length) 6 (rchS rl on &&& g)
theorem psR_mono {rl : List Ru} (hrl : ∀ r ∈ rl, OkRu r) (on : Nat) {S : Nat} (hS : S < 64) : ∀ j k, j ≤ k → k ≤ rl.length → subB (psR rl on S j) (psR rl on S k)
  | j, 0, h, _ => by
    have : j = 0 := by omega
    rw [this]; exact subB_rf _
  | j, k + 1, h, hk => by
    by_cases c : j = k + 1
    · rw [c]; exact subB_rf _
    · refine subB_tr (psR_mono hrl on hS j k (by omega) (by omega)) ?_
      by_cases d : bN on k = 1 ∧ fitR (ruA rl k) (psR rl on S k) (psR rl on S k)
      · rw [psR_yes d]; exact subB_or _ _
      · rw [psR_no d]; exact subB_rf _
theorem rch_closed {rl : List Ru} (hrl : ∀ r ∈ rl, OkRu r) (on : Nat) {k : Nat} (hk : k < rl.length) (h1 : bN on k = 1) (h2 : fitR (ruA rl k) (rchS rl on) (rchS rl on)) : bN (rchS rl on) (ruA rl k).2.2.2 = 1 := by
  have ok : ∀ S, S < 64 → (fun S => psR rl on S rl.length) S < 64 ∧ subB S ((fun S => psR rl on S rl.length) S) := fun S hS => psR_ok hrl on hS _ (Nat.le_refl _)
  have fx : psR rl on (rchS rl on) rl.length = rchS rl on := fix6 ok (S := 0) (by omega)
  have lt : rchS rl on < 64 := itrN_ok ok (by omega) 6
  have a := psR_mono hrl on lt 0 k (by omega) (by omega)
  have b := psR_mono hrl on lt k rl.length (by omega) (Nat.le_refl _)
  rw [fx] at b
  have e : psR rl on (rchS rl on) k = rchS rl on := subB_as b a
  have c := psR_mono hrl on lt (k + 1) rl.length (by omega) (Nat.le_refl _)
  rw [fx, psR_yes ⟨h1, by rw [e]; exact h2⟩, e] at c
  refine subB_bit c ?_
  rw [bN_or]
  refine Or.inr ?_
  have := (bN_shl (b := 1) (by omega) (ruA rl k).2.2.2 (ruA rl k).2.2.2).mpr ⟨rfl, rfl⟩
  rw [Nat.one_mul] at this
  exact this
theorem outK_in {rl : List Ru} {on s x y q : Nat} : ∀ n, bN (outK rl on s x y n) q = 1 ↔ ∃ k, k < n ∧ bN on k = 1 ∧ (ruA rl k).1 = s ∧ fitR (ruA rl k) x y ∧ (ruA rl k).2.2.2 = q
  | 0 => by
    rw [outK, bN_zero]
    exact ⟨fun h => absurd h (by omega), fun ⟨k, h, _⟩ => by omega⟩
  | n + 1 => by
    have ih := outK_in (rl := rl) (on := on) (s := s) (x := x) (y := y) (q := q) n
    by_cases c : bN on n = 1 ∧ (ruA rl n).1 = s ∧ fitR (ruA rl n) x y
    · rw [outK_yes c, bN_or, ih]
      have e := bN_shl (b := 1) (by omega) (ruA rl n).2.2.2 q
      rw [Nat.one_mul] at e
      rw [e]
      constructor
      · rintro (⟨k, k1, k2⟩ | ⟨_, k2⟩)
        · exact ⟨k, by omega, k2⟩
        · exact ⟨n, by omega, c.1, c.2.1, c.2.2, k2.symm⟩
      · rintro ⟨k, k1, k2, k3, k4, k5⟩
        by_cases d : k = n
        · subst d; exact Or.inr ⟨rfl, k5.symm⟩
        · exact Or.inl ⟨k, by omega, k2, k3, k4, k5⟩
    · rw [outK_no c, ih]
      constructor
      · rintro ⟨k, k1, k2⟩; exact ⟨k, by omega, k2⟩
      · rintro ⟨k, k1, k2, k3, k4, k5⟩
        by_cases d : k = n
        · subst d; exact absurd ⟨k2, k3, k4⟩ c
        · exact ⟨k, by omega, k2, k3, k4, k5⟩
/-- the reached states are those of some tree -/
theorem rch_iff {rl : List Ru} (hrl : ∀ r ∈ rl, OkRu r) (on q : Nat) : bN (rchS rl on) q = 1 ↔ ∃ x, Rch (stX rl on on) x ∧ bN x.1 q = 1 := by
  constructor
  · have step : ∀ S, (∀ q, bN S q = 1 → ∃ x, Rch (stX rl on on) x ∧ bN x.1 q = 1) → ∀ k, k ≤ rl.length → ∀ q, bN (psR rl on S k) q = 1 → ∃ x, Rch (stX rl on on) x ∧ bN x.1 q = 1 := by
      intro S hS k
      induction k with
      | zero => intro _; exact hS
      | succ k ih =>
        intro hk q hq
        have ih := ih (by omega)
        by_cases c : bN on k = 1 ∧ fitR (ruA rl k) (psR rl on S k) (psR rl on S k)
        · rw [psR_yes c, bN_or] at hq
          rcases hq with hq | hq
          · exact ih q hq
          · have e := bN_shl (b := 1) (by omega) (ruA rl k).2.2.2 q
            rw [Nat.one_mul] at e
            have e := (e.mp hq).2
            have r8 := (okR hrl (show k < rl.length by omega)).1
            by_cases c4 : (ruA rl k).1 < 4
            · refine ⟨_, Rch.leaf c4, ?_⟩
              exact (outK_in rl.length).mpr ⟨k, by omega, c.1, rfl, ⟨fun z => by rw [armsN_0 c4] at z; omega, fun z => by rw [armsN_0 c4] at z; omega⟩, e.symm⟩
            · by_cases c6 : (ruA rl k).1 < 6
              · have a1 := armsN_1 (s := (ruA rl k).1) (by omega) c6
                obtain ⟨y, y1, y2⟩ := ih _ (c.2.1 (by omega))
                refine ⟨_, Rch.one (by omega) c6 y1, ?_⟩
                exact (outK_in rl.length).mpr ⟨k, by omega, c.1, rfl, ⟨fun _ => y2, fun z => by omega⟩, e.symm⟩
              · have a2 := armsN_2 (s := (ruA rl k).1) (by omega)
                obtain ⟨y, y1, y2⟩ := ih _ (c.2.1 (by omega))
                obtain ⟨z, z1, z2⟩ := ih _ (c.2.2 (by omega))
                refine ⟨_, Rch.two (by omega) r8 y1 z1, ?_⟩
                exact (outK_in rl.length).mpr ⟨k, by omega, c.1, rfl, ⟨fun _ => y2, fun _ => z2⟩, e.symm⟩
        · rw [psR_no c] at hq
          exact ih q hq
    have all : ∀ n q, bN (itrN (fun S => psR rl on S rl.length) n 0) q = 1 → ∃ x, Rch (stX rl on on) x ∧ bN x.1 q = 1 := by
      intro n
      induction n with
      | zero => intro q hq; rw [show itrN (fun S => psR rl on S rl.length) 0 0 = 0 from rfl, bN_zero] at hq; omega
      | succ n ih => exact step _ ih _ (Nat.le_refl _)
    exact all 6 q
  · rintro ⟨x, hx, hq⟩
    have sub : ∀ q, bN x.1 q = 1 → bN (rchS rl on) q = 1 := by
      refine hx.ind (fun x => ∀ q, bN x.1 q = 1 → bN (rchS rl on) q = 1) (fun s hs q hq => ?_) (fun s y h1 h2 hy q hq => ?_) (fun s y z h1 h2 hy hz q hq => ?_)
      · obtain ⟨k, k1, k2, k3, k4, k5⟩ := (outK_in rl.length).mp hq
        rw [← k5]
        exact rch_closed hrl on k1 k2 ⟨fun w => by rw [k3, armsN_0 hs] at w; omega, fun w => by rw [k3, armsN_0 hs] at w; omega⟩
      · obtain ⟨k, k1, k2, k3, k4, k5⟩ := (outK_in rl.length).mp hq
        rw [← k5]
        exact rch_closed hrl on k1 k2 ⟨fun w => hy _ (k4.1 w), fun w => by rw [k3, armsN_1 h1 h2] at w; omega⟩
      · obtain ⟨k, k1, k2, k3, k4, k5⟩ := (outK_in rl.length).mp hq
        rw [← k5]
        exact rch_closed hrl on k1 k2 ⟨fun w => hy _ (k4.1 w), fun w => hz _ (k4.2 w)⟩
    exact sub q hq
