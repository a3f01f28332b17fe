/-! trees as rows of signs: parts, arms -/
/-- k whole trees stand ahead -/
def okT : Nat → List Nat → Prop
  | 0, _ => True
  | _ + 1, [] => False
  | k + 1, s :: l => okT (k + armsN s) l
theorem okT_le : ∀ (l : List Nat) (j k : Nat), j ≤ k → okT k l → okT j l
  | l, 0, _, _, _ => by cases l <;> trivial
  | [], j + 1, 0, h, _ => by omega
  | [], j + 1, k + 1, _, h => h
  | s :: l, j + 1, 0, h, _ => by omega
  | s :: l, j + 1, k + 1, h, hk => okT_le l (j + armsN s) (k + armsN s) (by omega) hk
theorem needs_ok : ∀ (l : List Nat) (k : Nat), needs k l = true → okT k l
  | l, 0, _ => by cases l <;> trivial
  | [], k + 1, h => absurd h (by simp [needs])
  | s :: l, k + 1, h => needs_ok l (k + armsN s) h
theorem needs_drop : ∀ (l : List Nat) (k i : Nat), needs k l = true → i < l.length → ∃ j, 1 ≤ j ∧ needs j (l.drop i) = true
  | [], k, i, _, h => absurd h (Nat.not_lt_zero i)
  | s :: l, 0, i, h, _ => absurd h (by simp [needs])
  | s :: l, k + 1, 0, h, _ => ⟨k + 1, by omega, h⟩
  | s :: l, k + 1, i + 1, h, hi => needs_drop l (k + armsN s) i h (Nat.lt_of_succ_lt_succ hi)
theorem okT_drop {l : List Nat} (h : needs 1 l = true) {i : Nat} (hi : i < l.length) : okT 1 (l.drop i) := by
  obtain ⟨j, h1, h2⟩ := needs_drop l 1 i h hi
  exact okT_le _ 1 j h1 (needs_ok _ _ h2)
theorem span_add : ∀ (l : List Nat) (j k : Nat), okT (j + k) l → span (j + k) l = span j l + span k (l.drop (span j l)) ∧ okT k (l.drop (span j l))
  | l, 0, k, h => by
    rw [Nat.zero_add] at h ⊢
    have e : span 0 l = 0 := by cases l <;> rfl
    rw [e, List.drop_zero, Nat.zero_add]
    exact ⟨rfl, h⟩
  | [], j + 1, k, h => by
    rw [show j + 1 + k = (j + k) + 1 by omega] at h
    exact absurd h id
  | s :: l, j + 1, k, h => by
    rw [show j + 1 + k = (j + k) + 1 by omega] at h ⊢
    have h : okT (j + k + armsN s) l := h
    rw [show j + k + armsN s = (j + armsN s) + k by omega] at h
    obtain ⟨h1, h2⟩ := span_add l (j + armsN s) k h
    show 1 + span (j + k + armsN s) l = 1 + span (j + armsN s) l + span k ((s :: l).drop (1 + span (j + armsN s) l)) ∧ okT k ((s :: l).drop (1 + span (j + armsN s) l))
    rw [show 1 + span (j + armsN s) l = span (j + armsN s) l + 1 by omega, List.drop_succ_cons, show j + k + armsN s = (j + armsN s) + k by omega, h1]
    exact ⟨by omega, h2⟩
theorem span_len : ∀ (l : List Nat) (k : Nat), span k l ≤ l.length
  | l, 0 => by have e : span 0 l = 0 := (by cases l <;> rfl); omega
  | [], k + 1 => Nat.le_refl _
  | s :: l, k + 1 => by
    have := span_len l (k + armsN s)
    show 1 + span (k + armsN s) l ≤ l.length + 1
    omega
theorem drop_cons {l : List Nat} {i : Nat} (hi : i < l.length) : l.drop i = sgn l i :: l.drop (i + 1) := by
  rw [List.drop_eq_getElem_cons hi]
  unfold sgn
  rw [List.getD_eq_getElem?_getD, List.getElem?_eq_getElem hi]
  rfl
theorem okT_nil {l : List Nat} (h : okT 1 l) : 0 < l.length := by
  cases l with
  | nil => exact absurd h id
  | cons s l => exact Nat.succ_pos _
/-- the parts of a tree -/
theorem part_0 {l : List Nat} {i : Nat} (hi : i < l.length) (ha : armsN (sgn l i) = 0) : partL l i = 1 := by
  unfold partL
  rw [drop_cons hi]
  show 1 + span (0 + armsN (sgn l i)) _ = 1
  rw [ha]
  cases l.drop (i + 1) <;> rfl
theorem part_1 {l : List Nat} (h : needs 1 l = true) {i : Nat} (hi : i < l.length) (ha : armsN (sgn l i) = 1) : partL l i = 1 + partL l (i + 1) ∧ i + 1 < l.length := by
  have hk := okT_drop h hi
  rw [drop_cons hi] at hk
  have hk : okT (0 + armsN (sgn l i)) (l.drop (i + 1)) := hk
  rw [ha, Nat.zero_add] at hk
  refine ⟨?_, ?_⟩
  · unfold partL
    rw [drop_cons hi]
    show 1 + span (0 + armsN (sgn l i)) _ = _
    rw [ha]
  · have := okT_nil hk
    rw [List.length_drop] at this
    omega
theorem part_2 {l : List Nat} (h : needs 1 l = true) {i : Nat} (hi : i < l.length) (ha : armsN (sgn l i) = 2) : partL l i = 1 + partL l (i + 1) + partL l (i + 1 + partL l (i + 1)) ∧ i + 1 + partL l (i + 1) < l.length := by
  have hk := okT_drop h hi
  rw [drop_cons hi] at hk
  have hk : okT (0 + armsN (sgn l i)) (l.drop (i + 1)) := hk
  rw [ha, Nat.zero_add] at hk
  obtain ⟨h1, h2⟩ := span_add (l.drop (i + 1)) 1 1 hk
  rw [List.drop_drop] at h1 h2
  refine ⟨?_, ?_⟩
  · unfold partL
    rw [drop_cons hi]
    show 1 + span (0 + armsN (sgn l i)) _ = _
    rw [ha, Nat.zero_add, show (2 : Nat) = 1 + 1 from rfl, h1]
    omega
  · have := okT_nil h2
    rw [List.length_drop] at this
    show i + 1 + span 1 (l.drop (i + 1)) < l.length
    omega
theorem part_pos {l : List Nat} {i : Nat} (hi : i < l.length) : 1 ≤ partL l i := by
  unfold partL
  rw [drop_cons hi]
  show 1 ≤ 1 + _
  omega
theorem part_le {l : List Nat} {i : Nat} (hi : i ≤ l.length) : i + partL l i ≤ l.length := by
  have := span_len (l.drop i) 1
  rw [List.length_drop] at this
  unfold partL
  omega
theorem part_all {l : List Nat} (h : needs 1 l = true) : partL l 0 = l.length := by
  have key : ∀ (l : List Nat) (k : Nat), needs k l = true → span k l = l.length := by
    intro l
    induction l with
    | nil => intro k h; cases k with
      | zero => rfl
      | succ k => exact absurd h (by simp [needs])
    | cons s l ih =>
      intro k h
      cases k with
      | zero => exact absurd h (by simp [needs])
      | succ k =>
        show 1 + span (k + armsN s) l = l.length + 1
        rw [ih _ h]
        omega
  unfold partL
  rw [List.drop_zero]
  exact key l 1 h
theorem arms_cases (s : Nat) : armsN s = 0 ∨ armsN s = 1 ∨ armsN s = 2 := by have := armsN_le s; omega
/-- parts lie in each other, or beside each other -/
theorem part_nest {l : List Nat} (h : needs 1 l = true) : ∀ (n a b : Nat), l.length - a = n → a ≤ b → b < a + partL l a → b < l.length → b + partL l b ≤ a + partL l a := by
  intro n
  induction n using Nat.strongRecOn with
  | ind n ih =>
    intro a b hn hab hb hbl
    by_cases e : a = b
    · subst e; exact Nat.le_refl _
    · have ha : a < l.length := by omega
      rcases arms_cases (sgn l a) with h0 | h0 | h0
      · rw [part_0 ha h0] at hb
        omega
      · obtain ⟨p1, p2⟩ := part_1 h ha h0
        rw [p1] at hb ⊢
        have := ih (l.length - (a + 1)) (by omega) (a + 1) b rfl (by omega) (by omega) hbl
        omega
      · obtain ⟨p1, p2⟩ := part_2 h ha h0
        rw [p1] at hb ⊢
        have q := part_pos (l := l) (i := a + 1) (by omega)
        by_cases hb2 : b < a + 1 + partL l (a + 1)
        · have := ih (l.length - (a + 1)) (by omega) (a + 1) b rfl (by omega) hb2 hbl
          omega
        · have := ih (l.length - (a + 1 + partL l (a + 1))) (by omega) (a + 1 + partL l (a + 1)) b rfl (by omega) (by omega) hbl
          omega
theorem arm_in {l : List Nat} (h : needs 1 l = true) {k j : Nat} (hk : k < l.length) (hj : isArm l k j) : k < j ∧ j < k + partL l k ∧ j < l.length := by
  rcases hj with ⟨h1, rfl⟩ | ⟨h1, rfl⟩
  · rcases arms_cases (sgn l k) with h0 | h0 | h0
    · omega
    · obtain ⟨p1, p2⟩ := part_1 h hk h0
      have := part_pos p2
      omega
    · obtain ⟨p1, p2⟩ := part_2 h hk h0
      have := part_pos (l := l) (i := k + 1) (by omega)
      omega
  · obtain ⟨p1, p2⟩ := part_2 h hk (by have := armsN_le (sgn l k); omega)
    have := part_pos (l := l) (i := k + 1) (by omega)
    have := part_pos p2
    omega
theorem arm_one {l : List Nat} (h : needs 1 l = true) {k k' j : Nat} (hk : k < l.length) (hk' : k' < l.length) (hj : isArm l k j) (hj' : isArm l k' j) : k = k' := by
  have key : ∀ k k', k < l.length → k' < l.length → isArm l k j → isArm l k' j → ¬ k < k' := by
    intro k k' hk hk' hj hj' hlt
    obtain ⟨a1, a2, a3⟩ := arm_in h hk' hj'
    rcases hj with ⟨h1, rfl⟩ | ⟨h1, rfl⟩
    · omega
    · obtain ⟨p1, p2⟩ := part_2 h hk (by have := armsN_le (sgn l k); omega)
      have := part_nest h _ (k + 1) k' rfl (by omega) (by omega) hk'
      omega
  have h1 := key k k' hk hk' hj hj'
  have h2 := key k' k hk' hk hj' hj
  omega
theorem arm_some {l : List Nat} (h : needs 1 l = true) {j : Nat} (h0 : 0 < j) (hj : j < l.length) : ∃ k, k < j ∧ isArm l k j := by
  have key : ∀ (n k : Nat), j - k = n → k < j → j < k + partL l k → ∃ k, k < j ∧ isArm l k j := by
    intro n
    induction n using Nat.strongRecOn with
    | ind n ih =>
      intro k hn hk hjk
      have hkl : k < l.length := by omega
      rcases arms_cases (sgn l k) with a0 | a0 | a0
      · rw [part_0 hkl a0] at hjk
        omega
      · obtain ⟨p1, p2⟩ := part_1 h hkl a0
        by_cases e : j = k + 1
        · exact ⟨k, hk, Or.inl ⟨by omega, e⟩⟩
        · exact ih (j - (k + 1)) (by omega) (k + 1) rfl (by omega) (by omega)
      · obtain ⟨p1, p2⟩ := part_2 h hkl a0
        by_cases e : j = k + 1
        · exact ⟨k, hk, Or.inl ⟨by omega, e⟩⟩
        · by_cases e2 : j = k + 1 + partL l (k + 1)
          · exact ⟨k, hk, Or.inr ⟨by omega, e2⟩⟩
          · by_cases e3 : j < k + 1 + partL l (k + 1)
            · exact ih (j - (k + 1)) (by omega) (k + 1) rfl (by omega) (by omega)
            · exact ih (j - (k + 1 + partL l (k + 1))) (by omega) (k + 1 + partL l (k + 1)) rfl (by omega) (by omega)
  exact key j 0 rfl h0 (by rw [part_all h]; omega)
/-! what is told of each node from its arms up -/
def upL {α : Type} (f : Nat → α → α → α) (d : α) : List Nat → List α
  | [] => []
  | s :: l => f s ((upL f d l).getD 0 d) ((upL f d l).getD (span 1 l) d) :: upL f d l
theorem upL_len {α : Type} (f : Nat → α → α → α) (d : α) : ∀ l, (upL f d l).length = l.length
  | [] => rfl
  | s :: l => by show (upL f d l).length + 1 = l.length + 1; rw [upL_len f d l]
theorem upL_drop {α : Type} (f : Nat → α → α → α) (d : α) : ∀ (l : List Nat) (i : Nat), (upL f d l).drop i = upL f d (l.drop i)
  | [], i => by simp [upL]
  | s :: l, 0 => rfl
  | s :: l, i + 1 => upL_drop f d l i
def upA {α : Type} (f : Nat → α → α → α) (d : α) (l : List Nat) (i : Nat) : α := (upL f d l).getD i d
theorem upA_drop {α : Type} (f : Nat → α → α → α) (d : α) (l : List Nat) (i j : Nat) : (upL f d (l.drop i)).getD j d = upA f d l (i + j) := by
  unfold upA
  rw [← upL_drop, List.getD_eq_getElem?_getD, List.getD_eq_getElem?_getD, List.getElem?_drop]
theorem upA_get {α : Type} (f : Nat → α → α → α) (d : α) {l : List Nat} {i : Nat} (hi : i < l.length) : upA f d l i = f (sgn l i) (upA f d l (i + 1)) (upA f d l (i + 1 + partL l (i + 1))) := by
  have h1 : upA f d l i = (upL f d (l.drop i)).getD 0 d := by rw [upA_drop, Nat.add_zero]
  rw [h1, drop_cons hi]
  show f (sgn l i) ((upL f d (l.drop (i + 1))).getD 0 d) ((upL f d (l.drop (i + 1))).getD (span 1 (l.drop (i + 1))) d) = _
  rw [upA_drop, upA_drop, Nat.add_zero]
  rfl
theorem upA_out {α : Type} (f : Nat → α → α → α) (d : α) {l : List Nat} {i : Nat} (hi : l.length ≤ i) : upA f d l i = d := by
  unfold upA
  rw [List.getD_eq_getElem?_getD, List.getElem?_eq_none (by rw [upL_len]; exact hi)]
  rfl
/-! the rules: which fit, what they make -/
def fitR (r : Ru) (x y : Nat) : Prop := (1 ≤ armsN r.1 → bN x r.2.1 = 1) ∧ (2 ≤ armsN r.1 → bN y r.2.2.1 = 1)
noncomputable def outK (rl : List Ru) (on s x y : Nat) : Nat → Nat
  | 0 => 0
  | k + 1 => by
    classical
    exact if bN on k = 1 ∧ (ruA rl k).1 = s ∧ fitR (ruA rl k) x y then outK rl on s x y k ||| 2 ^ (ruA rl k).2.2.2 else outK rl on s x y k
noncomputable def outc (rl : List Ru) (on s x y : Nat) : Nat := outK rl on s x y rl.length
theorem outK_yes {rl : List Ru} {on s x y k : Nat} (h : bN on k = 1 ∧ (ruA rl k).1 = s ∧ fitR (ruA rl k) x y) : outK rl on s x y (k + 1) = outK rl on s x y k ||| 2 ^ (ruA rl k).2.2.2 := by
  rw [outK, if_pos h]
theorem outK_no {rl : List Ru} {on s x y k : Nat} (h : ¬ (bN on k = 1 ∧ (ruA rl k).1 = s ∧ fitR (ruA rl k) x y)) : outK rl on s x y (k + 1) = outK rl on s x y k := by
  rw [outK, if_neg h]
theorem outK_lt {rl : List Ru} (h : ∀ r ∈ rl, OkRu r) (on s x y : Nat) : ∀ k, k ≤ rl.length → outK rl on s x y k < 64
  | 0, _ => by rw [outK]; omega
  | k + 1, hk => by
    have ih := outK_lt h on s x y k (by omega)
    by_cases q : bN on k = 1 ∧ (ruA rl k).1 = s ∧ fitR (ruA rl k) x y
    · rw [outK_yes q]
      refine Nat.or_lt_two_pow (n := 6) ih ?_
      have : OkRu (ruA rl k) := by
        unfold ruA
        rw [List.getD_eq_getElem?_getD, List.getElem?_eq_getElem (by omega)]
        exact h _ (List.getElem_mem (by omega))
      exact Nat.pow_lt_pow_right (by omega) this.2.2.2
    · rw [outK_no q]; exact ih
theorem outc_lt {rl : List Ru} (h : ∀ r ∈ rl, OkRu r) (on s x y : Nat) : outc rl on s x y < 64 := outK_lt h on s x y _ (Nat.le_refl _)
/-- arms that a sign does not have are not looked at -/
theorem outK_cg {rl : List Ru} {on s x y x' y' : Nat} (h1 : 1 ≤ armsN s → x = x') (h2 : 2 ≤ armsN s → y = y') : ∀ k, outK rl on s x y k = outK rl on s x' y' k
  | 0 => by rw [outK, outK]
  | k + 1 => by
    have ih := outK_cg (rl := rl) (on := on) h1 h2 k
    have e : (bN on k = 1 ∧ (ruA rl k).1 = s ∧ fitR (ruA rl k) x y) ↔ (bN on k = 1 ∧ (ruA rl k).1 = s ∧ fitR (ruA rl k) x' y') := by
      constructor
      · rintro ⟨a, b, c, d⟩
        rw [b] at c d
        exact ⟨a, b, fun q => by rw [b] at q; rw [← h1 q]; exact c q, fun q => by rw [b] at q; rw [← h2 q]; exact d q⟩
      · rintro ⟨a, b, c, d⟩
        rw [b] at c d
        exact ⟨a, b, fun q => by rw [b] at q; rw [h1 q]; exact c q, fun q => by rw [b] at q; rw [h2 q]; exact d q⟩
    by_cases q : bN on k = 1 ∧ (ruA rl k).1 = s ∧ fitR (ruA rl k) x y
    · rw [outK_yes q, outK_yes (e.mp q), ih]
    · rw [outK_no q, outK_no (fun w => q (e.mpr w)), ih]
theorem outc_cg {rl : List Ru} {on s x y x' y' : Nat} (h1 : 1 ≤ armsN s → x = x') (h2 : 2 ≤ armsN s → y = y') : outc rl on s x y = outc rl on s x' y' := outK_cg h1 h2 _
/-- the states to which node i comes -/
noncomputable def cmA (rl : List Ru) (on : Nat) (t : List Nat) (i : Nat) : Nat := upA (outc rl on) 0 t i
theorem cmA_lt {rl : List Ru} (h : ∀ r ∈ rl, OkRu r) (on : Nat) (t : List Nat) (i : Nat) : cmA rl on t i < 64 := by
  unfold cmA
  by_cases hi : i < t.length
  · rw [upA_get _ _ hi]; exact outc_lt h _ _ _ _
  · rw [upA_out _ _ (by omega)]; omega
