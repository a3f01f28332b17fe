/-! arms exchanged, signs read: rows of signs alone -/
theorem needs_app : ∀ (w : List Nat) (j k : Nat) (l : List Nat), needs j w = true → needs (j + k) (w ++ l) = needs k l
  | [], 0, k, l, _ => by rw [Nat.zero_add]; rfl
  | [], j + 1, k, l, h => absurd h (by simp [needs])
  | s :: w, 0, k, l, h => absurd h (by simp [needs])
  | s :: w, j + 1, k, l, h => by
    rw [show j + 1 + k = (j + k) + 1 by omega]
    show needs (j + k + armsN s) (w ++ l) = needs k l
    rw [show j + k + armsN s = (j + armsN s) + k by omega]
    exact needs_app w (j + armsN s) k l h
theorem needs_pre : ∀ (p : List Nat) (k : Nat), (∃ k', ∀ x, needs k (p ++ x) = needs k' x) ∨ (∀ x, needs k (p ++ x) = false)
  | [], k => Or.inl ⟨k, fun x => rfl⟩
  | s :: p, 0 => Or.inr (fun x => rfl)
  | s :: p, k + 1 => needs_pre p (k + armsN s)
theorem needs_take : ∀ (l : List Nat) (k : Nat), okT k l → needs k (l.take (span k l)) = true
  | l, 0, _ => by have e : span 0 l = 0 := (by cases l <;> rfl); rw [e]; rfl
  | [], k + 1, h => absurd h id
  | s :: l, k + 1, h => by
    show needs (k + 1) ((s :: l).take (1 + span (k + armsN s) l)) = true
    rw [show 1 + span (k + armsN s) l = span (k + armsN s) l + 1 by omega, List.take_succ_cons]
    exact needs_take l (k + armsN s) h
def exL (t : List Nat) (a b c : Nat) : List Nat := t.take a ++ ((t.drop b).take (c - b) ++ ((t.drop a).take (b - a) ++ t.drop c))
theorem exL_len {t : List Nat} {a b c : Nat} (h1 : a ≤ b) (h2 : b ≤ c) (h3 : c ≤ t.length) : (exL t a b c).length = t.length := by
  unfold exL
  simp only [List.length_append, List.length_take, List.length_drop]
  omega
theorem exL_id {t : List Nat} {a b c : Nat} (h1 : a ≤ b) (h2 : b ≤ c) : t = t.take a ++ ((t.drop a).take (b - a) ++ ((t.drop b).take (c - b) ++ t.drop c)) := by
  have e1 : (t.drop b).take (c - b) ++ t.drop c = t.drop b := by
    have := List.take_append_drop (c - b) (t.drop b)
    rw [List.drop_drop, show b + (c - b) = c by omega] at this
    exact this
  have e2 : (t.drop a).take (b - a) ++ t.drop b = t.drop a := by
    have := List.take_append_drop (b - a) (t.drop a)
    rw [List.drop_drop, show a + (b - a) = b by omega] at this
    exact this
  rw [e1, e2, List.take_append_drop]
theorem exL_mem {t : List Nat} {a b c : Nat} {x : Nat} (h : x ∈ exL t a b c) : x ∈ t := by
  unfold exL at h
  rcases List.mem_append.mp h with h | h
  · exact List.mem_of_mem_take h
  · rcases List.mem_append.mp h with h | h
    · exact List.mem_of_mem_drop (List.mem_of_mem_take h)
    · rcases List.mem_append.mp h with h | h
      · exact List.mem_of_mem_drop (List.mem_of_mem_take h)
      · exact List.mem_of_mem_drop h
theorem sgn_app {x y : List Nat} {j : Nat} : sgn (x ++ y) j = if j < x.length then sgn x j else sgn y (j - x.length) := by
  unfold sgn
  rw [List.getD_eq_getElem?_getD]
  by_cases h : j < x.length
  · rw [if_pos h, List.getElem?_append_left h, List.getD_eq_getElem?_getD]
  · rw [if_neg h, List.getElem?_append_right (by omega), List.getD_eq_getElem?_getD]
theorem sgn_take {x : List Nat} {n j : Nat} (h : j < n) : sgn (x.take n) j = sgn x j := by
  unfold sgn
  rw [List.getD_eq_getElem?_getD, List.getD_eq_getElem?_getD, List.getElem?_take_of_lt h]
theorem sgn_drop {x : List Nat} {n j : Nat} : sgn (x.drop n) j = sgn x (n + j) := by
  unfold sgn
  rw [List.getD_eq_getElem?_getD, List.getD_eq_getElem?_getD, List.getElem?_drop]
theorem sgn_exL {t : List Nat} {a b c : Nat} (h1 : a ≤ b) (h2 : b ≤ c) (h3 : c ≤ t.length) (j : Nat) : sgn (exL t a b c) j = if j < a then sgn t j else if j < a + (c - b) then sgn t (b + (j - a)) else if j < c then sgn t (a + (j - a - (c - b))) else sgn t j := by
  have l1 : (t.take a).length = a := by rw [List.length_take]; omega
  have l2 : ((t.drop b).take (c - b)).length = c - b := by rw [List.length_take, List.length_drop]; omega
  have l3 : ((t.drop a).take (b - a)).length = b - a := by rw [List.length_take, List.length_drop]; omega
  unfold exL
  rw [sgn_app, l1]
  by_cases c1 : j < a
  · rw [if_pos c1, if_pos c1, sgn_take c1]
  · rw [if_neg c1, if_neg c1, sgn_app, l2]
    by_cases c2 : j < a + (c - b)
    · rw [if_pos (by omega), if_pos c2, sgn_take (by omega), sgn_drop]
    · rw [if_neg (by omega), if_neg c2, sgn_app, l3]
      by_cases c3 : j < c
      · rw [if_pos (by omega), if_pos c3, sgn_take (by omega), sgn_drop]
      · rw [if_neg (by omega), if_neg c3, sgn_drop]
        congr 1
        omega
theorem exL_needs {t : List Nat} (h : needs 1 t = true) {i : Nat} (hi : i < t.length) (ha : armsN (sgn t i) = 2) : needs 1 (exL t (i + 1) (i + 1 + partL t (i + 1)) (i + partL t i)) = true := by
  obtain ⟨p1, p2⟩ := part_2 h hi ha
  have q1 := part_pos (l := t) (i := i + 1) (by omega)
  have q2 := part_pos p2
  have q3 := part_le (l := t) (i := i) (by omega)
  have e0 := exL_id (t := t) (a := i + 1) (b := i + 1 + partL t (i + 1)) (c := i + partL t i) (by omega) (by omega)
  unfold exL
  have w1 : needs 1 ((t.drop (i + 1)).take (i + 1 + partL t (i + 1) - (i + 1))) = true := by
    rw [show i + 1 + partL t (i + 1) - (i + 1) = span 1 (t.drop (i + 1)) by unfold partL; omega]
    exact needs_take _ _ (okT_drop h (by omega))
  have w2 : needs 1 ((t.drop (i + 1 + partL t (i + 1))).take (i + partL t i - (i + 1 + partL t (i + 1)))) = true := by
    rw [show i + partL t i - (i + 1 + partL t (i + 1)) = span 1 (t.drop (i + 1 + partL t (i + 1))) by rw [p1]; unfold partL; omega]
    exact needs_take _ _ (okT_drop h p2)
  generalize (t.drop (i + 1)).take (i + 1 + partL t (i + 1) - (i + 1)) = u1 at e0 w1 ⊢
  generalize (t.drop (i + 1 + partL t (i + 1))).take (i + partL t i - (i + 1 + partL t (i + 1))) = u2 at e0 w2 ⊢
  generalize t.drop (i + partL t i) = u3 at e0 ⊢
  have e1 : t.take (i + 1) = t.take i ++ [sgn t i] := by
    rw [List.take_add_one, List.getElem?_eq_getElem hi]
    unfold sgn
    rw [List.getD_eq_getElem?_getD, List.getElem?_eq_getElem hi]
    rfl
  rw [e1, List.append_assoc] at e0
  rw [e0] at h
  rw [e1, List.append_assoc]
  rcases needs_pre (t.take i) 1 with ⟨k', hk⟩ | hk
  · rw [hk] at h ⊢
    cases k' with
    | zero => exact absurd h (by simp [needs])
    | succ k =>
      have h : needs (k + armsN (sgn t i)) (u1 ++ (u2 ++ u3)) = true := h
      show needs (k + armsN (sgn t i)) (u2 ++ (u1 ++ u3)) = true
      rw [ha, show k + 2 = 1 + (k + 1) by omega] at h ⊢
      rw [needs_app _ _ _ _ w1, show k + 1 = 1 + k by omega, needs_app _ _ _ _ w2] at h
      rw [needs_app _ _ _ _ w2, show k + 1 = 1 + k by omega, needs_app _ _ _ _ w1]
      exact h
  · rw [hk] at h; exact absurd h (by simp)
theorem exL_WfT {t : List Nat} (h : WfT t) {i : Nat} (hi : i < t.length) (ha : armsN (sgn t i) = 2) : WfT (exL t (i + 1) (i + 1 + partL t (i + 1)) (i + partL t i)) := by
  obtain ⟨h1, h2, h3⟩ := h
  have nd : needs 1 t = true := by
    rcases h3 with q | q
    · rw [q] at hi; exact absurd hi (Nat.not_lt_zero i)
    · exact q
  obtain ⟨p1, p2⟩ := part_2 nd hi ha
  have q3 := part_le (l := t) (i := i) (by omega)
  refine ⟨fun x hx => h1 x (exL_mem hx), ?_, Or.inr (exL_needs nd hi ha)⟩
  rw [exL_len (by omega) (by omega) (by omega)]; exact h2
/-! a tree's text -/
def rdS (x : List Nat × Nat) (c : Nat) : List Nat × Nat := if c = 32 then x else (x.1 ++ [c - 97], x.2 + armsN (c - 97) - 1)
def rdT (tx : List Nat) : Nat → List Nat × Nat
  | 0 => ([], 1)
  | k + 1 => rdS (rdT tx k) (tx.getD k 0)
def okC (x : List Nat × Nat) (c : Nat) : Prop := c = 32 ∨ (97 ≤ c ∧ c ≤ 104 ∧ x.2 ≠ 0 ∧ x.1.length < 31)
def okTo (tx : List Nat) (k : Nat) : Prop := ∀ j, j < k → okC (rdT tx j) (tx.getD j 0)
def faT (tx : List Nat) (k : Nat) : Prop := k < tx.length ∧ okTo tx k ∧ ¬ okC (rdT tx k) (tx.getD k 0)
theorem faT_one {tx : List Nat} {k k' : Nat} (h : faT tx k) (h' : faT tx k') : k = k' := by
  have q1 : ¬ k < k' := fun w => h.2.2 (h'.2.1 k w)
  have q2 : ¬ k' < k := fun w => h'.2.2 (h.2.1 k' w)
  omega
theorem rdT_ok {tx : List Nat} : ∀ k, okTo tx k → (∀ x ∈ (rdT tx k).1, x < 8) ∧ (rdT tx k).1.length ≤ 31 ∧ (∀ x, needs 1 ((rdT tx k).1 ++ x) = needs (rdT tx k).2 x) ∧ (rdT tx k).2 ≤ k + 1
  | 0, _ => ⟨fun x hx => absurd hx List.not_mem_nil, Nat.zero_le _, fun x => rfl, Nat.le_refl _⟩
  | k + 1, h => by
    obtain ⟨h1, h2, h3, h4⟩ := rdT_ok k (fun j hj => h j (by omega))
    have hc := h k (by omega)
    show (∀ x ∈ (rdS (rdT tx k) (tx.getD k 0)).1, x < 8) ∧ (rdS (rdT tx k) (tx.getD k 0)).1.length ≤ 31 ∧ (∀ x, needs 1 ((rdS (rdT tx k) (tx.getD k 0)).1 ++ x) = needs (rdS (rdT tx k) (tx.getD k 0)).2 x) ∧ (rdS (rdT tx k) (tx.getD k 0)).2 ≤ k + 1 + 1
    unfold rdS
    by_cases c : tx.getD k 0 = 32
    · rw [if_pos c]; exact ⟨h1, h2, h3, by omega⟩
    · rw [if_neg c]
      rcases hc with hc | ⟨c1, c2, c3, c4⟩
      · exact absurd hc c
      · refine ⟨fun x hx => ?_, by simp; omega, fun x => ?_, ?_⟩
        · rcases List.mem_append.mp hx with q | q
          · exact h1 x q
          · have := List.mem_singleton.mp q
            omega
        · show needs 1 ((rdT tx k).1 ++ [tx.getD k 0 - 97] ++ x) = needs ((rdT tx k).2 + armsN (tx.getD k 0 - 97) - 1) x
          rw [List.append_assoc, h3]
          obtain ⟨n, hn⟩ : ∃ n, (rdT tx k).2 = n + 1 := ⟨(rdT tx k).2 - 1, by omega⟩
          rw [hn, show n + 1 + armsN (tx.getD k 0 - 97) - 1 = n + armsN (tx.getD k 0 - 97) by omega]
          rfl
        · have := armsN_le (tx.getD k 0 - 97)
          show (rdT tx k).2 + armsN (tx.getD k 0 - 97) - 1 ≤ k + 1 + 1
          omega
theorem rdT_WfT {tx : List Nat} {k : Nat} (h : okTo tx k) (h0 : (rdT tx k).2 = 0) : WfT (rdT tx k).1 ∧ needs 1 (rdT tx k).1 = true := by
  obtain ⟨h1, h2, h3, h4⟩ := rdT_ok k h
  have := h3 []
  rw [List.append_nil, h0] at this
  exact ⟨⟨h1, h2, Or.inr this⟩, this⟩
